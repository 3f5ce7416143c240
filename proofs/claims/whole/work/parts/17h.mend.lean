/-! the fewest to paint anew -/
def τ1 : Nat → Int32 := fun _ => -1
def dfc (τ q : Nat → Int32) : Nat → Nat → Nat
  | 0, _ => 0
  | k + 1, n => (if τ n = -1 ∨ τ n = q n then 0 else 1) + dfc τ q k (n + 1)
theorem dfc_le (τ q : Nat → Int32) : ∀ (k n : Nat), dfc τ q k n ≤ k := by
  intro k
  induction k with
  | zero => intro n; exact Nat.le_refl _
  | succ k ih =>
    intro n
    have := ih (n + 1)
    rw [dfc]
    split <;> omega
def mn (X : Nat) (L : List (Nat → Int32)) (f : (Nat → Int32) → Nat) : Nat := L.foldl (fun x q => min x (f q)) X
theorem mn_le (f : (Nat → Int32) → Nat) : ∀ (L : List (Nat → Int32)) (X : Nat), mn X L f ≤ X := by
  intro L
  induction L with
  | nil => intro X; exact Nat.le_refl _
  | cons q L ih =>
    intro X
    have := ih (min X (f q))
    show mn (min X (f q)) L f ≤ X
    omega
theorem mn_keep {f : (Nat → Int32) → Nat} : ∀ (L : List (Nat → Int32)) (X : Nat), (∀ q, X ≤ f q) → mn X L f = X := by
  intro L
  induction L with
  | nil => intro X _; rfl
  | cons q L ih =>
    intro X h
    show mn (min X (f q)) L f = X
    rw [Nat.min_eq_left (h q)]
    exact ih X h
theorem mn_app (X : Nat) (A B : List (Nat → Int32)) (f : (Nat → Int32) → Nat) : mn X (A ++ B) f = mn (mn X A f) B f := List.foldl_append
theorem mn_cg {f g : (Nat → Int32) → Nat} : ∀ (L : List (Nat → Int32)) (X : Nat), (∀ q, q ∈ L → f q = g q) → mn X L f = mn X L g := by
  intro L
  induction L with
  | nil => intro X _; rfl
  | cons q L ih =>
    intro X h
    show mn (min X (f q)) L f = mn (min X (g q)) L g
    rw [h q (List.mem_cons_self), ih _ (fun r hr => h r (List.mem_cons_of_mem _ hr))]
theorem mn_ne {f : (Nat → Int32) → Nat} (hf : ∀ q, f q ≤ 10) {L : List (Nat → Int32)} {X : Nat} (hL : L ≠ []) (hX : 10 ≤ X) : mn X L f = mn 10 L f ∧ mn 10 L f ≤ 10 := by
  cases L with
  | nil => exact absurd rfl hL
  | cons q L =>
    refine ⟨?_, mn_le f _ _⟩
    show mn (min X (f q)) L f = mn (min 10 (f q)) L f
    have := hf q
    rw [Nat.min_eq_right (by omega), Nat.min_eq_right (by omega)]
/-- what mend answers -/
def mdv (κ τ : Nat → Int32) (N C : Nat) : Int32 := if wl κ τ1 C N 1 τ1 = [] then -1 else nI (mn 10 (wl κ τ1 C N 1 τ1) (fun q => dfc τ q N 1))
section MEND
variable {κ τ : Nat → Int32} {N C : Nat}
def Gm (u w : SS) : Prop := (∀ i : Nat, i ≠ 9 → w.1 i = u.1 i) ∧ ∀ j : Nat, j ≠ 6 → w.2.2 j = u.2.2 j
theorem Gm.rf (u : SS) : Gm u u := ⟨fun _ _ => rfl, fun _ _ => rfl⟩
theorem Gm.tr {a b c : SS} (h : Gm a b) (g : Gm b c) : Gm a c := ⟨fun i hi => (g.1 i hi).trans (h.1 i hi), fun j hj => (g.2 j hj).trans (h.2 j hj)⟩
theorem xB.gm {u w : SS} (h : xB κ τ N C u) (g : Gm u w) : xB κ τ N C w := h.eq2 (g.1 3 (by decide)) (g.1 4 (by decide)) (g.2 1 (by decide)) (g.2 2 (by decide))
theorem c1_anLoop (hv : kv5 κ N) (h10 : N ≤ 10) (hC3 : C ≤ 3) {n k a : Nat} {p : Nat → Int32} (h1 : 1 ≤ n) (hn : n ≤ N) (ha : a < n) (F : Nat → List (Nat → Int32)) (rec : Int32 → Int32 → SS → (SS → Prop) → Prop)
    (hF0 : ∀ c, ¬ bsum κ (upd p n (nI c)) n = 0 → F c = []) (hF1 : ∀ c, bsum κ (upd p n (nI c)) n = 0 → F c = wl κ τ1 C k (n + 1) (upd p n (nI c)))
    (ih : ∀ (q : Nat → Int32) (u : SS) (a X : Nat), xB κ τ N C u → ag (u.2.2 6) q n → u.1 9 = nI X → X ≤ 11 → a < n + 1 → ∀ post : SS → Prop, (∀ w, Gm u w → ag (w.2.2 6) q n → w.1 9 = nI (mn X (wl κ τ1 C k (n + 1) q) (fun r => a + dfc τ r k (n + 1))) → post w) → rec (nI (n + 1)) (nI a) u post)
    {post : SS → Prop} {K : Int32 → SS → Prop} : ∀ (j c X : Nat) (u : SS), c + j = C → xB κ τ N C u → ag (u.2.2 6) p (n - 1) → u.1 9 = nI X → X ≤ 11 → (∀ w, Gm u w → ag (w.2.2 6) p (n - 1) → w.1 9 = nI (mn X ((List.range' c j).flatMap F) (fun r => a + dfc τ r (k + 1) n)) → K (nI C) w) → wX1_paintAnewFrom_28 post rec (nI n) (nI a) K (j + 1) (nI c) u := by
  intro j
  induction j with
  | zero =>
    intro c X u hc hB hp hX hX2 h
    have : c = C := by omega
    subst this
    refine br_t ?_ (h u (Gm.rf u) hp hX)
    rw [hB.2.1]
    exact nI_le (Nat.le_refl _) (by omega)
  | succ j ihj =>
    intro c X u hc hB hp hX hX2 h
    rw [wX1_paintAnewFrom_28]
    rw [List.range'_succ, List.flatMap_cons] at h
    refine br_f ?_ ?_
    · rw [hB.2.1]
      intro z
      have := (nI_leI (by omega) (by omega)).mp z
      omega
    refine c1_tryColour hB hv h1 hn h10 hp ?_
    have g2 : Gm u (sA u 6 n (nI c)) := ⟨fun _ _ => rfl, fun j h6 => sR_ne _ _ h6⟩
    have hp2 : ag ((sA u 6 n (nI c)).2.2 6) (upd p n (nI c)) n := by
      rw [show (sA u 6 n (nI c)).2.2 6 = upd (u.2.2 6) n (nI c) from sR_at _ _ _]
      intro k a b
      by_cases e : k = n
      · subst e; rw [pk_us, pk_us]
      · rw [pk_un e, pk_un e]; exact hp k a (by omega)
    have low : ∀ f : Nat → Int32, ag f (upd p n (nI c)) n → ag f p (n - 1) := fun f hf i a b => by rw [hf i a (by omega), pk_un (by omega)]
    by_cases hb : bsum κ (upd p n (nI c)) n = 0
    · rw [if_pos hb]
      refine br_f (by decide) ?_
      have eF := hF1 c hb
      rw [eF] at h
      have hq : ∀ (e : Nat), (if τ n = -1 ∨ τ n = nI c then 0 else 1) = e → ∀ r, r ∈ wl κ τ1 C k (n + 1) (upd p n (nI c)) → a + dfc τ r (k + 1) n = a + e + dfc τ r k (n + 1) := fun e he r hr => by
        have : r n = nI c := by rw [(wl_val k (n + 1) _ r hr).1 n (by omega), pk_us]
        rw [dfc, this, he]
        omega
      have go : ∀ (e : Nat) (w : SS), e ≤ 1 → (if τ n = -1 ∨ τ n = nI c then 0 else 1) = e → Gm (sA u 6 n (nI c)) w → ag (w.2.2 6) (upd p n (nI c)) n → w.1 9 = nI (mn X (wl κ τ1 C k (n + 1) (upd p n (nI c))) (fun r => a + e + dfc τ r k (n + 1))) → wX1_paintAnewFrom_28 post rec (nI n) (nI a) K (j + 1) (nI c + 1) w := fun e w he1 he gw hw hw9 => by
        rw [nI_1]
        have hm := mn_cg (wl κ τ1 C k (n + 1) (upd p n (nI c))) X (hq e he)
        rw [← hm] at hw9
        refine ihj (c + 1) _ w (by omega) (hB.gm (g2.tr gw)) (low _ hw) hw9 ?_ (fun z gz hz hz9 => ?_)
        · exact Nat.le_trans (mn_le _ _ _) hX2
        · refine h z ((g2.tr gw).tr gz) hz ?_
          rw [mn_app]
          exact hz9
      refine c1_mayHave (hB.gm g2) h1 hn h10 ?_
      rw [nI_1 n, nI_1 a]
      by_cases hm : τ n = -1 ∨ τ n = nI c
      · rw [if_pos hm]
        refine br_f (by decide) ?_
        exact ih _ _ a X (hB.gm g2) hp2 hX hX2 (by omega) _ (fun w gw hw hw9 => go 0 w (by omega) (if_pos hm) gw hw hw9)
      · rw [if_neg hm]
        refine br_t rfl ?_
        exact ih _ _ (a + 1) X (hB.gm g2) hp2 hX hX2 (by omega) _ (fun w gw hw hw9 => go 1 w (by omega) (if_neg hm) gw hw hw9)
    · rw [if_neg hb]
      refine br_t rfl ?_
      rw [hF0 c hb, List.nil_append] at h
      rw [nI_1]
      exact ihj (c + 1) X _ (by omega) (hB.gm g2) (low _ hp2) hX hX2 (fun w gw => h w (g2.tr gw))
theorem c1_anew (hv : kv5 κ N) (h10 : N ≤ 10) (hC3 : C ≤ 3) : ∀ (k n : Nat) (p : Nat → Int32) (u : SS) (a X : Nat), n + k = N + 1 → 1 ≤ n → xB κ τ N C u → ag (u.2.2 6) p (n - 1) → u.1 9 = nI X → X ≤ 11 → a < n → ∀ post : SS → Prop, (∀ w, Gm u w → ag (w.2.2 6) p (n - 1) → w.1 9 = nI (mn X (wl κ τ1 C k n p) (fun r => a + dfc τ r k n)) → post w) → wX1_paintAnewFrom (k + 1) (nI n) (nI a) u post := by
  intro k
  induction k with
  | zero =>
    intro n p u a X hn h1 hB hp hX hX2 ha post h
    rw [wX1_paintAnewFrom, hX, hB.1]
    by_cases hl : a < X
    · refine br_t ((nI_ltI (by omega) (by omega)).mpr hl) (br_f (fun z => absurd ((nI_leI (by omega) (by omega)).mp z) (by omega)) ?_)
      refine h _ ⟨fun i hi => sI_ne _ _ hi, fun _ _ => rfl⟩ hp ?_
      rw [sI_at]
      congr 1
      show a = min X (a + 0)
      omega
    · refine br_f (fun z => hl ((nI_ltI (by omega) (by omega)).mp z)) (h u (Gm.rf u) hp ?_)
      rw [hX]
      congr 1
      show X = min X (a + 0)
      omega
  | succ k ih =>
    intro n p u a X hn h1 hB hp hX hX2 ha post h
    rw [wX1_paintAnewFrom, hX, hB.1]
    by_cases hl : a < X
    · refine br_t ((nI_ltI (by omega) (by omega)).mpr hl) (br_t (nI_le (by omega) (by omega)) ⟨C + 1, ?_⟩)
      rw [wl, List.range_eq_range'] at h
      refine c1_anLoop (k := k) hv h10 hC3 h1 (by omega) ha _ (wX1_paintAnewFrom (k + 1)) (fun c hc => if_neg (fun z => hc z.2)) (fun c hc => if_pos ⟨Or.inl rfl, hc⟩) (fun q w b Y hw hq hY hY2 hb pst hpst => ih (n + 1) q w b Y (by omega) (by omega) hw hq hY hY2 hb pst hpst) C 0 X u (by omega) hB hp hX hX2 h
    · refine br_f (fun z => hl ((nI_ltI (by omega) (by omega)).mp z)) (h u (Gm.rf u) hp ?_)
      rw [hX, mn_keep]
      intro q
      omega
theorem c1_mend {u : SS} (hB : xB κ τ N C u) (hv : kv5 κ N) (h10 : N ≤ 10) (hC3 : C ≤ 3) {post : Int32 → SS → Prop} (h : ∀ w, Gm u w → post (mdv κ τ N C) w) : wX1_fewestAnew u post := by
  refine ⟨N + 1, by omega, ?_⟩
  have g : Gm u (sI u 9 11) := ⟨fun i hi => sI_ne _ _ hi, fun _ _ => rfl⟩
  refine c1_anew hv h10 hC3 N 1 τ1 (sI u 9 11) 0 11 (by omega) (by omega) (hB.gm g) (fun i a b => by omega) (sI_at _ _ _) (by omega) (by omega) _ (fun w gw _ hw => ?_)
  have hf : ∀ q, 0 + dfc τ q N 1 ≤ 10 := fun q => by have := dfc_le τ q N 1; omega
  have hd := h w (g.tr gw)
  rw [hw]
  unfold mdv at hd
  by_cases hL : wl κ τ1 C N 1 τ1 = []
  · rw [if_pos hL] at hd
    rw [hL]
    exact br_f (by show ¬ nI 11 ≤ 10; decide) hd
  · rw [if_neg hL] at hd
    have hm := mn_ne hf hL (X := 11) (by omega)
    rw [hm.1]
    refine br_t ?_ ?_
    · exact (nI_leI (a := _) (b := 10) (by omega) (by omega)).mpr hm.2
    · rw [mn_cg (g := fun q => dfc τ q N 1) _ _ (fun q _ => by omega)]
      exact hd
/-! the reference's -/
theorem p5_other {w : SS} {q : Nat → Int32} (hN : w.1 1 = nI N) (hτ : ag (w.2.2 9) τ N) (hq : ag (w.2.2 6) q N) (h10 : N ≤ 10) {post : Int32 → SS → Prop} {x1 x2 : Int32} {K : Int32 → Int32 → SS → Prop} : ∀ (i s m : Nat), 1 ≤ s → s + i = N + 1 → K (nI (m + dfc τ q i s)) (nI (N + 1)) w → wX5_mendNow_61 post x1 x2 K (i + 1) (nI m) (nI s) w := by
  intro i
  induction i with
  | zero =>
    intro s m h1 h2 h
    have : s = N + 1 := by omega
    subst this
    refine br_t ?_ h
    rw [hN]
    exact (nI_ltI (by omega) (by omega)).mpr (by omega)
  | succ i ih =>
    intro s m h1 h2 h
    have hin : vp_in (nI s) 11 := vp_in_nI (by omega) (by omega)
    rw [dfc] at h
    rw [wX5_mendNow_61, hN, nI_clamp (by omega), hτ s h1 (by omega), hq s h1 (by omega), show nI m + (0 : Int32) = nI (m + 0) from nI_add m 0, nI_1 m, nI_1 s]
    refine br_f (fun z => absurd ((nI_ltI (by omega) (by omega)).mp z) (by omega)) ⟨hin, ?_⟩
    refine ⟨fun e => ?_, fun e => ⟨hin, hin, fun e2 => ?_, fun e2 => ?_⟩⟩
    · rw [if_pos (Or.inl e)] at h
      exact ih (s + 1) (m + 0) (by omega) (by omega) (by rw [Nat.add_assoc]; exact h)
    · rw [if_pos (Or.inr e2)] at h
      exact ih (s + 1) (m + 0) (by omega) (by omega) (by rw [Nat.add_assoc]; exact h)
    · rw [if_neg (fun z => z.elim e e2)] at h
      exact ih (s + 1) (m + 1) (by omega) (by omega) (by rw [Nat.add_assoc]; exact h)
/-- like v but for rows 1, 6, 9; row 1 wiped, and kept in row 9, below s -/
def Wp (v w : SS) (s : Nat) : Prop := w.1 = v.1 ∧ w.2.1 = v.2.1 ∧ (∀ j : Nat, j ≠ 1 → j ≠ 6 → j ≠ 9 → w.2.2 j = v.2.2 j) ∧ (∀ k, w.2.2 1 k = if 1 ≤ k ∧ k < s then -1 else v.2.2 1 k) ∧ ∀ k, 1 ≤ k → k < s → w.2.2 9 k = v.2.2 1 k
theorem p5_wipeAll {v : SS} (hN : v.1 1 = nI N) (h10 : N ≤ 10) {post : Int32 → SS → Prop} {x1 : Int32} {K : Int32 → SS → Prop} (h : ∀ w, Wp v w (N + 1) → K (nI (N + 1)) w) : ∀ (i s : Nat) (z : SS), 1 ≤ s → s + i = N + 1 → Wp v z s → wX5_mendNow_5 post x1 K (i + 1) (nI s) z := by
  intro i
  induction i with
  | zero =>
    intro s z h1 h2 hz
    have : s = N + 1 := by omega
    subst this
    refine br_t ?_ (h z hz)
    rw [hz.1, hN]
    exact (nI_ltI (by omega) (by omega)).mpr (by omega)
  | succ i ih =>
    intro s z h1 h2 hz
    have hin : vp_in (nI s) 11 := vp_in_nI (by omega) (by omega)
    rw [wX5_mendNow_5, hz.1, hN, nI_clamp (by omega), nI_1]
    refine br_f (fun z => absurd ((nI_ltI (by omega) (by omega)).mp z) (by omega)) ⟨hin, hin, hin, ?_⟩
    obtain ⟨z1, z2, z3, z4, z5⟩ := hz
    have er1 : (sA (sA z 9 s (z.2.2 1 s)) 1 s (-1)).2.2 1 = upd (z.2.2 1) s (-1) := by
      rw [show (sA (sA z 9 s (z.2.2 1 s)) 1 s (-1)).2.2 1 = upd ((sA z 9 s (z.2.2 1 s)).2.2 1) s (-1) from sR_at _ _ _, show (sA z 9 s (z.2.2 1 s)).2.2 1 = z.2.2 1 from sR_ne _ _ (by decide)]
    have er9 : (sA (sA z 9 s (z.2.2 1 s)) 1 s (-1)).2.2 9 = upd (z.2.2 9) s (z.2.2 1 s) := by
      rw [show (sA (sA z 9 s (z.2.2 1 s)) 1 s (-1)).2.2 9 = (sA z 9 s (z.2.2 1 s)).2.2 9 from sR_ne _ _ (by decide)]
      exact sR_at _ _ _
    refine ih (s + 1) _ (by omega) (by omega) ⟨z1, z2, fun j a b c => ?_, fun k => ?_, fun k a b => ?_⟩
    · rw [show (sA (sA z 9 s (z.2.2 1 s)) 1 s (-1)).2.2 j = (sA z 9 s (z.2.2 1 s)).2.2 j from sR_ne _ _ a, show (sA z 9 s (z.2.2 1 s)).2.2 j = z.2.2 j from sR_ne _ _ c]
      exact z3 j a b c
    · rw [er1]
      by_cases e : k = s
      · subst e; rw [pk_us, if_pos ⟨h1, by omega⟩]
      · rw [pk_un e, z4 k]
        by_cases q : 1 ≤ k ∧ k < s
        · rw [if_pos q, if_pos ⟨q.1, by omega⟩]
        · rw [if_neg q, if_neg (by omega)]
    · rw [er9]
      by_cases e : k = s
      · subst e
        rw [pk_us, z4 k, if_neg (by omega)]
      · rw [pk_un e]
        exact z5 k a (by omega)
/-- row 1 is back below s -/
def Bk (v w : SS) (N s : Nat) : Prop := w.1 = v.1 ∧ w.2.1 = v.2.1 ∧ (∀ j : Nat, j ≠ 1 → j ≠ 6 → j ≠ 9 → w.2.2 j = v.2.2 j) ∧ (∀ k, w.2.2 1 k = if s ≤ k ∧ k ≤ N then -1 else v.2.2 1 k) ∧ ∀ k, 1 ≤ k → k ≤ N → w.2.2 9 k = v.2.2 1 k
theorem p5_backAll {v : SS} (hN : v.1 1 = nI N) (h10 : N ≤ 10) {post : Int32 → SS → Prop} {x1 x2 : Int32} {K : Int32 → SS → Prop} (h : ∀ w, Bk v w N (N + 1) → K (nI (N + 1)) w) : ∀ (i s : Nat) (z : SS), 1 ≤ s → s + i = N + 1 → Bk v z N s → wX5_mendNow_145 post x1 x2 K (i + 1) (nI s) z := by
  intro i
  induction i with
  | zero =>
    intro s z h1 h2 hz
    have : s = N + 1 := by omega
    subst this
    refine br_t ?_ (h z hz)
    rw [hz.1, hN]
    exact (nI_ltI (by omega) (by omega)).mpr (by omega)
  | succ i ih =>
    intro s z h1 h2 hz
    have hin : vp_in (nI s) 11 := vp_in_nI (by omega) (by omega)
    rw [wX5_mendNow_145, hz.1, hN, nI_clamp (by omega), nI_1]
    refine br_f (fun z => absurd ((nI_ltI (by omega) (by omega)).mp z) (by omega)) ⟨hin, hin, ?_⟩
    obtain ⟨z1, z2, z3, z4, z5⟩ := hz
    have er1 : (sA z 1 s (z.2.2 9 s)).2.2 1 = upd (z.2.2 1) s (z.2.2 9 s) := sR_at _ _ _
    refine ih (s + 1) _ (by omega) (by omega) ⟨z1, z2, fun j a b c => ?_, fun k => ?_, fun k a b => ?_⟩
    · rw [show (sA z 1 s (z.2.2 9 s)).2.2 j = z.2.2 j from sR_ne _ _ a]
      exact z3 j a b c
    · rw [er1]
      by_cases e : k = s
      · subst e; rw [pk_us, if_neg (by omega), z5 k h1 (by omega)]
      · rw [pk_un e, z4 k]
        by_cases q : s ≤ k ∧ k ≤ N
        · rw [if_pos q, if_pos ⟨by omega, q.2⟩]
        · rw [if_neg q, if_neg (by omega)]
    · rw [show (sA z 1 s (z.2.2 9 s)).2.2 9 = z.2.2 9 from sR_ne _ _ (by decide)]
      exact z5 k a b
theorem p5_mend {v : SS} (hN : v.1 1 = nI N) (hC : v.1 2 = nI C) (hk : ag (v.2.2 0) κ N) (hτ : ag (v.2.2 1) τ N) (h10 : N ≤ 10) (hC1 : 1 ≤ C) (hC3 : C ≤ 3) {post : Int32 → SS → Prop} (h : ∀ w, MEq v w → w.2.1 = v.2.1 → post (mdv κ τ N C) w) : wX5_mendNow v post := by
  refine ⟨N + 1, p5_wipeAll hN h10 (fun w hw => ?_) N 1 v (by omega) (by omega) ⟨rfl, rfl, fun _ _ _ _ => rfl, fun k => by rw [if_neg (by omega)], fun k a b => by omega⟩⟩
  obtain ⟨w1, w2, w3, w4, w5⟩ := hw
  have hNw : w.1 1 = nI N := by rw [w1]; exact hN
  have hCw : w.1 2 = nI C := by rw [w1]; exact hC
  have hkw : ag (w.2.2 0) κ N := by rw [w3 0 (by decide) (by decide) (by decide)]; exact hk
  have hτw : ag (w.2.2 1) τ1 N := fun k a b => by rw [w4 k, if_pos ⟨a, by omega⟩]; rfl
  have hsw : ag (w.2.2 9) τ N := fun k a b => by rw [w5 k a (by omega)]; exact hτ k a b
  obtain ⟨g, hg, hl⟩ := p5_layNow (v := w) (N := N) hNw h10
  have hgτ : ag g τ1 10 := fun k a b => by
    rw [hg k a b]
    unfold tz
    by_cases hkN : k ≤ N
    · rw [if_pos hkN]
      exact hτw k a hkN
    · rw [if_neg hkN]; rfl
  refine hl _ ?_
  have hfin : ∀ (m : Nat) (F : Nat → Int32), m = mn 268435456 (wl κ τ1 C N 1 τ1) (fun q => dfc τ q N 1) → ∃ n : Nat, wX5_mendNow_145 post (nI m) (nI 0) (fun x3_25 u26 => ((¬ (nI m) = (268435456 : Int32) → post (nI m) u26) ∧ ((nI m) = (268435456 : Int32) → post (-1 : Int32) u26))) n (1 : Int32) (sR w 6 F) := fun m F hm => by
    refine ⟨N + 1, p5_backAll hN h10 (fun z hz => ?_) N 1 (sR w 6 F) (by omega) (by omega) ⟨w1, w2, fun j a b c => by rw [sR_ne _ _ b]; exact w3 j a b c, fun k => ?_, fun k a b => by rw [sR_ne _ _ (by decide)]; exact w5 k a (by omega)⟩⟩
    · have hpz := h z ⟨fun i _ => by rw [hz.1], fun j hj => ?_⟩ hz.2.1
      · unfold mdv at hpz
        by_cases hL : wl κ τ1 C N 1 τ1 = []
        · rw [if_pos hL] at hpz
          rw [hL] at hm
          have : m = 268435456 := hm
          rw [this]
          exact bn_t (by decide) hpz
        · rw [if_neg hL] at hpz
          have hmm := mn_ne (f := fun q => dfc τ q N 1) (fun q => by have := dfc_le τ q N 1; omega) hL (X := 268435456) (by omega)
          rw [hmm.1] at hm
          rw [hm]
          refine bn_f (fun z => ?_) hpz
          have := (nI_eq (b := 268435456) (by omega) (by omega)).mp z
          omega
      · by_cases e : j = 1
        · subst e
          funext k
          rw [hz.2.2.2.1 k, if_neg (by omega)]
        · exact hz.2.2.1 j e (by omega) (by omega)
    · rw [sR_ne _ _ (by decide), w4 k]
      by_cases q : 1 ≤ k ∧ k < N + 1
      · rw [if_pos q, if_pos ⟨q.1, by omega⟩]
      · rw [if_neg q, if_neg (by omega)]
  have hD := dfs (κ := κ) (τ := τ1) (C := C) (N := N) (α := Nat) hC1 hC3 (fun _ _ _ => Or.inl rfl)
    (fun f n p a => a ≤ 268435456 → ∀ (pst : Int32 → SS → Prop) (x1 : Int32) (K : Int32 → SS → Prop), (∀ x u, wX5_mendNow_52 post (fun x1_21 x2_22 u23 => (∃ n : Nat, wX5_mendNow_145 post x1_21 x2_22 (fun x3_25 u26 => ((¬ x1_21 = (268435456 : Int32) → post x1_21 u26) ∧ (x1_21 = (268435456 : Int32) → post (-1 : Int32) u26))) n (1 : Int32) u23)) f (nI a) x u → K x u) → gZ pst x1 N K w n p) (fun a q => min a (dfc τ q N 1))
    (fun f n p a h1 hn hp ha hb hi pst x1 K hK => gZ_1 (κ := κ) (τ := τ1) (N := N) hCw hkw hτw h10 (Nat.le_refl N) h1 hn hp (fun q => ha q hi pst x1 K hK) (fun q => hb q hi pst x1 K hK))
    (fun f n p a h1 hn hp ha hb hi pst x1 K hK => gZ_3 (κ := κ) (τ := τ1) (N := N) hCw hkw hτw h10 (Nat.le_refl N) h1 hn hp (fun q => ha q hi pst x1 K hK) (fun q => hb q hi pst x1 K hK))
    N 1 τ1 268435456 1 (by omega) (by omega) (fun _ _ _ => rfl)
    (fun q hq f a hE hi pst x1 K hK => gZ_out h10 (Or.inr rfl) (fun F hF => hK _ _ (by
      rw [wX5_mendNow_52]
      refine br_f (nI_nle (by omega) (by omega)) ⟨N + 1, ?_⟩
      refine p5_other (τ := τ) (q := q) (w := sR w 6 F) hNw (by rw [sR_ne _ _ (by decide)]; exact hsw) (by rw [sR_at]; exact hF.le h10) h10 N 1 0 (by omega) (by omega) ?_
      rw [Nat.zero_add]
      have hdl := dfc_le τ q N 1
      obtain ⟨F2, hF2, hw⟩ := p5_turnBack (v := w) (τ := τ1) (N := N) (C := C) hCw hτw h10 (m := N) (Nat.le_refl N) hF
      rw [show (sR w 6 F).1 1 = nI N from hNw]
      by_cases hle : a ≤ dfc τ q N 1
      · rw [Nat.min_eq_left hle] at hE
        refine br_t ((nI_leI (by omega) (by omega)).mpr hle) (hw _ ?_)
        rw [show (sR w 6 F2).1 1 = nI N from hNw]
        exact hE hi _ _ _ (fun _ _ h => h) F2 hF2
      · rw [Nat.min_eq_right (by omega)] at hE
        refine br_f (fun z => hle ((nI_leI (by omega) (by omega)).mp z)) (hw _ ?_)
        rw [show (sR w 6 F2).1 1 = nI N from hNw]
        exact hE (by omega) _ _ _ (fun _ _ h => h) F2 hF2)))
    (fun hi pst x1 K hK => gZ_out h10 (Or.inl rfl) (fun F hF => hK _ _ (br_t (by show nI 0 ≤ 0; decide) (hfin _ F rfl))))
  have := hD (Nat.le_refl _) (fun r6 u7 => (∃ n : Nat, wX5_mendNow_52 post (fun x1_21 x2_22 u23 => (∃ n : Nat, wX5_mendNow_145 post x1_21 x2_22 (fun x3_25 u26 => ((¬ x1_21 = (268435456 : Int32) → post x1_21 u26) ∧ (x1_21 = (268435456 : Int32) → post (-1 : Int32) u26))) n (1 : Int32) u23)) n (268435456 : Int32) r6 u7)) (1 : Int32) (fun r6 u7 => (∃ n : Nat, wX5_mendNow_52 post (fun x1_21 x2_22 u23 => (∃ n : Nat, wX5_mendNow_145 post x1_21 x2_22 (fun x3_25 u26 => ((¬ x1_21 = (268435456 : Int32) → post x1_21 u26) ∧ (x1_21 = (268435456 : Int32) → post (-1 : Int32) u26))) n (1 : Int32) u23)) n (268435456 : Int32) r6 u7)) (fun x u hx => ⟨_, hx⟩) g hgτ
  rw [show (sR w 6 g).1 1 = nI N from hNw]
  exact this
end MEND
