/-! the class's ways -/
def cn (f : Nat → Int32) (N : Nat) (k : Nat) : Int32 := if 1 ≤ k ∧ k ≤ N then f k else -1
theorem cn_ag (f : Nat → Int32) (N : Nat) : ag f (cn f N) N := fun k h1 h2 => by rw [cn, if_pos ⟨h1, h2⟩]
theorem cn_out (f : Nat → Int32) (N : Nat) : ∀ k, N < k → k ≤ 10 → cn f N k = -1 := fun k h1 _ => by rw [cn, if_neg (by omega)]
theorem cn_eq {f g : Nat → Int32} {N : Nat} (h : ag f g N) : cn f N = cn g N := by
  funext k
  unfold cn
  by_cases hk : 1 ≤ k ∧ k ≤ N
  · rw [if_pos hk, if_pos hk]; exact h k hk.1 hk.2
  · rw [if_neg hk, if_neg hk]
theorem sI_at (u : SS) (i : Nat) (v : Int32) : (sI u i v).1 i = v := pk_us
theorem sI_ne (u : SS) {i j : Nat} (v : Int32) (h : j ≠ i) : (sI u i v).1 j = u.1 j := pk_un h
def okc (κ τ p : Nat → Int32) (n c : Nat) : Prop := (τ n = -1 ∨ τ n = nI c) ∧ bsum κ (upd p n (nI c)) n = 0
theorem cnt_nil (m c : Nat) : cnt [] m c = 0 := rfl
theorem cnt_app (A B : List (Nat → Int32)) (m c : Nat) : cnt (A ++ B) m c = cnt A m c + cnt B m c := List.countP_append
theorem cnt_const {L : List (Nat → Int32)} {m c c2 : Nat} (h : ∀ q, q ∈ L → q m = nI c) (hc : c < 100) (hc2 : c2 < 100) : cnt L m c2 = if c2 = c then L.length else 0 := by
  unfold cnt
  by_cases e : c2 = c
  · subst e
    rw [if_pos rfl]
    exact List.countP_eq_length.mpr (fun q hq => by simpa using h q hq)
  · rw [if_neg e]
    exact List.countP_eq_zero.mpr (fun q hq => by
      rw [h q hq]
      have : ¬ nI c = nI c2 := fun z => e ((nI_eq (by omega) (by omega)).mp z).symm
      simpa using this)
/-- how far up one comes -/
def upf (κ τ : Nat → Int32) (C : Nat) : Nat → Nat → (Nat → Int32) → Nat
  | 0, _, _ => 0
  | k + 1, n, p => (List.range' 0 C).foldr (fun c m => max (if (τ n = -1 ∨ τ n = nI c) ∧ bsum κ (upd p n (nI c)) n = 0 then max n (upf κ τ C k (n + 1) (upd p n (nI c))) else 0) m) 0
section COUNT
variable {κ τ : Nat → Int32} {N C : Nat}
/-- the state's board is this one -/
def xB (κ τ : Nat → Int32) (N C : Nat) (u : SS) : Prop := u.1 3 = nI N ∧ u.1 4 = nI C ∧ ag (u.2.2 1) κ N ∧ ag (u.2.2 2) τ N
/-- what a count from number n on changes -/
def Dl (N n : Nat) (p : Nat → Int32) (L : List (Nat → Int32)) (U : Nat) (u w : SS) : Prop := (∀ i : Nat, i ≠ 8 → w.1 i = u.1 i) ∧ (∀ j : Nat, j ≠ 6 → j ≠ 7 → w.2.2 j = u.2.2 j) ∧ ag (w.2.2 6) p (n - 1) ∧ (∀ m c : Nat, 1 ≤ m → m ≤ N → c < 3 → w.2.2 7 (3 * m + c) = u.2.2 7 (3 * m + c) + nI (if n ≤ m then cnt L m c else 0)) ∧ ∀ X : Nat, X < 100 → u.1 8 = nI X → w.1 8 = nI (max X U)
theorem xB.eq {u w : SS} (h : xB κ τ N C u) (h1 : ∀ i : Nat, i ≠ 8 → w.1 i = u.1 i) (h2 : ∀ j : Nat, j ≠ 6 → j ≠ 7 → w.2.2 j = u.2.2 j) : xB κ τ N C w := by
  unfold xB at h ⊢
  rw [h1 3 (by decide), h1 4 (by decide), h2 1 (by decide) (by decide), h2 2 (by decide) (by decide)]
  exact h
theorem c1_mayHave {u : SS} (hB : xB κ τ N C u) {n c : Nat} (h1 : 1 ≤ n) (hn : n ≤ N) (h10 : N ≤ 10) {post : Int32 → SS → Prop} (h : post (if τ n = -1 ∨ τ n = nI c then 1 else 0) u) : wX1_mayHave (nI n) (nI c) u post := by
  unfold wX1_mayHave
  rw [xat_nI (j := 2) (k := n) (by show n < 11; omega), hB.2.2.2 n h1 hn]
  refine ⟨fun e => ?_, fun e => ⟨fun e2 => ?_, fun e2 => ?_⟩⟩
  · rw [if_pos (Or.inl e)] at h; exact h
  · rw [if_neg (fun z => z.elim e e2)] at h; exact h
  · rw [if_pos (Or.inr e2)] at h; exact h
theorem c1_tryColour {u : SS} (hB : xB κ τ N C u) (hv : kv5 κ N) {n : Nat} {x : Int32} {p : Nat → Int32} (h1 : 1 ≤ n) (hn : n ≤ N) (h10 : N ≤ 10) (hp : ag (u.2.2 6) p (n - 1)) {post : Int32 → SS → Prop} (h : post (if bsum κ (upd p n x) n = 0 then 1 else 0) (sA u 6 n x)) : wX1_tryColour (nI n) x u post := by
  unfold wX1_tryColour
  rw [xput_nI (j := 6) (by show n < 11; omega)]
  refine c0_badWithSum (u := sA u 6 n x) (κ := κ) (p := upd p n x) (n := n) (hB.2.2.1.le hn) ?_ (fun k a b => hv k a (by omega)) rfl h1 (Nat.le_refl n) (by omega) ?_
  · rw [show (sA u 6 n x).2.2 6 = upd (u.2.2 6) n x from sR_at _ _ _]
    intro k a b
    by_cases e : k = n
    · subst e; rw [pk_us, pk_us]
    · rw [pk_un e, pk_un e]; exact hp k a (by omega)
  · have hbl : bsum κ (upd p n x) n < 2 ^ 31 := by have := bsum_le κ (upd p n x) n; omega
    by_cases e : bsum κ (upd p n x) n = 0
    · rw [if_pos e] at h
      rw [e]
      exact bn_t rfl h
    · rw [if_neg e] at h
      exact bn_f (nI_ne0 (by omega) hbl) h
theorem sA6_1 (u : SS) (n : Nat) (x : Int32) (i : Nat) : (sA u 6 n x).1 i = u.1 i := rfl
theorem Dl.rf {n : Nat} {p : Nat → Int32} {u : SS} (hp : ag (u.2.2 6) p (n - 1)) : Dl N n p [] 0 u u := ⟨fun _ _ => rfl, fun _ _ _ => rfl, hp, fun m c _ _ _ => by
  have : (if n ≤ m then cnt [] m c else 0) = 0 := by split <;> rfl
  rw [this, nI_0]; simp, fun X _ e => by rw [Nat.max_zero]; exact e⟩
theorem Dl.tr {n : Nat} {p : Nat → Int32} {L1 L2 : List (Nat → Int32)} {U1 U2 : Nat} {a b c : SS} (hU : U1 < 100) (h : Dl N n p L1 U1 a b) (g : Dl N n p L2 U2 b c) : Dl N n p (L1 ++ L2) (max U1 U2) a c := by
  obtain ⟨a1, a2, a3, a4, a5⟩ := h
  obtain ⟨b1, b2, b3, b4, b5⟩ := g
  refine ⟨fun i hi => (b1 i hi).trans (a1 i hi), fun j h6 h7 => (b2 j h6 h7).trans (a2 j h6 h7), b3, fun m c h1 h2 h3 => ?_, fun X hX e => ?_⟩
  · rw [b4 m c h1 h2 h3, a4 m c h1 h2 h3, Int32.add_assoc, nI_add]
    congr 2
    by_cases hm : n ≤ m
    · rw [if_pos hm, if_pos hm, if_pos hm, cnt_app]
    · rw [if_neg hm, if_neg hm, if_neg hm]
  · rw [b5 (max X U1) (by omega) (a5 X hX e)]
    congr 1
    omega
theorem c1_loop (hv : kv5 κ N) (h10 : N ≤ 10) (hC3 : C ≤ 3) {n k : Nat} {p : Nat → Int32} (h1 : 1 ≤ n) (hn : n ≤ N) (F : Nat → List (Nat → Int32)) (V : Nat → Nat) (hVb : ∀ c, V c < 100) (rec : Int32 → SS → (Int32 → SS → Prop) → Prop)
    (hF0 : ∀ c, c < C → ¬ okc κ τ p n c → F c = [] ∧ V c = 0)
    (hF1 : ∀ c, c < C → okc κ τ p n c → F c = wl κ τ C k (n + 1) (upd p n (nI c)) ∧ V c = max n (upf κ τ C k (n + 1) (upd p n (nI c))))
    (hub : ∀ q, upf κ τ C k (n + 1) q < 100)
    (ih : ∀ (q : Nat → Int32) (u : SS), xB κ τ N C u → ag (u.2.2 6) q n → ∀ post : Int32 → SS → Prop, (∀ w, Dl N (n + 1) q (wl κ τ C k (n + 1) q) (upf κ τ C k (n + 1) q) u w → post (nI (wl κ τ C k (n + 1) q).length) w) → rec (nI (n + 1)) u post)
    {post : Int32 → SS → Prop} {K : Int32 → Int32 → SS → Prop} : ∀ (j c acc : Nat) (u : SS), c + j = C → xB κ τ N C u → ag (u.2.2 6) p (n - 1) → (∀ w, Dl N n p ((List.range' c j).flatMap F) ((List.range' c j).foldr (fun c m => max (V c) m) 0) u w → K (nI (acc + ((List.range' c j).flatMap F).length)) (nI C) w) → wX1_countWaysFrom_17 post rec (nI n) K (j + 1) (nI acc) (nI c) u := by
  intro j
  induction j with
  | zero =>
    intro c acc u hc hB hp h
    have : c = C := by omega
    subst this
    refine br_t ?_ (h u (Dl.rf hp))
    rw [hB.2.1]
    exact nI_le (Nat.le_refl _) (by omega)
  | succ j ihj =>
    intro c acc u hc hB hp h
    rw [wX1_countWaysFrom_17]
    rw [List.range'_succ, List.flatMap_cons, List.foldr_cons] at h
    refine br_f ?_ ?_
    · rw [hB.2.1]
      intro z
      have := (nI_leI (by omega) (by omega)).mp z
      omega
    refine c1_mayHave hB h1 hn h10 ?_
    by_cases hm : τ n = -1 ∨ τ n = nI c
    · rw [if_pos hm]
      refine br_f (by decide) ?_
      refine c1_tryColour hB hv h1 hn h10 hp ?_
      have hB2 : xB κ τ N C (sA u 6 n (nI c)) := hB.eq (fun _ _ => rfl) (fun j h6 _ => sR_ne _ _ h6)
      have hp2 : ag ((sA u 6 n (nI c)).2.2 6) (upd p n (nI c)) n := by
        rw [show (sA u 6 n (nI c)).2.2 6 = upd (u.2.2 6) n (nI c) from sR_at _ _ _]
        intro k a b
        by_cases e : k = n
        · subst e; rw [pk_us, pk_us]
        · rw [pk_un e, pk_un e]; exact hp k a (by omega)
      by_cases hb : bsum κ (upd p n (nI c)) n = 0
      · rw [if_pos hb]
        refine br_f (by decide) ?_
        obtain ⟨eF, eV⟩ := hF1 c (by omega) ⟨hm, hb⟩
        rw [show (1 : Int32) = nI 1 from rfl, nI_add]
        have hB3 : xB κ τ N C (sI (sA u 6 n (nI c)) 8 (if (sA u 6 n (nI c)).1 8 < nI n then nI n else (sA u 6 n (nI c)).1 8)) := hB2.eq (fun i hi => pk_un hi) (fun _ _ _ => rfl)
        refine ih _ _ hB3 hp2 _ (fun w hw => ?_)
        obtain ⟨w1, w2, w3, w4, w5⟩ := hw
        show wX1_placeOf (nI n) (nI c) w _
        unfold wX1_placeOf
        rw [show (3 : Int32) = nI 3 from rfl, pk_mul, nI_add, nI_add, nI_add]
        dsimp only
        rw [xat_nI (j := 7) (k := n * 3 + c) (by show _ < 33; omega), xput_nI (j := 7) (k := n * 3 + c) (by show _ < 33; omega)]
        have hLc : ∀ q, q ∈ F c → q n = nI c := fun q hq => by
          rw [eF] at hq
          rw [(wl_val k (n + 1) _ q hq).1 n (by omega), pk_us]
        have hstep : Dl N n p (F c) (V c) u (sA w 7 (n * 3 + c) (w.2.2 7 (n * 3 + c) + nI (wl κ τ C k (n + 1) (upd p n (nI c))).length)) := by
          refine ⟨fun i hi => ?_, fun j h6 h7 => ?_, ?_, fun m c2 g1 g2 g3 => ?_, fun X hX e => ?_⟩
          · show w.1 i = _
            rw [w1 i hi]
            exact pk_un hi
          · rw [show (sA w 7 (n * 3 + c) (w.2.2 7 (n * 3 + c) + nI (wl κ τ C k (n + 1) (upd p n (nI c))).length)).2.2 j = w.2.2 j from sR_ne _ _ h7, w2 j h6 h7]
            exact sR_ne _ _ h6
          · rw [show (sA w 7 (n * 3 + c) (w.2.2 7 (n * 3 + c) + nI (wl κ τ C k (n + 1) (upd p n (nI c))).length)).2.2 6 = w.2.2 6 from sR_ne _ _ (by decide)]
            intro i a b
            rw [w3 i a (by omega), pk_un (by omega)]
          · rw [show (sA w 7 (n * 3 + c) (w.2.2 7 (n * 3 + c) + nI (wl κ τ C k (n + 1) (upd p n (nI c))).length)).2.2 7 = upd (w.2.2 7) (n * 3 + c) (w.2.2 7 (n * 3 + c) + nI (wl κ τ C k (n + 1) (upd p n (nI c))).length) from sR_at _ _ _]
            have w4' := w4 m c2 g1 g2 g3
            rw [show (sI (sA u 6 n (nI c)) 8 (if (sA u 6 n (nI c)).1 8 < nI n then nI n else (sA u 6 n (nI c)).1 8)).2.2 7 = u.2.2 7 from sR_ne _ _ (by decide)] at w4'
            by_cases e : 3 * m + c2 = n * 3 + c
            · have em : m = n := by omega
              have ec : c2 = c := by omega
              subst em
              subst ec
              rw [e, pk_us, ← e, w4', if_neg (by omega), if_pos (Nat.le_refl _), cnt_const hLc (by omega) (by omega), if_pos rfl, eF, nI_0]
              simp
            · rw [pk_un e, w4']
              by_cases hm2 : n ≤ m
              · by_cases em : m = n
                · subst em
                  have ec : ¬ c2 = c := fun z => e (by omega)
                  rw [if_neg (by omega), if_pos (Nat.le_refl _), cnt_const hLc (by omega) (by omega), if_neg ec]
                · rw [if_pos (by omega), if_pos hm2, eF]
              · rw [if_neg (by omega), if_neg hm2]
          · show w.1 8 = _
            have e9 : (sI (sA u 6 n (nI c)) 8 (if (sA u 6 n (nI c)).1 8 < nI n then nI n else (sA u 6 n (nI c)).1 8)).1 8 = nI (max X n) := by
              show upd u.1 8 (if u.1 8 < nI n then nI n else u.1 8) 8 = _
              rw [pk_us, e]
              by_cases hx : X < n
              · rw [if_pos ((nI_ltI (by omega) (by omega)).mpr hx)]
                congr 1
                omega
              · rw [if_neg (fun z => hx ((nI_ltI (by omega) (by omega)).mp z))]
                congr 1
                omega
            rw [w5 (max X n) (by omega) e9, eV]
            congr 1
            omega
        have hB4 : xB κ τ N C (sA w 7 (n * 3 + c) (w.2.2 7 (n * 3 + c) + nI (wl κ τ C k (n + 1) (upd p n (nI c))).length)) := hB.eq hstep.1 hstep.2.1
        refine ihj (c + 1) _ _ (by omega) hB4 hstep.2.2.1 (fun z hz => ?_)
        have := h z (Dl.tr (hVb c) hstep hz)
        rw [List.length_append, eF] at this
        rw [Nat.add_assoc]
        exact this
      · rw [if_neg hb]
        refine br_t rfl ?_
        rw [nI_1]
        obtain ⟨eF, eV⟩ := hF0 c (by omega) (fun z => hb z.2)
        have hp3 : ag ((sA u 6 n (nI c)).2.2 6) p (n - 1) := fun i a b => by rw [hp2 i a (by omega), pk_un (by omega)]
        refine ihj (c + 1) acc _ (by omega) hB2 hp3 (fun z hz => ?_)
        have hs : Dl N n p [] 0 u (sA u 6 n (nI c)) := ⟨fun _ _ => rfl, fun j h6 _ => sR_ne _ _ h6, hp3, fun m c2 _ _ _ => by
          have : (if n ≤ m then cnt [] m c2 else 0) = 0 := by split <;> rfl
          rw [this, nI_0, show (sA u 6 n (nI c)).2.2 7 = u.2.2 7 from sR_ne _ _ (by decide)]; simp, fun X _ e => by rw [Nat.max_zero]; exact e⟩
        have := h z (by rw [eF, eV]; exact Dl.tr (by decide) hs hz)
        rw [eF, List.nil_append] at this
        exact this
    · rw [if_neg hm]
      refine br_t rfl ?_
      rw [nI_1]
      obtain ⟨eF, eV⟩ := hF0 c (by omega) (fun z => hm z.1)
      refine ihj (c + 1) acc _ (by omega) hB hp (fun z hz => ?_)
      have := h z (by rw [eF, eV, List.nil_append, Nat.zero_max]; exact hz)
      rw [eF, List.nil_append] at this
      exact this
theorem upf_le (h10 : N ≤ 10) : ∀ (k n : Nat) (p : Nat → Int32), n + k = N + 1 → upf κ τ C k n p ≤ N := by
  intro k
  induction k with
  | zero => intro n p _; exact Nat.zero_le _
  | succ k ih =>
    intro n p hn
    rw [upf]
    have key : ∀ (V : Nat → Nat) (B : Nat), (∀ c, V c ≤ B) → ∀ (j c : Nat), (List.range' c j).foldr (fun c m => max (V c) m) 0 ≤ B := by
      intro V B hV j
      induction j with
      | zero => intro c; exact Nat.zero_le _
      | succ j ihj =>
        intro c
        rw [List.range'_succ, List.foldr_cons]
        have := ihj (c + 1)
        have := hV c
        omega
    refine key _ N (fun c => ?_) C 0
    split
    · have := ih (n + 1) (upd p n (nI c)) (by omega)
      omega
    · exact Nat.zero_le _
/-- a count from number n on -/
theorem c1_count (hv : kv5 κ N) (h10 : N ≤ 10) (hC3 : C ≤ 3) : ∀ (k n : Nat) (p : Nat → Int32) (u : SS), n + k = N + 1 → 1 ≤ n → xB κ τ N C u → ag (u.2.2 6) p (n - 1) → ∀ post : Int32 → SS → Prop, (∀ w, Dl N n p (wl κ τ C k n p) (upf κ τ C k n p) u w → post (nI (wl κ τ C k n p).length) w) → wX1_countWaysFrom (k + 1) (nI n) u post := by
  intro k
  induction k with
  | zero =>
    intro n p u hn h1 hB hp post h
    refine br_f ?_ ?_
    · rw [hB.1]
      intro z
      have := (nI_leI (by omega) (by omega)).mp z
      omega
    · have := h u ⟨fun _ _ => rfl, fun _ _ _ => rfl, hp, fun m c g1 g2 _ => by
        rw [if_neg (by omega), nI_0]; simp, fun X _ e => by rw [upf, Nat.max_zero]; exact e⟩
      exact this
  | succ k ih =>
    intro n p u hn h1 hB hp post h
    refine br_t ?_ ⟨C + 1, ?_⟩
    · rw [hB.1]
      exact nI_le (by omega) (by omega)
    · refine c1_loop (k := k) hv h10 hC3 h1 (by omega) (fun c => if (τ n = -1 ∨ τ n = nI c) ∧ bsum κ (upd p n (nI c)) n = 0 then wl κ τ C k (n + 1) (upd p n (nI c)) else []) (fun c => if (τ n = -1 ∨ τ n = nI c) ∧ bsum κ (upd p n (nI c)) n = 0 then max n (upf κ τ C k (n + 1) (upd p n (nI c))) else 0) (fun c => ?_) (wX1_countWaysFrom (k + 1)) (fun c _ hc => ⟨if_neg hc, if_neg hc⟩) (fun c _ hc => ⟨if_pos hc, if_pos hc⟩) (fun q => ?_) (fun q w hw hq pst hpst => ih (n + 1) q w (by omega) (by omega) hw hq pst hpst) C 0 0 u (by omega) hB hp (fun w hw => ?_)
      · have := upf_le (κ := κ) (τ := τ) (C := C) h10 k (n + 1) (upd p n (nI c)) (by omega)
        split <;> omega
      · have := upf_le (κ := κ) (τ := τ) (C := C) h10 k (n + 1) q (by omega)
        omega
      · have := h w (by rw [wl, upf, List.range_eq_range']; exact hw)
        rw [wl, List.range_eq_range'] at this
        rw [Nat.zero_add]
        exact this
/-- what is kept of the ways -/
def Kep (κ τ : Nat → Int32) (N C : Nat) (u : SS) : Prop := u.1 7 = nI (wl κ τ C N 1 τ).length ∧ u.1 8 = nI (upf κ τ C N 1 τ) ∧ ∀ m c : Nat, 1 ≤ m → m ≤ N → c < 3 → u.2.2 7 (3 * m + c) = nI (cnt (wl κ τ C N 1 τ) m c)
theorem c1_zero_loop {u : SS} {post : SS → Prop} {K : Int32 → SS → Prop} : ∀ (i s : Nat) (o : Nat → Int32), s + i = 33 → (∀ k, k < s → o k = 0) → (∀ z, (∀ k, k < 33 → z k = 0) → K (nI 33) (sR u 7 z)) → wX1_refresh_10 post K (i + 1) (nI s) (sR u 7 o) := by
  intro i
  induction i with
  | zero =>
    intro s o h ho hK
    have : s = 33 := by omega
    subst this
    exact br_t (by decide) (hK o ho)
  | succ i ih =>
    intro s o h ho hK
    rw [wX1_refresh_10]
    refine br_f (fun q => ?_) ?_
    · have := (nI_leI (a := 33) (b := s) (by omega) (by omega)).mp q
      omega
    · rw [xput_nI (j := 7) (by show s < 33; omega), sA_R, nI_1]
      refine ih (s + 1) _ (by omega) (fun k hk => ?_) hK
      by_cases e : k = s
      · subst e; rw [pk_us]
      · rw [pk_un e]; exact ho k (by omega)
theorem c1_refresh {u : SS} (hB : xB κ τ N C u) (hv : kv5 κ N) (h10 : N ≤ 10) (hC3 : C ≤ 3) (hca : ¬ u.1 11 = 0 ∨ Kep κ τ N C u) {post : SS → Prop} (h : ∀ w, XEq u w → w.1 11 = 0 → Kep κ τ N C w → post w) : wX1_refresh u post := by
  refine ⟨fun hs => ⟨34, ?_⟩, fun hs => ?_⟩
  · have := c1_zero_loop (u := u) (post := post) (K := fun x1_2 u3 => (∃ d : Nat, d ≤ 20 ∧ wX1_countWaysFrom d (1 : Int32) (sI u3 8 (0 : Int32)) (fun r4 u5 => post (sI (sI u5 7 r4) 11 (0 : Int32))))) 33 0 (u.2.2 7) (by omega) (fun k hk => by omega) (fun z hz => ?_)
    · rw [sR_self] at this
      exact this
    · refine ⟨N + 1, by omega, ?_⟩
      have hB2 : xB κ τ N C (sI (sR u 7 z) 8 0) := hB.eq (fun i hi => pk_un hi) (fun j _ h7 => sR_ne _ _ h7)
      refine c1_count hv h10 hC3 N 1 τ _ (by omega) (by omega) hB2 (fun k a b => by omega) _ (fun w hw => ?_)
      obtain ⟨w1, w2, w3, w4, w5⟩ := hw
      refine h _ ⟨fun i hi => ?_, fun j hj => ?_⟩ ?_ ⟨?_, ?_, fun m c g1 g2 g3 => ?_⟩
      · rw [sI_ne _ _ (by omega), sI_ne _ _ (by omega), w1 i (by omega)]
        exact pk_un (by omega)
      · show w.2.2 j = _
        rw [w2 j (by omega) (by omega)]
        exact sR_ne _ _ (by omega)
      · rw [sI_at]
      · rw [sI_ne _ _ (by decide), sI_at]
      · rw [sI_ne _ _ (by decide), sI_ne _ _ (by decide), w5 0 (by decide) rfl, Nat.zero_max]
      · show w.2.2 7 _ = _
        rw [w4 m c g1 g2 g3, if_pos g1, show (sI (sR u 7 z) 8 0).2.2 7 = z from sR_at _ _ _, hz _ (by omega)]
        simp
  · rcases hca with hca | hca
    · exact absurd hs hca
    · exact h u (XEq.rf u) hs hca
end COUNT
