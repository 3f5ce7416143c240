/-! one way; which colour is sure; what to paint next; how far up -/
section MORE
variable {κ τ : Nat → Int32} {N C : Nat}
theorem xB.eq2 {u w : SS} (h : xB κ τ N C u) (h3 : w.1 3 = u.1 3) (h4 : w.1 4 = u.1 4) (r1 : w.2.2 1 = u.2.2 1) (r2 : w.2.2 2 = u.2.2 2) : xB κ τ N C w := by
  unfold xB at h ⊢
  rw [h3, h4, r1, r2]
  exact h
theorem gD_l {α : Type} {A B : List α} {s : Nat} {d : α} (h : s < A.length) : (A ++ B).getD s d = A.getD s d := by
  rw [List.getD_eq_getElem?_getD, List.getD_eq_getElem?_getD, List.getElem?_append_left h]
theorem gD_r {α : Type} {A B : List α} {s : Nat} {d : α} (h : A.length ≤ s) : (A ++ B).getD s d = B.getD (s - A.length) d := by
  rw [List.getD_eq_getElem?_getD, List.getD_eq_getElem?_getD, List.getElem?_append_right h]
def Gl (u w : SS) : Prop := (∀ i : Nat, i ≠ 10 → w.1 i = u.1 i) ∧ ∀ j : Nat, j ≠ 6 → w.2.2 j = u.2.2 j
theorem Gl.rf (u : SS) : Gl u u := ⟨fun _ _ => rfl, fun _ _ => rfl⟩
theorem Gl.tr {a b c : SS} (h : Gl a b) (g : Gl b c) : Gl a c := ⟨fun i hi => (g.1 i hi).trans (h.1 i hi), fun j hj => (g.2 j hj).trans (h.2 j hj)⟩
theorem xB.gl {u w : SS} (h : xB κ τ N C u) (g : Gl u w) : xB κ τ N C w := h.eq2 (g.1 3 (by decide)) (g.1 4 (by decide)) (g.2 1 (by decide)) (g.2 2 (by decide))
theorem c1_goLoop (hv : kv5 κ N) (h10 : N ≤ 10) (hC3 : C ≤ 3) {n k : Nat} {p : Nat → Int32} (h1 : 1 ≤ n) (hn : n ≤ N) (F : Nat → List (Nat → Int32)) (rec : Int32 → SS → (Int32 → SS → Prop) → Prop)
    (hF0 : ∀ c, c < C → ¬ okc κ τ p n c → F c = []) (hF1 : ∀ c, c < C → okc κ τ p n c → F c = wl κ τ C k (n + 1) (upd p n (nI c)))
    (ih : ∀ (q : Nat → Int32) (u : SS) (s : Nat), xB κ τ N C u → ag (u.2.2 6) q n → u.1 10 = nI s → s < 100000 → ∀ post : Int32 → SS → Prop, (∀ w, Gl u w → s < (wl κ τ C k (n + 1) q).length → ag (w.2.2 6) ((wl κ τ C k (n + 1) q).getD s (fun _ => 0)) N → post 1 w) → (∀ w, Gl u w → (wl κ τ C k (n + 1) q).length ≤ s → ag (w.2.2 6) q n → w.1 10 = nI (s - (wl κ τ C k (n + 1) q).length) → post 0 w) → rec (nI (n + 1)) u post)
    {post : Int32 → SS → Prop} {K : Int32 → SS → Prop} : ∀ (j c s : Nat) (u : SS), c + j = C → xB κ τ N C u → ag (u.2.2 6) p (n - 1) → u.1 10 = nI s → s < 100000 → (∀ w, Gl u w → s < ((List.range' c j).flatMap F).length → ag (w.2.2 6) (((List.range' c j).flatMap F).getD s (fun _ => 0)) N → post 1 w) → (∀ w, Gl u w → ((List.range' c j).flatMap F).length ≤ s → ag (w.2.2 6) p (n - 1) → w.1 10 = nI (s - ((List.range' c j).flatMap F).length) → K (nI C) w) → wX1_goToWayFrom_36 post rec (nI n) K (j + 1) (nI c) u := by
  intro j
  induction j with
  | zero =>
    intro c s u hc hB hp hs hs2 hf hn0
    have : c = C := by omega
    subst this
    refine br_t ?_ (hn0 u (Gl.rf u) (Nat.zero_le _) hp hs)
    rw [hB.2.1]
    exact nI_le (Nat.le_refl _) (by omega)
  | succ j ihj =>
    intro c s u hc hB hp hs hs2 hf hn0
    rw [wX1_goToWayFrom_36]
    rw [List.range'_succ, List.flatMap_cons] at hf hn0
    refine br_f ?_ ?_
    · rw [hB.2.1]
      intro z
      have := (nI_leI (by omega) (by omega)).mp z
      omega
    have skip : ∀ u2, Gl u u2 → ag (u2.2.2 6) p (n - 1) → u2.1 10 = nI s → F c = [] → wX1_goToWayFrom_36 post rec (nI n) K (j + 1) (nI c + 1) u2 := fun u2 g hp2 hs3 eF => by
      rw [nI_1]
      rw [eF, List.nil_append] at hf hn0
      exact ihj (c + 1) s u2 (by omega) (hB.gl g) hp2 hs3 hs2 (fun w gw => hf w (g.tr gw)) (fun w gw => hn0 w (g.tr gw))
    refine c1_mayHave hB h1 hn h10 ?_
    by_cases hm : τ n = -1 ∨ τ n = nI c
    · rw [if_pos hm]
      refine br_f (by decide) ?_
      refine c1_tryColour hB hv h1 hn h10 hp ?_
      have g2 : Gl u (sA u 6 n (nI c)) := ⟨fun _ _ => rfl, fun j h6 => sR_ne _ _ h6⟩
      have hp2 : ag ((sA u 6 n (nI c)).2.2 6) (upd p n (nI c)) n := by
        rw [show (sA u 6 n (nI c)).2.2 6 = upd (u.2.2 6) n (nI c) from sR_at _ _ _]
        intro k a b
        by_cases e : k = n
        · subst e; rw [pk_us, pk_us]
        · rw [pk_un e, pk_un e]; exact hp k a (by omega)
      have low : ∀ f : Nat → Int32, ag f (upd p n (nI c)) n → ag f p (n - 1) := fun f hf i a b => by rw [hf i a (by omega), pk_un (by omega)]
      by_cases hb : bsum κ (upd p n (nI c)) n = 0
      · rw [if_pos hb]
        refine br_f (by decide) ?_
        have eF := hF1 c (by omega) ⟨hm, hb⟩
        rw [show (1 : Int32) = nI 1 from rfl, nI_add]
        rw [eF, List.length_append] at hf hn0
        refine ih _ _ s (hB.gl g2) hp2 hs hs2 _ (fun w gw hl hw => ?_) (fun w gw hl hw hw10 => ?_)
        · refine br_f (by decide) (hf w (g2.tr gw) (by omega) ?_)
          rw [gD_l hl]
          exact hw
        · refine br_t rfl ?_
          rw [show (nI 1 : Int32) = 1 from rfl, nI_1]
          refine ihj (c + 1) (s - (wl κ τ C k (n + 1) (upd p n (nI c))).length) w (by omega) (hB.gl (g2.tr gw)) (low _ hw) hw10 (by omega) (fun z gz hz ha => ?_) (fun z gz hz ha h10z => ?_)
          · refine hf z ((g2.tr gw).tr gz) (by omega) ?_
            rw [gD_r hl]
            exact ha
          · refine hn0 z ((g2.tr gw).tr gz) (by omega) ha ?_
            rw [h10z]
            congr 1
            omega
      · rw [if_neg hb]
        exact br_t rfl (skip _ g2 (low _ hp2) hs (hF0 c (by omega) (fun z => hb z.2)))
    · rw [if_neg hm]
      exact br_t rfl (skip u (Gl.rf u) hp hs (hF0 c (by omega) (fun z => hm z.1)))
theorem c1_goTo (hv : kv5 κ N) (h10 : N ≤ 10) (hC3 : C ≤ 3) : ∀ (k n : Nat) (p : Nat → Int32) (u : SS) (s : Nat), n + k = N + 1 → 1 ≤ n → xB κ τ N C u → ag (u.2.2 6) p (n - 1) → u.1 10 = nI s → s < 100000 → ∀ post : Int32 → SS → Prop, (∀ w, Gl u w → s < (wl κ τ C k n p).length → ag (w.2.2 6) ((wl κ τ C k n p).getD s (fun _ => 0)) N → post 1 w) → (∀ w, Gl u w → (wl κ τ C k n p).length ≤ s → ag (w.2.2 6) p (n - 1) → w.1 10 = nI (s - (wl κ τ C k n p).length) → post 0 w) → wX1_goToWayFrom (k + 1) (nI n) u post := by
  intro k
  induction k with
  | zero =>
    intro n p u s hn h1 hB hp hs hs2 post hf hn0
    refine br_f ?_ ?_
    · rw [hB.1]
      intro z
      have := (nI_leI (by omega) (by omega)).mp z
      omega
    · have g : Gl u (sI u 10 (u.1 10 - 1)) := ⟨fun i hi => sI_ne _ _ hi, fun _ _ => rfl⟩
      rw [sI_at]
      have en : n = N + 1 := by omega
      cases s with
      | zero =>
        refine br_f ?_ (hf _ g (by simp [wl]) ?_)
        · rw [hs]; decide
        · intro i a b
          exact hp i a (by omega)
      | succ s =>
        have e1 : u.1 10 - 1 = nI s := by rw [hs, show (1 : Int32) = nI 1 from rfl, pk_sub (by omega)]; rfl
        refine br_t ?_ (hn0 _ g (by simp [wl]) hp ?_)
        · rw [e1]; exact nI_pos' (by omega)
        · rw [sI_at, e1]; rfl
  | succ k ih =>
    intro n p u s hn h1 hB hp hs hs2 post hf hn0
    refine br_t ?_ ⟨C + 1, ?_⟩
    · rw [hB.1]
      exact nI_le (by omega) (by omega)
    · rw [wl, List.range_eq_range'] at hf hn0
      exact c1_goLoop (k := k) hv h10 hC3 h1 (by omega) _ (wX1_goToWayFrom (k + 1)) (fun c _ hc => if_neg hc) (fun c _ hc => if_pos hc) (fun q w s hw hq h10w hsw pst a b => ih (n + 1) q w s (by omega) (by omega) hw hq h10w hsw pst a b) C 0 s u (by omega) hB hp hs hs2 hf hn0
theorem c1_colourInWay {u : SS} (hB : xB κ τ N C u) (hv : kv5 κ N) (h10 : N ≤ 10) (hC3 : C ≤ 3) {s m : Nat} (hs : s < (wl κ τ C N 1 τ).length) (h1 : 1 ≤ m) (hm : m ≤ N) {post : Int32 → SS → Prop} (h : ∀ w, Gl u w → post ((wl κ τ C N 1 τ).getD s (fun _ => 0) m) w) : wX1_colourInWay (nI s) (nI m) u post := by
  refine ⟨N + 1, by omega, ?_⟩
  have hlen : (wl κ τ C N 1 τ).length ≤ 59049 := Nat.le_trans (wl_len hC3 N 1 τ) (Nat.pow_le_pow_right (by decide) h10)
  have g : Gl u (sI u 10 (nI s)) := ⟨fun i hi => sI_ne _ _ hi, fun _ _ => rfl⟩
  refine c1_goTo hv h10 hC3 N 1 τ (sI u 10 (nI s)) s (by omega) (by omega) (hB.gl g) (fun i a b => by omega) (sI_at _ _ _) (by omega) _ (fun w gw _ hw => ?_) (fun w _ hl _ _ => by omega)
  refine br_f (by decide) ?_
  rw [xat_nI (j := 6) (k := m) (by show m < 11; omega), hw m h1 hm]
  exact h w (g.tr gw)
/-- the first of some -/
def fst1 (P : Nat → Bool) : Nat → Nat → Int32
  | _, 0 => -1
  | c, j + 1 => if P c then nI c else fst1 P (c + 1) j
def sureB (L : List (Nat → Int32)) (m c : Nat) : Bool := decide (0 < L.length) && decide (cnt L m c = L.length)
theorem c1_sure_loop {u : SS} (hB : xB κ τ N C u) (hK : Kep κ τ N C u) (h10 : N ≤ 10) (hC3 : C ≤ 3) (hlen : (wl κ τ C N 1 τ).length < 100000) {m : Nat} (h1 : 1 ≤ m) (hm : m ≤ N) {post : Int32 → SS → Prop} {K : Int32 → SS → Prop} : ∀ (j c : Nat), c + j = C → (fst1 (sureB (wl κ τ C N 1 τ) m) c j = -1 → K (nI C) u) → (∀ i, fst1 (sureB (wl κ τ C N 1 τ) m) c j = nI i → i < 3 → post (nI i) u) → wX1_sureColour_2 post (nI m) K (j + 1) (nI c) u := by
  intro j
  induction j with
  | zero =>
    intro c hc hK0 hp
    have : c = C := by omega
    subst this
    refine br_t ?_ (hK0 rfl)
    rw [hB.2.1]
    exact nI_le (Nat.le_refl _) (by omega)
  | succ j ih =>
    intro c hc hK0 hp
    rw [fst1] at hK0 hp
    rw [wX1_sureColour_2, nI_1]
    have hcl : cnt (wl κ τ C N 1 τ) m c ≤ (wl κ τ C N 1 τ).length := List.countP_le_length
    refine br_f ?_ ?_
    · rw [hB.2.1]
      intro z
      have := (nI_leI (by omega) (by omega)).mp z
      omega
    rw [hK.1]
    by_cases h0 : 0 < (wl κ τ C N 1 τ).length
    · refine br_f (nI_nle h0 (by omega)) ?_
      unfold wX1_waysWith wX1_placeOf
      rw [show (3 : Int32) = nI 3 from rfl, pk_mul, nI_add]
      dsimp only
      rw [xat_nI (j := 7) (k := m * 3 + c) (by show _ < 33; omega), show m * 3 + c = 3 * m + c by omega, hK.2.2 m c h1 hm (by omega), hK.1]
      by_cases he : cnt (wl κ τ C N 1 τ) m c = (wl κ τ C N 1 τ).length
      · rw [he]
        have hb : sureB (wl κ τ C N 1 τ) m c = true := by simp [sureB, h0, he]
        rw [if_pos hb] at hp
        exact bn_t rfl (hp c rfl (by omega))
      · have hb : ¬ sureB (wl κ τ C N 1 τ) m c = true := by simp [sureB, he]
        rw [if_neg hb] at hK0 hp
        refine bn_f (fun z => he ((nI_eq (by omega) (by omega)).mp z)) ?_
        exact ih (c + 1) (by omega) hK0 hp
    · have e0 : (wl κ τ C N 1 τ).length = 0 := by omega
      have hb : ¬ sureB (wl κ τ C N 1 τ) m c = true := by simp [sureB, e0]
      rw [if_neg hb] at hK0 hp
      rw [e0]
      refine br_t (by decide) ?_
      exact ih (c + 1) (by omega) hK0 hp
theorem fst1_or (P : Nat → Bool) : ∀ (j c : Nat), c + j ≤ 3 → fst1 P c j = -1 ∨ ∃ i, i < 3 ∧ fst1 P c j = nI i := by
  intro j
  induction j with
  | zero => intro c _; exact Or.inl rfl
  | succ j ih =>
    intro c hc
    rw [fst1]
    split
    · exact Or.inr ⟨c, by omega, rfl⟩
    · exact ih (c + 1) (by omega)
theorem c1_sure {u : SS} (hB : xB κ τ N C u) (hK : Kep κ τ N C u) (h10 : N ≤ 10) (hC3 : C ≤ 3) {m : Nat} (h1 : 1 ≤ m) (hm : m ≤ N) {post : Int32 → SS → Prop} (h : post (fst1 (sureB (wl κ τ C N 1 τ) m) 0 C) u) : wX1_sureColour (nI m) u post := by
  have hlen : (wl κ τ C N 1 τ).length < 100000 := Nat.lt_of_le_of_lt (wl_len hC3 N 1 τ) (Nat.lt_of_le_of_lt (Nat.pow_le_pow_right (by decide) h10) (by decide))
  exact ⟨C + 1, c1_sure_loop hB hK h10 hC3 hlen h1 hm C 0 (by omega) (fun e => by rw [e] at h; exact h) (fun i e _ => by rw [e] at h; exact h)⟩
/-- the reference's state after its ways -/
def mKep (κ τ : Nat → Int32) (N C : Nat) (v : SS) : Prop := v.1 8 = nI (wl κ τ C N 1 τ).length ∧ ∀ m c : Nat, 1 ≤ m → m ≤ N → c < 3 → v.2.2 7 (3 * m + c) = nI (cnt (wl κ τ C N 1 τ) m c)
theorem p5_sure_loop {v : SS} (hC : v.1 2 = nI C) (hK : mKep κ τ N C v) (h10 : N ≤ 10) (hC3 : C ≤ 3) (hlen : (wl κ τ C N 1 τ).length < 100000) {m : Nat} (h1 : 1 ≤ m) (hm : m ≤ N) {post : Int32 → SS → Prop} {K : Int32 → SS → Prop} : ∀ (j c : Nat), c + j = C → (fst1 (sureB (wl κ τ C N 1 τ) m) c j = -1 → K (nI C) v) → (∀ i, fst1 (sureB (wl κ τ C N 1 τ) m) c j = nI i → i < 3 → post (nI i) v) → wX5_sureOf_2 post (nI m) K (j + 1) (nI c) v := by
  intro j
  induction j with
  | zero =>
    intro c hc hK0 hp
    have : c = C := by omega
    subst this
    refine br_t ?_ (hK0 rfl)
    rw [hC]
    exact nI_le (Nat.le_refl _) (by omega)
  | succ j ih =>
    intro c hc hK0 hp
    rw [fst1] at hK0 hp
    rw [wX5_sureOf_2, nI_1]
    have hcl : cnt (wl κ τ C N 1 τ) m c ≤ (wl κ τ C N 1 τ).length := List.countP_le_length
    refine br_f ?_ ?_
    · rw [hC]
      intro z
      have := (nI_leI (by omega) (by omega)).mp z
      omega
    rw [hK.1]
    by_cases h0 : 0 < (wl κ τ C N 1 τ).length
    · refine br_f (nI_nle h0 (by omega)) ?_
      rw [show (3 : Int32) = nI 3 from rfl, pk_mul, nI_add, nI_clamp (by omega), hK.2 m c h1 hm (by omega)]
      refine ⟨vp_in_nI (by omega) (by omega), ?_⟩
      by_cases he : cnt (wl κ τ C N 1 τ) m c = (wl κ τ C N 1 τ).length
      · rw [he]
        have hb : sureB (wl κ τ C N 1 τ) m c = true := by simp [sureB, h0, he]
        rw [if_pos hb] at hp
        exact bn_t rfl (hp c rfl (by omega))
      · have hb : ¬ sureB (wl κ τ C N 1 τ) m c = true := by simp [sureB, he]
        rw [if_neg hb] at hK0 hp
        refine bn_f (fun z => he ((nI_eq (by omega) (by omega)).mp z)) ?_
        exact ih (c + 1) (by omega) hK0 hp
    · have e0 : (wl κ τ C N 1 τ).length = 0 := by omega
      have hb : ¬ sureB (wl κ τ C N 1 τ) m c = true := by simp [sureB, e0]
      rw [if_neg hb] at hK0 hp
      rw [e0]
      refine br_t (by decide) ?_
      exact ih (c + 1) (by omega) hK0 hp
theorem p5_sure {v : SS} (hC : v.1 2 = nI C) (hK : mKep κ τ N C v) (h10 : N ≤ 10) (hC3 : C ≤ 3) {m : Nat} (h1 : 1 ≤ m) (hm : m ≤ N) {post : Int32 → SS → Prop} (h : post (fst1 (sureB (wl κ τ C N 1 τ) m) 0 C) v) : wX5_sureOf (nI m) v post := by
  have hlen : (wl κ τ C N 1 τ).length < 100000 := Nat.lt_of_le_of_lt (wl_len hC3 N 1 τ) (Nat.lt_of_le_of_lt (Nat.pow_le_pow_right (by decide) h10) (by decide))
  exact ⟨C + 1, p5_sure_loop hC hK h10 hC3 hlen h1 hm C 0 (by omega) (fun e => by rw [e] at h; exact h) (fun i e _ => by rw [e] at h; exact h)⟩
end MORE
