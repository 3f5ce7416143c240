/-! what to paint next; how far up -/
def nxI (L : List (Nat → Int32)) (b : Bool) (n : Nat) : Nat → Nat → Int32 × Nat → Int32 × Nat
  | 0, _, s => s
  | j + 1, c, s => nxI L b n j (c + 1) (if b = true ∧ s.2 < cnt L n c then (nI (10 * n + c), cnt L n c) else s)
def nxO (L : List (Nat → Int32)) (τ : Nat → Int32) (C : Nat) : Nat → Nat → Int32 × Nat → Int32 × Nat
  | 0, _, s => s
  | i + 1, n, s => nxO L τ C i (n + 1) (nxI L (τ n == -1) n C 0 s)
section NEXT
variable {κ τ : Nat → Int32} {N C : Nat}
theorem nxI_b {L : List (Nat → Int32)} {b : Bool} {n : Nat} (hL : L.length < 100000) : ∀ (j c : Nat) (s : Int32 × Nat), s.2 < 100000 → (nxI L b n j c s).2 < 100000 := by
  intro j
  induction j with
  | zero => intro c s h; exact h
  | succ j ih =>
    intro c s h
    rw [nxI]
    refine ih (c + 1) _ ?_
    split
    · have : cnt L n c ≤ L.length := List.countP_le_length
      show cnt L n c < _
      omega
    · exact h
theorem c1_nxI {u : SS} (hB : xB κ τ N C u) (hK : Kep κ τ N C u) (h10 : N ≤ 10) (hC3 : C ≤ 3) (hlen : (wl κ τ C N 1 τ).length < 100000) {m : Nat} (h1 : 1 ≤ m) (hm : m ≤ N) {post : Int32 → SS → Prop} {K : Int32 → Int32 → Int32 → SS → Prop} : ∀ (j c : Nat) (s : Int32 × Nat), c + j = C → s.2 < 100000 → K (nxI (wl κ τ C N 1 τ) (τ m == -1) m j c s).1 (nI (nxI (wl κ τ C N 1 τ) (τ m == -1) m j c s).2) (nI C) u → wX1_nextToPaint_20 post (nI m) K (j + 1) s.1 (nI s.2) (nI c) u := by
  intro j
  induction j with
  | zero =>
    intro c s hc hs h
    have : c = C := by omega
    subst this
    refine br_t ?_ h
    rw [hB.2.1]
    exact nI_le (Nat.le_refl _) (by omega)
  | succ j ih =>
    intro c s hc hs h
    rw [nxI] at h
    rw [wX1_nextToPaint_20, nI_1]
    have hcl : cnt (wl κ τ C N 1 τ) m c ≤ (wl κ τ C N 1 τ).length := List.countP_le_length
    refine br_f ?_ ?_
    · rw [hB.2.1]
      intro z
      have := (nI_leI (by omega) (by omega)).mp z
      omega
    unfold wX1_waysWith wX1_placeOf wX0_isBare
    rw [show (3 : Int32) = nI 3 from rfl, pk_mul, nI_add]
    dsimp only
    rw [xat_nI (j := 7) (k := m * 3 + c) (by show _ < 33; omega), show m * 3 + c = 3 * m + c by omega, hK.2.2 m c h1 hm (by omega), xat_nI (j := 2) (k := m) (by show _ < 11; omega), hB.2.2.2 m h1 hm]
    by_cases hb : τ m = -1
    · have hb2 : (τ m == -1) = true := by simpa using hb
      refine bn_t hb (br_f (by decide) ?_)
      rw [show (10 : Int32) = nI 10 from rfl, pk_mul, nI_add]
      by_cases hl : s.2 < cnt (wl κ τ C N 1 τ) m c
      · rw [if_pos ⟨hb2, hl⟩] at h
        refine br_f (fun z => absurd ((nI_leI (by omega) (by omega)).mp z) (by omega)) ?_
        exact ih (c + 1) (nI (10 * m + c), cnt (wl κ τ C N 1 τ) m c) (by omega) (by show cnt _ _ _ < _; omega) h
      · rw [if_neg (fun z => hl z.2)] at h
        refine br_t ((nI_leI (by omega) (by omega)).mpr (by omega)) ?_
        exact ih (c + 1) s (by omega) hs h
    · have hb2 : ¬ (τ m == -1) = true := by simpa using hb
      rw [if_neg (fun z => hb2 z.1)] at h
      exact bn_f hb (br_t rfl (ih (c + 1) s (by omega) hs h))
theorem c1_nxO {u : SS} (hB : xB κ τ N C u) (hK : Kep κ τ N C u) (h10 : N ≤ 10) (hC3 : C ≤ 3) (hlen : (wl κ τ C N 1 τ).length < 100000) {post : Int32 → SS → Prop} {K : Int32 → Int32 → Int32 → SS → Prop} : ∀ (i m : Nat) (s : Int32 × Nat), 1 ≤ m → m + i = N + 1 → s.2 < 100000 → K (nxO (wl κ τ C N 1 τ) τ C i m s).1 (nI (nxO (wl κ τ C N 1 τ) τ C i m s).2) (nI (N + 1)) u → wX1_nextToPaint_6 post K (i + 1) s.1 (nI s.2) (nI m) u := by
  intro i
  induction i with
  | zero =>
    intro m s h1 hm hs h
    have : m = N + 1 := by omega
    subst this
    refine br_t ?_ h
    rw [hB.1]
    exact (nI_ltI (by omega) (by omega)).mpr (by omega)
  | succ i ih =>
    intro m s h1 hm hs h
    rw [nxO] at h
    rw [wX1_nextToPaint_6, hB.1]
    refine br_f (fun z => absurd ((nI_ltI (by omega) (by omega)).mp z) (by omega)) ⟨C + 1, ?_⟩
    refine c1_nxI hB hK h10 hC3 hlen h1 (by omega) C 0 s (by omega) hs ?_
    rw [nI_1]
    exact ih (m + 1) _ (by omega) (by omega) (nxI_b hlen C 0 s hs) h
theorem c1_next {u : SS} (hB : xB κ τ N C u) (hK : Kep κ τ N C u) (h10 : N ≤ 10) (hC3 : C ≤ 3) {post : Int32 → SS → Prop} (h : post (nxO (wl κ τ C N 1 τ) τ C N 1 (-1, 0)).1 u) : wX1_nextToPaint u post := by
  have hlen : (wl κ τ C N 1 τ).length < 100000 := Nat.lt_of_le_of_lt (wl_len hC3 N 1 τ) (Nat.lt_of_le_of_lt (Nat.pow_le_pow_right (by decide) h10) (by decide))
  exact ⟨N + 1, c1_nxO hB hK h10 hC3 hlen N 1 (-1, 0) (by omega) (by omega) (by decide) h⟩
theorem p5_nxI {v : SS} (hC : v.1 2 = nI C) (hτ : ag (v.2.2 1) τ N) (hK : mKep κ τ N C v) (h10 : N ≤ 10) (hC3 : C ≤ 3) (hlen : (wl κ τ C N 1 τ).length < 100000) {m : Nat} (h1 : 1 ≤ m) (hm : m ≤ N) {post : Int32 → SS → Prop} {K : Int32 → Int32 → Int32 → SS → Prop} : ∀ (j c : Nat) (s : Int32 × Nat), c + j = C → s.2 < 100000 → K (nxI (wl κ τ C N 1 τ) (τ m == -1) m j c s).1 (nI (nxI (wl κ τ C N 1 τ) (τ m == -1) m j c s).2) (nI C) v → wX5_nextNow_23 post (nI m) K (j + 1) s.1 (nI s.2) (nI c) v := by
  intro j
  induction j with
  | zero =>
    intro c s hc hs h
    have : c = C := by omega
    subst this
    refine br_t ?_ h
    rw [hC]
    exact nI_le (Nat.le_refl _) (by omega)
  | succ j ih =>
    intro c s hc hs h
    rw [nxI] at h
    rw [wX5_nextNow_23, nI_1]
    have hcl : cnt (wl κ τ C N 1 τ) m c ≤ (wl κ τ C N 1 τ).length := List.countP_le_length
    refine br_f ?_ ?_
    · rw [hC]
      intro z
      have := (nI_leI (by omega) (by omega)).mp z
      omega
    have hi3 : vp_in (nI (3 * m + c)) 33 := vp_in_nI (by omega) (by omega)
    rw [show (3 : Int32) = nI 3 from rfl, pk_mul, nI_add, nI_clamp (n := m) (by omega), nI_clamp (n := 3 * m + c) (by omega), hK.2 m c h1 hm (by omega), hτ m h1 hm]
    refine ⟨vp_in_nI (by omega) (by omega), ?_⟩
    by_cases hb : τ m = -1
    · have hb2 : (τ m == -1) = true := by simpa using hb
      refine bn_t hb ⟨hi3, ?_⟩
      rw [show (10 : Int32) = nI 10 from rfl, pk_mul, nI_add]
      by_cases hl : s.2 < cnt (wl κ τ C N 1 τ) m c
      · rw [if_pos ⟨hb2, hl⟩] at h
        refine br_f (fun z => absurd ((nI_leI (by omega) (by omega)).mp z) (by omega)) ⟨hi3, ?_⟩
        exact ih (c + 1) (nI (10 * m + c), cnt (wl κ τ C N 1 τ) m c) (by omega) (by show cnt _ _ _ < _; omega) h
      · rw [if_neg (fun z => hl z.2)] at h
        refine br_t ((nI_leI (by omega) (by omega)).mpr (by omega)) ?_
        exact ih (c + 1) s (by omega) hs h
    · have hb2 : ¬ (τ m == -1) = true := by simpa using hb
      rw [if_neg (fun z => hb2 z.1)] at h
      exact bn_f hb (ih (c + 1) s (by omega) hs h)
theorem p5_nxO {v : SS} (hN : v.1 1 = nI N) (hC : v.1 2 = nI C) (hτ : ag (v.2.2 1) τ N) (hK : mKep κ τ N C v) (h10 : N ≤ 10) (hC3 : C ≤ 3) (hlen : (wl κ τ C N 1 τ).length < 100000) {post : Int32 → SS → Prop} {K : Int32 → Int32 → Int32 → SS → Prop} : ∀ (i m : Nat) (s : Int32 × Nat), 1 ≤ m → m + i = N + 1 → s.2 < 100000 → K (nxO (wl κ τ C N 1 τ) τ C i m s).1 (nI (nxO (wl κ τ C N 1 τ) τ C i m s).2) (nI (N + 1)) v → wX5_nextNow_12 post K (i + 1) s.1 (nI s.2) (nI m) v := by
  intro i
  induction i with
  | zero =>
    intro m s h1 hm hs h
    have : m = N + 1 := by omega
    subst this
    refine br_t ?_ h
    rw [hN]
    exact (nI_ltI (by omega) (by omega)).mpr (by omega)
  | succ i ih =>
    intro m s h1 hm hs h
    rw [nxO] at h
    rw [wX5_nextNow_12, hN]
    refine br_f (fun z => absurd ((nI_ltI (by omega) (by omega)).mp z) (by omega)) ⟨C + 1, ?_⟩
    refine p5_nxI hC hτ hK h10 hC3 hlen h1 (by omega) C 0 s (by omega) hs ?_
    rw [nI_1]
    exact ih (m + 1) _ (by omega) (by omega) (nxI_b hlen C 0 s hs) h
theorem p5_next {v : SS} (hN : v.1 1 = nI N) (hC : v.1 2 = nI C) (hk : ag (v.2.2 0) κ N) (hτ : ag (v.2.2 1) τ N) (hz : ∀ k, N < k → k ≤ 10 → τ k = -1) (h10 : N ≤ 10) (hC1 : 1 ≤ C) (hC3 : C ≤ 3) (htv : tv τ C N) {post : Int32 → SS → Prop} (h : ∀ w, MEq v w → w.2.1 = v.2.1 → post (nxO (wl κ τ C N 1 τ) τ C N 1 (-1, 0)).1 w) : wX5_nextNow v post := by
  have hlen : (wl κ τ C N 1 τ).length < 100000 := Nat.lt_of_le_of_lt (wl_len hC3 N 1 τ) (Nat.lt_of_le_of_lt (Nat.pow_le_pow_right (by decide) h10) (by decide))
  refine p5_layWays hN hC hk hτ hz h10 hC1 hC3 htv (-1) (fun w hm hl h8 h7 _ => ?_)
  refine ⟨N + 1, p5_nxO (by rw [hm.1 1 (by omega)]; exact hN) (by rw [hm.1 2 (by omega)]; exact hC) (by rw [hm.2 1 (by omega)]; exact hτ) ⟨h8, h7⟩ h10 hC3 hlen N 1 (-1, 0) (by omega) (by omega) (by decide) (h w hm hl)⟩
/-! how far up -/
theorem le_foldr {V : Nat → Nat} {M : Nat} (hM : 1 ≤ M) : ∀ (j c : Nat), M ≤ (List.range' c j).foldr (fun c m => max (V c) m) 0 ↔ ∃ d, c ≤ d ∧ d < c + j ∧ M ≤ V d := by
  intro j
  induction j with
  | zero =>
    intro c
    constructor
    · intro h
      have : M ≤ 0 := h
      omega
    · rintro ⟨d, h1, h2, _⟩
      omega
  | succ j ih =>
    intro c
    rw [List.range'_succ, List.foldr_cons]
    have h := ih (c + 1)
    constructor
    · intro h2
      by_cases h3 : M ≤ V c
      · exact ⟨c, Nat.le_refl _, by omega, h3⟩
      · obtain ⟨d, a, b, e⟩ := h.mp (by omega)
        exact ⟨d, by omega, by omega, e⟩
    · rintro ⟨d, a, b, e⟩
      by_cases h3 : d = c
      · subst h3
        exact Nat.le_trans e (Nat.le_max_left _ _)
      · exact Nat.le_trans (h.mpr ⟨d, by omega, by omega, e⟩) (Nat.le_max_right _ _)
theorem up_wl : ∀ (k n : Nat) (p : Nat → Int32) (M : Nat), 1 ≤ n → n ≤ M → M < n + k → (M ≤ upf κ τ C k n p ↔ wl κ τ C (M + 1 - n) n p ≠ []) := by
  intro k
  induction k with
  | zero => intro n p M _ h1 h2; omega
  | succ k ih =>
    intro n p M h0 h1 h2
    rw [upf, le_foldr (by omega)]
    obtain ⟨i, hi⟩ : ∃ i, M = n + i := ⟨M - n, by omega⟩
    subst hi
    rw [show n + i + 1 - n = i + 1 by omega, wl]
    have e1 : ∀ F : Nat → List (Nat → Int32), (List.range C).flatMap F ≠ [] ↔ ∃ c, c < C ∧ F c ≠ [] := by
      intro F
      constructor
      · intro h
        apply Classical.byContradiction
        intro hn
        refine h (List.flatMap_eq_nil_iff.mpr (fun x hx => ?_))
        apply Classical.byContradiction
        intro hx2
        exact hn ⟨x, List.mem_range.mp hx, hx2⟩
      · rintro ⟨c, hc, h⟩ h2
        exact h (List.flatMap_eq_nil_iff.mp h2 c (List.mem_range.mpr hc))
    rw [e1]
    have e2 : ∀ c, (n + i ≤ (if (τ n = -1 ∨ τ n = nI c) ∧ bsum κ (upd p n (nI c)) n = 0 then max n (upf κ τ C k (n + 1) (upd p n (nI c))) else 0)) ↔ (if (τ n = -1 ∨ τ n = nI c) ∧ bsum κ (upd p n (nI c)) n = 0 then wl κ τ C i (n + 1) (upd p n (nI c)) else []) ≠ [] := by
      intro c
      by_cases hc : (τ n = -1 ∨ τ n = nI c) ∧ bsum κ (upd p n (nI c)) n = 0
      · rw [if_pos hc, if_pos hc]
        cases i with
        | zero =>
          constructor
          · intro _; simp [wl]
          · intro _; exact Nat.le_max_left _ _
        | succ i =>
          have h3 := ih (n + 1) (upd p n (nI c)) (n + (i + 1)) (by omega) (by omega) (by omega)
          rw [show n + (i + 1) + 1 - (n + 1) = i + 1 by omega] at h3
          rw [← h3]
          omega
      · rw [if_neg hc, if_neg hc]
        constructor
        · intro h; omega
        · intro h; exact absurd rfl h
    constructor
    · rintro ⟨d, a, b, e⟩
      exact ⟨d, by omega, (e2 d).mp e⟩
    · rintro ⟨d, a, e⟩
      exact ⟨d, by omega, by omega, (e2 d).mpr e⟩
def upr (κ τ : Nat → Int32) (C : Nat) : Nat → Nat → Nat → Nat
  | 0, _, m => m
  | i + 1, l, m => upr κ τ C i (l + 1) (if wl κ τ C l 1 τ = [] then m else l)
theorem upr_eq (h10 : N ≤ 10) : ∀ (i l : Nat), 1 ≤ l → l + i = N + 1 → upr κ τ C i l (min (l - 1) (upf κ τ C N 1 τ)) = upf κ τ C N 1 τ := by
  intro i
  induction i with
  | zero =>
    intro l h1 h2
    have := upf_le (κ := κ) (τ := τ) (C := C) h10 N 1 τ (by omega)
    rw [upr]
    omega
  | succ i ih =>
    intro l h1 h2
    rw [upr]
    have h3 := up_wl (κ := κ) (τ := τ) (C := C) N 1 τ l (by omega) h1 (by omega)
    rw [Nat.add_sub_cancel] at h3
    have h4 := ih (l + 1) (by omega) (by omega)
    by_cases hw : wl κ τ C l 1 τ = []
    · rw [if_pos hw]
      have h5 : ¬ l ≤ upf κ τ C N 1 τ := fun z => h3.mp z hw
      rw [show min (l - 1) (upf κ τ C N 1 τ) = min (l + 1 - 1) (upf κ τ C N 1 τ) by omega]
      exact h4
    · rw [if_neg hw]
      have h5 : l ≤ upf κ τ C N 1 τ := h3.mpr hw
      have h6 : min (l + 1 - 1) (upf κ τ C N 1 τ) = l := by omega
      rw [h6] at h4
      exact h4
theorem p5_first {v : SS} (hC : v.1 2 = nI C) (hk : ag (v.2.2 0) κ N) (hτ : ag (v.2.2 1) τ N) (h10 : N ≤ 10) (hC1 : 1 ≤ C) (hC3 : C ≤ 3) (htv : tv τ C N) {l : Nat} (hl : l ≤ N) {g : Nat → Int32} (hg : ag g τ 10) {post : Int32 → SS → Prop} (h1 : wl κ τ C l 1 τ ≠ [] → ∀ F, post (nI (l + 1)) (sR v 6 F)) (h0 : wl κ τ C l 1 τ = [] → ∀ F, post (nI 0) (sR v 6 F)) : wX5_goOn (1 : Int32) (nI l) (sR v 6 g) post := by
  have hD := dfs (κ := κ) (τ := τ) (C := C) (N := l) (α := Bool) hC1 hC3 (fun k a b => htv k a (by omega))
    (fun _ n p a => a = false → gZ post (1 : Int32) l post v n p) (fun _ _ => true)
    (fun f n p a g1 g2 g3 ha hb hi => gZ_1 (κ := κ) (τ := τ) (N := N) hC hk hτ h10 hl g1 g2 g3 (fun q => ha q hi) (fun q => hb q hi))
    (fun f n p a g1 g2 g3 ha hb hi => gZ_3 (κ := κ) (τ := τ) (N := N) hC hk hτ h10 hl g1 g2 g3 (fun q => ha q hi) (fun q => hb q hi))
    l 1 τ false 1 (by omega) (by omega) (fun _ _ _ => rfl)
    (fun q hq f a hE hi => gZ_out (by omega) (Or.inr rfl) (fun F hF => h1 (fun e => by rw [e] at hq; exact absurd hq (List.not_mem_nil)) F))
    (fun hi => gZ_out (by omega) (Or.inl rfl) (fun F hF => h0 (by
      cases hw : wl κ τ C l 1 τ with
      | nil => rfl
      | cons x xs =>
        rw [hw, List.foldl_cons] at hi
        have : ∀ (L : List (Nat → Int32)), L.foldl (fun (_ : Bool) (_ : Nat → Int32) => true) true = true := by
          intro L
          induction L with
          | nil => rfl
          | cons y ys ih => exact ih
        rw [this] at hi
        exact absurd hi (by decide)) F))
  exact hD rfl g hg
theorem p5_up_loop {v : SS} (hN : v.1 1 = nI N) (hC : v.1 2 = nI C) (hk : ag (v.2.2 0) κ N) (hτ : ag (v.2.2 1) τ N) (hz : ∀ k, N < k → k ≤ 10 → τ k = -1) (h10 : N ≤ 10) (hC1 : 1 ≤ C) (hC3 : C ≤ 3) (htv : tv τ C N) {post : Int32 → SS → Prop} {K : Int32 → Int32 → SS → Prop} : ∀ (i l m : Nat) (F : Nat → Int32), 1 ≤ l → l + i = N + 1 → (∀ F, K (nI (upr κ τ C i l m)) (nI (N + 1)) (sR v 6 F)) → wX5_upNow_4 post K (i + 1) (nI m) (nI l) (sR v 6 F) := by
  intro i
  induction i with
  | zero =>
    intro l m F h1 h2 h
    have : l = N + 1 := by omega
    subst this
    refine br_t ?_ (h F)
    rw [show (sR v 6 F).1 1 = nI N from hN]
    exact (nI_ltI (by omega) (by omega)).mpr (by omega)
  | succ i ih =>
    intro l m F h1 h2 h
    rw [wX5_upNow_4, show (sR v 6 F).1 1 = nI N from hN, nI_1]
    refine br_f (fun z => absurd ((nI_ltI (by omega) (by omega)).mp z) (by omega)) ?_
    obtain ⟨g, hg, hw⟩ := p5_layNow (v := sR v 6 F) (N := N) hN h10
    have hg2 : ag g τ 10 := fun k a b => by
      rw [hg k a b]
      unfold tz
      by_cases hkN : k ≤ N
      · rw [if_pos hkN]
        exact hτ k a hkN
      · rw [if_neg hkN, hz k (by omega) b]
    refine hw _ ?_
    rw [sR_sR]
    rw [upr] at h
    refine p5_first hC hk hτ h10 hC1 hC3 htv (by omega) hg2 (fun hw F => ?_) (fun hw F => ?_)
    · rw [if_neg hw] at h
      refine br_f (nI_nle (by omega) (by omega)) (ih (l + 1) l F (by omega) (by omega) h)
    · rw [if_pos hw] at h
      refine br_t (by decide) (ih (l + 1) m F (by omega) (by omega) h)
theorem p5_up {v : SS} (hN : v.1 1 = nI N) (hC : v.1 2 = nI C) (hk : ag (v.2.2 0) κ N) (hτ : ag (v.2.2 1) τ N) (hz : ∀ k, N < k → k ≤ 10 → τ k = -1) (h10 : N ≤ 10) (hC1 : 1 ≤ C) (hC3 : C ≤ 3) (htv : tv τ C N) {post : Int32 → SS → Prop} (h : ∀ F, post (nI (upf κ τ C N 1 τ)) (sR v 6 F)) : wX5_upNow v post := by
  have := p5_up_loop hN hC hk hτ hz h10 hC1 hC3 htv (post := post) (K := fun x1_6 x2_7 u8 => post x1_6 u8) N 1 0 (v.2.2 6) (by omega) (by omega) (fun F => by
    have := upr_eq (κ := κ) (τ := τ) (C := C) h10 N 1 (by omega) (by omega)
    rw [show min (1 - 1) (upf κ τ C N 1 τ) = 0 by omega] at this
    rw [this]
    exact h F)
  rw [sR_self] at this
  exact ⟨N + 1, this⟩
end NEXT
