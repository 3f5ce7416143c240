/-! the page -/
def ca (L : Nat) (ρ : Nat → Int32) (k : Nat) : Int32 := if k < L then ρ k else 0
def pgV (L : Nat) (ρ : Nat → Int32) : Prop := L ≤ 26 ∧ ∀ k, k < L → ∃ c : Nat, 32 ≤ c ∧ c ≤ 126 ∧ ρ k = nI c
theorem ca_v {L : Nat} {ρ : Nat → Int32} (h : pgV L ρ) (k : Nat) : ∃ c : Nat, c < 127 ∧ ca L ρ k = nI c := by
  unfold ca
  by_cases q : k < L
  · rw [if_pos q]
    obtain ⟨c, _, h2, h3⟩ := h.2 k q
    exact ⟨c, by omega, h3⟩
  · rw [if_neg q]
    exact ⟨0, by omega, rfl⟩
theorem ca_out {L : Nat} {ρ : Nat → Int32} {k : Nat} (h : L ≤ k) : ca L ρ k = 0 := by
  unfold ca
  rw [if_neg (by omega)]
def kb (c : Int32) : Int32 := fst1 (fun k => xby k == c) 0 5
def ktF (P : Nat → Bool) : Nat → Nat → Nat
  | 0, k => k
  | j + 1, k => if P k then ktF P j (k + 1) else k
theorem ktF_sp (P : Nat → Bool) : ∀ (j k : Nat), k ≤ ktF P j k ∧ ktF P j k ≤ k + j ∧ (∀ i, k ≤ i → i < ktF P j k → P i = true) ∧ (ktF P j k < k + j → P (ktF P j k) = false) := by
  intro j
  induction j with
  | zero => intro k; exact ⟨Nat.le_refl _, Nat.le_refl _, fun i a b => by rw [ktF] at b; omega, fun z => by rw [ktF] at z; omega⟩
  | succ j ih =>
    intro k
    rw [ktF]
    by_cases q : P k = true
    · rw [if_pos q]
      obtain ⟨a, b, c, d⟩ := ih (k + 1)
      refine ⟨by omega, by omega, fun i h1 h2 => ?_, fun z => d (by omega)⟩
      by_cases e : i = k
      · subst e; exact q
      · exact c i (by omega) h2
    · rw [if_neg q]
      exact ⟨Nat.le_refl _, by omega, fun i h1 h2 => by omega, fun _ => by simpa using q⟩
theorem ktF_of {P : Nat → Bool} : ∀ (j k m : Nat), k ≤ m → m ≤ k + j → (∀ i, k ≤ i → i < m → P i = true) → (m < k + j → P m = false) → ktF P j k = m := by
  intro j
  induction j with
  | zero => intro k m h1 h2 _ _; rw [ktF]; omega
  | succ j ih =>
    intro k m h1 h2 h3 h4
    rw [ktF]
    by_cases e : k = m
    · subst e
      rw [if_neg (by rw [h4 (by omega)]; decide)]
    · rw [if_pos (h3 k (Nat.le_refl _) (by omega))]
      exact ih (k + 1) m (by omega) (by omega) (fun i a b => h3 i (by omega) b) (fun z => h4 (by omega))
/-- how many kinds are told -/
def kt (c : Nat → Int32) : Nat := ktF (fun k => !(kb (c (2 + k)) == -1)) 10 0
theorem kt_le (c : Nat → Int32) : kt c ≤ 10 := by
  have := (ktF_sp (fun k => !(kb (c (2 + k)) == -1)) 10 0).2.1
  unfold kt
  omega
theorem kb_0 : kb 0 = -1 := by decide
theorem kb_or (c : Int32) : kb c = -1 ∨ ∃ i, i < 5 ∧ kb c = nI i := by
  have : ∀ (P : Nat → Bool) (j k : Nat), k + j ≤ 5 → fst1 P k j = -1 ∨ ∃ i, i < 5 ∧ fst1 P k j = nI i := by
    intro P j
    induction j with
    | zero => intro k _; exact Or.inl rfl
    | succ j ih =>
      intro k hk
      rw [fst1]
      split
      · exact Or.inr ⟨k, by omega, rfl⟩
      · exact ih (k + 1) (by omega)
  exact this _ 5 0 (by omega)
theorem kt_kb {c : Nat → Int32} {k : Nat} (h : k < kt c) : ¬ kb (c (2 + k)) = -1 := by
  have := (ktF_sp (fun k => !(kb (c (2 + k)) == -1)) 10 0).2.2.1 k (Nat.zero_le _) h
  simpa using this
theorem kt_in {L : Nat} {ρ : Nat → Int32} {k : Nat} (h : k < kt (ca L ρ)) : 2 + k < L := by
  apply Classical.byContradiction
  intro q
  have := kt_kb h
  rw [ca_out (by omega)] at this
  exact this kb_0
def sgB (c0 c : Int32) : Bool := c == 46 || (!(decide (c < 97)) && !(decide ((97 : Int32) + (c0 - 48) ≤ c)))
def ftB (c : Nat → Int32) (K place : Nat) : Bool := if place = 0 then (c 0 == 50 || c 0 == 51) else if place < 2 then c place == 59 else if place < 2 + K then true else if place = 2 + K then (c place == 59 && decide (4 ≤ K)) else (decide (place ≤ 2 + K + K) && sgB (c 0) (c place))
/-- the first fault -/
def rd (L : Nat) (ρ : Nat → Int32) : Nat := ktF (ftB (ca L ρ) (kt (ca L ρ))) L 0
section CPAGE
variable {L : Nat} {ρ : Nat → Int32} {u : SS} {post : Int32 → SS → Prop}
def pgX (L : Nat) (ρ : Nat → Int32) (u : SS) : Prop := u.1 2 = nI L ∧ ∀ k, k < L → u.2.2 0 k = ρ k
theorem c2_codeAt (hv : pgV L ρ) (hu : pgX L ρ u) {k : Nat} (hk : k < 100) (h : post (ca L ρ k) u) : wX2_codeAt (nI k) u post := by
  have hL := hv.1
  unfold ca at h
  refine ⟨fun q => ?_, fun q => ?_⟩
  · rw [hu.1] at q
    rw [if_neg (by have := (nI_leI (by omega) (by omega)).mp q; omega)] at h
    exact h
  · rw [hu.1] at q
    have hkL : k < L := by
      apply Classical.byContradiction
      intro z
      exact q (nI_le (by omega) (by omega))
    rw [if_pos hkL, ← hu.2 k hkL] at h
    rw [xat_nI (j := 0) (k := k) (by show k < 26; omega)]
    exact h
theorem ch_1 : ∀ x : Nat, x < 127 → ((nI x).toUInt32 % 65536).toInt32 = nI x := by decide +kernel
theorem ch_2 : ∀ x : Nat, x < 127 → (nI x).toInt8.toInt32 = nI x := by decide +kernel
theorem cJ_loop {x : Nat} {y1 y2 : Int32} {K : Int32 → SS → Prop} (hK : K (nI 5) u = post (-1) u) : ∀ (j k : Nat), k + j = 5 → post (fst1 (fun k => xby k == nI x) k j) u → wJ1_indexOfChar_4cfef_7 post y1 y2 (nI 5) (nI x) K (j + 1) (nI k) u := by
  intro j
  induction j with
  | zero =>
    intro k hk h
    have : k = 5 := by omega
    subst this
    refine br_t (by decide) ?_
    rw [hK]
    exact h
  | succ j ih =>
    intro k hk h
    rw [fst1] at h
    rw [wJ1_indexOfChar_4cfef_7, nI_clamp (by omega), nI_1]
    refine br_f (fun z => absurd ((nI_leI (by omega) (by omega)).mp z) (by omega)) ⟨vp_in_nI (by omega) (by omega), ?_⟩
    by_cases q : xby k = nI x
    · rw [if_pos (by simpa using q)] at h
      exact bn_t q h
    · rw [if_neg (by simpa using q)] at h
      exact bn_f q (ih (k + 1) (by omega) h)
theorem cJ_index {x : Nat} (hx : x < 127) (h : post (kb (nI x)) u) : wJ0_indexOf_0f7a4 (nI x) u post := by
  unfold wJ0_indexOf_0f7a4 wJ0_indexOf_7cf53 wJ1_indexOf_4cfef wJ1_canEncode_9a6ad wJ1_indexOfChar_4cfef
  refine br_f (nI_pos (by omega)) (br_f (fun z => absurd ((nI_ltI (a := 255) (by omega) (by omega)).mp z) (by omega)) (bn_f (by decide) (br_t (by decide) ⟨6, ?_⟩)))
  rw [ch_2 x hx]
  exact cJ_loop (post := post) (x := x) rfl 5 0 (by omega) h
theorem c2_kindAt (hv : pgV L ρ) (hu : pgX L ρ u) {k : Nat} (hk : k < 100) (h : post (kb (ca L ρ k)) u) : wX2_kindAt (nI k) u post := by
  refine c2_codeAt hv hu hk ?_
  obtain ⟨x, hx, e⟩ := ca_v hv k
  rw [e] at h ⊢
  rw [ch_1 x hx]
  exact cJ_index hx h
theorem c2_told_loop (hv : pgV L ρ) (hu : pgX L ρ u) {K : Int32 → SS → Prop} : ∀ (j k : Nat), k + j = 10 → K (nI (ktF (fun k => !(kb (ca L ρ (2 + k)) == -1)) j k)) u → wX2_kindsTold_2 post K (j + 1) (nI k) u := by
  intro j
  induction j with
  | zero =>
    intro k hk h
    have : k = 10 := by omega
    subst this
    exact br_t (by decide) h
  | succ j ih =>
    intro k hk h
    rw [ktF] at h
    rw [wX2_kindsTold_2, show (2 : Int32) = nI 2 from rfl, nI_add, nI_1]
    refine br_f (fun z => absurd ((nI_leI (a := 10) (by omega) (by omega)).mp z) (by omega)) ?_
    refine c2_kindAt hv hu (by omega) ?_
    by_cases q : kb (ca L ρ (2 + k)) = -1
    · rw [if_neg (by simp [q])] at h
      exact br_t q h
    · rw [if_pos (by simpa using q)] at h
      exact br_f q (ih (k + 1) (by omega) h)
theorem c2_told (hv : pgV L ρ) (hu : pgX L ρ u) (h : post (nI (kt (ca L ρ))) u) : wX2_kindsTold u post := ⟨11, c2_told_loop hv hu 10 0 (by omega) h⟩
theorem c2_colours (hv : pgV L ρ) (hu : pgX L ρ u) (h : post (ca L ρ 0 - 48) u) : wX2_colours u post := c2_codeAt hv hu (k := 0) (by omega) h
theorem c2_isSign (hv : pgV L ρ) (hu : pgX L ρ u) {c : Int32} (h : post (if sgB (ca L ρ 0) c then 1 else 0) u) : wX2_isSign c u post := by
  have no : sgB (ca L ρ 0) c = false → post 0 u := fun e => by rw [e] at h; exact h
  have ye : sgB (ca L ρ 0) c = true → post 1 u := fun e => by rw [e] at h; exact h
  refine ⟨fun a => ye (by simp [sgB, a]), fun a => ⟨fun b => no (by simp [sgB, a, b]), fun b => ?_⟩⟩
  exact c2_colours hv hu ⟨fun d => no (by simp [sgB, a, d]), fun d => ye (by simp [sgB, b, d])⟩
theorem c2_fits (hv : pgV L ρ) (hu : pgX L ρ u) {p K : Nat} (hp : p < 60) (hK : K ≤ 10) (h : post (if ftB (ca L ρ) K p then 1 else 0) u) : wX2_fits (nI p) (nI (2 + K)) u post := by
  have no : ftB (ca L ρ) K p = false → post 0 u := fun e => by rw [e] at h; exact h
  have ye : ftB (ca L ρ) K p = true → post 1 u := fun e => by rw [e] at h; exact h
  refine c2_codeAt hv hu (by omega) ?_
  have e2 : nI (2 + K) - (2 : Int32) = nI K := by rw [show (2 : Int32) = nI 2 from rfl, pk_sub (by omega), Nat.add_sub_cancel_left]
  rw [e2, nI_add]
  refine ⟨fun h0 => ?_, fun h0 => ?_⟩
  · have p0 : ¬ p = 0 := fun z => h0 (by rw [z]; rfl)
    refine ⟨fun h1 => ?_, fun h1 => ?_⟩
    · have p2 : 2 ≤ p := (nI_leI (a := 2) (by omega) (by omega)).mp h1
      refine ⟨fun h2 => ?_, fun h2 => ?_⟩
      · have p3 : 2 + K ≤ p := (nI_leI (by omega) (by omega)).mp h2
        refine ⟨fun h3 => ?_, fun h3 => ?_⟩
        · have p4 : ¬ p = 2 + K := fun z => h3 (by rw [z])
          have eF : ftB (ca L ρ) K p = (decide (p ≤ 2 + K + K) && sgB (ca L ρ 0) (ca L ρ p)) := by
            unfold ftB
            rw [if_neg p0, if_neg (by omega), if_neg (by omega), if_neg p4]
          rw [eF] at no ye
          refine ⟨fun h4 => ?_, fun h4 => ?_⟩
          · have p5 : 2 + K + K < p := (nI_ltI (by omega) (by omega)).mp h4
            exact no (by rw [decide_eq_false (by omega)]; rfl)
          · have p5 : p ≤ 2 + K + K := by
              apply Classical.byContradiction
              intro z
              exact h4 ((nI_ltI (by omega) (by omega)).mpr (by omega))
            rw [decide_eq_true p5, Bool.true_and] at no ye
            refine c2_isSign hv hu ?_
            cases hq : sgB (ca L ρ 0) (ca L ρ p) with
            | true => exact br_f (by decide) (ye hq)
            | false => exact br_t rfl (no hq)
        · have p4 : p = 2 + K := (nI_eq (by omega) (by omega)).mp h3
          have eF : ftB (ca L ρ) K p = (ca L ρ p == 59 && decide (4 ≤ K)) := by
            unfold ftB
            rw [if_neg p0, if_neg (by omega), if_neg (by omega), if_pos p4]
          rw [eF] at no ye
          refine ⟨fun h4 => no (by simp [h4]), fun h4 => ⟨fun h5 => ?_, fun h5 => ?_⟩⟩
          · have := (nI_ltI (b := 4) (by omega) (by omega)).mp h5
            exact no (by rw [decide_eq_false (by omega), Bool.and_false])
          · have : 4 ≤ K := by
              apply Classical.byContradiction
              intro z
              exact h5 ((nI_ltI (b := 4) (by omega) (by omega)).mpr (by omega))
            exact ye (by rw [decide_eq_true this, h4]; rfl)
      · have p3 : ¬ 2 + K ≤ p := fun z => h2 (nI_le z (by omega))
        refine ye ?_
        unfold ftB
        rw [if_neg p0, if_neg (by omega), if_pos (by omega)]
    · have p2 : ¬ 2 ≤ p := fun z => h1 (nI_le (a := 2) z (by omega))
      have eF : ftB (ca L ρ) K p = (ca L ρ p == 59) := by
        unfold ftB
        rw [if_neg p0, if_pos (by omega)]
      rw [eF] at no ye
      exact ⟨fun h4 => no (by simpa using h4), fun h4 => ye (by simpa using h4)⟩
  · have p0 : p = 0 := (nI_eq (b := 0) (by omega) (by omega)).mp h0
    subst p0
    have eF : ftB (ca L ρ) K 0 = (ca L ρ 0 == 50 || ca L ρ 0 == 51) := by
      unfold ftB
      rw [if_pos rfl]
    rw [eF] at no ye
    exact ⟨fun h4 => ye (by simp [h4]), fun h4 => ⟨fun h5 => no (by simp [h4, h5]), fun h5 => ye (by simp [h5])⟩⟩
theorem c2_fault_loop (hv : pgV L ρ) (hu : pgX L ρ u) {Kn : Nat} (hKn : Kn ≤ 10) {K : Int32 → SS → Prop} : ∀ (j k : Nat), k + j = L → K (nI (ktF (ftB (ca L ρ) Kn) j k)) u → wX2_firstFault_9 post (nI (2 + Kn)) K (j + 1) (nI k) u := by
  have hL := hv.1
  intro j
  induction j with
  | zero =>
    intro k hk h
    have : k = L := by omega
    subst this
    refine br_t ?_ h
    rw [hu.1]
    exact nI_le (Nat.le_refl _) (by omega)
  | succ j ih =>
    intro k hk h
    rw [ktF] at h
    rw [wX2_firstFault_9, hu.1, nI_1]
    refine br_f (fun z => absurd ((nI_leI (by omega) (by omega)).mp z) (by omega)) ?_
    refine c2_fits hv hu (by omega) hKn ?_
    cases hq : ftB (ca L ρ) Kn k with
    | true =>
      rw [hq] at h
      exact br_f (by decide) (ih (k + 1) (by omega) h)
    | false =>
      rw [hq] at h
      exact br_t rfl h
theorem c2_fault (hv : pgV L ρ) (hu : pgX L ρ u) (h : post (nI (rd L ρ)) u) : wX2_firstFault u post := by
  refine c2_told hv hu ⟨L + 1, ?_⟩
  rw [show (2 : Int32) = nI 2 from rfl, nI_add]
  exact c2_fault_loop hv hu (kt_le _) L 0 (by omega) h
/-- the page is a board -/
def isB (L : Nat) (ρ : Nat → Int32) : Prop := L = 3 + 2 * kt (ca L ρ) ∧ rd L ρ = L
theorem rd_le (L : Nat) (ρ : Nat → Int32) : rd L ρ ≤ L := by
  have := (ktF_sp (ftB (ca L ρ) (kt (ca L ρ))) L 0).2.1
  unfold rd
  omega
theorem c2_isBoard (hv : pgV L ρ) (hu : pgX L ρ u) (h1 : isB L ρ → post 1 u) (h0 : ¬ isB L ρ → post 0 u) : wX2_isBoard u post := by
  have hL := hv.1
  have hk := kt_le (ca L ρ)
  have hr := rd_le L ρ
  refine c2_told hv hu ?_
  have e : ((2 : Int32) + ((2 : Int32) * nI (kt (ca L ρ)))) + (1 : Int32) = nI (3 + 2 * kt (ca L ρ)) := by
    rw [show (2 : Int32) = nI 2 from rfl, pk_mul, nI_add, nI_1]
    congr 1
    omega
  rw [e, hu.1]
  refine ⟨fun q => h0 (fun z => q (by rw [← z.1])), fun q => ?_⟩
  have q2 := (nI_eq (by omega) (by omega)).mp q
  refine c2_fault hv hu ?_
  rw [hu.1]
  exact ⟨fun z => h0 (fun y => z (by rw [y.2])), fun z => h1 ⟨q2, (nI_eq (by omega) (by omega)).mp z⟩⟩
end CPAGE
