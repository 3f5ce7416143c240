/-! the data that both states hold, and the relation -/
abbrev Dt : Type := (Nat → Int32) × (Nat → Int32) × (Nat → Int32) × (Nat → Int32) × (Nat → Int32) × (Nat → Int32) × Nat × Nat × Nat × Nat × Nat × Nat
abbrev Dt.κ (d : Dt) : Nat → Int32 := d.1
abbrev Dt.τ (d : Dt) : Nat → Int32 := d.2.1
abbrev Dt.f (d : Dt) : Nat → Int32 := d.2.2.1
abbrev Dt.g (d : Dt) : Nat → Int32 := d.2.2.2.1
abbrev Dt.h (d : Dt) : Nat → Int32 := d.2.2.2.2.1
abbrev Dt.ρ (d : Dt) : Nat → Int32 := d.2.2.2.2.2.1
abbrev Dt.N (d : Dt) : Nat := d.2.2.2.2.2.2.1
abbrev Dt.C (d : Dt) : Nat := d.2.2.2.2.2.2.2.1
abbrev Dt.S (d : Dt) : Nat := d.2.2.2.2.2.2.2.2.1
abbrev Dt.L (d : Dt) : Nat := d.2.2.2.2.2.2.2.2.2.1
abbrev Dt.ch (d : Dt) : Nat := d.2.2.2.2.2.2.2.2.2.2.1
abbrev Dt.bd (d : Dt) : Nat := d.2.2.2.2.2.2.2.2.2.2.2
def DV (d : Dt) : Prop := ((d.N = 0 ∧ d.C = 0) ∨ (4 ≤ d.N ∧ d.N ≤ 10 ∧ 2 ≤ d.C ∧ d.C ≤ 3)) ∧ kv5 d.κ d.N ∧ tv d.τ d.C d.N ∧ (∀ k, d.N < k → k ≤ 10 → d.τ k = -1) ∧ pgV d.L d.ρ ∧ d.S ≤ 6 ∧ (∀ k, k < 6 → SnV (d.g k) (d.h k)) ∧ d.ch ≤ 999 ∧ d.bd ≤ 600
def XD (d : Dt) (u : SS) : Prop := xB d.κ d.τ d.N d.C u ∧ pgX d.L d.ρ u ∧ u.1 5 = nI d.ch ∧ u.1 6 = nI d.S ∧ (∀ k, k < 6 → u.2.2 3 k = d.f k ∧ u.2.2 4 k = d.g k ∧ u.2.2 5 k = d.h k) ∧ u.1 1 = nI d.bd
def MD (d : Dt) (v : SS) : Prop := (v.1 1 = nI d.N ∧ v.1 2 = nI d.C ∧ ag (v.2.2 0) d.κ d.N ∧ ag (v.2.2 1) d.τ d.N) ∧ pgM d.L d.ρ v ∧ v.1 3 = nI d.ch ∧ v.1 4 = nI d.S ∧ (∀ k, k < 6 → v.2.2 2 k = d.f k ∧ v.2.2 3 k = d.g k ∧ v.2.2 4 k = d.h k) ∧ v.1 0 = nI d.bd
def CKd (d : Dt) (u : SS) : Prop := ¬ u.1 11 = 0 ∨ Kep d.κ d.τ d.N d.C u
def KpR (v : SS) (d : Dt) : Prop := (∃ K : Nat, K ≤ d.bd ∧ v.1 10 = nI K) ∧ (v.1 9 = 0 ∨ v.1 9 = 1)
def Rel (u v : SS) (n : Nat) : Prop := ∃ d : Dt, DV d ∧ XD d u ∧ MD d v ∧ CKd d u ∧ d.bd ≤ n ∧ KpR v d ∧ ImR u v d.N d.C
theorem XD.eq {d : Dt} {u w : SS} (h : XD d u) (e : XEq u w) : XD d w := by
  have x := fun i hi => e.1 i hi
  have y := fun j hj => e.2 j hj
  unfold XD xB pgX at h ⊢
  rw [x 1 (by omega), x 2 (by omega), x 3 (by omega), x 4 (by omega), x 5 (by omega), x 6 (by omega), y 0 (by omega), y 1 (by omega), y 2 (by omega), y 3 (by omega), y 4 (by omega), y 5 (by omega)]
  exact h
theorem MD.eq {d : Dt} {v w : SS} (h : MD d v) (e : MEq v w) : MD d w := by
  have x := fun i hi => e.1 i hi
  have y := fun j hj => e.2 j hj
  unfold MD pgM at h ⊢
  rw [x 0 (by omega), x 1 (by omega), x 2 (by omega), x 3 (by omega), x 4 (by omega), x 5 (by omega), y 0 (by omega), y 1 (by omega), y 2 (by omega), y 3 (by omega), y 4 (by omega), y 5 (by omega)]
  exact h
theorem KpR.eq {d : Dt} {v w : SS} (h : KpR v d) (e : MEq v w) : KpR w d := by
  unfold KpR at h ⊢
  rw [e.1 9 (by omega), e.1 10 (by omega)]
  exact h
theorem ImR_eq {u v w z : SS} {N C : Nat} (hI : ImR u v N C) (hx : XEq u w) (hm : MEq v z) : ImR w z N C := by
  have x := fun i hi => hx.1 i hi
  have y := fun j hj => hx.2 j hj
  have a := fun i hi => hm.1 i hi
  have b := fun j hj => hm.2 j hj
  unfold ImR at hI ⊢
  rw [x 0 (by omega), x 12 (by omega), x 13 (by omega), x 14 (by omega), x 15 (by omega), y 8 (by omega), y 9 (by omega), y 10 (by omega), y 11 (by omega), y 12 (by omega), a 9 (by omega), a 10 (by omega), a 0 (by omega), a 11 (by omega), a 12 (by omega), b 13 (by omega), b 14 (by omega), b 15 (by omega), b 16 (by omega), b 17 (by omega)]
  exact hI
theorem Rel.next {u v : SS} {n : Nat} (h : Rel u v n) : Rel u v (n + 1) := by
  obtain ⟨d, a, b, c, e, f, g⟩ := h
  exact ⟨d, a, b, c, e, by omega, g⟩
theorem rz {d : Dt} {u v w z : SS} {n : Nat} (hd : DV d) (hx : XD d u) (hm : MD d v) (hb : d.bd ≤ n) (hk : KpR v d) (hi : ImR u v d.N d.C) (ex : XEq u w) (hc : CKd d w) (em : MEq v z) : Rel w z (n + 1) := ⟨d, hd, hx.eq ex, hm.eq em, hc, by omega, hk.eq em, ImR_eq hi ex em⟩
theorem gl_X {u w : SS} (h : Gl u w) : XEq u w := ⟨fun i hi => h.1 i (by omega), fun j hj => h.2 j (by omega)⟩
theorem gm_X {u w : SS} (h : Gm u w) : XEq u w := ⟨fun i hi => h.1 i (by omega), fun j hj => h.2 j (by omega)⟩
theorem gl_C {d : Dt} {u w : SS} (h : Gl u w) (hc : CKd d u) : CKd d w := by
  unfold CKd Kep at hc ⊢
  rw [h.1 11 (by decide), h.1 7 (by decide), h.1 8 (by decide), h.2 7 (by decide)]
  exact hc
theorem gm_C {d : Dt} {u w : SS} (h : Gm u w) (hc : CKd d u) : CKd d w := by
  unfold CKd Kep at hc ⊢
  rw [h.1 11 (by decide), h.1 7 (by decide), h.1 8 (by decide), h.2 7 (by decide)]
  exact hc
theorem me_R6 (v : SS) (F : Nat → Int32) : MEq v (sR v 6 F) := ⟨fun _ _ => rfl, fun j hj => sR_ne _ _ (by omega)⟩
theorem gp_M {v w : SS} (h : Gp v w) : MEq v w := ⟨fun i _ => by rw [h.1], fun j hj => h.2 j (by omega)⟩
theorem rdv_M {v w : SS} (h : Rdv v w) : MEq v w := ⟨fun i hi => h.1 i (by omega) (by omega), fun j hj => by rw [h.2]⟩
/-! numbers, colours, ranges -/
def isNm (a : Int32) (N : Nat) : Prop := ∃ m : Nat, 1 ≤ m ∧ m ≤ N ∧ a = nI m
def isCl (a : Int32) (C : Nat) : Prop := ∃ c : Nat, c < C ∧ a = nI c
section RNG
variable {u : SS} {a : Int32} {post : Int32 → SS → Prop}
theorem nm_of {N : Nat} (h10 : N ≤ 10) (h1 : ¬ a < 1) (h2 : ¬ nI N < a) : isNm a N := by
  have h0 : ¬ a < 0 := fun z => h1 (Int32.lt_trans z (by decide))
  obtain ⟨j, hj, e⟩ := nI_of h0
  subst e
  refine ⟨j, ?_, ?_, rfl⟩
  · apply Classical.byContradiction
    intro z
    exact h1 ((nI_ltI (b := 1) (by omega) (by omega)).mpr (by omega))
  · apply Classical.byContradiction
    intro z
    exact h2 ((nI_ltI (by omega) (by omega)).mpr (by omega))
theorem nm_no {N : Nat} (h10 : N ≤ 10) (h : isNm a N) : ¬ a < 1 ∧ ¬ nI N < a := by
  obtain ⟨m, h1, h2, e⟩ := h
  subst e
  exact ⟨fun z => absurd ((nI_ltI (b := 1) (by omega) (by omega)).mp z) (by omega), fun z => absurd ((nI_ltI (by omega) (by omega)).mp z) (by omega)⟩
theorem c_hasN {N : Nat} (hN : u.1 3 = nI N) (h10 : N ≤ 10) (h1 : isNm a N → post 1 u) (h0 : ¬ isNm a N → post 0 u) : wX0_hasNumber a u post := by
  unfold wX0_hasNumber
  rw [hN]
  exact ⟨fun z => h0 (fun q => (nm_no h10 q).1 z), fun z => ⟨fun y => h0 (fun q => (nm_no h10 q).2 y), fun y => h1 (nm_of h10 z y)⟩⟩
theorem p_isN {N : Nat} (hN : u.1 1 = nI N) (h10 : N ≤ 10) (h1 : isNm a N → post 1 u) (h0 : ¬ isNm a N → post 0 u) : wX5_isNumber a u post := by
  unfold wX5_isNumber wX5_within
  rw [hN]
  exact ⟨fun z => ⟨rfl, h0 (fun q => (nm_no h10 q).1 z)⟩, fun z => ⟨fun y => ⟨rfl, h0 (fun q => (nm_no h10 q).2 y)⟩, fun y => ⟨rfl, h1 (nm_of h10 z y)⟩⟩⟩
theorem cl_of {C : Nat} (hC : C ≤ 3) (h1 : ¬ a < 0) (h2 : ¬ nI C ≤ a) : isCl a C := by
  obtain ⟨j, hj, e⟩ := nI_of h1
  subst e
  refine ⟨j, ?_, rfl⟩
  apply Classical.byContradiction
  intro z
  exact h2 (nI_le (by omega) hj)
theorem cl_no {C : Nat} (hC : C ≤ 3) (h : isCl a C) : ¬ a < 0 ∧ ¬ nI C ≤ a := by
  obtain ⟨m, h2, e⟩ := h
  subst e
  exact ⟨nI_pos (by omega), fun z => absurd ((nI_leI (by omega) (by omega)).mp z) (by omega)⟩
theorem c_hasC {C : Nat} (hC : u.1 4 = nI C) (h3 : C ≤ 3) (h1 : isCl a C → post 1 u) (h0 : ¬ isCl a C → post 0 u) : wX0_hasColour a u post := by
  unfold wX0_hasColour
  rw [hC]
  exact ⟨fun z => h0 (fun q => (cl_no h3 q).1 z), fun z => ⟨fun y => h0 (fun q => (cl_no h3 q).2 y), fun y => h1 (cl_of h3 z y)⟩⟩
theorem p_isC {C : Nat} (hC : u.1 2 = nI C) (hC1 : 1 ≤ C) (h3 : C ≤ 3) (h1 : isCl a C → post 1 u) (h0 : ¬ isCl a C → post 0 u) : wX5_isColour a u post := by
  unfold wX5_isColour wX5_within
  rw [hC, show (1 : Int32) = nI 1 from rfl, pk_sub hC1]
  refine ⟨fun z => ⟨rfl, h0 (fun q => (cl_no h3 q).1 z)⟩, fun z => ⟨fun y => ⟨rfl, h0 (fun q => ?_)⟩, fun y => ⟨rfl, h1 ?_⟩⟩⟩
  · obtain ⟨m, h2, e⟩ := q
    subst e
    have := (nI_ltI (by omega) (by omega)).mp y
    omega
  · obtain ⟨j, hj, e⟩ := nI_of z
    subst e
    refine ⟨j, ?_, rfl⟩
    apply Classical.byContradiction
    intro q
    exact y ((nI_ltI (by omega) (by omega)).mpr (by omega))
theorem p_rg {lo hi : Int32} (h1 : ¬ a < lo → ¬ hi < a → post 1 u) (h0 : a < lo ∨ hi < a → post 0 u) : wX5_within a lo hi u post :=
  ⟨fun z => h0 (Or.inl z), fun z => ⟨fun y => h0 (Or.inr y), fun y => h1 z y⟩⟩
theorem rg_of {hi : Nat} (hh : hi < 1000) (h1 : ¬ a < 0) (h2 : ¬ nI hi < a) : ∃ t : Nat, t ≤ hi ∧ a = nI t := by
  obtain ⟨j, hj, e⟩ := nI_of h1
  subst e
  refine ⟨j, ?_, rfl⟩
  apply Classical.byContradiction
  intro z
  exact h2 ((nI_ltI (by omega) hj).mpr (by omega))
end RNG
theorem le_nlt {a b : Int32} : a ≤ b ↔ ¬ b < a := by
  rw [Int32.le_iff_toInt_le, Int32.lt_iff_toInt_lt]
  omega
