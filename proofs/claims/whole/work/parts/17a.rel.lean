/-! what both states say: the relation that every step keeps -/
theorem bn_t {c A B : Prop} (h : c) (b : B) : (¬ c → A) ∧ (c → B) := ⟨fun n => absurd h n, fun _ => b⟩
theorem bn_f {c A B : Prop} (h : ¬ c) (a : A) : (¬ c → A) ∧ (c → B) := ⟨fun _ => a, fun y => absurd y h⟩
def KT (C : Nat) (x y : Int32) : Prop := (∃ t : Nat, t < 5 ∧ x = nI t) ∧ (y = -1 ∨ ∃ c : Nat, c < C ∧ y = nI c)
def SnV (r c : Int32) : Prop := (∃ t : Nat, t < 3 ∧ r = nI t) ∧ (c = 0 ∨ c = 1)
def PgR (u v : SS) : Prop := ∃ L : Nat, L ≤ 26 ∧ u.1 2 = nI L ∧ v.1 5 = nI L ∧ ∀ k : Nat, k < L → u.2.2 0 k = v.2.2 5 k ∧ ∃ c : Nat, 32 ≤ c ∧ c ≤ 126 ∧ v.2.2 5 k = nI c
def BdR (u v : SS) (N C : Nat) : Prop := u.1 3 = nI N ∧ v.1 1 = nI N ∧ u.1 4 = nI C ∧ v.1 2 = nI C ∧ ((N = 0 ∧ C = 0) ∨ (4 ≤ N ∧ N ≤ 10 ∧ 2 ≤ C ∧ C ≤ 3)) ∧ ∀ k : Nat, 1 ≤ k → k ≤ N → KT C (u.2.2 1 k) (u.2.2 2 k) ∧ u.2.2 1 k = v.2.2 0 k ∧ u.2.2 2 k = v.2.2 1 k
def ChR (u v : SS) : Prop := ∃ c : Nat, c ≤ 999 ∧ u.1 5 = nI c ∧ v.1 3 = nI c
def SnR (u v : SS) : Prop := ∃ S : Nat, S ≤ 6 ∧ u.1 6 = nI S ∧ v.1 4 = nI S ∧ ∀ k : Nat, k < 6 → u.2.2 3 k = v.2.2 2 k ∧ u.2.2 4 k = v.2.2 3 k ∧ u.2.2 5 k = v.2.2 4 k ∧ SnV (v.2.2 3 k) (v.2.2 4 k)
def ImR (u v : SS) (N C : Nat) : Prop := (u.1 0 = 1 ∧ v.1 9 = 1 ∧ v.1 10 = v.1 0 ∧ u.1 12 = nI N ∧ u.1 13 = nI C ∧ (∃ c : Nat, c ≤ 999 ∧ u.1 14 = nI c ∧ v.1 11 = nI c) ∧ (∃ S : Nat, S ≤ 6 ∧ u.1 15 = nI S ∧ v.1 12 = nI S) ∧ (∀ k : Nat, 1 ≤ k → k ≤ N → KT C (u.2.2 8 k) (u.2.2 9 k) ∧ u.2.2 8 k = v.2.2 13 k ∧ u.2.2 9 k = v.2.2 14 k) ∧ ∀ k : Nat, k < 6 → u.2.2 10 k = v.2.2 15 k ∧ u.2.2 11 k = v.2.2 16 k ∧ u.2.2 12 k = v.2.2 17 k ∧ SnV (v.2.2 16 k) (v.2.2 17 k)) ∨ (u.1 0 = 0 ∧ (v.1 9 = 0 ∨ ¬ v.1 10 = v.1 0))
def CtR (u v : SS) (n : Nat) : Prop := ∃ B : Nat, B ≤ n ∧ u.1 1 = nI B ∧ v.1 0 = nI B ∧ (∃ K : Nat, K ≤ B ∧ v.1 10 = nI K) ∧ (v.1 9 = 0 ∨ v.1 9 = 1)
/-- what both show -/
def RV (u v : SS) (n : Nat) : Prop := ∃ N C : Nat, BdR u v N C ∧ PgR u v ∧ ChR u v ∧ SnR u v ∧ CtR u v n ∧ ImR u v N C
/-- the fields that calls show, of the class: equal; of the reference: equal -/
def XEq (u w : SS) : Prop := (∀ i : Nat, i < 7 ∨ (12 ≤ i ∧ i < 16) → w.1 i = u.1 i) ∧ ∀ j : Nat, j < 6 ∨ (8 ≤ j ∧ j < 13) → w.2.2 j = u.2.2 j
def MEq (v w : SS) : Prop := (∀ i : Nat, i < 6 ∨ (9 ≤ i ∧ i < 13) → w.1 i = v.1 i) ∧ ∀ j : Nat, j < 6 ∨ (13 ≤ j ∧ j < 18) → w.2.2 j = v.2.2 j
theorem XEq.rf (u : SS) : XEq u u := ⟨fun _ _ => rfl, fun _ _ => rfl⟩
theorem MEq.rf (u : SS) : MEq u u := ⟨fun _ _ => rfl, fun _ _ => rfl⟩
theorem XEq.tr {a b c : SS} (h : XEq a b) (g : XEq b c) : XEq a c := ⟨fun i hi => (g.1 i hi).trans (h.1 i hi), fun j hj => (g.2 j hj).trans (h.2 j hj)⟩
theorem MEq.tr {a b c : SS} (h : MEq a b) (g : MEq b c) : MEq a c := ⟨fun i hi => (g.1 i hi).trans (h.1 i hi), fun j hj => (g.2 j hj).trans (h.2 j hj)⟩
theorem RV.eq {u v w z : SS} {n : Nat} (h : RV u v n) (hx : XEq u w) (hm : MEq v z) : RV w z n := by
  obtain ⟨N, C, hB, hP, hC, hS, hT, hI⟩ := h
  have x := fun i hi => hx.1 i hi
  have y := fun j hj => hx.2 j hj
  have a := fun i hi => hm.1 i hi
  have b := fun j hj => hm.2 j hj
  refine ⟨N, C, ?_, ?_, ?_, ?_, ?_, ?_⟩
  · unfold BdR at hB ⊢
    rw [x 3 (by omega), x 4 (by omega), y 1 (by omega), y 2 (by omega), a 1 (by omega), a 2 (by omega), b 0 (by omega), b 1 (by omega)]
    exact hB
  · unfold PgR at hP ⊢
    rw [x 2 (by omega), y 0 (by omega), a 5 (by omega), b 5 (by omega)]
    exact hP
  · unfold ChR at hC ⊢
    rw [x 5 (by omega), a 3 (by omega)]
    exact hC
  · unfold SnR at hS ⊢
    rw [x 6 (by omega), y 3 (by omega), y 4 (by omega), y 5 (by omega), a 4 (by omega), b 2 (by omega), b 3 (by omega), b 4 (by omega)]
    exact hS
  · unfold CtR at hT ⊢
    rw [x 1 (by omega), a 0 (by omega), a 10 (by omega), a 9 (by omega)]
    exact hT
  · unfold ImR at hI ⊢
    rw [x 0 (by omega), x 12 (by omega), x 13 (by omega), x 14 (by omega), x 15 (by omega), y 8 (by omega), y 9 (by omega), y 10 (by omega), y 11 (by omega), y 12 (by omega), a 9 (by omega), a 10 (by omega), a 0 (by omega), a 11 (by omega), a 12 (by omega), b 13 (by omega), b 14 (by omega), b 15 (by omega), b 16 (by omega), b 17 (by omega)]
    exact hI
theorem RV.next {u v : SS} {n : Nat} (h : RV u v n) : RV u v (n + 1) := by
  obtain ⟨N, C, hB, hP, hC, hS, ⟨B, h1, h2⟩, hI⟩ := h
  exact ⟨N, C, hB, hP, hC, hS, ⟨B, by omega, h2⟩, hI⟩
/-! bad threes -/
def pt (t : Int32) : Bool := !(t == 3) && !(t == 4)
def md (t : Int32) (ul : Bool) : Bool := t == 0 || t == 3 || (t == 1 && ul)
def badB (κ p : Nat → Int32) (a b : Nat) : Bool := !(p a == -1) && (p a == p b) && (p a == p (a + b)) && pt (κ a) && pt (κ b) && md (κ (a + b)) (!(a == b))
def bfrom (κ p : Nat → Int32) (s : Nat) : Nat → Nat → Nat
  | _, 0 => 0
  | a, j + 1 => (if badB κ p a (s - a) then 1 else 0) + bfrom κ p s (a + 1) j
def bsum (κ p : Nat → Int32) (s : Nat) : Nat := bfrom κ p s 1 (s / 2)
/-- both agree with these on 1 .. n -/
def ag (f g : Nat → Int32) (n : Nat) : Prop := ∀ k : Nat, 1 ≤ k → k ≤ n → f k = g k
theorem ag.le {f g : Nat → Int32} {n m : Nat} (h : ag f g n) (hm : m ≤ n) : ag f g m := fun k h1 h2 => h k h1 (by omega)
theorem badB_ag {κ κ2 p p2 : Nat → Int32} {a b n : Nat} (hk : ag κ κ2 n) (hp : ag p p2 n) (ha : 1 ≤ a) (hb : 1 ≤ b) (hn : a + b ≤ n) : badB κ p a b = badB κ2 p2 a b := by
  unfold badB
  rw [hk a ha (by omega), hk b hb (by omega), hk (a + b) (by omega) hn, hp a ha (by omega), hp b hb (by omega), hp (a + b) (by omega) hn]
theorem bfrom_ag {κ κ2 p p2 : Nat → Int32} {s n : Nat} (hk : ag κ κ2 n) (hp : ag p p2 n) (hs : s ≤ n) : ∀ (j a : Nat), 1 ≤ a → a + j ≤ s / 2 + 1 → bfrom κ p s a j = bfrom κ2 p2 s a j := by
  intro j
  induction j with
  | zero => intro a _ _; rfl
  | succ j ih =>
    intro a h1 h2
    rw [bfrom, bfrom, ih (a + 1) (by omega) (by omega), badB_ag hk hp h1 (b := s - a) (by omega) (by omega)]
theorem bsum_ag {κ κ2 p p2 : Nat → Int32} {s : Nat} (hk : ag κ κ2 s) (hp : ag p p2 s) : bsum κ p s = bsum κ2 p2 s := bfrom_ag hk hp (Nat.le_refl s) (s / 2) 1 (by omega) (by omega)
theorem bfrom_le (κ p : Nat → Int32) (s : Nat) : ∀ (j a : Nat), bfrom κ p s a j ≤ j := by
  intro j
  induction j with
  | zero => intro a; exact Nat.le_refl _
  | succ j ih =>
    intro a
    have := ih (a + 1)
    rw [bfrom]
    split <;> omega
theorem bsum_le (κ p : Nat → Int32) (s : Nat) : bsum κ p s ≤ s / 2 := bfrom_le κ p s (s / 2) 1
/-! the reference's way to them -/
theorem p5_isBad {κ p : Nat → Int32} {v : SS} {a b n : Nat} (hk : ag (v.2.2 0) κ n) (hp : ag (v.2.2 6) p n) (ha : 1 ≤ a) (hb : 1 ≤ b) (hn : a + b ≤ n) (h10 : n ≤ 10) {post : Int32 → SS → Prop} (h : post (if badB κ p a b then 1 else 0) v) : wX5_isBad (nI a) (nI b) v post := by
  have ia : vp_in (nI a) 11 := vp_in_nI (by omega) (by omega)
  have ib : vp_in (nI b) 11 := vp_in_nI (by omega) (by omega)
  have is : vp_in (nI a + nI b) 11 := by rw [nI_add]; exact vp_in_nI (by omega) (by omega)
  have ea : (nI a).toNatClampNeg = a := nI_clamp (by omega)
  have eb : (nI b).toNatClampNeg = b := nI_clamp (by omega)
  have es : (nI a + nI b).toNatClampNeg = a + b := by rw [nI_add]; exact nI_clamp (by omega)
  have eab : (nI a = nI b) ↔ (a = b) := nI_eq (by omega) (by omega)
  have k1 := hk a ha (by omega)
  have k2 := hk b hb (by omega)
  have k3 := hk (a + b) (by omega) hn
  have p1 := hp a ha (by omega)
  have p2 := hp b hb (by omega)
  have p3 := hp (a + b) (by omega) hn
  unfold wX5_isBad wX5_isPart wX5_minds
  rw [ea, eb, es, p1, p2, p3, k1]
  have no : badB κ p a b = false → post 0 v := fun e => by rw [e] at h; exact h
  have ye : badB κ p a b = true → post 1 v := fun e => by rw [e] at h; exact h
  refine ⟨ia, fun h1 => no (by simp [badB, h1]), fun h1 => ⟨ia, ib, fun h2 => no (by simp [badB, h2]), fun h2 => ⟨ia, is, fun h3 => no (by simp [badB, h3]), fun h3 => ⟨ia, ?_⟩⟩⟩⟩
  refine ⟨fun h4 => br_t rfl (no (by simp [badB, pt, h4])), fun h4 => ⟨fun h5 => br_t rfl (no (by simp [badB, pt, h5])), fun h5 => br_f (by decide) ⟨ib, ?_⟩⟩⟩
  rw [k2]
  refine ⟨fun h6 => br_t rfl (no (by simp [badB, pt, h6])), fun h6 => ⟨fun h7 => br_t rfl (no (by simp [badB, pt, h7])), fun h7 => br_f (by decide) ⟨is, ?_⟩⟩⟩
  rw [k3]
  have g1 : (p a == -1) = false := by simpa using h1
  have g2 : (p a == p b) = true := by simpa using h2
  have g3 : (p a == p (a + b)) = true := by simpa using h3
  have g4 : pt (κ a) = true := by simp [pt, h4, h5]
  have g5 : pt (κ b) = true := by simp [pt, h6, h7]
  have gg : badB κ p a b = md (κ (a + b)) (!(a == b)) := by unfold badB; rw [g1, g2, g3, g4, g5]; rfl
  refine ⟨fun h8 => ?_, fun h8 => ?_⟩
  · have h8 := eab.mp h8
    have e8 : (!(a == b)) = false := by simp [h8]
    rw [e8] at gg
    refine ⟨fun h9 => br_f (by decide) (ye (by rw [gg]; simp [md, h9])), fun h9 => ⟨fun h10 => br_f (by decide) (ye (by rw [gg]; simp [md, h10])), fun h10 => ⟨fun h11 => br_t rfl (no (by rw [gg]; simp [md, h9, h10, h11])), fun h11 => ⟨fun _ => br_t rfl (no (by rw [gg]; simp [md, h9, h10])), fun h12 => absurd rfl h12⟩⟩⟩⟩
  · have h8 : ¬ a = b := fun z => h8 (eab.mpr z)
    have e8 : (!(a == b)) = true := by simp [h8]
    rw [e8] at gg
    refine ⟨fun h9 => br_f (by decide) (ye (by rw [gg]; simp [md, h9])), fun h9 => ⟨fun h10 => br_f (by decide) (ye (by rw [gg]; simp [md, h10])), fun h10 => ⟨fun h11 => br_t rfl (no (by rw [gg]; simp [md, h9, h10, h11])), fun h11 => ⟨fun h12 => absurd h12 (by decide), fun _ => br_f (by decide) (ye (by rw [gg]; simp [md, h11]))⟩⟩⟩⟩
theorem p5_badWith_loop {κ p : Nat → Int32} {v : SS} {s n : Nat} (hk : ag (v.2.2 0) κ n) (hp : ag (v.2.2 6) p n) (hs : s ≤ n) (h10 : n ≤ 10) {post : Int32 → SS → Prop} {K : Int32 → Int32 → SS → Prop} : ∀ (j a m : Nat), 1 ≤ a → a + j = s / 2 + 1 → K (nI (m + bfrom κ p s a j)) (nI (a + j)) v → wX5_badWith_4 post (nI s) K (j + 1) (nI m) (nI a) v := by
  intro j
  induction j with
  | zero =>
    intro a m h1 h2 h
    refine br_t ?_ h
    rcases Nat.lt_or_ge s a with q | q
    · have : s = 0 := by omega
      subst this
      have : a = 1 := by omega
      subst this
      decide
    · rw [pk_sub (by omega)]
      exact (nI_ltI (by omega) (by omega)).mpr (by omega)
  | succ j ih =>
    intro a m h1 h2 h
    rw [wX5_badWith_4]
    rw [pk_sub (show a ≤ s by omega)]
    refine br_f (fun z => absurd ((nI_ltI (by omega) (by omega)).mp z) (by omega)) ?_
    refine p5_isBad hk hp h1 (by omega) (n := n) (by omega) h10 ?_
    rw [bfrom] at h
    by_cases hb : badB κ p a (s - a) = true
    · rw [if_pos hb] at h ⊢
      refine br_f (by decide) ?_
      rw [nI_1, show (1 : Int32) = nI 1 from rfl, nI_add]
      exact ih (a + 1) (m + 1) (by omega) (by omega) (by rw [show m + 1 + bfrom κ p s (a + 1) j = m + (1 + bfrom κ p s (a + 1) j) by omega, show a + 1 + j = a + (j + 1) by omega]; exact h)
    · rw [if_neg hb] at h ⊢
      refine br_t rfl ?_
      rw [nI_1, show (0 : Int32) = nI 0 from rfl, nI_add]
      exact ih (a + 1) (m + 0) (by omega) (by omega) (by rw [show m + 0 + bfrom κ p s (a + 1) j = m + (0 + bfrom κ p s (a + 1) j) by omega, show a + 1 + j = a + (j + 1) by omega]; exact h)
theorem p5_badWith {κ p : Nat → Int32} {v : SS} {s n : Nat} (hk : ag (v.2.2 0) κ n) (hp : ag (v.2.2 6) p n) (hs : s ≤ n) (h10 : n ≤ 10) {post : Int32 → SS → Prop} (h : post (nI (bsum κ p s)) v) : wX5_badWith (nI s) v post := by
  refine ⟨s / 2 + 1, ?_⟩
  exact p5_badWith_loop hk hp hs h10 (s / 2) 1 0 (by omega) (by omega) (by rw [Nat.zero_add]; exact h)
