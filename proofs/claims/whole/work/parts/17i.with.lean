/-! the bad threes of a number -/
def bo (κ p : Nat → Int32) (n : Nat) : Nat → Nat → Nat
  | 0, _ => 0
  | j + 1, o => (if badB κ p n o then 1 else 0) + bo κ p n j (o + 1)
theorem bo_le (κ p : Nat → Int32) (n : Nat) : ∀ (j o : Nat), bo κ p n j o ≤ j := by
  intro j
  induction j with
  | zero => intro o; exact Nat.le_refl _
  | succ j ih =>
    intro o
    have := ih (o + 1)
    rw [bo]
    split <;> omega
def bw (κ p : Nat → Int32) (N n : Nat) : Nat := bsum κ p n + bo κ p n (N - n) 1
theorem beq_cm (x y : Int32) : (x == y) = (y == x) := by
  by_cases h : x = y
  · rw [h]
  · have h1 : (x == y) = false := by simpa using h
    have h2 : (y == x) = false := by simpa using fun z => h z.symm
    rw [h1, h2]
theorem badB_cm (κ p : Nat → Int32) (a b : Nat) : badB κ p a b = badB κ p b a := by
  unfold badB
  rw [Nat.add_comm b a]
  by_cases h : p a = p b
  · rw [h, show (a == b) = (b == a) from Bool.eq_iff_iff.mpr (by simp; exact ⟨fun z => z.symm, fun z => z.symm⟩)]
    cases pt (κ a) <;> cases pt (κ b) <;> simp
  · have h1 : (p a == p b) = false := by simpa using h
    have h2 : (p b == p a) = false := by simpa using fun z => h z.symm
    rw [h1, h2]
    simp
theorem c0_with_loop {κ p : Nat → Int32} {u : SS} {j n N : Nat} (hN : u.1 3 = nI N) (hk : ag (u.2.2 1) κ N) (hp : ag (u.2.2 j) p N) (hv : kv5 κ N) (hj : xlen j = 11) (h1 : 1 ≤ n) (hn : n ≤ N) (h10 : N ≤ 10) {post : Int32 → SS → Prop} {K : Int32 → Int32 → SS → Prop} : ∀ (i o m : Nat), 1 ≤ o → o + i = N - n + 1 → K (nI (m + bo κ p n i o)) (nI (o + i)) u → wX0_badWith_10 post j (nI n) K (i + 1) (nI m) (nI o) u := by
  intro i
  induction i with
  | zero =>
    intro o m g1 g2 h
    refine br_t ?_ h
    rw [hN, pk_sub (by omega)]
    exact (nI_ltI (by omega) (by omega)).mpr (by omega)
  | succ i ih =>
    intro o m g1 g2 h
    rw [wX0_badWith_10, hN, pk_sub (by omega), nI_1 m, nI_1 o, show nI m + (0 : Int32) = nI (m + 0) from nI_add m 0]
    refine br_f (fun z => absurd ((nI_ltI (by omega) (by omega)).mp z) (by omega)) ?_
    refine c0_isBad hk hp hv hj h1 g1 (n := N) (by omega) h10 ?_
    rw [bo] at h
    by_cases hb : badB κ p n o = true
    · rw [if_pos hb] at h ⊢
      refine br_f (by decide) ?_
      exact ih (o + 1) (m + 1) (by omega) (by omega) (by rw [Nat.add_assoc m 1, show o + 1 + i = o + (i + 1) by omega]; exact h)
    · rw [if_neg hb] at h ⊢
      refine br_t rfl ?_
      exact ih (o + 1) (m + 0) (by omega) (by omega) (by rw [Nat.add_assoc m 0, show o + 1 + i = o + (i + 1) by omega]; exact h)
theorem c0_badWith {κ p : Nat → Int32} {u : SS} {j n N : Nat} (hN : u.1 3 = nI N) (hk : ag (u.2.2 1) κ N) (hp : ag (u.2.2 j) p N) (hv : kv5 κ N) (hj : xlen j = 11) (h1 : 1 ≤ n) (hn : n ≤ N) (h10 : N ≤ 10) {post : Int32 → SS → Prop} (h : post (nI (bw κ p N n)) u) : wX0_badWith j (nI n) u post := by
  refine c0_badWithSum hk hp hv hj h1 hn h10 ⟨N - n + 1, ?_⟩
  exact c0_with_loop hN hk hp hv hj h1 hn h10 (N - n) 1 (bsum κ p n) (by omega) (by omega) h
theorem p5_of_loop {κ p : Nat → Int32} {v : SS} {n N : Nat} (hN : v.1 1 = nI N) (hk : ag (v.2.2 0) κ N) (hp : ag (v.2.2 6) p N) (h1 : 1 ≤ n) (hn : n ≤ N) (h10 : N ≤ 10) {post : Int32 → SS → Prop} {K : Int32 → Int32 → SS → Prop} : ∀ (i o m : Nat), 1 ≤ o → o + i = N - n + 1 → K (nI (m + bo κ p n i o)) (nI (N + 1)) v → wX5_badOf_14 post (nI n) K (i + 1) (nI m) (nI (n + o)) v := by
  intro i
  induction i with
  | zero =>
    intro o m g1 g2 h
    have : n + o = N + 1 := by omega
    rw [this]
    refine br_t ?_ h
    rw [hN]
    exact (nI_ltI (by omega) (by omega)).mpr (by omega)
  | succ i ih =>
    intro o m g1 g2 h
    rw [wX5_badOf_14, hN, pk_sub (show n ≤ n + o by omega), Nat.add_sub_cancel_left, nI_1 m, nI_1 (n + o), show nI m + (0 : Int32) = nI (m + 0) from nI_add m 0]
    rw [bo] at h
    have go : ∀ (r : Int32), r = (if badB κ p n o then 1 else 0) → (r = 0 → wX5_badOf_14 post (nI n) K (i + 1) (nI (m + 0)) (nI (n + o + 1)) v) ∧ (¬ r = 0 → wX5_badOf_14 post (nI n) K (i + 1) (nI (m + 1)) (nI (n + o + 1)) v) := fun r hr => by
      rw [hr]
      by_cases hb : badB κ p n o = true
      · rw [if_pos hb] at h ⊢
        refine br_f (by decide) ?_
        exact ih (o + 1) (m + 1) (by omega) (by omega) (by rw [Nat.add_assoc m 1]; exact h)
      · rw [if_neg hb] at h ⊢
        refine br_t rfl ?_
        exact ih (o + 1) (m + 0) (by omega) (by omega) (by rw [Nat.add_assoc m 0]; exact h)
    refine br_f (fun z => absurd ((nI_ltI (by omega) (by omega)).mp z) (by omega)) ?_
    by_cases q : o ≤ n
    · have q2 : nI o ≤ nI n := (nI_leI (by omega) (by omega)).mpr q
      refine br_t q2 (br_t q2 ?_)
      exact p5_isBad hk hp g1 h1 (n := N) (by omega) h10 (go _ (by rw [badB_cm]))
    · have q2 : ¬ nI o ≤ nI n := fun z => q ((nI_leI (by omega) (by omega)).mp z)
      refine br_f q2 (br_f q2 ?_)
      exact p5_isBad hk hp h1 g1 (n := N) (by omega) h10 (go _ rfl)
theorem p5_badOf {κ τ : Nat → Int32} {v : SS} {n N : Nat} (hN : v.1 1 = nI N) (hk : ag (v.2.2 0) κ N) (hτ : ag (v.2.2 1) τ N) (h1 : 1 ≤ n) (hn : n ≤ N) (h10 : N ≤ 10) {post : Int32 → SS → Prop} (h : ∀ F, post (nI (bw κ τ N n)) (sR v 6 F)) : wX5_badOf (nI n) v post := by
  obtain ⟨g, hg, hw⟩ := p5_layNow (v := v) hN h10
  have hg2 : ag g τ N := fun k a b => by
    rw [hg k a (by omega)]
    unfold tz
    rw [if_pos b]
    exact hτ k a b
  refine hw _ ?_
  refine p5_badWith (v := sR v 6 g) (κ := κ) (p := τ) (n := N) hk (by rw [sR_at]; exact hg2) hn h10 ⟨N - n + 1, ?_⟩
  rw [nI_1]
  exact p5_of_loop (v := sR v 6 g) hN hk (by rw [sR_at]; exact hg2) h1 hn h10 (N - n) 1 (bsum κ τ n) (by omega) (by omega) (h g)
theorem p5_badNow {κ τ : Nat → Int32} {v : SS} {N : Nat} (hN : v.1 1 = nI N) (hk : ag (v.2.2 0) κ N) (hτ : ag (v.2.2 1) τ N) (h10 : N ≤ 10) {post : Int32 → SS → Prop} (h : ∀ F, post (nI (bad κ τ N)) (sR v 6 F)) : wX5_badNow v post := by
  obtain ⟨g, hg, hw⟩ := p5_layNow (v := v) hN h10
  have hg2 : ag g τ N := fun k a b => by
    rw [hg k a (by omega)]
    unfold tz
    rw [if_pos b]
    exact hτ k a b
  refine hw _ ?_
  rw [show (sR v 6 g).1 1 = nI N from hN]
  exact p5_badUpTo (v := sR v 6 g) hk (by rw [sR_at]; exact hg2) h10 (h g)
/-! a new colour makes only threes of its number bad -/
theorem bfrom_z (κ p : Nat → Int32) (s : Nat) : ∀ (j a : Nat), bfrom κ p s a j = 0 ↔ ∀ x, a ≤ x → x < a + j → badB κ p x (s - x) = false := by
  intro j
  induction j with
  | zero => intro a; exact ⟨fun _ x h1 h2 => by omega, fun _ => rfl⟩
  | succ j ih =>
    intro a
    rw [bfrom]
    have h := ih (a + 1)
    by_cases hb : badB κ p a (s - a) = true
    · rw [if_pos hb]
      constructor
      · intro z; omega
      · intro z
        have := z a (Nat.le_refl _) (by omega)
        rw [hb] at this
        exact absurd this (by decide)
    · rw [if_neg hb, Nat.zero_add, h]
      constructor
      · intro z x h1 h2
        by_cases e : x = a
        · subst e; simpa using hb
        · exact z x (by omega) (by omega)
      · intro z x h1 h2
        exact z x (by omega) (by omega)
theorem bsum_z (κ p : Nat → Int32) (s : Nat) : bsum κ p s = 0 ↔ ∀ x, 1 ≤ x → x + x ≤ s → badB κ p x (s - x) = false := by
  unfold bsum
  rw [bfrom_z]
  exact ⟨fun h x a b => h x a (by omega), fun h x a b => h x a (by omega)⟩
theorem bo_z (κ p : Nat → Int32) (n : Nat) : ∀ (j o : Nat), bo κ p n j o = 0 ↔ ∀ x, o ≤ x → x < o + j → badB κ p n x = false := by
  intro j
  induction j with
  | zero => intro o; exact ⟨fun _ x h1 h2 => by omega, fun _ => rfl⟩
  | succ j ih =>
    intro o
    rw [bo]
    have h := ih (o + 1)
    by_cases hb : badB κ p n o = true
    · rw [if_pos hb]
      constructor
      · intro z; omega
      · intro z
        have := z o (Nat.le_refl _) (by omega)
        rw [hb] at this
        exact absurd this (by decide)
    · rw [if_neg hb, Nat.zero_add, h]
      constructor
      · intro z x h1 h2
        by_cases e : x = o
        · subst e; simpa using hb
        · exact z x (by omega) (by omega)
      · intro z x h1 h2
        exact z x (by omega) (by omega)
theorem ball_z (κ p : Nat → Int32) : ∀ (j s : Nat), ball κ p s j = 0 ↔ ∀ x, s ≤ x → x < s + j → bsum κ p x = 0 := by
  intro j
  induction j with
  | zero => intro s; exact ⟨fun _ x h1 h2 => by omega, fun _ => rfl⟩
  | succ j ih =>
    intro s
    rw [ball]
    have h := ih (s + 1)
    constructor
    · intro z x h1 h2
      by_cases e : x = s
      · subst e; omega
      · exact h.mp (by omega) x (by omega) (by omega)
    · intro z
      have h1 := z s (Nat.le_refl _) (by omega)
      have h2 := h.mpr (fun x a b => z x (by omega) (by omega))
      omega
theorem bad_z (κ p : Nat → Int32) (N : Nat) : bad κ p N = 0 ↔ ∀ a b, 1 ≤ a → a ≤ b → a + b ≤ N → badB κ p a b = false := by
  unfold bad
  rw [ball_z]
  constructor
  · intro h a b h1 h2 h3
    have := (bsum_z κ p (a + b)).mp (h (a + b) (by omega) (by omega)) a h1 (by omega)
    rw [Nat.add_sub_cancel_left] at this
    exact this
  · intro h x h1 h2
    refine (bsum_z κ p x).mpr (fun a h3 h4 => ?_)
    exact h a (x - a) h3 (by omega) (by omega)
theorem bw_z (κ p : Nat → Int32) (N n : Nat) (h1 : 1 ≤ n) (hn : n ≤ N) : bw κ p N n = 0 ↔ (∀ x, 1 ≤ x → x + x ≤ n → badB κ p x (n - x) = false) ∧ ∀ x, 1 ≤ x → n + x ≤ N → badB κ p n x = false := by
  unfold bw
  have a := bsum_z κ p n
  have b := bo_z κ p n (N - n) 1
  constructor
  · intro h
    exact ⟨a.mp (by omega), fun x h1 h2 => b.mp (by omega) x h1 (by omega)⟩
  · rintro ⟨h, g⟩
    have h3 := a.mpr h
    have h4 := b.mpr (fun x h1 h2 => g x h1 (by omega))
    omega
theorem bad_new {κ p : Nat → Int32} {N n : Nat} {x : Int32} (h1 : 1 ≤ n) (hn : n ≤ N) (h0 : bad κ p N = 0) : bad κ (upd p n x) N = 0 ↔ bw κ (upd p n x) N n = 0 := by
  rw [bad_z, bw_z _ _ _ _ h1 hn]
  rw [bad_z] at h0
  constructor
  · intro h
    refine ⟨fun y a b => h y (n - y) a (by omega) (by omega), fun y a b => ?_⟩
    by_cases q : n ≤ y
    · exact h n y h1 q b
    · rw [badB_cm]
      exact h y n a (by omega) (by omega)
  · rintro ⟨h, g⟩ a b ha hab hN
    by_cases e1 : a = n
    · subst e1
      exact g b (by omega) hN
    · by_cases e2 : b = n
      · subst e2
        rw [badB_cm]
        exact g a ha (by omega)
      · by_cases e3 : a + b = n
        · have := h a ha (by omega)
          rw [show n - a = b by omega] at this
          exact this
        · rw [← h0 a b ha hab hN]
          unfold badB
          rw [pk_un e1, pk_un e2, pk_un e3]
