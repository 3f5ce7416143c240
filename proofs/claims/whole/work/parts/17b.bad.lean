/-! the class's way to bad threes -/
theorem sR_self (v : SS) (j : Nat) : sR v j (v.2.2 j) = v := by
  have : va_up v.2.2 j (v.2.2 j) = v.2.2 := by
    funext k
    unfold va_up
    split
    · next h => rw [h]
    · rfl
  show (v.1, v.2.1, va_up v.2.2 j (v.2.2 j)) = v
  rw [this]
theorem sR_sR (v : SS) (j : Nat) (f g : Nat → Int32) : sR (sR v j f) j g = sR v j g := by
  show (v.1, v.2.1, va_up (va_up v.2.2 j f) j g) = _
  rw [bx_uu]
  rfl
theorem sR_at (v : SS) (j : Nat) (f : Nat → Int32) : (sR v j f).2.2 j = f := va_up_self v.2.2 j f
theorem sR_ne (v : SS) {j i : Nat} (f : Nat → Int32) (h : i ≠ j) : (sR v j f).2.2 i = v.2.2 i := va_up_ne v.2.2 f h
theorem sA_R (v : SS) (j k : Nat) (f : Nat → Int32) (x : Int32) : sA (sR v j f) j k x = sR v j (upd f k x) := by
  unfold sA
  rw [sR_at, sR_sR]
theorem ag.upd {f g : Nat → Int32} {n k : Nat} {x y : Int32} (h : ag f g n) (e : x = y) : ag (upd f k x) (upd g k y) n := fun i h1 h2 => by
  by_cases hi : i = k
  · subst hi; rw [pk_us, pk_us]; exact e
  · rw [pk_un hi, pk_un hi]; exact h i h1 h2
theorem ag.rf (f : Nat → Int32) (n : Nat) : ag f f n := fun _ _ _ => rfl
theorem ag.tr {f g h : Nat → Int32} {n : Nat} (a : ag f g n) (b : ag g h n) : ag f h n := fun k h1 h2 => (a k h1 h2).trans (b k h1 h2)
theorem ag.sy {f g : Nat → Int32} {n : Nat} (a : ag f g n) : ag g f n := fun k h1 h2 => (a k h1 h2).symm
theorem upd_upd (f : Nat → Int32) (k : Nat) (x y : Int32) : upd (upd f k x) k y = upd f k y := by
  funext i
  by_cases h : i = k
  · subst h; rw [pk_us, pk_us]
  · rw [pk_un h, pk_un h, pk_un h]
theorem upd_eq {f : Nat → Int32} {k : Nat} {x : Int32} (h : f k = x) : upd f k x = f := by
  funext i
  by_cases h2 : i = k
  · subst h2; rw [pk_us]; exact h.symm
  · rw [pk_un h2]
theorem atv_nI {n k : Nat} {f : Nat → Int32} (hk : k < n) (hn : n < 2 ^ 31) : atv n f (nI k) = f k := by
  unfold atv
  rw [if_neg (show ¬ (nI k < 0 ∨ n ≤ (nI k).toNatClampNeg) from vp_in_nI hk hn), nI_clamp (by omega)]
theorem xat_nI {u : SS} {j k : Nat} (hk : k < xlen j) : xat u j (nI k) = u.2.2 j k := atv_nI hk (xlen_lt j)
theorem xput_nI {u : SS} {j k : Nat} {x : Int32} (hk : k < xlen j) : xput u j (nI k) x = sA u j k x := by
  unfold xput
  rw [if_neg (show ¬ (nI k < 0 ∨ xlen j ≤ (nI k).toNatClampNeg) from vp_in_nI hk (xlen_lt j)), nI_clamp (by have := xlen_lt j; omega)]
theorem rl_1 : ∀ t : Nat, t < 5 → ((xrol (nI t) &&& 1) = 0 ↔ md (nI t) true = false) := by decide
theorem rl_2 : ∀ t : Nat, t < 5 → ((xrol (nI t) &&& 2) = 0 ↔ md (nI t) false = false) := by decide
theorem rl_3 : ∀ t : Nat, t < 5 → ((xrol (nI t) &&& 3) = 0 → md (nI t) true = false ∧ md (nI t) false = false) := by decide
theorem rl_4 : ∀ t : Nat, t < 5 → ∀ s : Nat, s < 5 → (((xrol (nI t) &&& xrol (nI s)) &&& 4) = 0 ↔ (pt (nI t) && pt (nI s)) = false) := by decide
def kv5 (κ : Nat → Int32) (n : Nat) : Prop := ∀ k : Nat, 1 ≤ k → k ≤ n → ∃ t : Nat, t < 5 ∧ κ k = nI t
theorem c0_isBad {κ p : Nat → Int32} {u : SS} {j a b n : Nat} (hk : ag (u.2.2 1) κ n) (hp : ag (u.2.2 j) p n) (hv : kv5 κ n) (hj : xlen j = 11) (ha : 1 ≤ a) (hb : 1 ≤ b) (hn : a + b ≤ n) (h10 : n ≤ 10) {post : Int32 → SS → Prop} (h : post (if badB κ p a b then 1 else 0) u) : wX0_isBad j (nI a) (nI b) u post := by
  have hl : xlen 1 = 11 := rfl
  unfold wX0_isBad
  rw [nI_add, xat_nI (j := j) (k := a + b) (by omega), xat_nI (j := j) (k := a) (by omega), xat_nI (j := j) (k := b) (by omega), xat_nI (j := 1) (k := a) (by omega), xat_nI (j := 1) (k := b) (by omega), xat_nI (j := 1) (k := a + b) (by omega), hp a ha (by omega), hp b hb (by omega), hp (a + b) (by omega) hn, hk a ha (by omega), hk b hb (by omega), hk (a + b) (by omega) hn]
  obtain ⟨ta, ta5, ea⟩ := hv a ha (by omega)
  obtain ⟨tb, tb5, eb⟩ := hv b hb (by omega)
  obtain ⟨ts, ts5, es⟩ := hv (a + b) (by omega) hn
  have no : badB κ p a b = false → post 0 u := fun e => by rw [e] at h; exact h
  have ye : badB κ p a b = true → post 1 u := fun e => by rw [e] at h; exact h
  refine ⟨fun h1 => no ?_, fun h1 => ⟨fun h2 => no ?_, fun h2 => ⟨fun h3 => ?_, fun h3 => no ?_⟩⟩⟩
  · unfold badB
    by_cases q : p a = p (a + b)
    · rw [q, h1]; rfl
    · have : (p a == p (a + b)) = false := by simpa using q
      rw [this]; simp
  · have : (p a == p (a + b)) = false := by simpa using fun z => h2 z.symm
    unfold badB
    rw [this]; simp
  · have g1 : (p a == -1) = false := by rw [← h2]; simpa using h1
    have g2 : (p a == p b) = true := by rw [← h2, ← h3]; simp
    have g3 : (p a == p (a + b)) = true := by rw [h2]; simp
    have gg : badB κ p a b = (pt (κ a) && pt (κ b) && md (κ (a + b)) (!(a == b))) := by unfold badB; rw [g1, g2, g3]; simp [Bool.and_assoc]
    rw [ea, eb, es] at gg ⊢
    refine ⟨fun h4 => no ?_, fun h4 => ?_⟩
    · rw [gg, (rl_4 ta ta5 tb tb5).mp h4]; rfl
    · have g4 : (pt (nI ta) && pt (nI tb)) = true := by
        cases hq : (pt (nI ta) && pt (nI tb)) with
        | true => rfl
        | false => exact absurd ((rl_4 ta ta5 tb tb5).mpr hq) h4
      rw [g4, Bool.true_and] at gg
      refine ⟨fun h5 => ?_, fun h5 => ?_⟩
      · have h5 : ¬ a = b := fun z => h5 (by rw [z])
        rw [show (!(a == b)) = true by simp [h5]] at gg
        refine ⟨fun h6 => no (by rw [gg]; exact (rl_1 ts ts5).mp h6), fun h6 => ye ?_⟩
        rw [gg]
        cases hq : md (nI ts) true with
        | true => rfl
        | false => exact absurd ((rl_1 ts ts5).mpr hq) h6
      · have h5 : a = b := (nI_eq (by omega) (by omega)).mp h5
        rw [show (!(a == b)) = false by simp [h5]] at gg
        refine ⟨fun h6 => no (by rw [gg]; exact (rl_2 ts ts5).mp h6), fun h6 => ye ?_⟩
        rw [gg]
        cases hq : md (nI ts) false with
        | true => rfl
        | false => exact absurd ((rl_2 ts ts5).mpr hq) h6
  · unfold badB
    by_cases q : p a = p b
    · have : (p a == p (a + b)) = false := by
        have : ¬ p a = p (a + b) := fun z => h3 (by rw [← z]; exact q)
        simpa using this
      rw [this]; simp
    · have : (p a == p b) = false := by simpa using q
      rw [this]; simp
theorem bfrom_0 {κ p : Nat → Int32} {s : Nat} (h1 : md (κ s) true = false) (h2 : md (κ s) false = false) : ∀ (j a : Nat), 1 ≤ a → a + j ≤ s / 2 + 1 → bfrom κ p s a j = 0 := by
  intro j
  induction j with
  | zero => intro a _ _; rfl
  | succ j ih =>
    intro a ha hj
    have e : badB κ p a (s - a) = false := by
      unfold badB
      rw [show a + (s - a) = s by omega]
      cases hq : !(a == s - a) with
      | true => rw [h1]; simp
      | false => rw [h2]; simp
    rw [bfrom, ih (a + 1) (by omega) (by omega), e]
    rfl
theorem c0_badWithSum_loop {κ p : Nat → Int32} {u : SS} {j s n : Nat} (hk : ag (u.2.2 1) κ n) (hp : ag (u.2.2 j) p n) (hv : kv5 κ n) (hj : xlen j = 11) (hs : s ≤ n) (h10 : n ≤ 10) {post : Int32 → SS → Prop} {K : Int32 → Int32 → SS → Prop} : ∀ (i a m : Nat), 1 ≤ a → a + i = s / 2 + 1 → K (nI (m + bfrom κ p s a i)) (nI (a + i)) u → wX0_badWithSum_26 post j (nI s) K (i + 1) (nI m) (nI a) u := by
  intro i
  induction i with
  | zero =>
    intro a m h1 h2 h
    refine br_t ?_ h
    rcases Nat.lt_or_ge s a with q | q
    · have : s = 0 := by omega
      subst this
      have : a = 1 := by omega
      subst this
      decide
    · rw [pk_sub (by omega)]
      exact (nI_ltI (by omega) (by omega)).mpr (by omega)
  | succ i ih =>
    intro a m h1 h2 h
    rw [wX0_badWithSum_26]
    rw [pk_sub (show a ≤ s by omega)]
    refine br_f (fun z => absurd ((nI_ltI (by omega) (by omega)).mp z) (by omega)) ?_
    refine c0_isBad hk hp hv hj h1 (by omega) (n := n) (by omega) h10 ?_
    rw [bfrom] at h
    by_cases hb : badB κ p a (s - a) = true
    · rw [if_pos hb] at h ⊢
      refine br_f (by decide) ?_
      rw [nI_1, show (1 : Int32) = nI 1 from rfl, nI_add]
      exact ih (a + 1) (m + 1) (by omega) (by omega) (by rw [show m + 1 + bfrom κ p s (a + 1) i = m + (1 + bfrom κ p s (a + 1) i) by omega, show a + 1 + i = a + (i + 1) by omega]; exact h)
    · rw [if_neg hb] at h ⊢
      refine br_t rfl ?_
      rw [nI_1, show (0 : Int32) = nI 0 from rfl, nI_add]
      exact ih (a + 1) (m + 0) (by omega) (by omega) (by rw [show m + 0 + bfrom κ p s (a + 1) i = m + (0 + bfrom κ p s (a + 1) i) by omega, show a + 1 + i = a + (i + 1) by omega]; exact h)
theorem c0_badWithSum {κ p : Nat → Int32} {u : SS} {j s n : Nat} (hk : ag (u.2.2 1) κ n) (hp : ag (u.2.2 j) p n) (hv : kv5 κ n) (hj : xlen j = 11) (h1 : 1 ≤ s) (hs : s ≤ n) (h10 : n ≤ 10) {post : Int32 → SS → Prop} (h : post (nI (bsum κ p s)) u) : wX0_badWithSum j (nI s) u post := by
  unfold wX0_badWithSum
  rw [xat_nI (j := 1) (k := s) (by show s < 11; omega), hk s h1 hs]
  obtain ⟨t, t5, et⟩ := hv s h1 hs
  refine ⟨fun _ => ⟨s / 2 + 1, ?_⟩, fun h0 => ?_⟩
  · exact c0_badWithSum_loop hk hp hv hj hs h10 (s / 2) 1 0 (by omega) (by omega) (by rw [Nat.zero_add]; exact h)
  · rw [et] at h0
    have hm := rl_3 t t5 h0
    rw [← et] at hm
    have : bsum κ p s = 0 := bfrom_0 hm.1 hm.2 (s / 2) 1 (by omega) (by omega)
    rw [this] at h
    exact h
/-- all of them -/
def ball (κ p : Nat → Int32) : Nat → Nat → Nat
  | _, 0 => 0
  | s, j + 1 => bsum κ p s + ball κ p (s + 1) j
def bad (κ p : Nat → Int32) (N : Nat) : Nat := ball κ p 1 N
theorem ball_le (κ p : Nat → Int32) : ∀ (j s : Nat), ball κ p s j ≤ j * (s + j) := by
  intro j
  induction j with
  | zero => intro s; exact Nat.zero_le _
  | succ j ih =>
    intro s
    have h1 := ih (s + 1)
    have h2 := bsum_le κ p s
    rw [ball]
    have h3 : (j + 1) * (s + (j + 1)) = j * (s + 1 + j) + (s + 1 + j) := by
      rw [show s + (j + 1) = s + 1 + j by omega, Nat.succ_mul]
    omega
theorem bad_le (κ p : Nat → Int32) {N : Nat} (h : N ≤ 10) : bad κ p N ≤ 200 := by
  have h1 := ball_le κ p N 1
  have h2 : N * (1 + N) ≤ 10 * 11 := Nat.mul_le_mul h (by omega)
  unfold bad
  omega
theorem c0_badThrees_loop {κ p : Nat → Int32} {u : SS} {j N : Nat} (hN : u.1 3 = nI N) (hk : ag (u.2.2 1) κ N) (hp : ag (u.2.2 j) p N) (hv : kv5 κ N) (hj : xlen j = 11) (h10 : N ≤ 10) {post : Int32 → SS → Prop} {K : Int32 → Int32 → SS → Prop} : ∀ (i s m : Nat), 1 ≤ s → s + i = N + 1 → K (nI (m + ball κ p s i)) (nI (s + i)) u → wX0_badThrees_4 post j K (i + 1) (nI m) (nI s) u := by
  intro i
  induction i with
  | zero =>
    intro s m h1 h2 h
    refine br_t ?_ h
    rw [hN]
    exact (nI_ltI (by omega) (by omega)).mpr (by omega)
  | succ i ih =>
    intro s m h1 h2 h
    rw [wX0_badThrees_4, hN]
    refine br_f (fun z => absurd ((nI_ltI (by omega) (by omega)).mp z) (by omega)) ?_
    refine c0_badWithSum hk hp hv hj h1 (by omega) h10 ?_
    rw [nI_1, nI_add]
    rw [ball] at h
    exact ih (s + 1) _ (by omega) (by omega) (by rw [Nat.add_assoc, show s + 1 + i = s + (i + 1) by omega]; exact h)
theorem c0_badThrees {κ p : Nat → Int32} {u : SS} {j N : Nat} (hN : u.1 3 = nI N) (hk : ag (u.2.2 1) κ N) (hp : ag (u.2.2 j) p N) (hv : kv5 κ N) (hj : xlen j = 11) (h10 : N ≤ 10) {post : Int32 → SS → Prop} (h : post (nI (bad κ p N)) u) : wX0_badThrees j u post :=
  ⟨N + 1, c0_badThrees_loop hN hk hp hv hj h10 N 1 0 (by omega) (by omega) (by rw [Nat.zero_add]; exact h)⟩
theorem p5_badUpTo_loop {κ p : Nat → Int32} {v : SS} {N : Nat} (hk : ag (v.2.2 0) κ N) (hp : ag (v.2.2 6) p N) (h10 : N ≤ 10) {post : Int32 → SS → Prop} {K : Int32 → Int32 → SS → Prop} : ∀ (i s m : Nat), 1 ≤ s → s + i = N + 1 ∨ (i = 0 ∧ N < s ∧ s ≤ 2) → K (nI (m + ball κ p s i)) (nI (s + i)) v → wX5_badUpTo_4 post (nI N) K (i + 1) (nI m) (nI s) v := by
  intro i
  induction i with
  | zero =>
    intro s m h1 h2 h
    exact br_t ((nI_ltI (by omega) (by omega)).mpr (by omega)) h
  | succ i ih =>
    intro s m h1 h2 h
    rw [wX5_badUpTo_4]
    refine br_f (fun z => absurd ((nI_ltI (by omega) (by omega)).mp z) (by omega)) ?_
    refine p5_badWith hk hp (by omega) h10 ?_
    rw [nI_1, nI_add]
    rw [ball] at h
    exact ih (s + 1) _ (by omega) (by omega) (by rw [Nat.add_assoc, show s + 1 + i = s + (i + 1) by omega]; exact h)
theorem bad_2 (κ p : Nat → Int32) (N : Nat) : bad κ p N = ball κ p 2 (N - 1) := by
  unfold bad
  cases N with
  | zero => rfl
  | succ N =>
    rw [ball, show bsum κ p 1 = 0 from rfl, Nat.zero_add]
    rfl
theorem p5_badUpTo {κ p : Nat → Int32} {v : SS} {N : Nat} (hk : ag (v.2.2 0) κ N) (hp : ag (v.2.2 6) p N) (h10 : N ≤ 10) {post : Int32 → SS → Prop} (h : post (nI (bad κ p N)) v) : wX5_badUpTo (nI N) v post := by
  refine ⟨N - 1 + 1, p5_badUpTo_loop hk hp h10 (N - 1) 2 0 (by omega) (by omega) ?_⟩
  rw [Nat.zero_add, ← bad_2]
  exact h
theorem bad_ag {κ κ2 p p2 : Nat → Int32} {N : Nat} (hk : ag κ κ2 N) (hp : ag p p2 N) : bad κ p N = bad κ2 p2 N := by
  have : ∀ (j s : Nat), 1 ≤ s → s + j ≤ N + 1 → ball κ p s j = ball κ2 p2 s j := by
    intro j
    induction j with
    | zero => intro s _ _; rfl
    | succ j ih =>
      intro s h1 h2
      rw [ball, ball, ih (s + 1) (by omega) (by omega), bsum_ag (hk.le (by omega)) (hp.le (by omega))]
  exact this N 1 (by omega) (by omega)
