/-! what was seen: the sorts left, and what to ask -/
def cdI (x r : Int32) : Bool := if r = 2 then pt x else md x (r == 0)
theorem rl_5 : ∀ t : Nat, t < 5 → ∀ r : Nat, r < 3 → ((xrol (nI t) &&& ((1 : Int32) <<< (nI r &&& 31))) = 0 ↔ cdI (nI t) (nI r) = false) := by decide
theorem p5_could {x r : Int32} {u : SS} {post : Int32 → SS → Prop} (h : post (if cdI x r then 1 else 0) u) : wX5_could x r u post := by
  unfold wX5_could wX5_minds wX5_isPart
  have n0 : narrow .boolean (.int 0) = .int 0 := rfl
  have n1 : narrow .boolean (.int 1) = .int 1 := rfl
  have no : cdI x r = false → post 0 u := fun e => by rw [e] at h; exact h
  have ye : cdI x r = true → post 1 u := fun e => by rw [e] at h; exact h
  refine ⟨fun h2 => ⟨fun h0 => ?_, fun h0 => ?_⟩, fun h2 => ?_⟩
  · have e0 : (r == 0) = false := by simpa using h0
    exact ⟨fun a => ⟨n1, ye (by simp [cdI, md, h2, a])⟩, fun a => ⟨fun b => ⟨n1, ye (by simp [cdI, md, h2, b])⟩, fun b => ⟨fun c => ⟨n0, no (by simp [cdI, md, h2, a, b, c])⟩, fun c => ⟨fun _ => ⟨n0, no (by simp [cdI, md, h2, a, b, e0])⟩, fun z => absurd rfl z⟩⟩⟩⟩
  · have e0 : (r == 0) = true := by simpa using h0
    exact ⟨fun a => ⟨n1, ye (by simp [cdI, md, h2, a])⟩, fun a => ⟨fun b => ⟨n1, ye (by simp [cdI, md, h2, b])⟩, fun b => ⟨fun c => ⟨n0, no (by simp [cdI, md, h2, a, b, c])⟩, fun c => ⟨fun z => absurd z (by decide), fun _ => ⟨n1, ye (by simp [cdI, md, h2, c, e0])⟩⟩⟩⟩⟩
  · exact ⟨fun a => ⟨n0, no (by simp [cdI, pt, h2, a])⟩, fun a => ⟨fun b => ⟨n0, no (by simp [cdI, pt, h2, b])⟩, fun b => ⟨n1, ye (by simp [cdI, pt, h2, a, b])⟩⟩⟩
theorem c4_role {t r : Nat} {u : SS} (ht : t < 5) (hr : r < 3) {post : Int32 → SS → Prop} (h : post (if cdI (nI t) (nI r) then 1 else 0) u) : wX4_kindHasRole (nI t) (nI r) u post := by
  have hl := rl_5 t ht r hr
  refine ⟨fun z => ?_, fun z => ?_⟩
  · rw [hl.mp z] at h; exact h
  · have : cdI (nI t) (nI r) = true := by
      cases hq : cdI (nI t) (nI r) with
      | true => rfl
      | false => exact absurd (hl.mpr hq) z
    rw [this] at h
    exact h
def alw (f g h : Nat → Int32) (x : Int32) (t : Nat) : Nat → Nat → Bool
  | 0, _ => true
  | j + 1, k => (!(f k == x) || (cdI (nI t) (g k) == (h k == 1))) && alw f g h x t j (k + 1)
theorem alw_cg {f g h f2 g2 h2 : Nat → Int32} {x : Int32} {t : Nat} : ∀ (j k : Nat), k + j ≤ 6 → (∀ i, i < 6 → f i = f2 i ∧ g i = g2 i ∧ h i = h2 i) → alw f g h x t j k = alw f2 g2 h2 x t j k := by
  intro j
  induction j with
  | zero => intro k _ _; rfl
  | succ j ih =>
    intro k hk he
    have := he k (by omega)
    rw [alw, alw, this.1, this.2.1, this.2.2, ih (k + 1) (by omega) he]
def srt (P : Nat → Bool) : Nat → Nat → Int32 → Int32
  | 0, _, a => a
  | j + 1, t, a => srt P j (t + 1) (if P t then a ||| ((1 : Int32) <<< (nI t &&& 31)) else a ||| 0)
section SEEN
variable {u : SS} {S : Nat} {x : Int32} {post : Int32 → SS → Prop}
theorem c3_allow_loop (hS : u.1 6 = nI S) (hS6 : S ≤ 6) (hg : ∀ k, k < 6 → ∃ r, r < 3 ∧ u.2.2 4 k = nI r) {t : Nat} (ht : t < 5) {K : Int32 → SS → Prop} : ∀ (j k : Nat), k + j = S → (alw (u.2.2 3) (u.2.2 4) (u.2.2 5) x t j k = true → K (nI S) u) → (alw (u.2.2 3) (u.2.2 4) (u.2.2 5) x t j k = false → post 0 u) → wX3_allowKind_2 post x (nI t) K (j + 1) (nI k) u := by
  intro j
  induction j with
  | zero =>
    intro k hk h1 h0
    have : k = S := by omega
    subst this
    refine br_t ?_ (h1 rfl)
    rw [hS]
    exact nI_le (Nat.le_refl _) (by omega)
  | succ j ih =>
    intro k hk h1 h0
    rw [alw] at h1 h0
    obtain ⟨r, hr, er⟩ := hg k (by omega)
    rw [er] at h1 h0
    rw [wX3_allowKind_2, hS, xat_nI (j := 5) (k := k) (by show k < 6; omega), xat_nI (j := 3) (k := k) (by show k < 6; omega), xat_nI (j := 4) (k := k) (by show k < 6; omega), er, nI_1]
    refine br_f (fun z => absurd ((nI_leI (by omega) (by omega)).mp z) (by omega)) ?_
    have hnext : (!(u.2.2 3 k == x) || (cdI (nI t) (nI r) == (u.2.2 5 k == 1))) = true → wX3_allowKind_2 post x (nI t) K (j + 1) (nI (k + 1)) u := fun e => by
      rw [e, Bool.true_and] at h1 h0
      exact ih (k + 1) (by omega) h1 h0
    have hout : (!(u.2.2 3 k == x) || (cdI (nI t) (nI r) == (u.2.2 5 k == 1))) = false → post 0 u := fun e => by
      rw [e, Bool.false_and] at h0
      exact h0 rfl
    refine ⟨fun hc => ⟨fun hn => hnext (by simp [hn]), fun hn => ?_⟩, fun hc => ⟨fun hn => hnext (by simp [hn]), fun hn => ?_⟩⟩
    · have hc2 : (u.2.2 5 k == 1) = false := by simpa using hc
      have hn2 : (u.2.2 3 k == x) = true := by simpa using hn
      rw [hc2, hn2] at hnext hout
      refine c4_role ht hr ?_
      cases hq : cdI (nI t) (nI r) with
      | true =>
        rw [hq] at hout
        exact br_f (by decide) (hout rfl)
      | false =>
        rw [hq] at hnext
        exact br_t rfl (hnext rfl)
    · have hc2 : (u.2.2 5 k == 1) = true := by simpa using hc
      have hn2 : (u.2.2 3 k == x) = true := by simpa using hn
      rw [hc2, hn2] at hnext hout
      refine c4_role ht hr ?_
      cases hq : cdI (nI t) (nI r) with
      | true =>
        rw [hq] at hnext
        exact br_t rfl (hnext rfl)
      | false =>
        rw [hq] at hout
        exact br_f (by decide) (hout rfl)
theorem c3_allow (hS : u.1 6 = nI S) (hS6 : S ≤ 6) (hg : ∀ k, k < 6 → ∃ r, r < 3 ∧ u.2.2 4 k = nI r) {t : Nat} (ht : t < 5) (h : post (if alw (u.2.2 3) (u.2.2 4) (u.2.2 5) x t S 0 then 1 else 0) u) : wX3_allowKind x (nI t) u post :=
  ⟨S + 1, c3_allow_loop hS hS6 hg ht S 0 (by omega) (fun e => by rw [e] at h; exact h) (fun e => by rw [e] at h; exact h)⟩
theorem c3_sorts_loop (hS : u.1 6 = nI S) (hS6 : S ≤ 6) (hg : ∀ k, k < 6 → ∃ r, r < 3 ∧ u.2.2 4 k = nI r) {K : Int32 → Int32 → SS → Prop} : ∀ (j t : Nat) (a : Int32), t + j = 5 → K (srt (fun t => alw (u.2.2 3) (u.2.2 4) (u.2.2 5) x t S 0) j t a) (nI 5) u → wX3_sorts_4 post x K (j + 1) a (nI t) u := by
  intro j
  induction j with
  | zero =>
    intro t a ht h
    have : t = 5 := by omega
    subst this
    exact br_t (by decide) h
  | succ j ih =>
    intro t a ht h
    rw [srt] at h
    rw [wX3_sorts_4, nI_1]
    refine br_f (fun z => absurd ((nI_leI (a := 5) (by omega) (by omega)).mp z) (by omega)) ?_
    refine c3_allow hS hS6 hg (by omega) ?_
    cases hq : alw (u.2.2 3) (u.2.2 4) (u.2.2 5) x t S 0 with
    | true =>
      rw [hq] at h
      exact br_f (by decide) (ih (t + 1) _ (by omega) h)
    | false =>
      rw [hq] at h
      exact br_t rfl (ih (t + 1) _ (by omega) h)
theorem c3_sorts (hS : u.1 6 = nI S) (hS6 : S ≤ 6) (hg : ∀ k, k < 6 → ∃ r, r < 3 ∧ u.2.2 4 k = nI r) (h : post (srt (fun t => alw (u.2.2 3) (u.2.2 4) (u.2.2 5) x t S 0) 5 0 0) u) : wX3_sorts x u post :=
  ⟨6, c3_sorts_loop hS hS6 hg 5 0 0 (by omega) h⟩
theorem p5_allow_loop (hS : u.1 4 = nI S) (hS6 : S ≤ 6) {x2 : Int32} {t : Nat} {K : Int32 → Int32 → SS → Prop} : ∀ (j k : Nat) (b : Bool), k + j = S → K (if b && alw (u.2.2 2) (u.2.2 3) (u.2.2 4) x t j k then 1 else 0) (nI S) u → wX5_sortsOf_15 post x x2 (nI t) K (j + 1) (if b then 1 else 0) (nI k) u := by
  intro j
  induction j with
  | zero =>
    intro k b hk h
    have : k = S := by omega
    subst this
    rw [alw, Bool.and_true] at h
    refine br_t ?_ h
    rw [hS]
    exact nI_le (Nat.le_refl _) (by omega)
  | succ j ih =>
    intro k b hk h
    rw [alw] at h
    have hin : vp_in (nI k) 6 := vp_in_nI (by omega) (by omega)
    rw [wX5_sortsOf_15, hS, nI_clamp (by omega), nI_1]
    refine br_f (fun z => absurd ((nI_leI (by omega) (by omega)).mp z) (by omega)) ?_
    cases b with
    | false =>
      rw [Bool.false_and] at h
      exact br_t rfl (ih (k + 1) false (by omega) h)
    | true =>
      rw [Bool.true_and] at h
      refine br_f (by decide) ⟨hin, ?_⟩
      have i1 := ih (k + 1) true (by omega)
      have i0 := ih (k + 1) false (by omega)
      rw [Bool.true_and] at i1
      rw [Bool.false_and] at i0
      refine ⟨fun hn => i1 ?_, fun hn => ⟨hin, p5_could ⟨hin, ?_⟩⟩⟩
      · have hn2 : (u.2.2 2 k == x) = false := by simpa using hn
        rw [hn2] at h
        exact h
      · have hn2 : (u.2.2 2 k == x) = true := by simpa using hn
        rw [hn2] at h
        refine ⟨fun hc => ?_, fun hc => ?_⟩
        · have hc2 : (u.2.2 4 k == 1) = false := by simpa using hc
          rw [hc2] at h
          cases hq : cdI (nI t) (u.2.2 3 k) with
          | true => rw [hq] at h; exact bn_f (by decide) (i0 h)
          | false => rw [hq] at h; exact bn_t rfl (i1 h)
        · have hc2 : (u.2.2 4 k == 1) = true := by simpa using hc
          rw [hc2] at h
          cases hq : cdI (nI t) (u.2.2 3 k) with
          | true => rw [hq] at h; exact bn_t rfl (i1 h)
          | false => rw [hq] at h; exact bn_f (by decide) (i0 h)
theorem p5_sorts_loop (hS : u.1 4 = nI S) (hS6 : S ≤ 6) {K : Int32 → Int32 → SS → Prop} : ∀ (j t : Nat) (a : Int32), t + j = 5 → K (srt (fun t => alw (u.2.2 2) (u.2.2 3) (u.2.2 4) x t S 0) j t a) (nI 5) u → wX5_sortsOf_4 post x K (j + 1) a (nI t) u := by
  intro j
  induction j with
  | zero =>
    intro t a ht h
    have : t = 5 := by omega
    subst this
    exact br_t (by decide) h
  | succ j ih =>
    intro t a ht h
    rw [srt] at h
    rw [wX5_sortsOf_4, nI_1]
    refine br_f (fun z => absurd ((nI_ltI (a := 4) (by omega) (by omega)).mp z) (by omega)) ⟨S + 1, ?_⟩
    refine p5_allow_loop hS hS6 S 0 true (by omega) ?_
    rw [Bool.true_and]
    cases hq : alw (u.2.2 2) (u.2.2 3) (u.2.2 4) x t S 0 with
    | true =>
      rw [hq] at h
      exact br_f (by decide) (ih (t + 1) _ (by omega) h)
    | false =>
      rw [hq] at h
      exact br_t rfl (ih (t + 1) _ (by omega) h)
theorem p5_sorts (hS : u.1 4 = nI S) (hS6 : S ≤ 6) (h : post (srt (fun t => alw (u.2.2 2) (u.2.2 3) (u.2.2 4) x t S 0) 5 0 0) u) : wX5_sortsOf x u post :=
  ⟨6, p5_sorts_loop hS hS6 5 0 0 (by omega) h⟩
/-! what to ask -/
def onb (b : Int32) (t : Nat) : Nat := if (b >>> (nI t &&& 31)) &&& 1 = 1 then 1 else 0
theorem onb_eq (b : Int32) (t : Nat) : (b >>> (nI t &&& 31)) &&& 1 = nI (onb b t) := by
  unfold onb
  obtain ⟨j, hj, e⟩ := pk_andE (b >>> (nI t &&& 31)) (m := 1) 1 (by decide)
  rw [e]
  have : j = 0 ∨ j = 1 := by omega
  rcases this with rfl | rfl
  · rw [if_neg (by decide)]
  · rw [if_pos (by decide)]
theorem onb_le (b : Int32) (t : Nat) : onb b t ≤ 1 := by
  unfold onb
  split <;> omega
def lfN (b : Int32) (r : Int32) : Nat → Nat → Nat × Nat → Nat × Nat
  | 0, _, s => s
  | j + 1, t, s => lfN b r j (t + 1) (if cdI (nI t) r then (s.1 + onb b t, s.2) else (s.1, s.2 + onb b t))
theorem lfN_le (b r : Int32) : ∀ (j t : Nat) (s : Nat × Nat), (lfN b r j t s).1 + (lfN b r j t s).2 ≤ s.1 + s.2 + j := by
  intro j
  induction j with
  | zero => intro t s; exact Nat.le_refl _
  | succ j ih =>
    intro t s
    rw [lfN]
    have h2 := onb_le b t
    cases cdI (nI t) r with
    | true =>
      have h1 := ih (t + 1) (s.1 + onb b t, s.2)
      show (lfN b r j (t + 1) (s.1 + onb b t, s.2)).1 + (lfN b r j (t + 1) (s.1 + onb b t, s.2)).2 ≤ _
      dsimp only at h1
      omega
    | false =>
      have h1 := ih (t + 1) (s.1, s.2 + onb b t)
      show (lfN b r j (t + 1) (s.1, s.2 + onb b t)).1 + (lfN b r j (t + 1) (s.1, s.2 + onb b t)).2 ≤ _
      dsimp only at h1
      omega
def lw5 (b r : Int32) : Nat := max (lfN b r 5 0 (0, 0)).1 (lfN b r 5 0 (0, 0)).2
theorem lw5_le (b r : Int32) : lw5 b r ≤ 5 := by
  have := lfN_le b r 5 0 (0, 0)
  dsimp only at this
  unfold lw5
  omega
theorem c3_left_loop {b : Int32} {r : Nat} (hr : r < 3) {K : Int32 → Int32 → Int32 → SS → Prop} : ∀ (j t : Nat) (s : Nat × Nat), t + j = 5 → K (nI (lfN b (nI r) j t s).1) (nI (lfN b (nI r) j t s).2) (nI 5) u → wX3_leftAtWorst_8 post b (nI r) K (j + 1) (nI s.1) (nI s.2) (nI t) u := by
  intro j
  induction j with
  | zero =>
    intro t s ht h
    have : t = 5 := by omega
    subst this
    exact br_t (by decide) h
  | succ j ih =>
    intro t s ht h
    rw [lfN] at h
    rw [wX3_leftAtWorst_8, nI_1, onb_eq, nI_add, nI_add]
    refine br_f (fun z => absurd ((nI_leI (a := 5) (by omega) (by omega)).mp z) (by omega)) ?_
    refine c4_role (by omega) hr ?_
    cases hq : cdI (nI t) (nI r) with
    | true =>
      rw [hq] at h
      exact br_f (by decide) (ih (t + 1) (s.1 + onb b t, s.2) (by omega) h)
    | false =>
      rw [hq] at h
      exact br_t rfl (ih (t + 1) (s.1, s.2 + onb b t) (by omega) h)
theorem c3_left {b : Int32} {r : Nat} (hr : r < 3) (h : post (nI (lw5 b (nI r))) u) : wX3_leftAtWorst b (nI r) u post := by
  refine ⟨6, c3_left_loop hr 5 0 (0, 0) (by omega) ?_⟩
  have hb := lfN_le b (nI r) 5 0 (0, 0)
  dsimp only at hb
  unfold lw5 at h
  by_cases q : (lfN b (nI r) 5 0 (0, 0)).1 < (lfN b (nI r) 5 0 (0, 0)).2
  · rw [if_pos ((nI_ltI (by omega) (by omega)).mpr q)]
    rw [Nat.max_eq_right (by omega)] at h
    exact h
  · rw [if_neg (fun z => q ((nI_ltI (by omega) (by omega)).mp z))]
    rw [Nat.max_eq_left (by omega)] at h
    exact h
def akF (L : Nat → Nat) : Nat → Nat → Int32 × Nat → Int32 × Nat
  | 0, _, s => s
  | j + 1, r, s => akF L j (r + 1) (if s.2 ≤ L r then s else (nI r, L r))
def akv (b : Int32) : Int32 := if b = 0 then -1 else (akF (fun r => lw5 b (nI r)) 3 0 (-1, 6)).1
theorem c3_ask_loop {b x1 : Int32} {K : Int32 → Int32 → Int32 → SS → Prop} : ∀ (j r : Nat) (s : Int32 × Nat), r + j = 3 → s.2 < 1000 → (∀ y z, K (akF (fun r => lw5 b (nI r)) j r s).1 y z u) → wX3_bestRoleToAsk_23 post x1 b K (j + 1) s.1 (nI s.2) (nI r) u := by
  intro j
  induction j with
  | zero =>
    intro r s hr hs h
    have : r = 3 := by omega
    subst this
    exact br_t (by decide) (h _ _)
  | succ j ih =>
    intro r s hr hs h
    rw [akF] at h
    have hl := lw5_le b (nI r)
    rw [wX3_bestRoleToAsk_23, nI_1]
    refine br_f (fun z => absurd ((nI_leI (a := 3) (by omega) (by omega)).mp z) (by omega)) ?_
    refine c3_left (by omega) ?_
    by_cases q : s.2 ≤ lw5 b (nI r)
    · rw [if_pos q] at h
      exact br_t ((nI_leI (by omega) (by omega)).mpr q) (ih (r + 1) s (by omega) hs h)
    · rw [if_neg q] at h
      exact br_f (fun z => q ((nI_leI (by omega) (by omega)).mp z)) (ih (r + 1) (nI r, lw5 b (nI r)) (by omega) (by show lw5 b (nI r) < _; omega) h)
theorem akF_0 (L : Nat → Nat) : ∀ (j r : Nat) (s : Int32 × Nat), s.2 = 0 → akF L j r s = s := by
  intro j
  induction j with
  | zero => intro r s _; rfl
  | succ j ih =>
    intro r s hs
    rw [akF, if_pos (by omega)]
    exact ih (r + 1) s hs
theorem c3_ask (hS : u.1 6 = nI S) (hS6 : S ≤ 6) (hg : ∀ k, k < 6 → ∃ r, r < 3 ∧ u.2.2 4 k = nI r) (h : post (akv (srt (fun t => alw (u.2.2 3) (u.2.2 4) (u.2.2 5) x t S 0) 5 0 0)) u) : wX3_bestRoleToAsk x u post := by
  refine c3_sorts hS hS6 hg ?_
  unfold akv at h
  by_cases q : srt (fun t => alw (u.2.2 3) (u.2.2 4) (u.2.2 5) x t S 0) 5 0 0 = 0
  · rw [if_pos q] at h
    refine bn_t q ⟨4, ?_⟩
    exact c3_ask_loop 3 0 (-1, 0) (by omega) (by decide) (fun y z => by rw [akF_0 _ _ _ _ rfl]; exact h)
  · rw [if_neg q] at h
    refine bn_f q ⟨4, ?_⟩
    exact c3_ask_loop 3 0 (-1, 6) (by omega) (by decide) (fun y z => h)
theorem p5_isIn {b : Int32} {t : Nat} (h : post (nI (onb b t)) u) : wX5_isIn b (nI t) u post := by
  refine ⟨fun q => ?_, fun q => ?_⟩
  · unfold onb at h
    rw [if_neg q] at h
    exact h
  · unfold onb at h
    rw [if_pos q] at h
    exact h
theorem p5_left_loop {b x1 x3 x4 r : Int32} {K : Int32 → Int32 → Int32 → SS → Prop} : ∀ (j t : Nat) (s : Nat × Nat), t + j = 5 → K (nI (lfN b r j t s).1) (nI (lfN b r j t s).2) (nI 5) u → wX5_askOf_34 post x1 b x3 x4 r K (j + 1) (nI s.1) (nI s.2) (nI t) u := by
  intro j
  induction j with
  | zero =>
    intro t s ht h
    have : t = 5 := by omega
    subst this
    exact br_t (by decide) h
  | succ j ih =>
    intro t s ht h
    rw [lfN] at h
    rw [wX5_askOf_34, nI_1 t, nI_1 s.1, nI_1 s.2, show nI s.1 + (0 : Int32) = nI (s.1 + 0) from nI_add s.1 0, show nI s.2 + (0 : Int32) = nI (s.2 + 0) from nI_add s.2 0]
    refine br_f (fun z => absurd ((nI_ltI (a := 4) (by omega) (by omega)).mp z) (by omega)) ?_
    have h2 := onb_le b t
    refine p5_isIn ?_
    have hc : onb b t = 0 ∨ onb b t = 1 := by omega
    rcases hc with e | e
    · rw [e] at h ⊢
      refine br_t rfl (p5_isIn ?_)
      rw [e]
      refine br_t rfl ?_
      have : (if cdI (nI t) r = true then (s.1 + 0, s.2) else (s.1, s.2 + 0)) = s := by
        split <;> rfl
      rw [this] at h
      exact ih (t + 1) (s.1 + 0, s.2 + 0) (by omega) h
    · rw [e] at h ⊢
      refine br_f (by decide) (p5_could ?_)
      cases hq : cdI (nI t) r with
      | true =>
        rw [hq] at h
        refine br_f (by decide) (p5_isIn ?_)
        rw [e]
        refine br_f (by decide) (p5_could ?_)
        rw [hq]
        exact bn_f (by decide) (ih (t + 1) (s.1 + 1, s.2 + 0) (by omega) h)
      | false =>
        rw [hq] at h
        refine br_t rfl (p5_isIn ?_)
        rw [e]
        refine br_f (by decide) (p5_could ?_)
        rw [hq]
        exact bn_t rfl (ih (t + 1) (s.1 + 0, s.2 + 1) (by omega) h)
theorem p5_ask_loop {b x1 : Int32} (hb : ¬ b = 0) {K : Int32 → Int32 → Int32 → SS → Prop} : ∀ (j r : Nat) (s : Int32 × Nat), r + j = 3 → s.2 < 2 ^ 31 → (∀ y z, K (akF (fun r => lw5 b (nI r)) j r s).1 y z u) → wX5_askOf_15 post x1 b K (j + 1) s.1 (nI s.2) (nI r) u := by
  intro j
  induction j with
  | zero =>
    intro r s hr hs h
    have : r = 3 := by omega
    subst this
    exact br_t (by decide) (h _ _)
  | succ j ih =>
    intro r s hr hs h
    rw [akF] at h
    have hl := lfN_le b (nI r) 5 0 (0, 0)
    dsimp only at hl
    rw [wX5_askOf_15, nI_1]
    refine br_f (fun z => absurd ((nI_leI (a := 3) (by omega) (by omega)).mp z) (by omega)) (br_f hb ⟨6, ?_⟩)
    refine p5_left_loop 5 0 (0, 0) (by omega) ?_
    unfold lw5 at h ih
    have fin : ∀ (m : Nat), m ≤ 5 → max (lfN b (nI r) 5 0 (0, 0)).1 (lfN b (nI r) 5 0 (0, 0)).2 = m → (nI s.2 ≤ nI m → ((nI s.2 ≤ nI m → wX5_askOf_15 post x1 b K (j + 1) s.1 (nI s.2) (nI (r + 1)) u) ∧ (¬ nI s.2 ≤ nI m → wX5_askOf_15 post x1 b K (j + 1) s.1 (nI m) (nI (r + 1)) u))) ∧ (¬ nI s.2 ≤ nI m → ((nI s.2 ≤ nI m → wX5_askOf_15 post x1 b K (j + 1) (nI r) (nI s.2) (nI (r + 1)) u) ∧ (¬ nI s.2 ≤ nI m → wX5_askOf_15 post x1 b K (j + 1) (nI r) (nI m) (nI (r + 1)) u))) := fun m hm em => by
      rw [em] at h
      by_cases q : s.2 ≤ m
      · rw [if_pos q] at h
        have q2 : nI s.2 ≤ nI m := (nI_leI hs (by omega)).mpr q
        exact br_t q2 (br_t q2 (ih (r + 1) s (by omega) hs h))
      · rw [if_neg q] at h
        have q2 : ¬ nI s.2 ≤ nI m := fun z => q ((nI_leI hs (by omega)).mp z)
        exact br_f q2 (br_f q2 (ih (r + 1) (nI r, m) (by omega) (by show m < _; omega) h))
    by_cases q : (lfN b (nI r) 5 0 (0, 0)).1 ≤ (lfN b (nI r) 5 0 (0, 0)).2
    · exact br_t ((nI_leI (by omega) (by omega)).mpr q) (fin _ (by omega) (Nat.max_eq_right q))
    · exact br_f (fun z => q ((nI_leI (by omega) (by omega)).mp z)) (fin _ (by omega) (Nat.max_eq_left (by omega)))
theorem p5_ask (hS : u.1 4 = nI S) (hS6 : S ≤ 6) (h : post (akv (srt (fun t => alw (u.2.2 2) (u.2.2 3) (u.2.2 4) x t S 0) 5 0 0)) u) : wX5_askOf x u post := by
  refine p5_sorts hS hS6 ⟨4, ?_⟩
  unfold akv at h
  by_cases q : srt (fun t => alw (u.2.2 2) (u.2.2 3) (u.2.2 4) x t S 0) 5 0 0 = 0
  · rw [if_pos q] at h
    rw [q, wX5_askOf_15]
    exact br_f (by decide) (br_t rfl h)
  · rw [if_neg q] at h
    refine p5_ask_loop q 3 0 (-1, 268435456) (by omega) (by decide) (fun y z => ?_)
    have hl := lw5_le (srt (fun t => alw (u.2.2 2) (u.2.2 3) (u.2.2 4) x t S 0) 5 0 0) (nI 0)
    rw [akF, if_neg (by show ¬ 6 ≤ lw5 _ _; omega)] at h
    rw [akF, if_neg (by show ¬ 268435456 ≤ lw5 _ _; omega)]
    exact h
end SEEN
