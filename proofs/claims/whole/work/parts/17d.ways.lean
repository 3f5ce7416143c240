/-! all ways of the reference, taken one by one -/
theorem wl_val {κ τ : Nat → Int32} {C : Nat} : ∀ (k n : Nat) (p q : Nat → Int32), q ∈ wl κ τ C k n p → (∀ m, m < n → q m = p m) ∧ (∀ m, n + k ≤ m → q m = p m) ∧ ∀ m, n ≤ m → m < n + k → ∃ c, c < C ∧ q m = nI c := by
  intro k
  induction k with
  | zero =>
    intro n p q h
    have : q = p := by simpa [wl] using h
    subst this
    exact ⟨fun _ _ => rfl, fun _ _ => rfl, fun m h1 h2 => by omega⟩
  | succ k ih =>
    intro n p q h
    rw [wl] at h
    obtain ⟨c, hc, hq⟩ := List.mem_flatMap.mp h
    have hc := List.mem_range.mp hc
    split at hq
    · obtain ⟨a1, a2, a3⟩ := ih (n + 1) _ q hq
      refine ⟨fun m hm => by rw [a1 m (by omega), pk_un (by omega)], fun m hm => by rw [a2 m (by omega), pk_un (by omega)], fun m h1 h2 => ?_⟩
      by_cases hm : m = n
      · subst hm
        exact ⟨c, hc, by rw [a1 m (by omega), pk_us]⟩
      · exact a3 m (by omega) (by omega)
    · cases hq
def st3 (a : SS) (F o w : Nat → Int32) : SS := (a.1, a.2.1, fun j => if j = 6 then F else if j = 7 then o else if j = 8 then w else a.2.2 j)
theorem st3_7 (a : SS) (F o w : Nat → Int32) (i : Nat) (x : Int32) : sA (st3 a F o w) 7 i x = st3 a F (upd o i x) w := by
  show (a.1, a.2.1, va_up _ 7 (upd o i x)) = (a.1, a.2.1, _)
  congr 2
  funext j
  by_cases h : j = 7
  · subst h; rw [va_up_self]; rfl
  · rw [va_up_ne _ _ h]
    simp [st3, h]
theorem st3_8 (a : SS) (F o w : Nat → Int32) (i : Nat) (x : Int32) : sA (st3 a F o w) 8 i x = st3 a F o (upd w i x) := by
  show (a.1, a.2.1, va_up _ 8 (upd w i x)) = (a.1, a.2.1, _)
  congr 2
  funext j
  by_cases h : j = 8
  · subst h; rw [va_up_self]; rfl
  · rw [va_up_ne _ _ h]
    simp [st3, h]
theorem st3_0 (a : SS) (F : Nat → Int32) : sR a 6 F = st3 a F (a.2.2 7) (a.2.2 8) := by
  show (a.1, a.2.1, va_up a.2.2 6 F) = (a.1, a.2.1, _)
  congr 2
  funext j
  by_cases h : j = 6
  · subst h; rw [va_up_self]; rfl
  · rw [va_up_ne _ _ h]
    by_cases h7 : j = 7
    · subst h7; rfl
    · by_cases h8 : j = 8
      · subst h8; rfl
      · simp [h, h7, h8]
def twO (q : Nat → Int32) (s : Nat) (o : Nat → Int32) (i : Nat) : Int32 := if 1 ≤ i / 3 ∧ i / 3 < s ∧ q (i / 3) = nI (i % 3) then o i + 1 else o i
def twW (q : Nat → Int32) (s : Nat) (b : Bool) (w : Nat → Int32) (k : Nat) : Int32 := if 1 ≤ k ∧ k < s ∧ b = true then q k else w k
/-- a way is taken -/
def act (num : Int32) (N : Nat) (a : SS) (q : Nat → Int32) : SS := (upd a.1 8 (a.1 8 + 1), a.2.1, fun j => if j = 7 then twO q (N + 1) (a.2.2 7) else if j = 8 then twW q (N + 1) (a.1 8 == num) (a.2.2 8) else a.2.2 j)
theorem act_8 (num : Int32) (N : Nat) (a : SS) (q : Nat → Int32) : (act num N a q).1 8 = a.1 8 + 1 := by
  show upd a.1 8 (a.1 8 + 1) 8 = _
  exact pk_us
theorem act_R (num : Int32) (N : Nat) (a : SS) (q F : Nat → Int32) : sR (act num N a q) 6 F = sI (st3 a F (twO q (N + 1) (a.2.2 7)) (twW q (N + 1) (a.1 8 == num) (a.2.2 8))) 8 (a.1 8 + 1) := by
  show (_, _, va_up _ 6 F) = (_, _, _)
  congr 2
theorem p5_takeWay_loop {a : SS} {N : Nat} {num : Int32} {q F : Nat → Int32} (hN : a.1 1 = nI N) (h10 : N ≤ 10) (hF : ag F q 10) (hq : ∀ m, 1 ≤ m → m ≤ N → ∃ c, c < 3 ∧ q m = nI c) {post : SS → Prop} {K : Int32 → SS → Prop} : ∀ (i s : Nat), 1 ≤ s → s + i = N + 1 → K (nI (N + 1)) (st3 a F (twO q (N + 1) (a.2.2 7)) (twW q (N + 1) (a.1 8 == num) (a.2.2 8))) → wX5_takeWay_2 post num K (i + 1) (nI s) (st3 a F (twO q s (a.2.2 7)) (twW q s (a.1 8 == num) (a.2.2 8))) := by
  intro i
  induction i with
  | zero =>
    intro s h1 h2 h
    have : s = N + 1 := by omega
    subst this
    refine br_t ?_ h
    show a.1 1 < _
    rw [hN]
    exact (nI_ltI (by omega) (by omega)).mpr (by omega)
  | succ i ih =>
    intro s h1 h2 h
    have hin : vp_in (nI s) 11 := vp_in_nI (by omega) (by omega)
    have ec : (nI s).toNatClampNeg = s := nI_clamp (by omega)
    obtain ⟨c, hc, hqs⟩ := hq s h1 (by omega)
    have hFs : F s = nI c := by rw [hF s h1 (by omega)]; exact hqs
    have e3 : (3 : Int32) * nI s + F s = nI (3 * s + c) := by rw [show (3 : Int32) = nI 3 from rfl, pk_mul, hFs, nI_add]
    have hi3 : vp_in (nI (3 * s + c)) 33 := vp_in_nI (by omega) (by omega)
    have ec3 : (nI (3 * s + c)).toNatClampNeg = 3 * s + c := nI_clamp (by omega)
    have eO : upd (twO q s (a.2.2 7)) (3 * s + c) (twO q s (a.2.2 7) (3 * s + c) + 1) = twO q (s + 1) (a.2.2 7) := by
      funext i
      by_cases hi : i = 3 * s + c
      · subst hi
        have d3 : (3 * s + c) / 3 = s := by omega
        have m3 : (3 * s + c) % 3 = c := by omega
        rw [pk_us]
        unfold twO
        rw [d3, m3, if_neg (by omega), if_pos ⟨h1, by omega, hqs⟩]
      · rw [pk_un hi]
        unfold twO
        by_cases hd : i / 3 = s
        · have hm : ¬ q (i / 3) = nI (i % 3) := by
            rw [hd, hqs]
            intro e
            have := (nI_eq (by omega) (by omega)).mp e
            omega
          rw [if_neg (fun z => hm z.2.2), if_neg (fun z => hm z.2.2)]
        · have : (1 ≤ i / 3 ∧ i / 3 < s ∧ q (i / 3) = nI (i % 3)) ↔ (1 ≤ i / 3 ∧ i / 3 < s + 1 ∧ q (i / 3) = nI (i % 3)) := ⟨fun z => ⟨z.1, by omega, z.2.2⟩, fun z => ⟨z.1, by omega, z.2.2⟩⟩
          simp only [this]
    have eW : ∀ b : Bool, upd (twW q s b (a.2.2 8)) s (if b = true then q s else twW q s b (a.2.2 8) s) = twW q (s + 1) b (a.2.2 8) := by
      intro b
      funext k
      by_cases hk : k = s
      · subst hk
        rw [pk_us]
        unfold twW
        cases b
        · simp
        · simp [h1]
      · rw [pk_un hk]
        unfold twW
        have : (1 ≤ k ∧ k < s ∧ b = true) ↔ (1 ≤ k ∧ k < s + 1 ∧ b = true) := ⟨fun z => ⟨z.1, by omega, z.2.2⟩, fun z => ⟨z.1, by omega, z.2.2⟩⟩
        simp only [this]
    have ih := ih (s + 1) (by omega) (by omega) h
    rw [wX5_takeWay_2]
    have e6 : ∀ o w, (st3 a F o w).2.2 6 = F := fun _ _ => rfl
    have e7 : ∀ o w, (st3 a F o w).2.2 7 = o := fun _ _ => rfl
    have e8 : ∀ o w, (st3 a F o w).2.2 8 = w := fun _ _ => rfl
    have e11 : ∀ o w, (st3 a F o w).1 1 = nI N := fun _ _ => hN
    have e18 : ∀ o w, (st3 a F o w).1 8 = a.1 8 := fun _ _ => rfl
    rw [e11]
    refine br_f (fun z => absurd ((nI_ltI (by omega) (by omega)).mp z) (by omega)) ⟨hin, ?_⟩
    rw [ec, e6, e3, ec3, e7, st3_7, eO, e18, e8, e6, st3_8, nI_1]
    refine ⟨hi3, hi3, fun hb => ⟨hin, hin, ?_⟩, fun hb => ⟨hin, hin, ?_⟩⟩
    · have hb2 : (a.1 8 == num) = false := by simpa using hb
      have := eW (a.1 8 == num)
      rw [hb2] at this ih ⊢
      rw [if_neg (by decide)] at this
      rw [this]
      exact ih
    · have hb2 : (a.1 8 == num) = true := by simpa using hb
      have := eW (a.1 8 == num)
      rw [hb2] at this ih ⊢
      rw [if_pos rfl] at this
      rw [st3_8, hF s h1 (by omega), this]
      exact ih
theorem p5_takeWay {a : SS} {N : Nat} {num : Int32} {q F : Nat → Int32} (hN : a.1 1 = nI N) (h10 : N ≤ 10) (hF : ag F q 10) (hq : ∀ m, 1 ≤ m → m ≤ N → ∃ c, c < 3 ∧ q m = nI c) {post : SS → Prop} (h : post (sR (act num N a q) 6 F)) : wX5_takeWay num (sR a 6 F) post := by
  refine ⟨N + 1, ?_⟩
  rw [st3_0]
  have e1 : a.2.2 7 = twO q 1 (a.2.2 7) := by
    funext i
    unfold twO
    rw [if_neg (by omega)]
  have e2 : a.2.2 8 = twW q 1 (a.1 8 == num) (a.2.2 8) := by
    funext i
    unfold twW
    rw [if_neg (by omega)]
  have := p5_takeWay_loop (a := a) (num := num) hN h10 hF hq (post := post) (K := fun _ u3 => post (sI u3 8 ((u3.1 8) + (1 : Int32)))) N 1 (by omega) (by omega) (by rw [act_R] at h; exact h)
  rw [← e1, ← e2] at this
  exact this
/-- what is counted of the ways -/
def cnt (L : List (Nat → Int32)) (m c : Nat) : Nat := L.countP (fun q => q m == nI c)
theorem fold_act {num : Int32} {N C : Nat} (h10 : N ≤ 10) (hC : C ≤ 3) : ∀ (L : List (Nat → Int32)) (a : SS), (∀ i : Nat, i ≠ 8 → ((L.foldl (act num N) a).1 i = a.1 i)) ∧ (L.foldl (act num N) a).2.1 = a.2.1 ∧ (∀ j : Nat, j ≠ 7 → j ≠ 8 → (L.foldl (act num N) a).2.2 j = a.2.2 j) ∧ (L.foldl (act num N) a).1 8 = a.1 8 + nI L.length ∧ (∀ m c : Nat, 1 ≤ m → m ≤ N → c < 3 → (L.foldl (act num N) a).2.2 7 (3 * m + c) = a.2.2 7 (3 * m + c) + nI (cnt L m c)) := by
  intro L
  induction L with
  | nil =>
    intro a
    refine ⟨fun _ _ => rfl, rfl, fun _ _ _ => rfl, ?_, fun m c _ _ _ => ?_⟩
    · show a.1 8 = a.1 8 + nI 0
      rw [nI_0]; simp
    · show _ = _ + nI 0
      rw [nI_0]; simp
  | cons q L ih =>
    intro a
    obtain ⟨i1, i2, i3, i4, i5⟩ := ih (act num N a q)
    rw [List.foldl_cons]
    refine ⟨fun i hi => ?_, i2, fun j h7 h8 => ?_, ?_, fun m c h1 h2 h3 => ?_⟩
    · rw [i1 i hi]
      exact pk_un hi
    · rw [i3 j h7 h8]
      simp [act, h7, h8]
    · rw [i4, act_8, List.length_cons, ← nI_1, Int32.add_assoc, Int32.add_comm 1]
    · rw [i5 m c h1 h2 h3]
      have d3 : (3 * m + c) / 3 = m := by omega
      have m3 : (3 * m + c) % 3 = c := by omega
      have e : (act num N a q).2.2 7 (3 * m + c) = if q m = nI c then a.2.2 7 (3 * m + c) + 1 else a.2.2 7 (3 * m + c) := by
        show twO q (N + 1) (a.2.2 7) (3 * m + c) = _
        unfold twO
        rw [d3, m3]
        by_cases hq : q m = nI c
        · rw [if_pos hq, if_pos ⟨h1, by omega, hq⟩]
        · rw [if_neg hq, if_neg (fun z => hq z.2.2)]
      rw [e]
      unfold cnt
      rw [List.countP_cons]
      by_cases hq : q m = nI c
      · rw [if_pos hq, if_pos (by simpa using hq), ← nI_1, Int32.add_assoc, Int32.add_comm 1]
      · rw [if_neg hq, if_neg (by simpa using hq), Nat.add_zero]
/-- the way of a number, as it is kept -/
theorem fold_want {num N : Nat} {C : Nat} : ∀ (L : List (Nat → Int32)) (a : SS) (W : Nat), a.1 8 = nI W → W + L.length < 100000 → num < 100000 → ∀ (h : W ≤ num) (hl : num < W + L.length) (k : Nat), 1 ≤ k → k ≤ N → (L.foldl (act (nI num) N) a).2.2 8 k = (L.getD (num - W) (fun _ => 0)) k := by
  intro L
  induction L with
  | nil => intro a W _ _ _ h hl; simp at hl; omega
  | cons q L ih =>
    intro a W hW hb hn h hl k h1 h2
    rw [List.foldl_cons]
    rw [List.length_cons] at hl hb
    have hW2 : (act (nI num) N a q).1 8 = nI (W + 1) := by
      rw [act_8, hW, nI_1]
    by_cases hc : num = W
    · subst hc
      have keep : ∀ (L : List (Nat → Int32)) (a : SS) (W : Nat), a.1 8 = nI W → num < W → W + L.length < 100000 → (L.foldl (act (nI num) N) a).2.2 8 k = a.2.2 8 k := by
        intro L
        induction L with
        | nil => intro a W _ _ _; rfl
        | cons r L ihL =>
          intro a W hW hlt hb
          rw [List.length_cons] at hb
          rw [List.foldl_cons, ihL (act (nI num) N a r) (W + 1) (by rw [act_8, hW, nI_1]) (by omega) (by omega)]
          show twW r (N + 1) (a.1 8 == nI num) (a.2.2 8) k = _
          have : (a.1 8 == nI num) = false := by
            rw [hW]
            have : ¬ nI W = nI num := fun e => by
              have := (nI_eq (by omega) (by omega)).mp e
              omega
            simpa using this
          unfold twW
          rw [this, if_neg (by simp)]
      rw [keep L _ (num + 1) hW2 (by omega) (by omega), Nat.sub_self]
      show twW q (N + 1) (a.1 8 == nI num) (a.2.2 8) k = q k
      unfold twW
      rw [hW, if_pos ⟨h1, by omega, by simp⟩]
    · rw [ih (act (nI num) N a q) (W + 1) hW2 (by omega) hn (by omega) (by omega) k h1 h2]
      rw [show num - W = (num - (W + 1)) + 1 by omega]
      rfl
theorem p5_zero_loop {v : SS} : ∀ (i s : Nat) (o : Nat → Int32), s + i = 33 → (∀ k, k < s → o k = 0) → ∃ z, (∀ k, k < 33 → z k = 0) ∧ ∀ (post : Int32 → SS → Prop) (x1 : Int32) (K : Int32 → SS → Prop), K (nI 33) (sR v 7 z) → wX5_layWays_2 post x1 K (i + 1) (nI s) (sR v 7 o) := by
  intro i
  induction i with
  | zero =>
    intro s o h ho
    have : s = 33 := by omega
    subst this
    exact ⟨o, ho, fun post x1 K hK => br_t (by decide) hK⟩
  | succ i ih =>
    intro s o h ho
    obtain ⟨z, hz, hw⟩ := ih (s + 1) (upd o s 0) (by omega) (fun k hk => by
      by_cases e : k = s
      · subst e; rw [pk_us]
      · rw [pk_un e]; exact ho k (by omega))
    refine ⟨z, hz, fun post x1 K hK => ?_⟩
    rw [wX5_layWays_2]
    refine br_f (fun q => ?_) ⟨vp_in_nI (by omega) (by omega), ?_⟩
    · have := (nI_leI (a := 33) (b := s) (by omega) (by omega)).mp q
      omega
    · rw [nI_clamp (by omega), sA_R, nI_1]
      exact hw post x1 K hK
theorem wl_len {κ τ : Nat → Int32} {C : Nat} (hC : C ≤ 3) : ∀ (k n : Nat) (p : Nat → Int32), (wl κ τ C k n p).length ≤ 3 ^ k := by
  intro k
  induction k with
  | zero => intro n p; simp [wl]
  | succ k ih =>
    intro n p
    rw [wl]
    have key : ∀ (F : Nat → List (Nat → Int32)) (B : Nat), (∀ c, (F c).length ≤ B) → ∀ C : Nat, ((List.range C).flatMap F).length ≤ C * B := by
      intro F B hF C
      induction C with
      | zero => simp
      | succ C ihC =>
        rw [List.range_succ, List.flatMap_append, List.length_append]
        have h9 := hF C
        rw [show [C].flatMap F = F C from by simp, Nat.succ_mul]
        exact Nat.add_le_add ihC h9
    have h1 := key (fun c => if (τ n = -1 ∨ τ n = nI c) ∧ bsum κ (upd p n (nI c)) n = 0 then wl κ τ C k (n + 1) (upd p n (nI c)) else []) (3 ^ k) (fun c => by
      split
      · exact ih _ _
      · simp) C
    refine Nat.le_trans h1 ?_
    rw [Nat.pow_succ, Nat.mul_comm]
    exact Nat.mul_le_mul_left _ hC
section LAYWAYS
variable {v : SS} {κ τ : Nat → Int32} {N C : Nat}
/-- the reference's ways: how many, how often each colour, and the way of a number -/
theorem p5_layWays (hN : v.1 1 = nI N) (hC : v.1 2 = nI C) (hk : ag (v.2.2 0) κ N) (hτ : ag (v.2.2 1) τ N) (hz : ∀ k, N < k → k ≤ 10 → τ k = -1) (h10 : N ≤ 10) (hC1 : 1 ≤ C) (hC3 : C ≤ 3) (htv : tv τ C N) (num : Int32) {post : Int32 → SS → Prop}
    (h : ∀ w : SS, MEq v w → w.2.1 = v.2.1 → w.1 8 = nI (wl κ τ C N 1 τ).length → (∀ m c : Nat, 1 ≤ m → m ≤ N → c < 3 → w.2.2 7 (3 * m + c) = nI (cnt (wl κ τ C N 1 τ) m c)) → (∀ i : Nat, num = nI i → i < (wl κ τ C N 1 τ).length → ∀ k, 1 ≤ k → k ≤ N → w.2.2 8 k = ((wl κ τ C N 1 τ).getD i (fun _ => 0)) k) → post (nI (wl κ τ C N 1 τ).length) w) : wX5_layWays num v post := by
  obtain ⟨z, hz0, hw0⟩ := p5_zero_loop (v := v) 33 0 (v.2.2 7) (by omega) (fun k hk => by omega)
  rw [sR_self] at hw0
  have hN1 : (sI (sR v 7 z) 8 0).1 1 = nI N := hN
  obtain ⟨g, hg, hw1⟩ := p5_layNow (v := sI (sR v 7 z) 8 0) hN1 h10
  have hgτ : ag g τ 10 := fun k h1 h2 => by
    rw [hg k h1 h2]
    unfold tz
    by_cases hkN : k ≤ N
    · rw [if_pos hkN]
      exact hτ k h1 hkN
    · rw [if_neg hkN, hz k (by omega) h2]
  refine ⟨34, hw0 post num _ ?_⟩
  refine hw1 _ ?_
  have hlen : (wl κ τ C N 1 τ).length < 100000 := Nat.lt_of_le_of_lt (wl_len hC3 N 1 τ) (Nat.lt_of_le_of_lt (Nat.pow_le_pow_right (by decide) h10) (by decide))
  have hD := dfs (κ := κ) (τ := τ) (C := C) (N := N) (α := SS) hC1 hC3 htv
    (fun f n p a => (a.1 1 = nI N ∧ a.1 2 = nI C ∧ a.2.2 0 = v.2.2 0 ∧ a.2.2 1 = v.2.2 1) → ∀ (pst : Int32 → SS → Prop) (x1 : Int32) (K : Int32 → SS → Prop), (∀ x u, wX5_layWays_40 post num (fun _ u16 => post (u16.1 8) u16) f x u → K x u) → gZ pst x1 N K a n p) (act num N)
    (fun f n p a h1 hn hp ha hb hi pst x1 K hK => gZ_1 (κ := κ) (τ := τ) (N := N) hi.2.1 (by rw [hi.2.2.1]; exact hk) (by rw [hi.2.2.2]; exact hτ) h10 (Nat.le_refl N) h1 hn hp (fun q => ha q hi pst x1 K hK) (fun q => hb q hi pst x1 K hK))
    (fun f n p a h1 hn hp ha hb hi pst x1 K hK => gZ_3 (κ := κ) (τ := τ) (N := N) hi.2.1 (by rw [hi.2.2.1]; exact hk) (by rw [hi.2.2.2]; exact hτ) h10 (Nat.le_refl N) h1 hn hp (fun q => ha q hi pst x1 K hK) (fun q => hb q hi pst x1 K hK))
    N 1 τ (sI (sR v 7 z) 8 0) 1 (by omega) (by omega) (fun _ _ _ => rfl)
    (fun q hq f a hE hi pst x1 K hK => gZ_out h10 (Or.inr rfl) (fun F hF => hK _ _ (by
      have hqv := (wl_val N 1 τ q hq).2.2
      rw [wX5_layWays_40]
      refine br_f (nI_nle (by omega) (by omega)) ?_
      refine p5_takeWay hi.1 h10 hF (fun m h1 h2 => by
        obtain ⟨c, hc, e⟩ := hqv m h1 (by omega)
        exact ⟨c, by omega, e⟩) ?_
      have i1 : (act num N a q).1 1 = nI N := by
        show upd a.1 8 (a.1 8 + 1) 1 = _
        rw [pk_un (by decide)]
        exact hi.1
      have i2 : (act num N a q).1 2 = nI C := by
        show upd a.1 8 (a.1 8 + 1) 2 = _
        rw [pk_un (by decide)]
        exact hi.2.1
      have hi2 : (act num N a q).1 1 = nI N ∧ (act num N a q).1 2 = nI C ∧ (act num N a q).2.2 0 = v.2.2 0 ∧ (act num N a q).2.2 1 = v.2.2 1 := ⟨i1, i2, hi.2.2.1, hi.2.2.2⟩
      obtain ⟨F2, hF2, hw⟩ := p5_turnBack (v := act num N a q) (τ := τ) (N := N) (C := C) i2 (by rw [hi2.2.2.2]; exact hτ) h10 (m := N) (Nat.le_refl N) hF
      rw [show (sR (act num N a q) 6 F).1 1 = nI N from i1]
      refine hw _ ?_
      rw [show (sR (act num N a q) 6 F2).1 1 = nI N from i1]
      exact hE hi2 _ _ _ (fun _ _ h => h) F2 hF2)))
    (fun hi pst x1 K hK => gZ_out h10 (Or.inl rfl) (fun F hF => hK _ _ (by
      refine br_t (by show nI 0 ≤ 0; decide) ?_
      have hf := fold_act (num := num) (N := N) (C := C) h10 hC3 (wl κ τ C N 1 τ) (sI (sR v 7 z) 8 0)
      obtain ⟨f1, f2, f3, f4, f5⟩ := hf
      have f4 : ((wl κ τ C N 1 τ).foldl (act num N) (sI (sR v 7 z) 8 0)).1 8 = nI (wl κ τ C N 1 τ).length := by
        rw [f4, show (sI (sR v 7 z) 8 0).1 8 = 0 from rfl]
        simp
      show post (((wl κ τ C N 1 τ).foldl (act num N) (sI (sR v 7 z) 8 0)).1 8) _
      rw [f4]
      refine h _ ⟨fun i hi => ?_, fun j hj => ?_⟩ f2 f4 (fun m c h1 h2 h3 => ?_) (fun i e hl k h1 h2 => ?_)
      · show ((wl κ τ C N 1 τ).foldl (act num N) (sI (sR v 7 z) 8 0)).1 i = _
        rw [f1 i (by omega)]
        exact pk_un (by omega)
      · rw [sR_ne _ _ (by omega), f3 j (by omega) (by omega)]
        show (sR v 7 z).2.2 j = _
        exact sR_ne _ _ (by omega)
      · rw [sR_ne _ _ (by decide), f5 m c h1 h2 h3]
        rw [show (sI (sR v 7 z) 8 0).2.2 7 = z from sR_at v 7 z, hz0 _ (by omega)]
        simp
      · rw [sR_ne _ _ (by decide)]
        subst e
        exact fold_want (num := i) (C := C) (wl κ τ C N 1 τ) (sI (sR v 7 z) 8 0) 0 rfl (by omega) (by omega) (Nat.zero_le _) (by omega) k h1 h2)))
  have hfin := hD ⟨hN, hC, rfl, rfl⟩ (fun r6 u7 => ∃ n : Nat, wX5_layWays_40 post num (fun _ u16 => post (u16.1 8) u16) n r6 u7) (1 : Int32) (fun r6 u7 => ∃ n : Nat, wX5_layWays_40 post num (fun _ u16 => post (u16.1 8) u16) n r6 u7) (fun x u hx => ⟨_, hx⟩) g hgτ
  rw [show (sR (sI (sR v 7 z) 8 0) 6 g).1 1 = nI N from hN1]
  exact hfin
end LAYWAYS
