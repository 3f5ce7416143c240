/-! paintings by a seed -/
def sN (s : Nat) : Nat := (1103515245 * s + 12345) % 2147483648
theorem sN_lt (s : Nat) : sN s < 2 ^ 31 := Nat.mod_lt _ (by decide)
theorem nI_m (X : Nat) : (nI X).toBitVec.toNat % 2 ^ 31 = X % 2147483648 := by
  show (X % 2 ^ 32) % 2 ^ 31 = _
  omega
theorem sL_at (v : SS) (i : Nat) (x : Int64) : (sL v i x).2.1 i = x := pk_uLs
theorem sA_L (u : SS) (j k : Nat) (x : Int32) : (sA u j k x).2.1 = u.2.1 := rfl
theorem c_seed (s : Nat) : (((1103515245 : Int32) * nI s) + (12345 : Int32)) &&& (2147483647 : Int32) = nI (sN s) := by
  rw [show (1103515245 : Int32) = nI 1103515245 from rfl, pk_mul, show (12345 : Int32) = nI 12345 from rfl, nI_add, pk_and _ 31 (by decide), nI_m, sN]
theorem l_and {n : Nat} (h : n < 2 ^ 64) : lN n &&& (2147483647 : Int64) = lN (n % 2147483648) := by
  apply Int64.toBitVec_inj.mp
  apply BitVec.eq_of_toNat_eq
  rw [Int64.toBitVec_and, BitVec.toNat_and, show ((2147483647 : Int64).toBitVec.toNat) = 2 ^ 31 - 1 by decide, Nat.and_two_pow_sub_one_eq_mod]
  show (n % 2 ^ 64) % 2 ^ 31 = (n % 2147483648) % 2 ^ 64
  omega
theorem l_seed {s : Nat} (h : s < 2 ^ 31) : (((1103515245 : Int64) * lN s) + (12345 : Int64)) &&& (2147483647 : Int64) = lN (sN s) := by
  rw [show (1103515245 : Int64) = lN 1103515245 from rfl, lN_mul, show (12345 : Int64) = lN 12345 from rfl, lN_add, l_and (by omega), sN]
def pb (τ : Nat → Int32) (C : Nat) : Nat → Nat → Nat × (Nat → Int32) → Nat × (Nat → Int32)
  | 0, _, s => s
  | j + 1, n, s => pb τ C j (n + 1) (if τ n = -1 then (sN s.1, upd s.2 n (nI (sN s.1 / 65536 % C))) else s)
theorem pb_lt {τ : Nat → Int32} {C : Nat} : ∀ (j n : Nat) (s : Nat × (Nat → Int32)), s.1 < 2 ^ 31 → (pb τ C j n s).1 < 2 ^ 31 := by
  intro j
  induction j with
  | zero => intro n s h; exact h
  | succ j ih =>
    intro n s h
    rw [pb]
    refine ih (n + 1) _ ?_
    split
    · exact sN_lt _
    · exact h
def pw (κ τ : Nat → Int32) (N C : Nat) : Nat → Nat × Nat × Nat → Nat × Nat × Nat
  | 0, s => s
  | k + 1, s => pw κ τ N C k ((pb τ C N 1 (s.1, τ)).1, s.2.1 + (if bad κ (pb τ C N 1 (s.1, τ)).2 N = 0 then 1 else 0), s.2.2 + bad κ (pb τ C N 1 (s.1, τ)).2 N)
theorem pw_lt {κ τ : Nat → Int32} {N C : Nat} : ∀ (k : Nat) (s : Nat × Nat × Nat), s.1 < 2 ^ 31 → (pw κ τ N C k s).1 < 2 ^ 31 := by
  intro k
  induction k with
  | zero => intro s h; exact h
  | succ k ih =>
    intro s h
    rw [pw]
    exact ih _ (pb_lt N 1 (s.1, τ) h)
section SEED
variable {κ τ : Nat → Int32} {N C : Nat}
theorem c1_seed_loop (h10 : N ≤ 10) (hC1 : 1 ≤ C) (hC3 : C ≤ 3) {x1 : Int32} {post : Int32 → SS → Prop} {K : Int32 → Int32 → SS → Prop} : ∀ (j n : Nat) (s : Nat × (Nat → Int32)) (u : SS), 1 ≤ n → n + j = N + 1 → xB κ τ N C u → ag (u.2.2 6) s.2 N → s.1 < 2 ^ 31 → (∀ w, Gm u w → ag (w.2.2 6) (pb τ C j n s).2 N → K (nI (pb τ C j n s).1) (nI (N + 1)) w) → wX1_paintBareBySeed_18 post x1 K (j + 1) (nI s.1) (nI n) u := by
  intro j
  induction j with
  | zero =>
    intro n s u h1 hn hB hp hs h
    have : n = N + 1 := by omega
    subst this
    refine br_t ?_ (h u (Gm.rf u) hp)
    rw [hB.1]
    exact (nI_ltI (by omega) (by omega)).mpr (by omega)
  | succ j ih =>
    intro n s u h1 hn hB hp hs h
    rw [pb] at h
    rw [wX1_paintBareBySeed_18, hB.1]
    unfold wX0_isBare
    rw [xat_nI (j := 2) (k := n) (by show n < 11; omega), hB.2.2.2 n h1 (by omega), nI_1 n]
    refine br_f (fun z => absurd ((nI_ltI (by omega) (by omega)).mp z) (by omega)) ?_
    by_cases ht : τ n = -1
    · rw [if_pos ht] at h
      refine bn_t ht (br_f (by decide) ?_)
      have hl := sN_lt s.1
      rw [hB.2.1, c_seed, show (65536 : Int32) = nI 65536 from rfl, pk_div hl (by omega) (by omega), pk_rem (Nat.lt_of_le_of_lt (Nat.div_le_self _ _) hl) (by omega) (by omega), xput_nI (j := 6) (by show n < 11; omega)]
      refine br_f (nI_nle (by omega) (by omega)) ⟨nI_ne0 (by omega) (by omega), ?_⟩
      have g : Gm u (sA u 6 n (nI (sN s.1 / 65536 % C))) := ⟨fun _ _ => rfl, fun j h6 => sR_ne _ _ h6⟩
      exact ih (n + 1) (sN s.1, upd s.2 n (nI (sN s.1 / 65536 % C))) _ (by omega) (by omega) (hB.gm g) (by rw [sA_at]; exact hp.upd rfl) hl (fun w gw hw => h w (g.tr gw) hw)
    · rw [if_neg ht] at h
      exact bn_f ht (br_t rfl (ih (n + 1) s u (by omega) (by omega) hB hp hs h))
theorem c1_seed {u : SS} (hB : xB κ τ N C u) (h10 : N ≤ 10) (hC1 : 1 ≤ C) (hC3 : C ≤ 3) {s : Nat} (hs : s < 2 ^ 31) {post : Int32 → SS → Prop} (h : ∀ w, Gm u w → ag (w.2.2 6) (pb τ C N 1 (s, τ)).2 N → post (nI (pb τ C N 1 (s, τ)).1) w) : wX1_paintBareBySeed (nI s) u post := by
  have hx := xcpy_26 u
  have g : Gm u (xcpy u 2 6) := ⟨fun i _ => by rw [hx.1], hx.2.1⟩
  exact ⟨N + 1, c1_seed_loop h10 hC1 hC3 N 1 (s, τ) _ (by omega) (by omega) (hB.gm g) (fun k a b => by rw [hx.2.2 k (by omega)]; exact hB.2.2.2 k a b) hs (fun w gw hw => h w (g.tr gw) hw)⟩
theorem c4_paint_loop (hv : kv5 κ N) (h10 : N ≤ 10) (hC1 : 1 ≤ C) (hC3 : C ≤ 3) {T : Nat} (hT : T ≤ 40) {x2 x3 : Int32} {post : Int32 → SS → Prop} {K : Int32 → Int32 → Int32 → Int32 → SS → Prop} : ∀ (j t : Nat) (s : Nat × Nat × Nat) (u : SS), t + j = T → xB κ τ N C u → s.1 < 2 ^ 31 → (∀ w, Gm u w → K (nI (pw κ τ N C j s).1) (nI (pw κ τ N C j s).2.1) (nI (pw κ τ N C j s).2.2) (nI T) w) → wX4_paintings_52 post (nI T) x2 x3 K (j + 1) (nI s.1) (nI s.2.1) (nI s.2.2) (nI t) u := by
  intro j
  induction j with
  | zero =>
    intro t s u ht hB hs h
    have : t = T := by omega
    subst this
    exact br_t (nI_le (Nat.le_refl _) (by omega)) (h u (Gm.rf u))
  | succ j ih =>
    intro t s u ht hB hs h
    rw [pw] at h
    rw [wX4_paintings_52, nI_1 t, nI_1 s.2.1, show nI s.2.1 + (0 : Int32) = nI (s.2.1 + 0) from nI_add s.2.1 0]
    refine br_f (fun z => absurd ((nI_leI (by omega) (by omega)).mp z) (by omega)) ?_
    refine c1_seed hB h10 hC1 hC3 hs (fun w gw hw => ?_)
    have hBw := hB.gm gw
    refine c0_badThrees hBw.1 hBw.2.2.1 hw hv rfl h10 ?_
    have hbl := bad_le κ (pb τ C N 1 (s.1, τ)).2 h10
    have hpl := pb_lt (τ := τ) (C := C) N 1 (s.1, τ) hs
    rw [nI_add]
    by_cases h0 : bad κ (pb τ C N 1 (s.1, τ)).2 N = 0
    · rw [if_pos h0] at h
      refine bn_t (by rw [h0]; rfl) ?_
      exact ih (t + 1) ((pb τ C N 1 (s.1, τ)).1, s.2.1 + 1, s.2.2 + bad κ (pb τ C N 1 (s.1, τ)).2 N) w (by omega) hBw hpl (fun z gz => h z (gw.tr gz))
    · rw [if_neg h0] at h
      refine bn_f (nI_ne0 (by omega) (by omega)) ?_
      exact ih (t + 1) ((pb τ C N 1 (s.1, τ)).1, s.2.1 + 0, s.2.2 + bad κ (pb τ C N 1 (s.1, τ)).2 N) w (by omega) hBw hpl (fun z gz => h z (gw.tr gz))
/-! the reference's -/
def Gp (v w : SS) : Prop := w.1 = v.1 ∧ ∀ j : Nat, j ≠ 6 → w.2.2 j = v.2.2 j
theorem Gp.rf (u : SS) : Gp u u := ⟨rfl, fun _ _ => rfl⟩
theorem Gp.tr {a b c : SS} (h : Gp a b) (g : Gp b c) : Gp a c := ⟨g.1.trans h.1, fun j hj => (g.2 j hj).trans (h.2 j hj)⟩
theorem p5_draw {v : SS} {s : Nat} (hs : s < 2 ^ 31) (hl : v.2.1 0 = lN s) (hC1 : 1 ≤ C) (hC3 : C ≤ 3) {post : Int32 → SS → Prop} (h : post (nI (sN s / 65536 % C)) (sL v 0 (lN (sN s)))) : wX5_draw (nI C) v post := by
  have hl2 := sN_lt s
  unfold wX5_draw
  rw [hl, l_seed hs, sL_at, nI_l (by omega), show (65536 : Int64) = lN 65536 from rfl, pk_lDiv (by omega) (by omega) (by omega), pk_lRem (by omega) (by omega) (by omega), lN_i]
  refine ⟨fun z => ?_, h⟩
  have := (pk_lEQ (b := 0) (by omega) (by omega)).mp z
  omega
theorem p5_seed_loop {v : SS} (hN : v.1 1 = nI N) (hC : v.1 2 = nI C) (h10 : N ≤ 10) (hC1 : 1 ≤ C) (hC3 : C ≤ 3) {x1 x2 x3 x4 x5 x6 : Int32} {post : Int32 → SS → Prop} {K : Int32 → SS → Prop} : ∀ (j n : Nat) (s : Nat × (Nat → Int32)) (z : SS), 1 ≤ n → n + j = N + 1 → Gp v z → z.2.1 0 = lN s.1 → ag (z.2.2 6) s.2 N → (∀ m, n ≤ m → m ≤ N → s.2 m = τ m) → s.1 < 2 ^ 31 → (∀ w, Gp v w → w.2.1 0 = lN (pb τ C j n s).1 → ag (w.2.2 6) (pb τ C j n s).2 N → K (nI (N + 1)) w) → wX5_paintingsNow_28 post x1 x2 x3 x4 x5 x6 K (j + 1) (nI n) z := by
  intro j
  induction j with
  | zero =>
    intro n s z h1 hn g hl hp hpt hs h
    have : n = N + 1 := by omega
    subst this
    refine br_t ?_ (h z g hl hp)
    rw [g.1, hN]
    exact (nI_ltI (by omega) (by omega)).mpr (by omega)
  | succ j ih =>
    intro n s z h1 hn g hl hp hpt hs h
    have hin : vp_in (nI n) 11 := vp_in_nI (by omega) (by omega)
    rw [pb] at h
    have ez : z.2.2 6 n = τ n := (hp n h1 (by omega)).trans (hpt n (Nat.le_refl _) (by omega))
    rw [wX5_paintingsNow_28, show z.1 1 = nI N by rw [g.1]; exact hN, show z.1 2 = nI C by rw [g.1]; exact hC, nI_clamp (by omega), ez, nI_1 n]
    refine br_f (fun z => absurd ((nI_ltI (by omega) (by omega)).mp z) (by omega)) ⟨hin, ?_⟩
    by_cases ht : τ n = -1
    · rw [if_pos ht] at h
      refine bn_t ht (p5_draw hs hl hC1 hC3 ⟨hin, ?_⟩)
      refine ih (n + 1) (sN s.1, upd s.2 n (nI (sN s.1 / 65536 % C))) _ (by omega) (by omega) ⟨g.1, fun j hj => (sA_ne _ _ _ hj).trans (g.2 j hj)⟩ (by show (sA _ 6 _ _).2.1 0 = lN (sN s.1); rw [sA_L, sL_at]) ?_ (fun m a b => by
        show upd s.2 n _ m = _
        rw [pk_un (by omega)]; exact hpt m (by omega) b) (sN_lt _) h
      rw [sA_at]
      exact hp.upd rfl
    · rw [if_neg ht] at h
      refine bn_f ht ⟨hin, hin, ?_⟩
      refine ih (n + 1) s _ (by omega) (by omega) ⟨g.1, fun j hj => (sA_ne _ _ _ hj).trans (g.2 j hj)⟩ hl ?_ (fun m a b => hpt m (by omega) b) hs h
      rw [sA_at, upd_eq ez]
      exact hp
theorem p5_paint_loop {v : SS} (hN : v.1 1 = nI N) (hC : v.1 2 = nI C) (hk : ag (v.2.2 0) κ N) (hτ : ag (v.2.2 1) τ N) (h10 : N ≤ 10) (hC1 : 1 ≤ C) (hC3 : C ≤ 3) {T : Nat} (hT : T ≤ 40) {x2 x3 : Int32} {post : Int32 → SS → Prop} {K : Int32 → Int32 → Int32 → SS → Prop} : ∀ (j t : Nat) (s : Nat × Nat × Nat) (z : SS), t + j = T → Gp v z → z.2.1 0 = lN s.1 → s.1 < 2 ^ 31 → (∀ w, Gp v w → w.2.1 0 = lN (pw κ τ N C j s).1 → K (nI (pw κ τ N C j s).2.1) (nI (pw κ τ N C j s).2.2) (nI T) w) → wX5_paintingsNow_15 post (nI T) x2 x3 K (j + 1) (nI s.2.1) (nI s.2.2) (nI t) z := by
  intro j
  induction j with
  | zero =>
    intro t s z ht g hl hs h
    have : t = T := by omega
    subst this
    exact br_t (nI_le (Nat.le_refl _) (by omega)) (h z g hl)
  | succ j ih =>
    intro t s z ht g hl hs h
    rw [pw] at h
    rw [wX5_paintingsNow_15, nI_1 t, nI_1 s.2.1, show nI s.2.1 + (0 : Int32) = nI (s.2.1 + 0) from nI_add s.2.1 0]
    refine br_f (fun z => absurd ((nI_leI (by omega) (by omega)).mp z) (by omega)) ?_
    obtain ⟨f, hf, hw⟩ := p5_layNow (v := z) (N := N) (by rw [g.1]; exact hN) h10
    have hf2 : ag f τ N := fun k a b => by
      rw [hf k a (by omega)]
      unfold tz
      rw [if_pos b, g.2 1 (by decide)]
      exact hτ k a b
    refine hw _ ⟨N + 1, ?_⟩
    have hpl := pb_lt (τ := τ) (C := C) N 1 (s.1, τ) hs
    refine p5_seed_loop (v := v) (τ := τ) hN hC h10 hC1 hC3 N 1 (s.1, τ) (sR z 6 f) (by omega) (by omega) ⟨g.1, fun j hj => (sR_ne _ _ hj).trans (g.2 j hj)⟩ hl (by rw [sR_at]; exact hf2) (fun _ _ _ => rfl) hs (fun w gw wl wp => ?_)
    rw [show w.1 1 = nI N by rw [gw.1]; exact hN]
    refine p5_badUpTo (κ := κ) (p := (pb τ C N 1 (s.1, τ)).2) (by rw [gw.2 0 (by decide)]; exact hk) wp h10 ?_
    have hbl := bad_le κ (pb τ C N 1 (s.1, τ)).2 h10
    rw [nI_add]
    by_cases h0 : bad κ (pb τ C N 1 (s.1, τ)).2 N = 0
    · rw [if_pos h0] at h
      refine bn_t (by rw [h0]; rfl) ?_
      exact ih (t + 1) ((pb τ C N 1 (s.1, τ)).1, s.2.1 + 1, s.2.2 + bad κ (pb τ C N 1 (s.1, τ)).2 N) w (by omega) gw wl hpl h
    · rw [if_neg h0] at h
      refine bn_f (nI_ne0 (by omega) (by omega)) ?_
      exact ih (t + 1) ((pb τ C N 1 (s.1, τ)).1, s.2.1 + 0, s.2.2 + bad κ (pb τ C N 1 (s.1, τ)).2 N) w (by omega) gw wl hpl h
end SEED
