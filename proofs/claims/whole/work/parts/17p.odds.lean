/-! how likely -/
theorem gcd_st (a b : Nat) : Nat.gcd a b = Nat.gcd b (a % b) := by
  rw [Nat.gcd_comm a b, Nat.gcd_rec b a, Nat.gcd_comm]
theorem mod_half {b r : Nat} (hr : 0 < r) (h : r < b) : 2 * (b % r) < b := by
  have h1 := Nat.mod_lt b hr
  rcases Nat.lt_or_ge b (2 * r) with q | q
  · have : b % r = b - r := by
      rw [Nat.mod_eq_sub_mod (by omega), Nat.mod_eq_of_lt (by omega)]
    omega
  · omega
section ODDS
variable {u : SS} {post : Int32 → SS → Prop}
theorem c4_gcd_loop {x0 x1 : Int32} {K : Int32 → Int32 → Int32 → SS → Prop} : ∀ (k a b t : Nat), b < 2 ^ k → k ≤ 30 → a < 2 ^ 31 → t + 2 * k ≤ 64 → (∀ y z, K (nI (Nat.gcd a b)) y z u) → ∃ m : Nat, wX4_greatestCommonDivisor_7 post x0 x1 K m (nI a) (nI b) (nI t) u := by
  intro k
  induction k with
  | zero =>
    intro a b t hb _ ha ht h
    have : b = 0 := by
      have : b < 1 := hb
      omega
    subst this
    rw [Nat.gcd_zero_right] at h
    refine ⟨1, ?_⟩
    rw [wX4_greatestCommonDivisor_7]
    exact ⟨fun _ => h _ _, fun _ => br_t (by decide) (h _ _)⟩
  | succ k ih =>
    intro a b t hb hk ha ht h
    have hp : 2 ^ (k + 1) ≤ 2 ^ 30 := Nat.pow_le_pow_right (by decide) hk
    have e30 : (2 : Nat) ^ 30 = 1073741824 := by decide
    rcases Nat.eq_zero_or_pos b with e | hb0
    · subst e
      rw [Nat.gcd_zero_right] at h
      refine ⟨1, ?_⟩
      rw [wX4_greatestCommonDivisor_7]
      exact ⟨fun _ => h _ _, fun _ => br_t (by decide) (h _ _)⟩
    · have hr := Nat.mod_lt a hb0
      have n64 : ∀ s : Nat, s < 64 → ¬ (64 : Int32) ≤ nI s := fun s hs z => by
        have := (nI_leI (a := 64) (by omega) (by omega)).mp z
        omega
      rw [gcd_st] at h
      rcases Nat.eq_zero_or_pos (a % b) with e | hr0
      · rw [e, Nat.gcd_zero_right] at h
        refine ⟨2, ?_⟩
        rw [wX4_greatestCommonDivisor_7, pk_rem ha hb0 (by omega), nI_1 t, e]
        refine br_f (n64 t (by omega)) (br_f (nI_nle hb0 (by omega)) ⟨nI_ne0 hb0 (by omega), ?_⟩)
        rw [wX4_greatestCommonDivisor_7]
        exact ⟨fun _ => h _ _, fun _ => br_t (by decide) (h _ _)⟩
      · rw [gcd_st] at h
        have hh := mod_half hr0 hr
        obtain ⟨m, hm⟩ := ih (a % b) (b % (a % b)) (t + 1 + 1) (by rw [Nat.pow_succ] at hb; omega) (by omega) (by omega) (by omega) h
        refine ⟨m + 1 + 1, ?_⟩
        rw [wX4_greatestCommonDivisor_7, pk_rem ha hb0 (by omega), nI_1 t]
        refine br_f (n64 t (by omega)) (br_f (nI_nle hb0 (by omega)) ⟨nI_ne0 hb0 (by omega), ?_⟩)
        rw [wX4_greatestCommonDivisor_7, pk_rem (by omega) hr0 (by omega), nI_1 (t + 1)]
        exact br_f (n64 (t + 1) (by omega)) (br_f (nI_nle hr0 (by omega)) ⟨nI_ne0 hr0 (by omega), hm⟩)
theorem c4_gcd {a b : Nat} (ha : a < 100000) (hb : b < 100000) (h : post (nI (Nat.gcd a b)) u) : wX4_greatestCommonDivisor (nI a) (nI b) u post :=
  c4_gcd_loop 17 a b 0 (Nat.lt_of_lt_of_le hb (by decide)) (by decide) (by omega) (by decide) (fun _ _ => h)
theorem p5_gcd_loop {x0 x1 : Int32} {K : Int32 → Int32 → SS → Prop} : ∀ (n a b : Nat), b ≤ n → a < 2 ^ 31 → b < 2 ^ 31 → (∀ y, K (nI (Nat.gcd a b)) y u) → ∃ m : Nat, wX5_divisor_4 post x0 x1 K m (nI a) (nI b) u := by
  intro n
  induction n with
  | zero =>
    intro a b hb ha hb2 h
    have : b = 0 := by omega
    subst this
    rw [Nat.gcd_zero_right] at h
    exact ⟨1, br_t rfl (h _)⟩
  | succ n ih =>
    intro a b hb ha hb2 h
    rcases Nat.eq_zero_or_pos b with e | hb0
    · subst e
      rw [Nat.gcd_zero_right] at h
      exact ⟨1, br_t rfl (h _)⟩
    · have hr := Nat.mod_lt a hb0
      rw [gcd_st] at h
      obtain ⟨m, hm⟩ := ih b (a % b) (by omega) hb2 (by omega) h
      refine ⟨m + 1, ?_⟩
      rw [wX5_divisor_4, pk_rem ha hb0 hb2]
      exact br_f (nI_ne0 hb0 hb2) ⟨nI_ne0 hb0 hb2, hm⟩
theorem p5_gcd {a b : Nat} (ha : a < 100000) (hb : b < 100000) (h : post (nI (Nat.gcd a b)) u) : wX5_divisor (nI a) (nI b) u post := p5_gcd_loop b a b (Nat.le_refl _) (by omega) (by omega) (fun _ => h)
def odv (A W : Nat) (x : Int32) : Int32 := if A = 0 then x else if x = 0 then nI (A / Nat.gcd A W) else nI (W / Nat.gcd A W)
variable {κ τ : Nat → Int32} {N C : Nat}
theorem p5_oddsNow {v : SS} (hN : v.1 1 = nI N) (hC : v.1 2 = nI C) (hk : ag (v.2.2 0) κ N) (hτ : ag (v.2.2 1) τ N) (hz : ∀ k, N < k → k ≤ 10 → τ k = -1) (h10 : N ≤ 10) (hC1 : 1 ≤ C) (hC3 : C ≤ 3) (htv : tv τ C N) {m c : Nat} (h1 : 1 ≤ m) (hm : m ≤ N) (hc : c < 3) {x : Int32} (h : ∀ w, MEq v w → w.2.1 = v.2.1 → post (odv (cnt (wl κ τ C N 1 τ) m c) (wl κ τ C N 1 τ).length x) w) : wX5_oddsNow (nI m) (nI c) x v post := by
  have hlen : (wl κ τ C N 1 τ).length < 100000 := Nat.lt_of_le_of_lt (wl_len hC3 N 1 τ) (Nat.lt_of_le_of_lt (Nat.pow_le_pow_right (by decide) h10) (by decide))
  have hcl : cnt (wl κ τ C N 1 τ) m c ≤ (wl κ τ C N 1 τ).length := List.countP_le_length
  refine p5_layWays hN hC hk hτ hz h10 hC1 hC3 htv (-1) (fun w hw hl h8 h7 _ => ?_)
  have hp := h w hw hl
  unfold odv at hp
  rw [show (3 : Int32) = nI 3 from rfl, pk_mul, nI_add, nI_clamp (by omega), h7 m c h1 hm hc]
  refine ⟨vp_in_nI (by omega) (by omega), fun q => ?_, fun q => ?_⟩
  · have q0 : ¬ cnt (wl κ τ C N 1 τ) m c = 0 := fun z => q (by rw [z]; rfl)
    rw [if_neg q0] at hp
    have gp : 0 < Nat.gcd (cnt (wl κ τ C N 1 τ) m c) (wl κ τ C N 1 τ).length := Nat.gcd_pos_of_pos_left _ (by omega)
    have gl : Nat.gcd (cnt (wl κ τ C N 1 τ) m c) (wl κ τ C N 1 τ).length ≤ cnt (wl κ τ C N 1 τ) m c := Nat.gcd_le_left _ (by omega)
    refine p5_gcd (by omega) hlen ⟨fun a => ?_, fun a => ?_⟩
    · rw [if_neg a] at hp
      rw [pk_div (by omega) gp (by omega)]
      exact ⟨nI_ne0 gp (by omega), hp⟩
    · rw [if_pos a] at hp
      rw [pk_div (by omega) gp (by omega)]
      exact ⟨nI_ne0 gp (by omega), hp⟩
  · have q0 : cnt (wl κ τ C N 1 τ) m c = 0 := (nI_eq (b := 0) (by omega) (by omega)).mp q
    rw [if_pos q0] at hp
    exact hp
end ODDS
