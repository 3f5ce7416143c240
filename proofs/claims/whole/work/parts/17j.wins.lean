/-! who wins -/
def wc (κ τ : Nat → Int32) (N C : Nat) : Nat → Nat → (Nat → Int32) → Int32
  | 0, _, _ => -1
  | k + 1, n, p => if τ n = -1 then fst1 (fun c => decide (bw κ (upd p n (nI c)) N n = 0) && (wc κ τ N C k (n + 1) (upd p n (nI c)) == -1)) 0 C else wc κ τ N C k (n + 1) p
def wt (κ : Nat → Int32) (N C : Nat) : List Nat → (Nat → Int32) → Int32
  | [], _ => -1
  | n :: ts, p => fst1 (fun c => decide (bad κ (upd p n (nI c)) N = 0) && (wt κ N C ts (upd p n (nI c)) == -1)) 0 C
def bares (τ : Nat → Int32) : Nat → Nat → List Nat
  | 0, _ => []
  | k + 1, n => if τ n = -1 then n :: bares τ k (n + 1) else bares τ k (n + 1)
theorem fst1_cg {P Q : Nat → Bool} : ∀ (j c : Nat), (∀ x, c ≤ x → x < c + j → P x = Q x) → fst1 P c j = fst1 Q c j := by
  intro j
  induction j with
  | zero => intro c _; rfl
  | succ j ih =>
    intro c h
    rw [fst1, fst1, h c (Nat.le_refl _) (by omega), ih (c + 1) (fun x a b => h x (by omega) (by omega))]
theorem wc_wt {κ τ : Nat → Int32} {N C : Nat} : ∀ (k n : Nat) (p : Nat → Int32), n + k = N + 1 → 1 ≤ n → bad κ p N = 0 → wc κ τ N C k n p = wt κ N C (bares τ k n) p := by
  intro k
  induction k with
  | zero => intro n p _ _ _; rfl
  | succ k ih =>
    intro n p hn h1 h0
    rw [wc, bares]
    by_cases ht : τ n = -1
    · rw [if_pos ht, if_pos ht, wt]
      refine fst1_cg C 0 (fun c _ _ => ?_)
      have hb := bad_new (κ := κ) (p := p) (x := nI c) h1 (show n ≤ N by omega) h0
      by_cases hz : bad κ (upd p n (nI c)) N = 0
      · have hz2 := hb.mp hz
        rw [ih (n + 1) (upd p n (nI c)) (by omega) (by omega) hz]
        simp only [hz, hz2]
      · have hz2 : ¬ bw κ (upd p n (nI c)) N n = 0 := fun z => hz (hb.mpr z)
        simp [hz, hz2]
    · rw [if_neg ht, if_neg ht]
      exact ih (n + 1) p (by omega) (by omega) h0
theorem bares_mem {τ : Nat → Int32} : ∀ (k n m : Nat), m ∈ bares τ k n → n ≤ m ∧ m < n + k ∧ τ m = -1 := by
  intro k
  induction k with
  | zero => intro n m h; exact absurd h (List.not_mem_nil)
  | succ k ih =>
    intro n m h
    rw [bares] at h
    by_cases ht : τ n = -1
    · rw [if_pos ht] at h
      rcases List.mem_cons.mp h with e | h
      · subst e; exact ⟨Nat.le_refl _, by omega, ht⟩
      · have := ih (n + 1) m h
        exact ⟨by omega, by omega, this.2.2⟩
    · rw [if_neg ht] at h
      have := ih (n + 1) m h
      exact ⟨by omega, by omega, this.2.2⟩
theorem bares_nd {τ : Nat → Int32} : ∀ (k n : Nat), (bares τ k n).Nodup := by
  intro k
  induction k with
  | zero => intro n; exact List.nodup_nil
  | succ k ih =>
    intro n
    rw [bares]
    by_cases ht : τ n = -1
    · rw [if_pos ht]
      refine List.nodup_cons.mpr ⟨fun h => ?_, ih (n + 1)⟩
      have := (bares_mem k (n + 1) n h).1
      omega
    · rw [if_neg ht]
      exact ih (n + 1)
theorem bares_len {τ : Nat → Int32} : ∀ (k n : Nat), (bares τ k n).length ≤ k := by
  intro k
  induction k with
  | zero => intro n; exact Nat.le_refl _
  | succ k ih =>
    intro n
    have := ih (n + 1)
    rw [bares]
    split
    · rw [List.length_cons]; omega
    · omega
section CWIN
variable {κ τ : Nat → Int32} {N C : Nat}
def ax (f p : Nat → Int32) (n N : Nat) : Prop := ∀ k : Nat, 1 ≤ k → k ≤ N → k ≠ n → f k = p k
theorem ax.up {f p : Nat → Int32} {n N : Nat} {x : Int32} (h : ax f p n N) : ag (upd f n x) (upd p n x) N := fun k a b => by
  by_cases e : k = n
  · subst e; rw [pk_us, pk_us]
  · rw [pk_un e, pk_un e]; exact h k a b e
theorem ax.bk {f p : Nat → Int32} {n N : Nat} {x : Int32} (h : ax f p n N) (e : p n = x) : ag (upd f n x) p N := fun k a b => by
  by_cases e2 : k = n
  · subst e2; rw [pk_us]; exact e.symm
  · rw [pk_un e2]; exact h k a b e2
theorem ag_ax {f p : Nat → Int32} {n N : Nat} {x : Int32} (h : ag f (upd p n x) N) : ax f p n N := fun k a b c => by rw [h k a b, pk_un c]
theorem c1_winLoop (hv : kv5 κ N) (h10 : N ≤ 10) (hC3 : C ≤ 3) {n k : Nat} {p : Nat → Int32} (h1 : 1 ≤ n) (hn : n ≤ N) (R : (Nat → Int32) → Int32) (rec : Int32 → SS → (Int32 → SS → Prop) → Prop)
    (ih : ∀ (c : Nat) (u : SS), xB κ τ N C u → ag (u.2.2 6) (upd p n (nI c)) N → ∀ post : Int32 → SS → Prop, (∀ w, Gm u w → ag (w.2.2 6) (upd p n (nI c)) N → post (R (upd p n (nI c))) w) → rec (nI (n + 1)) u post)
    {post : Int32 → SS → Prop} {K : Int32 → Int32 → SS → Prop} : ∀ (j c : Nat) (u : SS), c + j = C → xB κ τ N C u → ax (u.2.2 6) p n N → (∀ w x, Gm u w → ax (w.2.2 6) p n N → K (fst1 (fun c => decide (bw κ (upd p n (nI c)) N n = 0) && (R (upd p n (nI c)) == -1)) c j) x w) → wX1_winningColourFrom_36 post rec (nI n) K (j + 1) (-1) (nI c) u := by
  intro j
  induction j with
  | zero =>
    intro c u hc hB hp h
    have : c = C := by omega
    subst this
    refine br_t ?_ (h u _ (Gm.rf u) hp)
    rw [hB.2.1]
    exact nI_le (Nat.le_refl _) (by omega)
  | succ j ihj =>
    intro c u hc hB hp h
    rw [fst1] at h
    rw [wX1_winningColourFrom_36, xput_nI (j := 6) (by show n < 11; omega), nI_1 n, nI_1 c]
    refine br_f ?_ (bn_t rfl ?_)
    · rw [hB.2.1]
      intro z
      have := (nI_leI (by omega) (by omega)).mp z
      omega
    have g2 : Gm u (sA u 6 n (nI c)) := ⟨fun _ _ => rfl, fun j h6 => sR_ne _ _ h6⟩
    have hB2 := hB.gm g2
    have hp2 : ag ((sA u 6 n (nI c)).2.2 6) (upd p n (nI c)) N := by
      rw [show (sA u 6 n (nI c)).2.2 6 = upd (u.2.2 6) n (nI c) from sR_at _ _ _]
      exact hp.up
    refine c0_badWith hB2.1 hB2.2.2.1 hp2 hv rfl h1 hn h10 ?_
    have hbl : bw κ (upd p n (nI c)) N n < 2 ^ 31 := by
      have a := bsum_le κ (upd p n (nI c)) n
      have b := bo_le κ (upd p n (nI c)) n (N - n) 1
      unfold bw
      omega
    by_cases hz : bw κ (upd p n (nI c)) N n = 0
    · rw [hz]
      refine bn_t rfl ?_
      refine ih c _ hB2 hp2 _ (fun w gw hw => ?_)
      by_cases hr : R (upd p n (nI c)) = -1
      · rw [if_pos (by simp [hz, hr])] at h
        refine bn_t hr ?_
        rw [wX1_winningColourFrom_36]
        have hx : K (nI c) (nI (c + 1)) w := h w _ (g2.tr gw) (ag_ax hw)
        by_cases hq : w.1 4 ≤ nI (c + 1)
        · exact br_t hq hx
        · exact br_f hq (bn_f (nI_m1 (by omega)) hx)
      · rw [if_neg (by simp [hr])] at h
        refine bn_f hr ?_
        exact ihj (c + 1) w (by omega) (hB.gm (g2.tr gw)) (ag_ax hw) (fun z x gz => h z x ((g2.tr gw).tr gz))
    · rw [if_neg (by simp [hz])] at h
      refine bn_f (nI_ne0 (by omega) hbl) ?_
      exact ihj (c + 1) _ (by omega) hB2 (ag_ax hp2) (fun z x gz => h z x (g2.tr gz))
theorem c1_winFrom (hv : kv5 κ N) (h10 : N ≤ 10) (hC3 : C ≤ 3) : ∀ (k n : Nat) (p : Nat → Int32) (u : SS), n + k = N + 1 → 1 ≤ n → xB κ τ N C u → ag (u.2.2 6) p N → (∀ m, n ≤ m → m ≤ N → p m = τ m) → ∀ post : Int32 → SS → Prop, (∀ w, Gm u w → ag (w.2.2 6) p N → post (wc κ τ N C k n p) w) → wX1_winningColourFrom (k + 1) (nI n) u post := by
  intro k
  induction k with
  | zero =>
    intro n p u hn h1 hB hp hpt post h
    rw [wX1_winningColourFrom, hB.1]
    exact br_f (fun z => absurd ((nI_leI (by omega) (by omega)).mp z) (by omega)) (h u (Gm.rf u) hp)
  | succ k ih =>
    intro n p u hn h1 hB hp hpt post h
    rw [wc] at h
    rw [wX1_winningColourFrom, hB.1]
    unfold wX0_isBare
    rw [xat_nI (j := 2) (k := n) (by show n < 11; omega), hB.2.2.2 n h1 (by omega), nI_1 n]
    refine br_t (nI_le (by omega) (by omega)) ?_
    by_cases ht : τ n = -1
    · rw [if_pos ht] at h
      refine bn_t ht (bn_f (by decide) ⟨C + 1, ?_⟩)
      refine c1_winLoop (k := k) (p := p) hv h10 hC3 h1 (by omega) (wc κ τ N C k (n + 1)) _ (fun c w hw hq pst hpst => ih (n + 1) (upd p n (nI c)) w (by omega) (by omega) hw hq (fun m a b => by rw [pk_un (by omega)]; exact hpt m (by omega) b) pst hpst) C 0 u (by omega) hB (fun k a b _ => hp k a b) (fun w x gw hw => ?_)
      rw [xput_nI (j := 6) (by show n < 11; omega)]
      refine h _ (gw.tr ⟨fun _ _ => rfl, fun j h6 => sR_ne _ _ h6⟩) ?_
      rw [show (sA w 6 n (-1)).2.2 6 = upd (w.2.2 6) n (-1) from sR_at _ _ _]
      exact hw.bk (by rw [hpt n (Nat.le_refl _) (by omega)]; exact ht)
    · rw [if_neg ht] at h
      refine bn_f ht (bn_t rfl ?_)
      exact ih (n + 1) p u (by omega) (by omega) hB hp (fun m a b => hpt m (by omega) b) _ h
/-- what wins answers -/
def wnv (κ τ : Nat → Int32) (N C : Nat) : Int32 := if bad κ τ N = 0 then wt κ N C (bares τ N 1) τ else -1
theorem xcpy_26 (u : SS) : (xcpy u 2 6).1 = u.1 ∧ (∀ j, j ≠ 6 → (xcpy u 2 6).2.2 j = u.2.2 j) ∧ ∀ k, k < 11 → (xcpy u 2 6).2.2 6 k = u.2.2 2 k := by
  refine ⟨rfl, fun j h => sR_ne _ _ h, fun k hk => ?_⟩
  rw [show (xcpy u 2 6).2.2 6 = va_cpy (u.2.2 2) (u.2.2 6) 0 0 (xlen 2) from sR_at _ _ _, pk_cpy_in (Nat.zero_le _) (by show k < 0 + 11; omega)]
  rw [Nat.sub_zero, Nat.zero_add]
theorem c1_wins {u : SS} (hB : xB κ τ N C u) (hv : kv5 κ N) (h10 : N ≤ 10) (hC3 : C ≤ 3) {post : Int32 → SS → Prop} (h : ∀ w, Gm u w → post (wnv κ τ N C) w) : wX1_winningColour u post := by
  unfold wnv at h
  refine c0_badThrees hB.1 hB.2.2.1 hB.2.2.2 hv rfl h10 ?_
  have hbl := bad_le κ τ h10
  by_cases h0 : bad κ τ N = 0
  · rw [if_pos h0] at h
    rw [h0]
    have hx := xcpy_26 u
    have g : Gm u (xcpy u 2 6) := ⟨fun i _ => by rw [hx.1], hx.2.1⟩
    refine br_t (by decide) ⟨N + 1, by omega, ?_⟩
    refine c1_winFrom hv h10 hC3 N 1 τ _ (by omega) (by omega) (hB.gm g) (fun k a b => by rw [hx.2.2 k (by omega)]; exact hB.2.2.2 k a b) (fun _ _ _ => rfl) _ (fun w gw _ => ?_)
    rw [wc_wt N 1 τ (by omega) (by omega) h0]
    exact h w (g.tr gw)
  · rw [if_neg h0] at h
    exact br_f (nI_nle (by omega) (by omega)) (h u (Gm.rf u))
end CWIN
