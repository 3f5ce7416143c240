/-! the reference's answers -/
section RASK
variable {d : Dt} {v : SS} {post : Int32 → SS → Prop}
theorem r_srv (hd : DV d) (hx : MD d v) (x : Int32) : srt (fun t => alw (v.2.2 2) (v.2.2 3) (v.2.2 4) x t d.S 0) 5 0 0 = srv d x := by
  have : (fun t => alw (v.2.2 2) (v.2.2 3) (v.2.2 4) x t d.S 0) = fun t => alw d.f d.g d.h x t d.S 0 := by
    funext t
    exact alw_cg d.S 0 (by have := hd.2.2.2.2.2.1; omega) hx.2.2.2.2.1
  rw [this, srv]
theorem r_lay (hd : DV d) (hx : MD d v) (h0 : ¬ d.N = 0) (num : Int32) (h : ∀ w : SS, MEq v w → w.2.1 = v.2.1 → mKep d.κ d.τ d.N d.C w → (∀ i : Nat, num = nI i → i < (WL d).length → ∀ k, 1 ≤ k → k ≤ d.N → w.2.2 8 k = ((WL d).getD i (fun _ => 0)) k) → post (nI (WL d).length) w) : wX5_layWays num v post := by
  have hb := hd.b h0
  exact p5_layWays hx.1.1 hx.1.2.1 hx.1.2.2.1 hx.1.2.2.2 hd.2.2.2.1 hb.2.1 (by omega) hb.2.2.2 hd.2.2.1 num (fun w a b c e f => h w a b ⟨c, e⟩ f)
theorem r_number (hd : DV d) (hx : MD d v) {m t : Nat} (h1 : 1 ≤ m) (hm : m ≤ d.N) (ht : t ≤ 5) (h : ∀ w, MEq v w → w.2.1 = v.2.1 → post (nv d m t) w) : wX5_numberNow (nI m) (nI t) v post := by
  have hn := hd.n
  have h0 : ¬ d.N = 0 := by omega
  have hb := hd.b h0
  have hu := h v (MEq.rf v) rfl
  have hin : vp_in (nI m) 11 := vp_in_nI (by omega) (by omega)
  have ec : (nI m).toNatClampNeg = m := nI_clamp (by omega)
  have h6 : t = 0 ∨ t = 1 ∨ t = 2 ∨ t = 3 ∨ t = 4 ∨ t = 5 := by omega
  rcases h6 with rfl | rfl | rfl | rfl | rfl | rfl
  · refine ⟨fun _ => ⟨hin, ?_⟩, fun e => absurd e (by decide), fun e => absurd e (by decide), fun e => absurd e (by decide), fun e => absurd e (by decide), fun z => absurd rfl z⟩
    rw [ec, hx.1.2.2.1 m h1 hm]
    exact hu
  · refine ⟨fun e => absurd e (by decide), fun _ => ⟨hin, ?_⟩, fun e => absurd e (by decide), fun e => absurd e (by decide), fun e => absurd e (by decide), fun _ z => absurd rfl z⟩
    rw [ec, hx.1.2.2.2 m h1 hm]
    exact hu
  · refine ⟨fun e => absurd e (by decide), fun e => absurd e (by decide), fun _ => ?_, fun e => absurd e (by decide), fun e => absurd e (by decide), fun _ _ z => absurd rfl z⟩
    refine r_lay hd hx h0 (-1) (fun w hw hl hk _ => ?_)
    exact p5_sure (hx.eq hw).1.2.1 hk hb.2.1 hb.2.2.2 h1 hm (h w hw hl)
  · refine ⟨fun e => absurd e (by decide), fun e => absurd e (by decide), fun e => absurd e (by decide), fun _ => ?_, fun e => absurd e (by decide), fun _ _ _ z => absurd rfl z⟩
    refine p5_sorts hx.2.2.2.1 hd.2.2.2.2.2.1 ?_
    rw [r_srv hd hx]
    exact hu
  · refine ⟨fun e => absurd e (by decide), fun e => absurd e (by decide), fun e => absurd e (by decide), fun e => absurd e (by decide), fun _ => ?_, fun _ _ _ _ z => absurd rfl z⟩
    refine p5_ask hx.2.2.2.1 hd.2.2.2.2.2.1 ?_
    rw [r_srv hd hx]
    exact hu
  · refine ⟨fun e => absurd e (by decide), fun e => absurd e (by decide), fun e => absurd e (by decide), fun e => absurd e (by decide), fun e => absurd e (by decide), fun _ _ _ _ _ => ?_⟩
    exact p5_badOf hx.1.1 hx.1.2.2.1 hx.1.2.2.2 h1 hm hn.1 (fun F => h _ (me_R6 v F) rfl)
theorem r_ways (hd : DV d) (hx : MD d v) (h0 : ¬ d.N = 0) {t : Nat} (ht : t ≤ 2) (h : ∀ w, MEq v w → w.2.1 = v.2.1 → post (wyv d t) w) : wX5_waysNow (nI t) v post := by
  have hb := hd.b h0
  have h3 : t = 0 ∨ t = 1 ∨ t = 2 := by omega
  rcases h3 with rfl | rfl | rfl
  · exact bn_t rfl (r_lay hd hx h0 (-1) (fun w hw hl _ _ => h w hw hl))
  · exact bn_f (by decide) (bn_t rfl (p5_next hx.1.1 hx.1.2.1 hx.1.2.2.1 hx.1.2.2.2 hd.2.2.2.1 hb.2.1 (by omega) hb.2.2.2 hd.2.2.1 h))
  · exact bn_f (by decide) (bn_f (by decide) (p5_up hx.1.1 hx.1.2.1 hx.1.2.2.1 hx.1.2.2.2 hd.2.2.2.1 hb.2.1 (by omega) hb.2.2.2 hd.2.2.1 (fun F => h _ (me_R6 v F) rfl)))
theorem r_mend (hd : DV d) (hx : MD d v) (h0 : ¬ d.N = 0) (h : ∀ w, MEq v w → w.2.1 = v.2.1 → post (mdv d.κ d.τ d.N d.C) w) : wX5_mendNow v post := by
  have hb := hd.b h0
  exact p5_mend hx.1.1 hx.1.2.1 hx.1.2.2.1 hx.1.2.2.2 hb.2.1 (by omega) hb.2.2.2 h
theorem r_wins (hd : DV d) (hx : MD d v) (h0 : ¬ d.N = 0) {t : Nat} (ht : t ≤ 1) (h : ∀ w, MEq v w → w.2.1 = v.2.1 → post (wiv d t) w) : wX5_winsNow (nI t) v post := by
  have hb := hd.b h0
  refine p5_wins hx.1.1 hx.1.2.1 hx.1.2.2.1 hx.1.2.2.2 hb.2.1 hb.2.2.2 (fun w hw hl => ?_)
  have hp := h w hw hl
  unfold wiv at hp
  have h3 : t = 0 ∨ t = 1 := by omega
  rcases h3 with rfl | rfl
  · rw [if_neg (by decide)] at hp
    refine bn_f (by decide) ⟨fun e => ?_, fun e => ?_⟩
    · rw [if_neg e] at hp; exact hp
    · rw [if_pos e] at hp; exact hp
  · rw [if_pos rfl] at hp
    exact bn_t rfl hp
theorem r_odds (hd : DV d) (hx : MD d v) {m c : Nat} (h1 : 1 ≤ m) (hm : m ≤ d.N) (hc : c < 3) {x : Int32} (h : ∀ w, MEq v w → w.2.1 = v.2.1 → post (odv (cnt (WL d) m c) (WL d).length x) w) : wX5_oddsNow (nI m) (nI c) x v post := by
  have hb := hd.b (by omega)
  exact p5_oddsNow hx.1.1 hx.1.2.1 hx.1.2.2.1 hx.1.2.2.2 hd.2.2.2.1 hb.2.1 (by omega) hb.2.2.2 hd.2.2.1 h1 hm hc h
theorem r_bare_loop {τ : Nat → Int32} {N : Nat} (hN : v.1 1 = nI N) (hτ : ag (v.2.2 1) τ N) (h10 : N ≤ 10) {K : Int32 → Int32 → SS → Prop} : ∀ (j n a : Nat), 1 ≤ n → n + j = N + 1 → (∀ y, K (nI (a + brc τ j n)) y v) → wX5_bare_4 post K (j + 1) (nI a) (nI n) v := by
  intro j
  induction j with
  | zero =>
    intro n a h1 hn h
    refine br_t ?_ (h _)
    rw [hN]
    exact (nI_ltI (by omega) (by omega)).mpr (by omega)
  | succ j ih =>
    intro n a h1 hn h
    rw [brc] at h
    rw [wX5_bare_4, hN, nI_clamp (by omega), hτ n h1 (by omega), nI_1 n, nI_1 a, show nI a + (0 : Int32) = nI (a + 0) from nI_add a 0]
    refine br_f (fun z => absurd ((nI_ltI (by omega) (by omega)).mp z) (by omega)) ⟨vp_in_nI (by omega) (by omega), ?_⟩
    by_cases ht : τ n = -1
    · rw [if_pos ht] at h
      exact bn_t ht (ih (n + 1) (a + 1) (by omega) (by omega) (fun y => by rw [Nat.add_assoc]; exact h y))
    · rw [if_neg ht] at h
      exact bn_f ht (ih (n + 1) (a + 0) (by omega) (by omega) (fun y => by rw [Nat.add_assoc]; exact h y))
theorem r_thr_loop {N : Nat} (hN : v.1 1 = nI N) (h10 : N ≤ 10) {K : Int32 → Int32 → SS → Prop} : ∀ (j s a : Nat), s + j = N + 1 ∨ (j = 0 ∧ N < s ∧ s ≤ 2) → (∀ y, K (nI (a + thc j s)) y v) → wX5_threes_4 post K (j + 1) (nI a) (nI s) v := by
  intro j
  induction j with
  | zero =>
    intro s a hs h
    refine br_t ?_ (h _)
    rw [hN]
    exact (nI_ltI (by omega) (by omega)).mpr (by omega)
  | succ j ih =>
    intro s a hs h
    rw [thc] at h
    rw [wX5_threes_4, hN, show (2 : Int32) = nI 2 from rfl, pk_div (by omega) (by omega) (by omega), nI_add, nI_1]
    refine br_f (fun z => absurd ((nI_ltI (by omega) (by omega)).mp z) (by omega)) ?_
    exact ih (s + 1) _ (by omega) (fun y => by rw [Nat.add_assoc]; exact h y)
theorem thc_1 (N : Nat) : thc N 1 = thc (N - 1) 2 := by
  cases N with
  | zero => rfl
  | succ N =>
    rw [thc, Nat.add_sub_cancel]
    exact Nat.zero_add _
theorem r_count (hd : DV d) (hx : MD d v) {t : Nat} (ht : t ≤ 8) (h : ∀ w, MEq v w → w.2.1 = v.2.1 → post (ctv d t) w) : wX5_howMany (nI t) v post := by
  have hn := hd.n
  have hu := h v (MEq.rf v) rfl
  have h9 : t = 0 ∨ t = 1 ∨ t = 2 ∨ t = 3 ∨ t = 4 ∨ t = 5 ∨ t = 6 ∨ t = 7 ∨ t = 8 := by omega
  rcases h9 with rfl | rfl | rfl | rfl | rfl | rfl | rfl | rfl | rfl
  · refine ⟨fun _ => ?_, fun e => absurd e (by decide), fun e => absurd e (by decide), fun e => absurd e (by decide), fun e => absurd e (by decide), fun e => absurd e (by decide), fun e => absurd e (by decide), fun e => absurd e (by decide), fun e => absurd e (by decide), fun z => absurd rfl z⟩
    rw [hx.1.1]; exact hu
  · refine ⟨fun e => absurd e (by decide), fun _ => ?_, fun e => absurd e (by decide), fun e => absurd e (by decide), fun e => absurd e (by decide), fun e => absurd e (by decide), fun e => absurd e (by decide), fun e => absurd e (by decide), fun e => absurd e (by decide), fun _ z => absurd rfl z⟩
    rw [hx.1.2.1]; exact hu
  · refine ⟨fun e => absurd e (by decide), fun e => absurd e (by decide), fun _ => ⟨d.N + 1, ?_⟩, fun e => absurd e (by decide), fun e => absurd e (by decide), fun e => absurd e (by decide), fun e => absurd e (by decide), fun e => absurd e (by decide), fun e => absurd e (by decide), fun _ _ z => absurd rfl z⟩
    exact r_bare_loop hx.1.1 hx.1.2.2.2 hn.1 d.N 1 0 (by omega) (by omega) (fun _ => by rw [Nat.zero_add]; exact hu)
  · refine ⟨fun e => absurd e (by decide), fun e => absurd e (by decide), fun e => absurd e (by decide), fun _ => ?_, fun e => absurd e (by decide), fun e => absurd e (by decide), fun e => absurd e (by decide), fun e => absurd e (by decide), fun e => absurd e (by decide), fun _ _ _ z => absurd rfl z⟩
    exact p5_badNow hx.1.1 hx.1.2.2.1 hx.1.2.2.2 hn.1 (fun F => h _ (me_R6 v F) rfl)
  · refine ⟨fun e => absurd e (by decide), fun e => absurd e (by decide), fun e => absurd e (by decide), fun e => absurd e (by decide), fun _ => ⟨d.N - 1 + 1, ?_⟩, fun e => absurd e (by decide), fun e => absurd e (by decide), fun e => absurd e (by decide), fun e => absurd e (by decide), fun _ _ _ _ z => absurd rfl z⟩
    exact r_thr_loop hx.1.1 hn.1 (d.N - 1) 2 0 (by omega) (fun _ => by rw [Nat.zero_add, ← thc_1]; exact hu)
  · refine ⟨fun e => absurd e (by decide), fun e => absurd e (by decide), fun e => absurd e (by decide), fun e => absurd e (by decide), fun e => absurd e (by decide), fun _ => ?_, fun e => absurd e (by decide), fun e => absurd e (by decide), fun e => absurd e (by decide), fun _ _ _ _ _ z => absurd rfl z⟩
    rw [hx.2.2.1]; exact hu
  · refine ⟨fun e => absurd e (by decide), fun e => absurd e (by decide), fun e => absurd e (by decide), fun e => absurd e (by decide), fun e => absurd e (by decide), fun e => absurd e (by decide), fun _ => ?_, fun e => absurd e (by decide), fun e => absurd e (by decide), fun _ _ _ _ _ _ z => absurd rfl z⟩
    rw [hx.2.2.2.1]; exact hu
  · refine ⟨fun e => absurd e (by decide), fun e => absurd e (by decide), fun e => absurd e (by decide), fun e => absurd e (by decide), fun e => absurd e (by decide), fun e => absurd e (by decide), fun e => absurd e (by decide), fun _ => ?_, fun e => absurd e (by decide), fun _ _ _ _ _ _ _ z => absurd rfl z⟩
    rw [hx.2.1.1]; exact hu
  · refine ⟨fun e => absurd e (by decide), fun e => absurd e (by decide), fun e => absurd e (by decide), fun e => absurd e (by decide), fun e => absurd e (by decide), fun e => absurd e (by decide), fun e => absurd e (by decide), fun e => absurd e (by decide), fun _ => ?_, fun _ _ _ _ _ _ _ _ z => absurd rfl z⟩
    rw [hx.2.2.2.2.2]; exact hu
theorem r_count_out {b : Int32} (hb : ∀ t : Nat, t ≤ 8 → ¬ b = nI t) (h : post (-102) v) : wX5_howMany b v post :=
  ⟨fun e => absurd e (hb 0 (by omega)), fun e => absurd e (hb 1 (by omega)), fun e => absurd e (hb 2 (by omega)), fun e => absurd e (hb 3 (by omega)), fun e => absurd e (hb 4 (by omega)), fun e => absurd e (hb 5 (by omega)), fun e => absurd e (hb 6 (by omega)), fun e => absurd e (hb 7 (by omega)), fun e => absurd e (hb 8 (by omega)), fun _ _ _ _ _ _ _ _ _ => h⟩
end RASK
/-! steps that change nothing -/
theorem rg_dec (b : Int32) (M : Nat) : (∃ t : Nat, t ≤ M ∧ b = nI t) ∨ ∀ t : Nat, t ≤ M → ¬ b = nI t := by
  by_cases h : ∃ t : Nat, t ≤ M ∧ b = nI t
  · exact Or.inl h
  · exact Or.inr (fun t ht e => h ⟨t, ht, e⟩)
theorem rg_out {b : Int32} {M : Nat} (hM : M < 1000) (h : ∀ t : Nat, t ≤ M → ¬ b = nI t) : b < 0 ∨ nI M < b := by
  by_cases h0 : b < 0
  · exact Or.inl h0
  · by_cases h1 : nI M < b
    · exact Or.inr h1
    · obtain ⟨t, ht, e⟩ := rg_of hM h0 h1
      exact absurd e (h t ht)
theorem rg_in {t M : Nat} (hM : M < 1000) (ht : t ≤ M) : ¬ nI t < 0 ∧ ¬ nI M < nI t := ⟨nI_pos (by omega), fun z => absurd ((nI_ltI (by omega) (by omega)).mp z) (by omega)⟩
theorem st_fault : St_fault Rel := by
  intro n u v _ h
  obtain ⟨d, hd, hx, hm, hc, hb, hk, hi⟩ := h
  refine c2_fault hd.2.2.2.2.1 hx.2.1 ?_
  refine p5_read hd.2.2.2.2.1 hm.2.1 (fun w hw _ _ => ⟨rfl, ?_⟩)
  exact rz hd hx hm hb hk hi (XEq.rf u) hc (rdv_M hw)
theorem st_number : St_number Rel := by
  intro n u v a b _ h
  obtain ⟨d, hd, hx, hm, hc, hb, hk, hi⟩ := h
  by_cases ha : isNm a d.N
  · obtain ⟨m, h1, h2, rfl⟩ := ha
    rcases rg_dec b 5 with ⟨t, ht, rfl⟩ | ho
    · have hr := rg_in (M := 5) (by omega) ht
      refine q_number hd hx hc h1 h2 ht (fun w hw hcw => ?_)
      refine p_isN hm.1.1 hd.n.1 (fun _ => bn_f (by decide) ?_) (fun z => absurd ⟨m, h1, h2, rfl⟩ z)
      refine p_rg (fun _ _ => br_f (by decide) ?_) (fun z => absurd z (fun q => q.elim hr.1 hr.2))
      exact r_number hd hm h1 h2 ht (fun z hz _ => ⟨rfl, rz hd hx hm hb hk hi hw hcw hz⟩)
    · have hr := rg_out (by omega) ho
      refine q_number_out hd hx h1 h2 ho ?_
      refine p_isN hm.1.1 hd.n.1 (fun _ => bn_f (by decide) ?_) (fun z => absurd ⟨m, h1, h2, rfl⟩ z)
      exact p_rg (fun z1 z2 => absurd hr (fun q => q.elim z1 z2)) (fun _ => br_t rfl ⟨rfl, rz hd hx hm hb hk hi (XEq.rf u) hc (MEq.rf v)⟩)
  · refine c_hasN hx.1.1 hd.n.1 (fun z => absurd z ha) (fun _ => bn_t rfl ?_)
    exact p_isN hm.1.1 hd.n.1 (fun z => absurd z ha) (fun _ => bn_t rfl ⟨rfl, rz hd hx hm hb hk hi (XEq.rf u) hc (MEq.rf v)⟩)
theorem st_ways : St_ways Rel := by
  intro n u v a _ h
  obtain ⟨d, hd, hx, hm, hc, hb, hk, hi⟩ := h
  rcases rg_dec a 2 with ⟨t, ht, rfl⟩ | ho
  · have hr := rg_in (M := 2) (by omega) ht
    refine q_ways hd hx hc ht (fun w hw hcw h0 => ?_) (fun e => ?_)
    · refine p_rg (fun _ _ => bn_f (by decide) (bn_f ?_ ?_)) (fun z => absurd z (fun q => q.elim hr.1 hr.2))
      · rw [hm.1.1]
        have := hd.n
        exact nI_ne0 (by omega) (by omega)
      · exact r_ways hd hm h0 ht (fun z hz _ => ⟨rfl, rz hd hx hm hb hk hi hw hcw hz⟩)
    · refine p_rg (fun _ _ => bn_f (by decide) (bn_t ?_ ⟨rfl, rz hd hx hm hb hk hi (XEq.rf u) hc (MEq.rf v)⟩)) (fun z => absurd z (fun q => q.elim hr.1 hr.2))
      rw [hm.1.1, e]
      rfl
  · have hr := rg_out (by omega) ho
    have fin : wX5_ways a v (fun r2 v1 => -102 = r2 ∧ Rel u v1 (n + 1)) := p_rg (fun z1 z2 => absurd hr (fun q => q.elim z1 z2)) (fun _ => bn_t rfl ⟨rfl, rz hd hx hm hb hk hi (XEq.rf u) hc (MEq.rf v)⟩)
    exact ⟨fun _ => fin, fun z => ⟨fun y => absurd hr (fun q => q.elim z (le_nlt.mp y)), fun _ => fin⟩⟩
theorem st_mend : St_mend Rel := by
  intro n u v _ h
  obtain ⟨d, hd, hx, hm, hc, hb, hk, hi⟩ := h
  refine q_mend hd hx hc (fun w hw hcw h0 => bn_f ?_ ?_) (fun e => bn_t ?_ ⟨rfl, rz hd hx hm hb hk hi (XEq.rf u) hc (MEq.rf v)⟩)
  · rw [hm.1.1]
    have := hd.n
    exact nI_ne0 (by omega) (by omega)
  · exact r_mend hd hm h0 (fun z hz _ => ⟨rfl, rz hd hx hm hb hk hi hw hcw hz⟩)
  · rw [hm.1.1, e]
    rfl
theorem st_wins : St_wins Rel := by
  intro n u v a _ h
  obtain ⟨d, hd, hx, hm, hc, hb, hk, hi⟩ := h
  rcases rg_dec a 1 with ⟨t, ht, rfl⟩ | ho
  · have hr := rg_in (M := 1) (by omega) ht
    refine q_wins hd hx hc ht (fun w hw hcw h0 => ?_) (fun e => ?_)
    · refine p_rg (fun _ _ => bn_f (by decide) (bn_f ?_ ?_)) (fun z => absurd z (fun q => q.elim hr.1 hr.2))
      · rw [hm.1.1]
        have := hd.n
        exact nI_ne0 (by omega) (by omega)
      · exact r_wins hd hm h0 ht (fun z hz _ => ⟨rfl, rz hd hx hm hb hk hi hw hcw hz⟩)
    · refine p_rg (fun _ _ => bn_f (by decide) (bn_t ?_ ⟨rfl, rz hd hx hm hb hk hi (XEq.rf u) hc (MEq.rf v)⟩)) (fun z => absurd z (fun q => q.elim hr.1 hr.2))
      rw [hm.1.1, e]
      rfl
  · have hr := rg_out (by omega) ho
    have fin : wX5_wins a v (fun r2 v1 => -102 = r2 ∧ Rel u v1 (n + 1)) := p_rg (fun z1 z2 => absurd hr (fun q => q.elim z1 z2)) (fun _ => bn_t rfl ⟨rfl, rz hd hx hm hb hk hi (XEq.rf u) hc (MEq.rf v)⟩)
    exact ⟨fun _ => fin, fun z => ⟨fun y => absurd hr (fun q => q.elim z (le_nlt.mp y)), fun _ => fin⟩⟩
theorem st_count : St_count Rel := by
  intro n u v a _ h
  obtain ⟨d, hd, hx, hm, hc, hb, hk, hi⟩ := h
  rcases rg_dec a 8 with ⟨t, ht, rfl⟩ | ho
  · exact q_count hd hx ht (r_count hd hm ht (fun z hz _ => ⟨rfl, rz hd hx hm hb hk hi (XEq.rf u) hc hz⟩))
  · exact q_count_out ho (r_count_out ho ⟨rfl, rz hd hx hm hb hk hi (XEq.rf u) hc (MEq.rf v)⟩)
theorem st_odds : St_odds Rel := by
  intro n u v a b c _ h
  obtain ⟨d, hd, hx, hm, hc, hb, hk, hi⟩ := h
  have hn := hd.n
  have same : Rel u v (n + 1) := rz hd hx hm hb hk hi (XEq.rf u) hc (MEq.rf v)
  by_cases ha : isNm a d.N
  · obtain ⟨m, h1, h2, rfl⟩ := ha
    have hbd := hd.b (by omega)
    by_cases hcl : isCl b d.C
    · obtain ⟨k, hk2, rfl⟩ := hcl
      rcases rg_dec c 1 with ⟨t, ht, rfl⟩ | ho
      · have hr := rg_in (M := 1) (by omega) ht
        refine q_odds hd hx hc h1 h2 hk2 ht (fun w hw hcw => ?_)
        refine p_isN hm.1.1 hn.1 (fun _ => bn_f (by decide) ?_) (fun z => absurd ⟨m, h1, h2, rfl⟩ z)
        refine p_isC hm.1.2.1 (by omega) hn.2 (fun _ => br_f (by decide) ?_) (fun z => absurd ⟨k, hk2, rfl⟩ z)
        refine p_rg (fun _ _ => br_f (by decide) ?_) (fun z => absurd z (fun q => q.elim hr.1 hr.2))
        exact r_odds hd hm h1 h2 (by omega) (fun z hz _ => ⟨rfl, rz hd hx hm hb hk hi hw hcw hz⟩)
      · have hr := rg_out (by omega) ho
        have fin : wX5_odds (nI m) (nI k) c v (fun r2 v1 => -102 = r2 ∧ Rel u v1 (n + 1)) := by
          refine p_isN hm.1.1 hn.1 (fun _ => bn_f (by decide) ?_) (fun z => absurd ⟨m, h1, h2, rfl⟩ z)
          refine p_isC hm.1.2.1 (by omega) hn.2 (fun _ => br_f (by decide) ?_) (fun z => absurd ⟨k, hk2, rfl⟩ z)
          exact p_rg (fun z1 z2 => absurd hr (fun q => q.elim z1 z2)) (fun _ => br_t rfl ⟨rfl, same⟩)
        refine c_hasN hx.1.1 hn.1 (fun _ => bn_f (by decide) ?_) (fun z => absurd ⟨m, h1, h2, rfl⟩ z)
        refine c_hasC hx.1.2.1 hn.2 (fun _ => br_f (by decide) ?_) (fun z => absurd ⟨k, hk2, rfl⟩ z)
        exact ⟨fun _ => fin, fun z => ⟨fun y => absurd hr (fun q => q.elim z (le_nlt.mp y)), fun _ => fin⟩⟩
    · refine c_hasN hx.1.1 hn.1 (fun _ => bn_f (by decide) ?_) (fun z => absurd ⟨m, h1, h2, rfl⟩ z)
      refine c_hasC hx.1.2.1 hn.2 (fun z => absurd z hcl) (fun _ => br_t rfl ?_)
      refine p_isN hm.1.1 hn.1 (fun _ => bn_f (by decide) ?_) (fun z => absurd ⟨m, h1, h2, rfl⟩ z)
      exact p_isC hm.1.2.1 (by omega) hn.2 (fun z => absurd z hcl) (fun _ => br_t rfl ⟨rfl, same⟩)
  · refine c_hasN hx.1.1 hn.1 (fun z => absurd z ha) (fun _ => bn_t rfl ?_)
    exact p_isN hm.1.1 hn.1 (fun z => absurd z ha) (fun _ => bn_t rfl ⟨rfl, same⟩)
