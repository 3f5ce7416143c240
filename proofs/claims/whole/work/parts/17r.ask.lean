/-! the calls that change nothing, each side by itself -/
def WL (d : Dt) : List (Nat → Int32) := wl d.κ d.τ d.C d.N 1 d.τ
def srv (d : Dt) (x : Int32) : Int32 := srt (fun t => alw d.f d.g d.h x t d.S 0) 5 0 0
def nv (d : Dt) (m t : Nat) : Int32 := if t = 0 then d.κ m else if t = 1 then d.τ m else if t = 2 then fst1 (sureB (WL d) m) 0 d.C else if t = 3 then srv d (nI m) else if t = 4 then akv (srv d (nI m)) else nI (bw d.κ d.τ d.N m)
def wyv (d : Dt) (t : Nat) : Int32 := if t = 0 then nI (WL d).length else if t = 1 then (nxO (WL d) d.τ d.C d.N 1 (-1, 0)).1 else nI (upf d.κ d.τ d.C d.N 1 d.τ)
def wiv (d : Dt) (t : Nat) : Int32 := if t = 1 then wnv d.κ d.τ d.N d.C else if wnv d.κ d.τ d.N d.C = -1 then 0 else 1
def brc (τ : Nat → Int32) : Nat → Nat → Nat
  | 0, _ => 0
  | j + 1, n => (if τ n = -1 then 1 else 0) + brc τ j (n + 1)
def thc : Nat → Nat → Nat
  | 0, _ => 0
  | j + 1, s => s / 2 + thc j (s + 1)
def ctv (d : Dt) (t : Nat) : Int32 := if t = 0 then nI d.N else if t = 1 then nI d.C else if t = 2 then nI (brc d.τ d.N 1) else if t = 3 then nI (bad d.κ d.τ d.N) else if t = 4 then nI (thc d.N 1) else if t = 5 then nI d.ch else if t = 6 then nI d.S else if t = 7 then nI d.L else nI d.bd
section CASK
variable {d : Dt} {u : SS} {post : Int32 → SS → Prop}
theorem DV.b (hd : DV d) (h0 : ¬ d.N = 0) : 4 ≤ d.N ∧ d.N ≤ 10 ∧ 2 ≤ d.C ∧ d.C ≤ 3 := by
  rcases hd.1 with h | h
  · exact absurd h.1 h0
  · exact h
theorem DV.n (hd : DV d) : d.N ≤ 10 ∧ d.C ≤ 3 := by
  rcases hd.1 with h | h
  · exact ⟨by omega, by omega⟩
  · exact ⟨h.2.1, h.2.2.2⟩
theorem DV.gr (hd : DV d) : ∀ k, k < 6 → ∃ r, r < 3 ∧ d.g k = nI r := fun k hk => (hd.2.2.2.2.2.2.1 k hk).1
theorem wl_lt (hd : DV d) : (WL d).length < 100000 := Nat.lt_of_le_of_lt (wl_len hd.n.2 d.N 1 d.τ) (Nat.lt_of_le_of_lt (Nat.pow_le_pow_right (by decide) hd.n.1) (by decide))
theorem q_ref (hd : DV d) (hx : XD d u) (hc : CKd d u) {post : SS → Prop} (h : ∀ w, XEq u w → CKd d w → Kep d.κ d.τ d.N d.C w → post w) : wX1_refresh u post :=
  c1_refresh hx.1 hd.2.1 hd.n.1 hd.n.2 hc (fun w hw h11 hk => h w hw (Or.inr hk) hk)
theorem q_srv (hd : DV d) (hx : XD d u) (x : Int32) : srt (fun t => alw (u.2.2 3) (u.2.2 4) (u.2.2 5) x t d.S 0) 5 0 0 = srv d x := by
  have : (fun t => alw (u.2.2 3) (u.2.2 4) (u.2.2 5) x t d.S 0) = fun t => alw d.f d.g d.h x t d.S 0 := by
    funext t
    exact alw_cg d.S 0 (by have := hd.2.2.2.2.2.1; omega) hx.2.2.2.2.1
  rw [this, srv]
theorem q_gr (hd : DV d) (hx : XD d u) : ∀ k, k < 6 → ∃ r, r < 3 ∧ u.2.2 4 k = nI r := fun k hk => by
  rw [(hx.2.2.2.2.1 k hk).2.1]
  exact hd.gr k hk
theorem q_number (hd : DV d) (hx : XD d u) (hc : CKd d u) {m t : Nat} (h1 : 1 ≤ m) (hm : m ≤ d.N) (ht : t ≤ 5) (h : ∀ w, XEq u w → CKd d w → post (nv d m t) w) : wX4_number (nI m) (nI t) u post := by
  have hn := hd.n
  refine c_hasN hx.1.1 hn.1 (fun _ => bn_f (by decide) ?_) (fun z => absurd ⟨m, h1, hm, rfl⟩ z)
  have hu := h u (XEq.rf u) hc
  have h6 : t = 0 ∨ t = 1 ∨ t = 2 ∨ t = 3 ∨ t = 4 ∨ t = 5 := by omega
  rcases h6 with rfl | rfl | rfl | rfl | rfl | rfl
  · refine ⟨fun _ => ?_, fun e => absurd e (by decide), fun e => absurd e (by decide), fun e => absurd e (by decide), fun e => absurd e (by decide), fun e => absurd e (by decide), fun z => absurd rfl z⟩
    rw [xat_nI (j := 1) (k := m) (by show m < 11; omega), hx.1.2.2.1 m h1 hm]
    exact hu
  · refine ⟨fun e => absurd e (by decide), fun _ => ?_, fun e => absurd e (by decide), fun e => absurd e (by decide), fun e => absurd e (by decide), fun e => absurd e (by decide), fun _ z => absurd rfl z⟩
    rw [xat_nI (j := 2) (k := m) (by show m < 11; omega), hx.1.2.2.2 m h1 hm]
    exact hu
  · refine ⟨fun e => absurd e (by decide), fun e => absurd e (by decide), fun _ => ?_, fun e => absurd e (by decide), fun e => absurd e (by decide), fun e => absurd e (by decide), fun _ _ z => absurd rfl z⟩
    refine q_ref hd hx hc (fun w hw hcw hkw => ?_)
    exact c1_sure (hx.eq hw).1 hkw hn.1 hn.2 h1 hm (h w hw hcw)
  · refine ⟨fun e => absurd e (by decide), fun e => absurd e (by decide), fun e => absurd e (by decide), fun _ => ?_, fun e => absurd e (by decide), fun e => absurd e (by decide), fun _ _ _ z => absurd rfl z⟩
    refine c3_sorts hx.2.2.2.1 hd.2.2.2.2.2.1 (q_gr hd hx) ?_
    rw [q_srv hd hx]
    exact hu
  · refine ⟨fun e => absurd e (by decide), fun e => absurd e (by decide), fun e => absurd e (by decide), fun e => absurd e (by decide), fun _ => ?_, fun e => absurd e (by decide), fun _ _ _ _ z => absurd rfl z⟩
    refine c3_ask hx.2.2.2.1 hd.2.2.2.2.2.1 (q_gr hd hx) ?_
    rw [q_srv hd hx]
    exact hu
  · refine ⟨fun e => absurd e (by decide), fun e => absurd e (by decide), fun e => absurd e (by decide), fun e => absurd e (by decide), fun e => absurd e (by decide), fun _ => ?_, fun _ _ _ _ _ z => absurd rfl z⟩
    exact c0_badWith hx.1.1 hx.1.2.2.1 hx.1.2.2.2 hd.2.1 rfl h1 hm hn.1 hu
theorem q_number_out (hd : DV d) (hx : XD d u) {m : Nat} (h1 : 1 ≤ m) (hm : m ≤ d.N) {b : Int32} (hb : ∀ t : Nat, t ≤ 5 → ¬ b = nI t) (h : post (-102) u) : wX4_number (nI m) b u post :=
  c_hasN hx.1.1 hd.n.1 (fun _ => bn_f (by decide) ⟨fun e => absurd e (hb 0 (by omega)), fun e => absurd e (hb 1 (by omega)), fun e => absurd e (hb 2 (by omega)), fun e => absurd e (hb 3 (by omega)), fun e => absurd e (hb 4 (by omega)), fun e => absurd e (hb 5 (by omega)), fun _ _ _ _ _ _ => h⟩) (fun z => absurd ⟨m, h1, hm, rfl⟩ z)
theorem q_there (hd : DV d) (hx : XD d u) (h1 : ¬ d.N = 0 → post 1 u) (h0 : d.N = 0 → post 0 u) : wX0_isThere u post := by
  have hn := hd.n
  unfold wX0_isThere
  rw [hx.1.1]
  refine ⟨fun z => h0 ?_, fun z => h1 (fun e => z (by rw [e]; decide))⟩
  apply Classical.byContradiction
  intro e
  exact nI_nle (by omega) (by omega) z
theorem q_ways (hd : DV d) (hx : XD d u) (hc : CKd d u) {t : Nat} (ht : t ≤ 2) (h : ∀ w, XEq u w → CKd d w → ¬ d.N = 0 → post (wyv d t) w) (h0 : d.N = 0 → post (-103) u) : wX4_ways (nI t) u post := by
  have hn := hd.n
  refine br_f (nI_pos (by omega)) (br_t ((nI_leI (b := 2) (by omega) (by omega)).mpr ht) ?_)
  refine q_there hd hx (fun hN => bn_f (by decide) ?_) (fun e => bn_t rfl (h0 e))
  refine q_ref hd hx hc (fun w hw hcw hkw => ?_)
  have hp := h w hw hcw hN
  have h3 : t = 0 ∨ t = 1 ∨ t = 2 := by omega
  rcases h3 with rfl | rfl | rfl
  · refine bn_t rfl ?_
    rw [hkw.1]
    exact hp
  · exact bn_f (by decide) (bn_t rfl (c1_next (hx.eq hw).1 hkw hn.1 hn.2 hp))
  · refine bn_f (by decide) (bn_f (by decide) ?_)
    rw [hkw.2.1]
    exact hp
theorem q_mend (hd : DV d) (hx : XD d u) (hc : CKd d u) (h : ∀ w, XEq u w → CKd d w → ¬ d.N = 0 → post (mdv d.κ d.τ d.N d.C) w) (h0 : d.N = 0 → post (-103) u) : wX4_mend u post :=
  q_there hd hx (fun hN => bn_f (by decide) (c1_mend hx.1 hd.2.1 hd.n.1 hd.n.2 (fun w gw => h w (gm_X gw) (gm_C gw hc) hN))) (fun e => bn_t rfl (h0 e))
theorem q_wins (hd : DV d) (hx : XD d u) (hc : CKd d u) {t : Nat} (ht : t ≤ 1) (h : ∀ w, XEq u w → CKd d w → ¬ d.N = 0 → post (wiv d t) w) (h0 : d.N = 0 → post (-103) u) : wX4_wins (nI t) u post := by
  refine br_f (nI_pos (by omega)) (br_t ((nI_leI (b := 1) (by omega) (by omega)).mpr ht) ?_)
  refine q_there hd hx (fun hN => bn_f (by decide) ?_) (fun e => bn_t rfl (h0 e))
  refine c1_wins hx.1 hd.2.1 hd.n.1 hd.n.2 (fun w gw => ?_)
  have hp := h w (gm_X gw) (gm_C gw hc) hN
  unfold wiv at hp
  have h3 : t = 0 ∨ t = 1 := by omega
  rcases h3 with rfl | rfl
  · rw [if_neg (by decide)] at hp
    refine bn_f (by decide) ⟨fun e => ?_, fun e => ?_⟩
    · rw [if_neg e] at hp; exact hp
    · rw [if_pos e] at hp; exact hp
  · rw [if_pos rfl] at hp
    exact bn_t rfl hp
theorem q_odds (hd : DV d) (hx : XD d u) (hc : CKd d u) {m c t : Nat} (h1 : 1 ≤ m) (hm : m ≤ d.N) (hcC : c < d.C) (ht : t ≤ 1) (h : ∀ w, XEq u w → CKd d w → post (odv (cnt (WL d) m c) (WL d).length (nI t)) w) : wX4_odds (nI m) (nI c) (nI t) u post := by
  have hn := hd.n
  have hlen := wl_lt hd
  have hcl : cnt (WL d) m c ≤ (WL d).length := List.countP_le_length
  refine c_hasN hx.1.1 hn.1 (fun _ => bn_f (by decide) ?_) (fun z => absurd ⟨m, h1, hm, rfl⟩ z)
  refine c_hasC hx.1.2.1 hn.2 (fun _ => br_f (by decide) ?_) (fun z => absurd ⟨c, hcC, rfl⟩ z)
  refine br_f (nI_pos (by omega)) (br_t ((nI_leI (b := 1) (by omega) (by omega)).mpr ht) ?_)
  refine q_ref hd hx hc (fun w hw hcw hkw => ?_)
  have hp := h w hw hcw
  unfold odv at hp
  unfold wX1_waysWith wX1_placeOf
  rw [show (3 : Int32) = nI 3 from rfl, pk_mul, nI_add]
  dsimp only
  rw [xat_nI (j := 7) (k := m * 3 + c) (by show _ < 33; omega), show m * 3 + c = 3 * m + c by omega, hkw.2.2 m c h1 hm (by omega), hkw.1]
  rw [show wl d.κ d.τ d.C d.N 1 d.τ = WL d from rfl]
  refine c4_gcd hlen (by omega) ?_
  rw [hkw.1, show wl d.κ d.τ d.C d.N 1 d.τ = WL d from rfl, Nat.gcd_comm]
  refine ⟨fun q => ?_, fun q => ?_⟩
  · have q0 : cnt (WL d) m c = 0 := (nI_eq (b := 0) (by omega) (by omega)).mp q
    rw [if_pos q0] at hp
    have h3 : t = 0 ∨ t = 1 := by omega
    rcases h3 with rfl | rfl
    · exact bn_t rfl hp
    · exact bn_f (by decide) hp
  · have q0 : ¬ cnt (WL d) m c = 0 := fun z => q (by rw [z]; rfl)
    rw [if_neg q0] at hp
    have gp : 0 < Nat.gcd (cnt (WL d) m c) (WL d).length := Nat.gcd_pos_of_pos_left _ (by omega)
    have gl : Nat.gcd (cnt (WL d) m c) (WL d).length ≤ cnt (WL d) m c := Nat.gcd_le_left _ (by omega)
    refine bn_f (nI_ne0 gp (by omega)) ⟨fun a => ⟨nI_ne0 gp (by omega), ?_⟩, fun a => ⟨nI_ne0 gp (by omega), ?_⟩⟩
    · rw [if_neg a] at hp
      rw [pk_div (by omega) gp (by omega)]
      exact hp
    · rw [if_pos a] at hp
      rw [pk_div (by omega) gp (by omega)]
      exact hp
theorem q_bare_loop {κ τ : Nat → Int32} {N C : Nat} (hB : xB κ τ N C u) (h10 : N ≤ 10) {K : Int32 → Int32 → SS → Prop} : ∀ (j n a : Nat), 1 ≤ n → n + j = N + 1 → (∀ y, K (nI (a + brc τ j n)) y u) → wX0_bareNumbers_4 post K (j + 1) (nI a) (nI n) u := by
  intro j
  induction j with
  | zero =>
    intro n a h1 hn h
    refine br_t ?_ (h _)
    rw [hB.1]
    exact (nI_ltI (by omega) (by omega)).mpr (by omega)
  | succ j ih =>
    intro n a h1 hn h
    rw [brc] at h
    rw [wX0_bareNumbers_4, hB.1]
    unfold wX0_isBare
    rw [xat_nI (j := 2) (k := n) (by show n < 11; omega), hB.2.2.2 n h1 (by omega), nI_1 n, nI_1 a, show nI a + (0 : Int32) = nI (a + 0) from nI_add a 0]
    refine br_f (fun z => absurd ((nI_ltI (by omega) (by omega)).mp z) (by omega)) ?_
    by_cases ht : τ n = -1
    · rw [if_pos ht] at h
      exact bn_t ht (br_f (by decide) (ih (n + 1) (a + 1) (by omega) (by omega) (fun y => by rw [Nat.add_assoc]; exact h y)))
    · rw [if_neg ht] at h
      exact bn_f ht (br_t rfl (ih (n + 1) (a + 0) (by omega) (by omega) (fun y => by rw [Nat.add_assoc]; exact h y)))
theorem q_thr_loop {N : Nat} (hN : u.1 3 = nI N) (h10 : N ≤ 10) {K : Int32 → Int32 → SS → Prop} : ∀ (j s a : Nat), s + j = N + 1 → (∀ y, K (nI (a + thc j s)) y u) → wX0_threes_4 post K (j + 1) (nI a) (nI s) u := by
  intro j
  induction j with
  | zero =>
    intro s a hs h
    refine br_t ?_ (h _)
    rw [hN]
    exact (nI_ltI (by omega) (by omega)).mpr (by omega)
  | succ j ih =>
    intro s a hs h
    rw [thc] at h
    rw [wX0_threes_4, hN, show (2 : Int32) = nI 2 from rfl, pk_div (by omega) (by omega) (by omega), nI_add, nI_1]
    refine br_f (fun z => absurd ((nI_ltI (by omega) (by omega)).mp z) (by omega)) ?_
    exact ih (s + 1) _ (by omega) (fun y => by rw [Nat.add_assoc]; exact h y)
theorem q_count (hd : DV d) (hx : XD d u) {t : Nat} (ht : t ≤ 8) (h : post (ctv d t) u) : wX4_count (nI t) u post := by
  have hn := hd.n
  have h9 : t = 0 ∨ t = 1 ∨ t = 2 ∨ t = 3 ∨ t = 4 ∨ t = 5 ∨ t = 6 ∨ t = 7 ∨ t = 8 := by omega
  rcases h9 with rfl | rfl | rfl | rfl | rfl | rfl | rfl | rfl | rfl
  · refine ⟨fun _ => ?_, fun e => absurd e (by decide), fun e => absurd e (by decide), fun e => absurd e (by decide), fun e => absurd e (by decide), fun e => absurd e (by decide), fun e => absurd e (by decide), fun e => absurd e (by decide), fun e => absurd e (by decide), fun z => absurd rfl z⟩
    rw [hx.1.1]; exact h
  · refine ⟨fun e => absurd e (by decide), fun _ => ?_, fun e => absurd e (by decide), fun e => absurd e (by decide), fun e => absurd e (by decide), fun e => absurd e (by decide), fun e => absurd e (by decide), fun e => absurd e (by decide), fun e => absurd e (by decide), fun _ z => absurd rfl z⟩
    rw [hx.1.2.1]; exact h
  · refine ⟨fun e => absurd e (by decide), fun e => absurd e (by decide), fun _ => ⟨d.N + 1, ?_⟩, fun e => absurd e (by decide), fun e => absurd e (by decide), fun e => absurd e (by decide), fun e => absurd e (by decide), fun e => absurd e (by decide), fun e => absurd e (by decide), fun _ _ z => absurd rfl z⟩
    exact q_bare_loop hx.1 hn.1 d.N 1 0 (by omega) (by omega) (fun _ => by rw [Nat.zero_add]; exact h)
  · refine ⟨fun e => absurd e (by decide), fun e => absurd e (by decide), fun e => absurd e (by decide), fun _ => ?_, fun e => absurd e (by decide), fun e => absurd e (by decide), fun e => absurd e (by decide), fun e => absurd e (by decide), fun e => absurd e (by decide), fun _ _ _ z => absurd rfl z⟩
    exact c0_badThrees hx.1.1 hx.1.2.2.1 hx.1.2.2.2 hd.2.1 rfl hn.1 h
  · refine ⟨fun e => absurd e (by decide), fun e => absurd e (by decide), fun e => absurd e (by decide), fun e => absurd e (by decide), fun _ => ⟨d.N + 1, ?_⟩, fun e => absurd e (by decide), fun e => absurd e (by decide), fun e => absurd e (by decide), fun e => absurd e (by decide), fun _ _ _ _ z => absurd rfl z⟩
    exact q_thr_loop hx.1.1 hn.1 d.N 1 0 (by omega) (fun _ => by rw [Nat.zero_add]; exact h)
  · refine ⟨fun e => absurd e (by decide), fun e => absurd e (by decide), fun e => absurd e (by decide), fun e => absurd e (by decide), fun e => absurd e (by decide), fun _ => ?_, fun e => absurd e (by decide), fun e => absurd e (by decide), fun e => absurd e (by decide), fun _ _ _ _ _ z => absurd rfl z⟩
    rw [hx.2.2.1]; exact h
  · refine ⟨fun e => absurd e (by decide), fun e => absurd e (by decide), fun e => absurd e (by decide), fun e => absurd e (by decide), fun e => absurd e (by decide), fun e => absurd e (by decide), fun _ => ?_, fun e => absurd e (by decide), fun e => absurd e (by decide), fun _ _ _ _ _ _ z => absurd rfl z⟩
    rw [hx.2.2.2.1]; exact h
  · refine ⟨fun e => absurd e (by decide), fun e => absurd e (by decide), fun e => absurd e (by decide), fun e => absurd e (by decide), fun e => absurd e (by decide), fun e => absurd e (by decide), fun e => absurd e (by decide), fun _ => ?_, fun e => absurd e (by decide), fun _ _ _ _ _ _ _ z => absurd rfl z⟩
    rw [hx.2.1.1]; exact h
  · refine ⟨fun e => absurd e (by decide), fun e => absurd e (by decide), fun e => absurd e (by decide), fun e => absurd e (by decide), fun e => absurd e (by decide), fun e => absurd e (by decide), fun e => absurd e (by decide), fun e => absurd e (by decide), fun _ => ?_, fun _ _ _ _ _ _ _ _ z => absurd rfl z⟩
    rw [hx.2.2.2.2.2]; exact h
theorem q_count_out {b : Int32} (hb : ∀ t : Nat, t ≤ 8 → ¬ b = nI t) (h : post (-102) u) : wX4_count b u post :=
  ⟨fun e => absurd e (hb 0 (by omega)), fun e => absurd e (hb 1 (by omega)), fun e => absurd e (hb 2 (by omega)), fun e => absurd e (hb 3 (by omega)), fun e => absurd e (hb 4 (by omega)), fun e => absurd e (hb 5 (by omega)), fun e => absurd e (hb 6 (by omega)), fun e => absurd e (hb 7 (by omega)), fun e => absurd e (hb 8 (by omega)), fun _ _ _ _ _ _ _ _ _ => h⟩
end CASK
