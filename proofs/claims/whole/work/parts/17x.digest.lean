/-! the digest -/
def hxv (h : Int64) (v : Int32) : Int64 := ((31 : Int64) * h) + v.toInt64
def dN (d : Dt) (m : Nat) : Nat → Nat → Int64 → Int64
  | 0, _, h => h
  | j + 1, t, h => dN d m j (t + 1) (hxv h (nv d m t))
def dO (d : Dt) : Nat → Nat → Int64 → Int64
  | 0, _, h => h
  | j + 1, m, h => dO d j (m + 1) (hxv (hxv (dN d m 6 0 h) (odv (cnt (WL d) m 0) (WL d).length (nI 0))) (odv (cnt (WL d) m 0) (WL d).length (nI 1)))
def dW (d : Dt) : Nat → Nat → Int64 → Int64
  | 0, _, h => h
  | j + 1, t, h => dW d j (t + 1) (hxv h (wyv d t))
def dP (d : Dt) : Nat → Nat → Int64 → Int64
  | 0, _, h => h
  | j + 1, k, h => dP d j (k + 1) (hxv h (ca d.L d.ρ k))
def dC (d : Dt) : Nat → Nat → Int64 → Int64
  | 0, _, h => h
  | j + 1, t, h => dC d j (t + 1) (hxv h (ctv d t))
def dB (d : Dt) (h : Int64) : Int64 := hxv (hxv (hxv (dW d 3 0 h) (mdv d.κ d.τ d.N d.C)) (wiv d 0)) (wiv d 1)
def dE (d : Dt) (h : Int64) : Int64 := dC d 9 0 (dP d d.L 0 h)
def dgv (d : Dt) : Int64 := dE d (if d.N = 0 then dO d d.N 1 1321 else dB d (dO d d.N 1 1321))
section CDIG
variable {d : Dt} {u : SS} {post : Int64 → SS → Prop} {K : Int64 → Int32 → SS → Prop}
theorem g_num (hd : DV d) (hx : XD d u) {m : Nat} (h1 : 1 ≤ m) (hm : m ≤ d.N) : ∀ (j t : Nat) (h : Int64) (w : SS), t + j = 6 → XEq u w → CKd d w → (∀ z, XEq u z → CKd d z → K (dN d m j t h) (nI 6) z) → wX4_digest_20 post (nI m) K (j + 1) h (nI t) w := by
  intro j
  induction j with
  | zero =>
    intro t h w ht ew cw hK
    have : t = 6 := by omega
    subst this
    exact br_t (by decide) (hK w ew cw)
  | succ j ih =>
    intro t h w ht ew cw hK
    rw [dN] at hK
    rw [wX4_digest_20, nI_1]
    refine br_f (fun z => absurd ((nI_ltI (a := 5) (by omega) (by omega)).mp z) (by omega)) ?_
    exact q_number hd (hx.eq ew) cw h1 hm (by omega) (fun z ez cz => ih (t + 1) _ z (by omega) (ew.tr ez) cz hK)
theorem g_all (hd : DV d) (hx : XD d u) : ∀ (j m : Nat) (h : Int64) (w : SS), 1 ≤ m → m + j = d.N + 1 → XEq u w → CKd d w → (∀ z, XEq u z → CKd d z → K (dO d j m h) (nI (d.N + 1)) z) → wX4_digest_6 post K (j + 1) h (nI m) w := by
  have hn := hd.n
  intro j
  induction j with
  | zero =>
    intro m h w h1 hm ew cw hK
    have : m = d.N + 1 := by omega
    subst this
    refine br_t ?_ (hK w ew cw)
    rw [(hx.eq ew).1.1]
    exact (nI_ltI (by omega) (by omega)).mpr (by omega)
  | succ j ih =>
    intro m h w h1 hm ew cw hK
    have hbd := hd.b (by omega)
    rw [dO] at hK
    rw [wX4_digest_6, (hx.eq ew).1.1, nI_1]
    refine br_f (fun z => absurd ((nI_ltI (by omega) (by omega)).mp z) (by omega)) ⟨7, ?_⟩
    refine g_num hd hx h1 (by omega) 6 0 h w (by omega) ew cw (fun z ez cz => ?_)
    refine q_odds (c := 0) (t := 0) hd (hx.eq ez) cz h1 (by omega) (by omega) (by omega) (fun y ey cy => ?_)
    refine q_odds (c := 0) (t := 1) hd (hx.eq (ez.tr ey)) cy h1 (by omega) (by omega) (by omega) (fun x ex cx => ?_)
    exact ih (m + 1) _ x (by omega) (by omega) ((ez.tr ey).tr ex) cx hK
theorem g_way (hd : DV d) (hx : XD d u) (h0 : ¬ d.N = 0) : ∀ (j t : Nat) (h : Int64) (w : SS), t + j = 3 → XEq u w → CKd d w → (∀ z, XEq u z → CKd d z → K (dW d j t h) (nI 3) z) → wX4_digest_95 post K (j + 1) h (nI t) w := by
  intro j
  induction j with
  | zero =>
    intro t h w ht ew cw hK
    have : t = 3 := by omega
    subst this
    exact br_t (by decide) (hK w ew cw)
  | succ j ih =>
    intro t h w ht ew cw hK
    rw [dW] at hK
    rw [wX4_digest_95, nI_1]
    refine br_f (fun z => absurd ((nI_ltI (a := 2) (by omega) (by omega)).mp z) (by omega)) ?_
    exact q_ways hd (hx.eq ew) cw (by omega) (fun z ez cz _ => ih (t + 1) _ z (by omega) (ew.tr ez) cz hK) (fun e => absurd e h0)
theorem g_page (hd : DV d) (hx : XD d u) : ∀ (j k : Nat) (h : Int64) (w : SS), k + j = d.L → XEq u w → CKd d w → (∀ z, XEq u z → CKd d z → K (dP d j k h) (nI d.L) z) → wX4_digest_159 post K (j + 1) h (nI k) w := by
  have hL := hd.2.2.2.2.1.1
  intro j
  induction j with
  | zero =>
    intro k h w hk ew cw hK
    have : k = d.L := by omega
    subst this
    refine br_t ?_ (hK w ew cw)
    rw [(hx.eq ew).2.1.1]
    exact nI_le (Nat.le_refl _) (by omega)
  | succ j ih =>
    intro k h w hk ew cw hK
    rw [dP] at hK
    rw [wX4_digest_159, (hx.eq ew).2.1.1, nI_1]
    refine br_f (fun z => absurd ((nI_leI (by omega) (by omega)).mp z) (by omega)) ?_
    exact c2_codeAt hd.2.2.2.2.1 (hx.eq ew).2.1 (by omega) (ih (k + 1) _ w (by omega) ew cw hK)
theorem g_cnt (hd : DV d) (hx : XD d u) : ∀ (j t : Nat) (h : Int64) (w : SS), t + j = 9 → XEq u w → CKd d w → (∀ z, XEq u z → CKd d z → K (dC d j t h) (nI 9) z) → wX4_digest_194 post K (j + 1) h (nI t) w := by
  intro j
  induction j with
  | zero =>
    intro t h w ht ew cw hK
    have : t = 9 := by omega
    subst this
    exact br_t (by decide) (hK w ew cw)
  | succ j ih =>
    intro t h w ht ew cw hK
    rw [dC] at hK
    rw [wX4_digest_194, nI_1]
    refine br_f (fun z => absurd ((nI_ltI (a := 8) (by omega) (by omega)).mp z) (by omega)) ?_
    exact q_count hd (hx.eq ew) (by omega) (ih (t + 1) _ w (by omega) ew cw hK)
theorem g_dig (hd : DV d) (hx : XD d u) (hc : CKd d u) (hp : ∀ z, XEq u z → CKd d z → post (dgv d) z) : wX4_digest u post := by
  refine ⟨d.N + 1, g_all hd hx d.N 1 1321 u (by omega) (by omega) (XEq.rf u) hc (fun w ew cw => ?_)⟩
  unfold dgv at hp
  refine q_there hd (hx.eq ew) (fun h0 => br_f (by decide) ⟨4, ?_⟩) (fun e => br_t rfl ⟨d.L + 1, ?_⟩)
  · rw [if_neg h0] at hp
    refine g_way hd hx h0 3 0 _ w (by omega) ew cw (fun z ez cz => ?_)
    refine q_mend hd (hx.eq ez) cz (fun a ea ca _ => ?_) (fun e => absurd e h0)
    have e1 := ez.tr ea
    refine q_wins (t := 0) hd (hx.eq e1) ca (by omega) (fun b eb cb _ => ?_) (fun e => absurd e h0)
    have e2 := e1.tr eb
    refine q_wins (t := 1) hd (hx.eq e2) cb (by omega) (fun c ec cc _ => ⟨d.L + 1, ?_⟩) (fun e => absurd e h0)
    refine g_page hd hx d.L 0 _ c (by omega) (e2.tr ec) cc (fun y ey cy => ⟨10, ?_⟩)
    exact g_cnt hd hx 9 0 _ y (by omega) ey cy hp
  · rw [if_pos e] at hp
    refine g_page hd hx d.L 0 _ w (by omega) ew cw (fun y ey cy => ⟨10, ?_⟩)
    exact g_cnt hd hx 9 0 _ y (by omega) ey cy hp
end CDIG
section RDIG
variable {d : Dt} {v : SS}
def Hd (v w : SS) (h : Int64) : Prop := MEq v w ∧ w.2.1 1 = h
theorem r_mix {z y : SS} {h : Int64} {r : Int32} {post : SS → Prop} (hz : Hd v z h) (ey : MEq z y) (el : y.2.1 = z.2.1) (hp : ∀ x, Hd v x (hxv h r) → post x) : wX5_mix r.toInt64 y post := by
  refine hp _ ⟨hz.1.tr ⟨fun i hi => ey.1 i hi, fun j hj => ey.2 j hj⟩, ?_⟩
  rw [sL_at, el, hz.2]
  rfl
theorem f_num (hd : DV d) (hx : MD d v) {m : Nat} (h1 : 1 ≤ m) (hm : m ≤ d.N) {post : Int64 → SS → Prop} {K : Int32 → SS → Prop} : ∀ (j t : Nat) (h : Int64) (w : SS), t + j = 6 → Hd v w h → (∀ z, Hd v z (dN d m j t h) → K (nI 6) z) → wX5_digest_19 post (nI m) K (j + 1) (nI t) w := by
  intro j
  induction j with
  | zero =>
    intro t h w ht ew hK
    have : t = 6 := by omega
    subst this
    exact br_t (by decide) (hK w ew)
  | succ j ih =>
    intro t h w ht ew hK
    rw [dN] at hK
    rw [wX5_digest_19, nI_1]
    refine br_f (fun z => absurd ((nI_leI (a := 6) (by omega) (by omega)).mp z) (by omega)) ?_
    exact r_number hd (hx.eq ew.1) h1 hm (by omega) (fun z ez el => r_mix ew ez el (fun x ex => ih (t + 1) _ x (by omega) ex hK))
theorem f_all (hd : DV d) (hx : MD d v) {post : Int64 → SS → Prop} {K : Int32 → SS → Prop} : ∀ (j m : Nat) (h : Int64) (w : SS), 1 ≤ m → m + j = d.N + 1 → Hd v w h → (∀ z, Hd v z (dO d j m h) → K (nI (d.N + 1)) z) → wX5_digest_9 post K (j + 1) (nI m) w := by
  have hn := hd.n
  intro j
  induction j with
  | zero =>
    intro m h w h1 hm ew hK
    have : m = d.N + 1 := by omega
    subst this
    refine br_t ?_ (hK w ew)
    rw [(hx.eq ew.1).1.1]
    exact (nI_ltI (by omega) (by omega)).mpr (by omega)
  | succ j ih =>
    intro m h w h1 hm ew hK
    rw [dO] at hK
    rw [wX5_digest_9, (hx.eq ew.1).1.1, nI_1]
    refine br_f (fun z => absurd ((nI_ltI (by omega) (by omega)).mp z) (by omega)) ⟨7, ?_⟩
    refine f_num hd hx h1 (by omega) 6 0 h w (by omega) ew (fun z ez => ?_)
    refine r_odds (c := 0) (x := nI 0) hd (hx.eq ez.1) h1 (by omega) (by omega) (fun y ey el => r_mix ez ey el (fun a ea => ?_))
    refine r_odds (c := 0) (x := nI 1) hd (hx.eq ea.1) h1 (by omega) (by omega) (fun y ey el => r_mix ea ey el (fun b eb => ?_))
    exact ih (m + 1) _ b (by omega) (by omega) eb hK
theorem f_way (hd : DV d) (hx : MD d v) (h0 : ¬ d.N = 0) {post : SS → Prop} {K : Int32 → SS → Prop} : ∀ (j t : Nat) (h : Int64) (w : SS), t + j = 3 → Hd v w h → (∀ z, Hd v z (dW d j t h) → K (nI 3) z) → wX5_mixBoard_2 post K (j + 1) (nI t) w := by
  intro j
  induction j with
  | zero =>
    intro t h w ht ew hK
    have : t = 3 := by omega
    subst this
    exact br_t (by decide) (hK w ew)
  | succ j ih =>
    intro t h w ht ew hK
    rw [dW] at hK
    rw [wX5_mixBoard_2, nI_1]
    refine br_f (fun z => absurd ((nI_leI (a := 3) (by omega) (by omega)).mp z) (by omega)) ?_
    exact r_ways hd (hx.eq ew.1) h0 (by omega) (fun z ez el => r_mix ew ez el (fun x ex => ih (t + 1) _ x (by omega) ex hK))
theorem f_board (hd : DV d) (hx : MD d v) (h0 : ¬ d.N = 0) {post : SS → Prop} {h : Int64} {w : SS} (ew : Hd v w h) (hp : ∀ z, Hd v z (dB d h) → post z) : wX5_mixBoard w post := by
  refine ⟨4, f_way hd hx h0 3 0 h w (by omega) ew (fun z ez => ?_)⟩
  refine r_mend hd (hx.eq ez.1) h0 (fun y ey el => r_mix ez ey el (fun a ea => ?_))
  refine r_wins (t := 0) hd (hx.eq ea.1) h0 (by omega) (fun y ey el => r_mix ea ey el (fun b eb => ?_))
  exact r_wins (t := 1) hd (hx.eq eb.1) h0 (by omega) (fun y ey el => r_mix eb ey el (fun c ec => hp c ec))
theorem f_page (hd : DV d) (hx : MD d v) {post : Int64 → SS → Prop} {K : Int32 → SS → Prop} : ∀ (j k : Nat) (h : Int64) (w : SS), k + j = d.L → Hd v w h → (∀ z, Hd v z (dP d j k h) → K (nI d.L) z) → wX5_digest_85 post K (j + 1) (nI k) w := by
  have hL := hd.2.2.2.2.1.1
  intro j
  induction j with
  | zero =>
    intro k h w hk ew hK
    have : k = d.L := by omega
    subst this
    refine br_t ?_ (hK w ew)
    rw [(hx.eq ew.1).2.1.1]
    exact nI_le (Nat.le_refl _) (by omega)
  | succ j ih =>
    intro k h w hk ew hK
    rw [dP] at hK
    have hkL : k < d.L := by omega
    have e5 : w.2.2 5 k = ca d.L d.ρ k := by rw [(hx.eq ew.1).2.1.2 k hkL, ca, if_pos hkL]
    rw [wX5_digest_85, (hx.eq ew.1).2.1.1, nI_1, nI_clamp (by omega), e5]
    refine br_f (fun z => absurd ((nI_leI (by omega) (by omega)).mp z) (by omega)) ⟨vp_in_nI (by omega) (by omega), ?_⟩
    exact r_mix ew (MEq.rf w) rfl (fun x ex => ih (k + 1) _ x (by omega) ex hK)
theorem f_cnt (hd : DV d) (hx : MD d v) {post : Int64 → SS → Prop} {K : Int32 → SS → Prop} : ∀ (j t : Nat) (h : Int64) (w : SS), t + j = 9 → Hd v w h → (∀ z, Hd v z (dC d j t h) → K (nI 9) z) → wX5_digest_112 post K (j + 1) (nI t) w := by
  intro j
  induction j with
  | zero =>
    intro t h w ht ew hK
    have : t = 9 := by omega
    subst this
    exact br_t (by decide) (hK w ew)
  | succ j ih =>
    intro t h w ht ew hK
    rw [dC] at hK
    rw [wX5_digest_112, nI_1]
    refine br_f (fun z => absurd ((nI_leI (a := 9) (by omega) (by omega)).mp z) (by omega)) ?_
    exact r_count hd (hx.eq ew.1) (by omega) (fun z ez el => r_mix ew ez el (fun x ex => ih (t + 1) _ x (by omega) ex hK))
theorem f_dig (hd : DV d) (hx : MD d v) {post : Int64 → SS → Prop} (hp : ∀ z, MEq v z → post (dgv d) z) : wX5_digest v post := by
  have hn := hd.n
  have e0 : Hd v (sL v 1 1321) 1321 := ⟨⟨fun _ _ => rfl, fun _ _ => rfl⟩, sL_at _ _ _⟩
  refine ⟨d.N + 1, f_all hd hx d.N 1 1321 _ (by omega) (by omega) e0 (fun w ew => ?_)⟩
  have hend : ∀ (h : Int64) (x : SS), dE d h = dgv d → Hd v x h → ∃ n : Nat, wX5_digest_85 post (fun x1_22 u23 => (∃ n : Nat, wX5_digest_112 post (fun x1_29 u30 => post (u30.2.1 1) u30) n (0 : Int32) u23)) n (0 : Int32) x := fun h x he ex => by
    refine ⟨d.L + 1, f_page hd hx d.L 0 h x (by omega) ex (fun y ey => ⟨10, ?_⟩)⟩
    refine f_cnt hd hx 9 0 _ y (by omega) ey (fun z ez => ?_)
    rw [ez.2]
    have := hp z ez.1
    rw [← he] at this
    exact this
  rw [(hx.eq ew.1).1.1]
  by_cases h0 : d.N = 0
  · refine br_t (by rw [h0]; decide) (hend _ w ?_ ew)
    unfold dgv
    rw [if_pos h0]
  · refine br_f (nI_nle (by omega) (by omega)) (f_board hd hx h0 ew (fun x ex => hend _ x ?_ ex))
    unfold dgv
    rw [if_neg h0]
end RDIG
theorem st_digest : St_digest Rel := by
  intro n u v _ h
  obtain ⟨d, hd, hx, hm, hc, hb, hk, hi⟩ := h
  exact g_dig hd hx hc (fun w ew cw => f_dig hd hm (fun z ez => ⟨rfl, rz hd hx hm hb hk hi ew cw ez⟩))
