/-! back to the image; the board from the page -/
def RsX (u U : SS) : Prop := (∀ i : Nat, i < 3 ∨ (12 ≤ i ∧ i < 16) → U.1 i = u.1 i) ∧ U.1 3 = u.1 12 ∧ U.1 4 = u.1 13 ∧ U.1 5 = u.1 14 ∧ U.1 6 = u.1 15 ∧ U.1 11 = 1 ∧ (∀ j : Nat, j = 0 ∨ (8 ≤ j ∧ j < 13) → U.2.2 j = u.2.2 j) ∧ (∀ k, k < 11 → U.2.2 1 k = u.2.2 8 k ∧ U.2.2 2 k = u.2.2 9 k) ∧ ∀ k, k < 6 → U.2.2 3 k = u.2.2 10 k ∧ U.2.2 4 k = u.2.2 11 k ∧ U.2.2 5 k = u.2.2 12 k
theorem c_restore {u : SS} {post : Int32 → SS → Prop} (h1 : ¬ u.1 0 = 0) (h : ∀ U, RsX u U → post (U.1 5) U) : wX4_restore u post := by
  refine bn_f h1 ?_
  unfold wX0_copyFrom_2_5 wX3_copyFrom_3_6
  refine h _ ⟨fun i hi => ?_, rfl, rfl, rfl, rfl, rfl, fun j hj => ?_, fun k hk => ⟨?_, ?_⟩, fun k hk => ⟨?_, ?_, ?_⟩⟩
  · rw [sI_ne _ _ (by omega), sI_ne _ _ (by omega)]
    show (sI (sI (sI (xcpy (xcpy u 8 1) 9 2) 3 _) 4 _) 5 _).1 i = _
    rw [sI_ne _ _ (by omega), sI_ne _ _ (by omega), sI_ne _ _ (by omega)]
    rfl
  · show (xcpy (xcpy (xcpy (sI (sI (sI (xcpy (xcpy u 8 1) 9 2) 3 _) 4 _) 5 _) 10 3) 11 4) 12 5).2.2 j = _
    unfold xcpy
    rw [sR_ne _ _ (by omega), sR_ne _ _ (by omega), sR_ne _ _ (by omega)]
    show (sR (sR u 1 _) 2 _).2.2 j = _
    rw [sR_ne _ _ (by omega), sR_ne _ _ (by omega)]
  · show (xcpy u 8 1).2.2 1 k = _
    exact xcp (by show k < 11; exact hk)
  · show (xcpy (xcpy u 8 1) 9 2).2.2 2 k = _
    exact xcp (by show k < 11; exact hk)
  · show (xcpy (sI (sI (sI (xcpy (xcpy u 8 1) 9 2) 3 _) 4 _) 5 _) 10 3).2.2 3 k = _
    exact xcp (by show k < 6; exact hk)
  · show (xcpy (xcpy (sI (sI (sI (xcpy (xcpy u 8 1) 9 2) 3 _) 4 _) 5 _) 10 3) 11 4).2.2 4 k = _
    exact xcp (by show k < 6; exact hk)
  · show (xcpy (xcpy (xcpy (sI (sI (sI (xcpy (xcpy u 8 1) 9 2) 3 _) 4 _) 5 _) 10 3) 11 4) 12 5).2.2 5 k = _
    exact xcp (by show k < 6; exact hk)
theorem st_restore : St_restore Rel := by
  intro n u v _ h
  obtain ⟨d, hd, hx, hm, hc, hb, hk, hi⟩ := h
  have hn := hd.n
  have same : Rel u v (n + 1) := rz hd hx hm hb hk hi (XEq.rf u) hc (MEq.rf v)
  rcases hi with hi | hi
  · obtain ⟨a0, a9, a10, a12, a13, ⟨ch, ch1, ch2, ch3⟩, ⟨S, S1, S2, S3⟩, ak, as⟩ := hi
    refine c_restore (by rw [a0]; decide) (fun U hU => ?_)
    obtain ⟨U1, U3, U4, U5, U6, U11, Ur, Uk, Us⟩ := hU
    refine br_f (by rw [a9]; decide) (br_t a10 ⟨d.N + 1, ?_⟩)
    refine r_res1 (v0 := sI (sI v 3 (v.1 11)) 4 (v.1 12)) hm.1.1 hn.1 (fun w hw => ⟨7, ?_⟩) d.N 1 _ (by omega) (by omega) ⟨rfl, rfl, fun _ _ _ => rfl, fun k a b => by omega⟩
    refine r_res2 (v0 := w) (fun y hy => ?_) 6 0 w (by omega) ⟨rfl, rfl, fun _ _ _ _ => rfl, fun k a => by omega⟩
    obtain ⟨w1, w2, w3, w4⟩ := hw
    obtain ⟨y1, y2, y3, y4⟩ := hy
    have yi : y.1 = (sI (sI v 3 (v.1 11)) 4 (v.1 12)).1 := y1.trans w1
    have yS : ∀ i : Nat, i ≠ 3 → i ≠ 4 → y.1 i = v.1 i := fun i a b => by
      rw [yi, sI_ne _ _ b, sI_ne _ _ a]
    have y3i : y.1 3 = v.1 11 := by rw [yi]; rfl
    have y4i : y.1 4 = v.1 12 := by rw [yi]; rfl
    have yr : ∀ j : Nat, 5 ≤ j → y.2.2 j = v.2.2 j := fun j a => by rw [y3 j (by omega) (by omega) (by omega), w3 j (by omega) (by omega)]; rfl
    have k0 : ∀ k, 1 ≤ k → k ≤ d.N → y.2.2 0 k = v.2.2 13 k := fun k a b => by rw [y3 0 (by decide) (by decide) (by decide)]; exact (w4 k a (by omega)).1
    have k1 : ∀ k, 1 ≤ k → k ≤ d.N → y.2.2 1 k = v.2.2 14 k := fun k a b => by rw [y3 1 (by decide) (by decide) (by decide)]; exact (w4 k a (by omega)).2
    have wj : ∀ j : Nat, j ≠ 0 → j ≠ 1 → w.2.2 j = v.2.2 j := fun j a b => (w3 j a b).trans rfl
    refine ⟨by rw [U5, y3i, ch2, ch3], (cn (u.2.2 8) d.N, cn (u.2.2 9) d.N, u.2.2 10, u.2.2 11, u.2.2 12, d.ρ, d.N, d.C, S, d.L, ch, d.bd), ?_, ?_, ?_, Or.inl (by rw [U11]; decide), by show d.bd ≤ _; omega, ?_, Or.inl ?_⟩
    · refine ⟨hd.1, fun k a b => ?_, fun k a b => ?_, cn_out _ _, hd.2.2.2.2.1, S1, fun k k6 => ?_, ch1, hd.2.2.2.2.2.2.2.2⟩
      · show ∃ t, t < 5 ∧ cn (u.2.2 8) d.N k = nI t
        rw [← cn_ag (u.2.2 8) d.N k a b]
        exact (ak k a b).1.1
      · show cn (u.2.2 9) d.N k = -1 ∨ ∃ c, c < d.C ∧ cn (u.2.2 9) d.N k = nI c
        rw [← cn_ag (u.2.2 9) d.N k a b]
        exact (ak k a b).1.2
      · show SnV (u.2.2 11 k) (u.2.2 12 k)
        have q := as k k6
        rw [q.2.1, q.2.2.1]
        exact q.2.2.2
    · refine ⟨⟨by rw [U3, a12], by rw [U4, a13], fun k a b => ?_, fun k a b => ?_⟩, ⟨by rw [U1 2 (by omega)]; exact hx.2.1.1, fun k hk => by rw [Ur 0 (by omega)]; exact hx.2.1.2 k hk⟩, by rw [U5, ch2], by rw [U6, S2], fun k k6 => Us k k6, by rw [U1 1 (by omega)]; exact hx.2.2.2.2.2⟩
      · show U.2.2 1 k = cn (u.2.2 8) d.N k
        have b' : k ≤ d.N := b
        rw [(Uk k (by omega)).1]
        exact cn_ag _ _ k a b
      · show U.2.2 2 k = cn (u.2.2 9) d.N k
        have b' : k ≤ d.N := b
        rw [(Uk k (by omega)).2]
        exact cn_ag _ _ k a b
    · refine ⟨⟨by rw [yS 1 (by decide) (by decide)]; exact hm.1.1, by rw [yS 2 (by decide) (by decide)]; exact hm.1.2.1, fun k a b => ?_, fun k a b => ?_⟩, ⟨by rw [yS 5 (by decide) (by decide)]; exact hm.2.1.1, fun k hk => by rw [yr 5 (by decide)]; exact hm.2.1.2 k hk⟩, by rw [y3i, ch3], by rw [y4i, S3], fun k k6 => ?_, by rw [yS 0 (by decide) (by decide)]; exact hm.2.2.2.2.2⟩
      · show y.2.2 0 k = cn (u.2.2 8) d.N k
        rw [k0 k a b, ← cn_ag (u.2.2 8) d.N k a b]
        exact (ak k a b).2.1.symm
      · show y.2.2 1 k = cn (u.2.2 9) d.N k
        rw [k1 k a b, ← cn_ag (u.2.2 9) d.N k a b]
        exact (ak k a b).2.2.symm
      · have q := as k k6
        have yk := y4 k k6
        rw [wj 15 (by decide) (by decide), wj (15 + 1) (by decide) (by decide), wj (15 + 2) (by decide) (by decide)] at yk
        exact ⟨yk.1.trans q.1.symm, yk.2.1.trans q.2.1.symm, yk.2.2.trans q.2.2.1.symm⟩
    · obtain ⟨⟨K0, q1, q2⟩, q3⟩ := hk
      exact ⟨⟨K0, q1, by rw [yS 10 (by decide) (by decide)]; exact q2⟩, by rw [yS 9 (by decide) (by decide)]; exact q3⟩
    · rw [U1 0 (by omega), U1 12 (by omega), U1 13 (by omega), U1 14 (by omega), U1 15 (by omega), yS 9 (by decide) (by decide), yS 10 (by decide) (by decide), yS 0 (by decide) (by decide), yS 11 (by decide) (by decide), yS 12 (by decide) (by decide), Ur 8 (by omega), Ur 9 (by omega), Ur 10 (by omega), Ur 11 (by omega), Ur 12 (by omega), yr 13 (by decide), yr 14 (by decide), yr 15 (by decide), yr 16 (by decide), yr 17 (by decide)]
      exact ⟨a0, a9, a10, a12, a13, ⟨ch, ch1, ch2, ch3⟩, ⟨S, S1, S2, S3⟩, ak, as⟩
  · refine bn_t hi.1 ⟨fun _ => ⟨rfl, same⟩, fun q => ?_⟩
    rcases hi.2 with q2 | q2
    · exact absurd q2 q
    · exact br_f q2 ⟨rfl, same⟩
/-! a new board -/
def tn (c : Int32) : Int32 := if c = 46 then -1 else c - 97
theorem tn_2 : ∀ x : Nat, x < 127 → sgB (nI 50) (nI x) = true → (tn (nI x) = -1 ∨ tn (nI x) = nI 0 ∨ tn (nI x) = nI 1) := by decide +kernel
theorem tn_3 : ∀ x : Nat, x < 127 → sgB (nI 51) (nI x) = true → (tn (nI x) = -1 ∨ tn (nI x) = nI 0 ∨ tn (nI x) = nI 1 ∨ tn (nI x) = nI 2) := by decide +kernel
theorem tn_v {C x : Nat} (hC : C = 2 ∨ C = 3) (hx : x < 127) (h : sgB (nI (48 + C)) (nI x) = true) : tn (nI x) = -1 ∨ ∃ c : Nat, c < C ∧ tn (nI x) = nI c := by
  rcases hC with rfl | rfl
  · rcases tn_2 x hx h with e | e | e
    · exact Or.inl e
    · exact Or.inr ⟨0, by omega, e⟩
    · exact Or.inr ⟨1, by omega, e⟩
  · rcases tn_3 x hx h with e | e | e | e
    · exact Or.inl e
    · exact Or.inr ⟨0, by omega, e⟩
    · exact Or.inr ⟨1, by omega, e⟩
    · exact Or.inr ⟨2, by omega, e⟩
theorem isB_sp {L : Nat} {ρ : Nat → Int32} (hv : pgV L ρ) (h : isB L ρ) : (∃ C : Nat, (C = 2 ∨ C = 3) ∧ ca L ρ 0 = nI (48 + C)) ∧ 4 ≤ kt (ca L ρ) ∧ ∀ n, 1 ≤ n → n ≤ kt (ca L ρ) → sgB (ca L ρ 0) (ca L ρ (2 + kt (ca L ρ) + n)) = true := by
  have hk := kt_le (ca L ρ)
  have sp := (ktF_sp (ftB (ca L ρ) (kt (ca L ρ))) L 0).2.2.1
  have all : ∀ i, i < L → ftB (ca L ρ) (kt (ca L ρ)) i = true := fun i hi => sp i (Nat.zero_le _) (by have := h.2; unfold rd at this; omega)
  have hL := h.1
  refine ⟨?_, ?_, fun n h1 h2 => ?_⟩
  · have f := all 0 (by omega)
    unfold ftB at f
    rw [if_pos rfl] at f
    have f2 : ca L ρ 0 = 50 ∨ ca L ρ 0 = 51 := by simpa using f
    rcases f2 with e | e
    · exact ⟨2, Or.inl rfl, e⟩
    · exact ⟨3, Or.inr rfl, e⟩
  · have f := all (2 + kt (ca L ρ)) (by omega)
    unfold ftB at f
    rw [if_neg (by omega), if_neg (by omega), if_neg (by omega), if_pos rfl] at f
    have f2 : ca L ρ (2 + kt (ca L ρ)) = 59 ∧ 4 ≤ kt (ca L ρ) := by simpa using f
    exact f2.2
  · have f := all (2 + kt (ca L ρ) + n) (by omega)
    unfold ftB at f
    rw [if_neg (by omega), if_neg (by omega), if_neg (by omega), if_neg (by omega)] at f
    have f2 : 2 + kt (ca L ρ) + n ≤ 2 + kt (ca L ρ) + kt (ca L ρ) ∧ sgB (ca L ρ 0) (ca L ρ (2 + kt (ca L ρ) + n)) = true := by simpa using f
    exact f2.2
section BOARD
variable {L : Nat} {ρ : Nat → Int32}
def Rx (z0 w : SS) (a b : Nat) (c : Nat → Int32) (K s : Nat) : Prop := w.1 = z0.1 ∧ (∀ j : Nat, j ≠ a → j ≠ b → w.2.2 j = z0.2.2 j) ∧ ∀ k : Nat, 1 ≤ k → k < s → w.2.2 a k = kb (c (1 + k)) ∧ w.2.2 b k = tn (c (2 + K + k))
theorem Rx.st {z0 z : SS} {a b : Nat} {c : Nat → Int32} {K s : Nat} (hab : a ≠ b) (h : Rx z0 z a b c K s) : Rx z0 (sA (sA z a s (kb (c (1 + s)))) b s (tn (c (2 + K + s)))) a b c K (s + 1) := by
  obtain ⟨z1, z3, z4⟩ := h
  refine ⟨z1, fun j ja jb => by rw [sA_ne _ _ _ jb, sA_ne _ _ _ ja]; exact z3 j ja jb, fun k k1 k2 => ?_⟩
  rw [sA_ne _ _ _ hab, sA_at, sA_at, sA_ne _ _ _ hab.symm]
  by_cases q : k = s
  · subst q
    rw [pk_us, pk_us]
    exact ⟨rfl, rfl⟩
  · rw [pk_un q, pk_un q]
    exact z4 k k1 (by omega)
theorem c2_colourAt (hv : pgV L ρ) {u : SS} (hu : pgX L ρ u) {k : Nat} (hk : k < 100) {post : Int32 → SS → Prop} (h : post (tn (ca L ρ k)) u) : wX2_colourAt (nI k) u post := by
  refine c2_codeAt hv hu hk ?_
  unfold tn at h
  refine ⟨fun q => ?_, fun q => ?_⟩
  · rw [if_neg q] at h; exact h
  · rw [if_pos q] at h; exact h
theorem c0_read_loop (hv : pgV L ρ) {z0 : SS} (hz : pgX L ρ z0) {Kn : Nat} (hK : Kn ≤ 10) (h3 : z0.1 3 = nI Kn) {post : SS → Prop} {K : Int32 → SS → Prop} (h : ∀ w, Rx z0 w 1 2 (ca L ρ) Kn (Kn + 1) → K (nI (Kn + 1)) w) : ∀ (i s : Nat) (z : SS), 1 ≤ s → s + i = Kn + 1 → Rx z0 z 1 2 (ca L ρ) Kn s → wX0_readFrom_23 post K (i + 1) (nI s) z := by
  intro i
  induction i with
  | zero =>
    intro s z h1 h2 hr
    have : s = Kn + 1 := by omega
    subst this
    refine br_t ?_ (h z hr)
    rw [hr.1, h3]
    exact (nI_ltI (by omega) (by omega)).mpr (by omega)
  | succ i ih =>
    intro s z h1 h2 hr
    have hzz : pgX L ρ z := ⟨by rw [hr.1]; exact hz.1, fun k hk => by rw [hr.2.1 0 (by decide) (by decide)]; exact hz.2 k hk⟩
    have e1 : ((2 : Int32) + nI s) - 1 = nI (1 + s) := by rw [show (2 : Int32) = nI 2 from rfl, nI_add, show 2 + s = (1 + s) + 1 by omega, nI_pred]
    rw [wX0_readFrom_23, hr.1, h3, e1, nI_1 s]
    refine br_f (fun z => absurd ((nI_ltI (by omega) (by omega)).mp z) (by omega)) ?_
    refine c2_kindAt hv hzz (by omega) ?_
    rw [xput_nI (j := 1) (by show s < 11; omega), show (sA z 1 s (kb (ca L ρ (1 + s)))).1 3 = nI Kn by rw [show (sA z 1 s (kb (ca L ρ (1 + s)))).1 = z.1 from rfl, hr.1]; exact h3, nI_add, nI_1, show 1 + s + Kn + 1 = 2 + Kn + s by omega]
    have hz2 : pgX L ρ (sA z 1 s (kb (ca L ρ (1 + s)))) := ⟨hzz.1, fun k hk => by rw [sA_ne _ _ _ (by decide)]; exact hzz.2 k hk⟩
    refine c2_colourAt hv hz2 (by omega) ?_
    rw [xput_nI (j := 2) (by show s < 11; omega)]
    exact ih (s + 1) _ (by omega) (by omega) (hr.st (by decide))
theorem c0_read (hv : pgV L ρ) {u : SS} (hu : pgX L ρ u) {post : SS → Prop} (h : ∀ w, Rx (sI (sI (sI u 3 (nI (kt (ca L ρ)))) 4 (ca L ρ 0 - 48)) 5 0) w 1 2 (ca L ρ) (kt (ca L ρ)) (kt (ca L ρ) + 1) → post w) : wX0_readFrom u post := by
  have hk := kt_le (ca L ρ)
  refine c2_told hv hu ?_
  have hu2 : pgX L ρ (sI u 3 (nI (kt (ca L ρ)))) := hu
  refine c2_colours hv hu2 ⟨kt (ca L ρ) + 1, ?_⟩
  exact c0_read_loop hv (z0 := sI (sI (sI u 3 (nI (kt (ca L ρ)))) 4 (ca L ρ 0 - 48)) 5 0) hu hk rfl h (kt (ca L ρ)) 1 _ (by omega) (by omega) ⟨rfl, fun _ _ _ => rfl, fun k a b => by omega⟩
theorem p5_board_loop (hv : pgV L ρ) {z0 : SS} (hz : pgM L ρ z0) {Kn : Nat} (hK : Kn ≤ 10) (hL : L = 3 + 2 * Kn) (h1 : z0.1 1 = nI Kn) {post : Int32 → SS → Prop} {K : Int32 → SS → Prop} (h : ∀ w, Rx z0 w 0 1 (ca L ρ) Kn (Kn + 1) → K (nI (Kn + 1)) w) : ∀ (i s : Nat) (z : SS), 1 ≤ s → s + i = Kn + 1 → Rx z0 z 0 1 (ca L ρ) Kn s → wX5_board_38 post K (i + 1) (nI s) z := by
  intro i
  induction i with
  | zero =>
    intro s z g1 g2 hr
    have : s = Kn + 1 := by omega
    subst this
    refine br_t ?_ (h z hr)
    rw [hr.1, h1]
    exact (nI_ltI (by omega) (by omega)).mpr (by omega)
  | succ i ih =>
    intro s z g1 g2 hr
    have cz : ∀ k, k < L → z.2.2 5 k = ca L ρ k := fun k hk => by
      rw [hr.2.1 5 (by decide) (by decide), hz.2 k hk, ca, if_pos hk]
    have e1 : (1 : Int32) + nI s = nI (1 + s) := nI_add 1 s
    have e2 : ((2 : Int32) + nI Kn) + nI s = nI (2 + Kn + s) := by rw [show (2 : Int32) = nI 2 from rfl, nI_add, nI_add]
    have hin : vp_in (nI s) 11 := vp_in_nI (by omega) (by omega)
    rw [wX5_board_38, hr.1, h1, e1, e2, nI_clamp (n := 1 + s) (by omega), nI_clamp (n := 2 + Kn + s) (by omega), nI_clamp (n := s) (by omega), cz (1 + s) (by omega), cz (2 + Kn + s) (by omega), nI_1 s]
    refine br_f (fun z => absurd ((nI_ltI (by omega) (by omega)).mp z) (by omega)) ⟨vp_in_nI (by omega) (by omega), vp_in_nI (by omega) (by omega), p5_kindBy ⟨hin, ?_⟩⟩
    have hst := hr.st (by decide)
    have key := ih (s + 1) _ (by omega) (by omega) hst
    unfold tn at key
    refine ⟨fun q => ⟨hin, ?_⟩, fun q => ⟨hin, ?_⟩⟩
    · rw [if_neg q] at key
      exact key
    · rw [if_pos q] at key
      exact key
end BOARD
theorem st_board : St_board Rel := by
  intro n u v hn600 h
  obtain ⟨d, hd, hx, hm, hc, hb, hk, hi⟩ := h
  have hn := hd.n
  have same : ∀ z, MEq v z → Rel u z (n + 1) := fun z hz => rz hd hx hm hb hk hi (XEq.rf u) hc hz
  have hpv := hd.2.2.2.2.1
  refine c2_isBoard hpv hx.2.1 (fun hB => bn_f (by decide) ?_) (fun hB => bn_t rfl ?_)
  · have hK := kt_le (ca d.L d.ρ)
    obtain ⟨⟨C, hC, eC⟩, hK4, hsg⟩ := isB_sp hpv hB
    have e48 : ca d.L d.ρ 0 - (48 : Int32) = nI C := by rw [eC, show (48 : Int32) = nI 48 from rfl, pk_sub (by omega), Nat.add_sub_cancel_left]
    refine c0_read hpv hx.2.1 (fun w hw => ?_)
    refine p5_read hpv hm.2.1 (fun z hz hz1 _ => ?_)
    obtain ⟨z6, z7⟩ := hz1 hB
    have ezr : z.2.2 = v.2.2 := by rw [hz.2]
    have hL0 : 0 < d.L := by have := hB.1; omega
    have ec0 : z.2.2 5 0 = ca d.L d.ρ 0 := by rw [ezr, hm.2.1.2 0 hL0, ca, if_pos hL0]
    refine bn_f (by rw [z6]; decide) ⟨vp_in_nI (n := 0) (by omega) (by omega), ⟨kt (ca d.L d.ρ) + 1, ?_⟩⟩
    rw [show z.2.2 5 (0 : Int32).toNatClampNeg = z.2.2 5 0 from rfl, ec0, e48, show (sI z 2 (nI C)).1 7 = z.1 7 from rfl, z7]
    have hzp : pgM d.L d.ρ (sI (sI z 2 (nI C)) 1 (nI (kt (ca d.L d.ρ)))) := ⟨(hz.1 5 (by decide) (by decide)).trans hm.2.1.1, fun k hk => by show z.2.2 5 k = _; rw [ezr]; exact hm.2.1.2 k hk⟩
    refine p5_board_loop hpv hzp hK hB.1 rfl (fun y hy => ?_) (kt (ca d.L d.ρ)) 1 _ (by omega) (by omega) ⟨rfl, fun _ _ _ => rfl, fun k a b => by omega⟩
    rw [e48] at hw
    obtain ⟨w1, w2, w3⟩ := hw
    obtain ⟨y1, y2, y3⟩ := hy
    have wi : ∀ i : Nat, i ≠ 3 → i ≠ 4 → i ≠ 5 → w.1 i = u.1 i := fun i a b c => by rw [w1, sI_ne _ _ c, sI_ne _ _ b, sI_ne _ _ a]
    have w13 : w.1 3 = nI (kt (ca d.L d.ρ)) := by rw [w1]; rfl
    have w14 : w.1 4 = nI C := by rw [w1]; rfl
    have w15 : w.1 5 = nI 0 := by rw [w1]; rfl
    have yi : ∀ i : Nat, i ≠ 1 → i ≠ 2 → i ≠ 6 → i ≠ 7 → y.1 i = v.1 i := fun i a b c e => by rw [y1, sI_ne _ _ a, sI_ne _ _ b]; exact hz.1 i c e
    have y11 : y.1 1 = nI (kt (ca d.L d.ρ)) := by rw [y1]; rfl
    have y12 : y.1 2 = nI C := by rw [y1]; rfl
    have wr : ∀ j : Nat, j ≠ 1 → j ≠ 2 → w.2.2 j = u.2.2 j := fun j a b => (w2 j a b).trans rfl
    have yr : ∀ j : Nat, j ≠ 0 → j ≠ 1 → y.2.2 j = v.2.2 j := fun j a b => by rw [y2 j a b]; show z.2.2 j = _; rw [ezr]
    have ek : ∀ k, 1 ≤ k → k ≤ kt (ca d.L d.ρ) → ∃ t, t < 5 ∧ kb (ca d.L d.ρ (1 + k)) = nI t := fun k a b => by
      have := kt_kb (c := ca d.L d.ρ) (k := k - 1) (by omega)
      rw [show 2 + (k - 1) = 1 + k by omega] at this
      rcases kb_or (ca d.L d.ρ (1 + k)) with e | e
      · exact absurd e this
      · exact e
    have et : ∀ k, 1 ≤ k → k ≤ kt (ca d.L d.ρ) → tn (ca d.L d.ρ (2 + kt (ca d.L d.ρ) + k)) = -1 ∨ ∃ c, c < C ∧ tn (ca d.L d.ρ (2 + kt (ca d.L d.ρ) + k)) = nI c := fun k a b => by
      have hs := hsg k a b
      obtain ⟨x, hx127, ex⟩ := ca_v hpv (2 + kt (ca d.L d.ρ) + k)
      rw [ex, eC] at hs
      rw [ex]
      exact tn_v hC hx127 hs
    have b1 : w.1 1 = nI d.bd := (wi 1 (by decide) (by decide) (by decide)).trans hx.2.2.2.2.2
    have b0 : y.1 0 = nI d.bd := (yi 0 (by decide) (by decide) (by decide) (by decide)).trans hm.2.2.2.2.2
    obtain ⟨⟨K0, kk1, kk2⟩, kk3⟩ := hk
    refine ⟨?_, (cn (fun k => kb (ca d.L d.ρ (1 + k))) (kt (ca d.L d.ρ)), cn (fun k => tn (ca d.L d.ρ (2 + kt (ca d.L d.ρ) + k))) (kt (ca d.L d.ρ)), d.f, d.g, d.h, d.ρ, kt (ca d.L d.ρ), C, 0, 0, 0, d.bd + 1), ?_, ?_, ?_, Or.inl (by show ¬ (1 : Int32) = 0; decide), by show d.bd + 1 ≤ _; omega, ?_, Or.inr ⟨rfl, ?_⟩⟩
    · show w.1 3 = y.1 1
      rw [w13, y11]
    · refine ⟨Or.inr ⟨hK4, hK, by show 2 ≤ C; omega, by show C ≤ 3; omega⟩, fun k a b => ?_, fun k a b => ?_, cn_out _ _, ⟨by show 0 ≤ 26; omega, fun k hk => absurd hk (Nat.not_lt_zero _)⟩, by show 0 ≤ 6; omega, hd.2.2.2.2.2.2.1, by show 0 ≤ 999; omega, by show d.bd + 1 ≤ 600; omega⟩
      · show ∃ t, t < 5 ∧ cn (fun k => kb (ca d.L d.ρ (1 + k))) (kt (ca d.L d.ρ)) k = nI t
        rw [← cn_ag (fun k => kb (ca d.L d.ρ (1 + k))) (kt (ca d.L d.ρ)) k a b]
        exact ek k a b
      · show cn (fun k => tn (ca d.L d.ρ (2 + kt (ca d.L d.ρ) + k))) (kt (ca d.L d.ρ)) k = -1 ∨ ∃ c, c < C ∧ cn (fun k => tn (ca d.L d.ρ (2 + kt (ca d.L d.ρ) + k))) (kt (ca d.L d.ρ)) k = nI c
        rw [← cn_ag (fun k => tn (ca d.L d.ρ (2 + kt (ca d.L d.ρ) + k))) (kt (ca d.L d.ρ)) k a b]
        exact et k a b
    · refine ⟨⟨w13, w14, fun k a b => ?_, fun k a b => ?_⟩, ⟨rfl, fun k hk => absurd hk (Nat.not_lt_zero _)⟩, w15, rfl, fun k k6 => ?_, ?_⟩
      · show w.2.2 1 k = _
        have b' : k ≤ kt (ca d.L d.ρ) := b
        rw [(w3 k a (by omega)).1]
        exact cn_ag (fun k => kb (ca d.L d.ρ (1 + k))) (kt (ca d.L d.ρ)) k a b
      · show w.2.2 2 k = _
        have b' : k ≤ kt (ca d.L d.ρ) := b
        rw [(w3 k a (by omega)).2]
        exact cn_ag (fun k => tn (ca d.L d.ρ (2 + kt (ca d.L d.ρ) + k))) (kt (ca d.L d.ρ)) k a b
      · show w.2.2 3 k = _ ∧ w.2.2 4 k = _ ∧ w.2.2 5 k = _
        rw [wr 3 (by decide) (by decide), wr 4 (by decide) (by decide), wr 5 (by decide) (by decide)]
        exact hx.2.2.2.2.1 k k6
      · show w.1 1 + 1 = nI (d.bd + 1)
        rw [b1, nI_1]
    · refine ⟨⟨y11, y12, fun k a b => ?_, fun k a b => ?_⟩, ⟨rfl, fun k hk => absurd hk (Nat.not_lt_zero _)⟩, rfl, rfl, fun k k6 => ?_, ?_⟩
      · show y.2.2 0 k = _
        have b' : k ≤ kt (ca d.L d.ρ) := b
        rw [(y3 k a (by omega)).1]
        exact cn_ag (fun k => kb (ca d.L d.ρ (1 + k))) (kt (ca d.L d.ρ)) k a b
      · show y.2.2 1 k = _
        have b' : k ≤ kt (ca d.L d.ρ) := b
        rw [(y3 k a (by omega)).2]
        exact cn_ag (fun k => tn (ca d.L d.ρ (2 + kt (ca d.L d.ρ) + k))) (kt (ca d.L d.ρ)) k a b
      · show y.2.2 2 k = _ ∧ y.2.2 3 k = _ ∧ y.2.2 4 k = _
        rw [yr 2 (by decide) (by decide), yr 3 (by decide) (by decide), yr 4 (by decide) (by decide)]
        exact hm.2.2.2.2.1 k k6
      · show y.1 0 + 1 = nI (d.bd + 1)
        rw [b0, nI_1]
    · have e10 : y.1 10 = v.1 10 := yi 10 (by decide) (by decide) (by decide) (by decide)
      have e9 : y.1 9 = v.1 9 := yi 9 (by decide) (by decide) (by decide) (by decide)
      exact ⟨⟨K0, by show K0 ≤ d.bd + 1; omega, e10.trans kk2⟩, by show y.1 9 = 0 ∨ y.1 9 = 1; rw [e9]; exact kk3⟩
    · refine Or.inr ?_
      show ¬ y.1 10 = y.1 0 + 1
      rw [b0, nI_1, yi 10 (by decide) (by decide) (by decide) (by decide), kk2]
      intro e
      have := (nI_eq (by omega) (by omega)).mp e
      omega
  · refine p5_read hpv hm.2.1 (fun z hz _ hz0 => bn_t (hz0 hB) ⟨rfl, same z (rdv_M hz)⟩)
