set_option maxRecDepth 100000 in
set_option maxHeartbeats 4000000 in
theorem tX0_badWithSum (l : Launch) (D : va_G) (ad : Nat → Nat) (cI : ClassId) (rk ks kv : Nat) (pj : Nat) (hpj : pj < 13) (a2 : Int32) (u : SS) (post : Int32 → SS → Prop) (hw : wX0_badWithSum pj a2 u post) : Met l yX0_badWithSum (Cond.code yX0_badWithSum cX0_badWithSum 5 (some .int) :: XT) (Rm 3) (va_Pc [.ref (ad 2), .ref (ad (7 + pj)), .int a2] (Pr (xI D ad cI) (xN ad rk ks kv) u)) (va_Qi post (Po (xI D ad cI)) (xA ad)) 0 0 (xA ad) := by
  refine g_of (A := (xA ad)) (by decide) (Nat.le_of_ble_eq_true rfl) (lv := [(0, .ref (ad 2)), (1, .ref (ad (7 + pj))), (2, .int a2)]) rfl ?_
  intro p e s m below meth c ls S hr hk hI hN hS hl
  have hx := S.1
  have hb := S.2.1
  have ho := S.2.2.2.1
  have hg := @xG D ad cI rk ks kv
  have L26 : ∀ (x2_26 : Int32) (K26 : Int32 → Int32 → SS → Prop) (n : Nat) (x3_26 : Int32) (x4_26 : Int32) (u1 : SS) (H : Heap) (locs : List Loc) (ls : Array Slot), xI D ad cI u1 s H → va_S (xA ad) s.heap H locs → lv_has ls 5 [(0, .ref (ad 2)), (1, .ref (ad (7 + pj))), (2, .int x2_26), (3, .int x3_26), (4, .int x4_26)] → wX0_badWithSum_26 post pj x2_26 K26 n x3_26 x4_26 u1 → (∀ (x3_26 : Int32) (x4_26 : Int32) (u1 : SS) (H : Heap) (locs : List Loc) (ls : Array Slot), xI D ad cI u1 s H → va_S (xA ad) s.heap H locs → lv_has ls 5 [(0, .ref (ad 2)), (1, .ref (ad (7 + pj))), (2, .int x2_26), (3, .int x3_26), (4, .int x4_26)] → K26 x3_26 x4_26 u1 → W p l e (Rm 3) s m [.ref (ad 2), .ref (ad (7 + pj)), .int a2].toArray below meth c H locs 0 0 (MQ below (va_Qi post (Po (xI D ad cI)) (xA ad)) [.ref (ad 2), .ref (ad (7 + pj)), .int a2].toArray s 0 0 (xA ad)) (F0 m 63 ls [])) → W p l e (Rm 3) s m [.ref (ad 2), .ref (ad (7 + pj)), .int a2].toArray below meth c H locs 0 0 (MQ below (va_Qi post (Po (xI D ad cI)) (xA ad)) [.ref (ad 2), .ref (ad (7 + pj)), .int a2].toArray s 0 0 (xA ad)) (F0 m 26 ls []) := by
    intro x2_26 K26 n
    induction n with
    | zero => intro x3_26 x4_26 u1 H locs ls hI hS hl hw hK26; exact False.elim hw
    | succ n26 ih26 =>
      intro x3_26 x4_26 u1 H locs ls hI hS hl hw hK26
      refine lv_iload hx hb dX0_badWithSum_26 (lv_at hl 4 rfl) ?_
      refine lv_iload_n hx hb dX0_badWithSum_28 rfl (lv_at hl 2 rfl) ?_
      refine lv_iload hx hb dX0_badWithSum_29 (lv_at hl 4 rfl) ?_
      refine lv_isub hx hb dX0_badWithSum_31 ?_
      refine lv_icmp_gt (tgt := 63) hx hb dX0_badWithSum_32 (by decide) (fun hc => ?_) (fun hc => ?_)
      · have hw := hw.1 hc
        exact hK26 x3_26 x4_26 u1 _ _ _ hI hS (lv_sub hl [0, 1, 2, 3, 4] rfl) hw
      · have hw := hw.2 hc
        refine lv_iload_n hx hb dX0_badWithSum_35 rfl (lv_at hl 3 rfl) ?_
        refine lv_aload_n hx hb dX0_badWithSum_36 rfl (lv_at hl 0 rfl) ?_
        refine lv_aload_n hx hb dX0_badWithSum_37 rfl (lv_at hl 1 rfl) ?_
        refine lv_iload hx hb dX0_badWithSum_38 (lv_at hl 4 rfl) ?_
        refine lv_iload_n hx hb dX0_badWithSum_40 rfl (lv_at hl 2 rfl) ?_
        refine lv_iload hx hb dX0_badWithSum_41 (lv_at hl 4 rfl) ?_
        refine lv_isub hx hb dX0_badWithSum_43 ?_
        refine g_ci hg hS (g_runV S hg hI hN hS (As := [.ref (ad (7 + pj)), .int x4_26, .int (x2_26 - x4_26)]) (rest := [.int x3_26]) (tX0_isBad l D ad cI rk ks kv pj hpj _ _ _ _ hw) cv_yX0_isBad qm_X0_62 (va_recv hI.2.1 hI.1 (ci := 0) (q0 := 2) rfl rfl) ⟨Nat.le_of_ble_eq_true rfl, Nat.le_of_ble_eq_true rfl⟩ rfl hl.1 rfl (Nat.le_of_ble_eq_true rfl) dX0_badWithSum_44) (fun r2 u3 H locs hI hS hw => ?_)
        refine lv_if_eq (tgt := 54) hx hb dX0_badWithSum_47 (by decide) (fun hc => ?_) (fun hc => ?_)
        · have hw := hw.1 hc
          refine lv_iconst (v := (0 : Int32)) hx hb dX0_badWithSum_54 (by decide) ?_
          refine lv_iadd hx hb dX0_badWithSum_55 ?_
          refine lv_istore_n (lv' := [(3, .int (x3_26 + (0 : Int32))), (0, .ref (ad 2)), (1, .ref (ad (7 + pj))), (2, .int x2_26), (4, .int x4_26)]) hx hb dX0_badWithSum_56 rfl hl (by decide) rfl (fun ls hl => ?_)
          refine lv_iinc (v := x4_26 + 1) (lv' := [(4, .int (x4_26 + 1)), (3, .int (x3_26 + (0 : Int32))), (0, .ref (ad 2)), (1, .ref (ad (7 + pj))), (2, .int x2_26)]) hx hb dX0_badWithSum_57 hl (k := 4) rfl (congrArg (fun z => x4_26 + z) (by decide)) (by decide) rfl (fun ls hl => ?_)
          refine lv_goto (tgt := 26) hx hb dX0_badWithSum_60 (by decide) ?_
          exact ih26 (x3_26 + (0 : Int32)) (x4_26 + 1) u3 _ _ _ hI hS (lv_sub hl [2, 3, 4, 1, 0] rfl) hw hK26
        · have hw := hw.2 hc
          refine lv_iconst (v := (1 : Int32)) hx hb dX0_badWithSum_50 (by decide) ?_
          refine lv_goto (tgt := 55) hx hb dX0_badWithSum_51 (by decide) ?_
          refine lv_iadd hx hb dX0_badWithSum_55 ?_
          refine lv_istore_n (lv' := [(3, .int (x3_26 + (1 : Int32))), (0, .ref (ad 2)), (1, .ref (ad (7 + pj))), (2, .int x2_26), (4, .int x4_26)]) hx hb dX0_badWithSum_56 rfl hl (by decide) rfl (fun ls hl => ?_)
          refine lv_iinc (v := x4_26 + 1) (lv' := [(4, .int (x4_26 + 1)), (3, .int (x3_26 + (1 : Int32))), (0, .ref (ad 2)), (1, .ref (ad (7 + pj))), (2, .int x2_26)]) hx hb dX0_badWithSum_57 hl (k := 4) rfl (congrArg (fun z => x4_26 + z) (by decide)) (by decide) rfl (fun ls hl => ?_)
          refine lv_goto (tgt := 26) hx hb dX0_badWithSum_60 (by decide) ?_
          exact ih26 (x3_26 + (1 : Int32)) (x4_26 + 1) u3 _ _ _ hI hS (lv_sub hl [2, 3, 4, 1, 0] rfl) hw hK26
  refine va_getsN hx hb hN.2.2.2.1 hS ho (va_Nw.use rfl (nf_X0_59 hN)) (fun _ h9 => h9) dX0_badWithSum_0 ?_
  refine lv_aload_n hx hb dX0_badWithSum_3 rfl (lv_at hl 0 rfl) ?_
  refine xg_X0_2_9 S hI dX0_badWithSum_4 ?_
  refine lv_iload_n hx hb dX0_badWithSum_7 rfl (lv_at hl 2 rfl) ?_
  refine x_atN (j := 1) S hI hl.1 (by decide) (nm_X0_51 hN) ⟨Nat.le_of_ble_eq_true rfl, Nat.le_of_ble_eq_true rfl⟩ (Nat.le_of_ble_eq_true rfl) dX0_badWithSum_8 ?_
  refine x_atRN S hN hS hl.1 (nm_X0_51 hN) ⟨Nat.le_of_ble_eq_true rfl, Nat.le_of_ble_eq_true rfl⟩ (Nat.le_of_ble_eq_true rfl) dX0_badWithSum_11 ?_
  refine lv_iconst (v := (3 : Int32)) hx hb dX0_badWithSum_14 (by decide) ?_
  refine lv_iand hx hb dX0_badWithSum_15 ?_
  refine lv_if_ne (tgt := 21) hx hb dX0_badWithSum_16 (by decide) (fun hc => ?_) (fun hc => ?_)
  · have hw := hw.1 hc
    refine lv_iconst (v := (0 : Int32)) hx hb dX0_badWithSum_21 (by decide) ?_
    refine lv_istore_n (lv' := [(3, .int (0 : Int32)), (0, .ref (ad 2)), (1, .ref (ad (7 + pj))), (2, .int a2)]) hx hb dX0_badWithSum_22 rfl hl (by decide) rfl (fun ls hl => ?_)
    refine lv_iconst (v := (1 : Int32)) hx hb dX0_badWithSum_23 (by decide) ?_
    refine lv_istore (lv' := [(4, .int (1 : Int32)), (3, .int (0 : Int32)), (0, .ref (ad 2)), (1, .ref (ad (7 + pj))), (2, .int a2)]) hx hb dX0_badWithSum_24 hl (by decide) rfl (fun ls hl => ?_)
    obtain ⟨n, hw⟩ := hw
    refine L26 a2 _ n (0 : Int32) (1 : Int32) u _ _ _ hI hS (lv_sub hl [2, 3, 4, 1, 0] rfl) hw (fun x3_4 x4_5 u6 H locs ls hI hS hl hw => ?_)
    refine lv_iload_n hx hb dX0_badWithSum_63 rfl (lv_at hl 3 rfl) ?_
    exact g_iret S hr hk hg hI hS dX0_badWithSum_64 hw
  · have hw := hw.2 hc
    refine lv_iconst (v := (0 : Int32)) hx hb dX0_badWithSum_19 (by decide) ?_
    exact g_iret S hr hk hg hI hS dX0_badWithSum_20 hw
set_option maxRecDepth 100000 in
set_option maxHeartbeats 4000000 in
theorem tX1_tryColour (l : Launch) (D : va_G) (ad : Nat → Nat) (cI : ClassId) (rk ks kv : Nat)  (a1 : Int32) (a2 : Int32) (u : SS) (post : Int32 → SS → Prop) (hw : wX1_tryColour  a1 a2 u post) : Met l yX1_tryColour (Cond.code yX1_tryColour cX1_tryColour 3 (some .boolean) :: XT) (Rm 4) (va_Pc [.ref (ad 4), .int a1, .int a2] (Pr (xI D ad cI) (xN ad rk ks kv) u)) (va_Qi post (Po (xI D ad cI)) (xA ad)) 0 0 (xA ad) := by
  refine g_of (A := (xA ad)) (by decide) (Nat.le_of_ble_eq_true rfl) (lv := [(0, .ref (ad 4)), (1, .int a1), (2, .int a2)]) rfl ?_
  intro p e s m below meth c ls S hr hk hI hN hS hl
  have hx := S.1
  have hb := S.2.1
  have ho := S.2.2.2.1
  have hg := @xG D ad cI rk ks kv
  refine lv_aload_n hx hb dX1_tryColour_0 rfl (lv_at hl 0 rfl) ?_
  refine xg_X1_4_9 S hI dX1_tryColour_1 ?_
  refine lv_iload_n hx hb dX1_tryColour_4 rfl (lv_at hl 1 rfl) ?_
  refine lv_iload_n hx hb dX1_tryColour_5 rfl (lv_at hl 2 rfl) ?_
  refine x_putN (j := 6) S hI hN hS hl.1 (by decide) (nm_X1_39 hN) ⟨Nat.le_of_ble_eq_true rfl, Nat.le_of_ble_eq_true rfl⟩ (Nat.le_of_ble_eq_true rfl) dX1_tryColour_6 (fun H locs hI hS => ?_)
  refine lv_aload_n hx hb dX1_tryColour_9 rfl (lv_at hl 0 rfl) ?_
  refine xg_X1_4_35 S hI dX1_tryColour_10 ?_
  refine lv_aload_n hx hb dX1_tryColour_13 rfl (lv_at hl 0 rfl) ?_
  refine xg_X1_4_9 S hI dX1_tryColour_14 ?_
  refine lv_iload_n hx hb dX1_tryColour_17 rfl (lv_at hl 1 rfl) ?_
  refine g_ci hg hS (g_runVN S hg hI hN hS (As := [.ref (ad 13), .int a1]) (rest := []) (tX0_badWithSum l D ad cI rk ks kv 6 (by decide) _ _ _ hw) cv_yX0_badWithSum (nm_X1_47 hN) (va_recv hI.2.1 hI.1 (ci := 0) (q0 := 2) rfl rfl) ⟨Nat.le_of_ble_eq_true rfl, Nat.le_of_ble_eq_true rfl⟩ rfl hl.1 rfl (Nat.le_of_ble_eq_true rfl) dX1_tryColour_18) (fun r1 u2 H locs hI hS hw => ?_)
  refine lv_if_ne (tgt := 28) hx hb dX1_tryColour_21 (by decide) (fun hc => ?_) (fun hc => ?_)
  · have hw := hw.1 hc
    refine lv_iconst (v := (0 : Int32)) hx hb dX1_tryColour_28 (by decide) ?_
    exact g_zret S hr rfl hk hg hI hS dX1_tryColour_29 hw
  · have hw := hw.2 hc
    refine lv_iconst (v := (1 : Int32)) hx hb dX1_tryColour_24 (by decide) ?_
    refine lv_goto (tgt := 29) hx hb dX1_tryColour_25 (by decide) ?_
    exact g_zret S hr rfl hk hg hI hS dX1_tryColour_29 hw
set_option maxRecDepth 100000 in
set_option maxHeartbeats 4000000 in
theorem tX1_placeOf (l : Launch) (D : va_G) (ad : Nat → Nat) (cI : ClassId) (rk ks kv : Nat)  (a1 : Int32) (a2 : Int32) (u : SS) (post : Int32 → SS → Prop) (hw : wX1_placeOf  a1 a2 u post) : Met l yX1_placeOf (Cond.code yX1_placeOf cX1_placeOf 3 (some .int) :: XT) (Rm 1) (va_Pc [.ref (ad 4), .int a1, .int a2] (Pr (xI D ad cI) (xN ad rk ks kv) u)) (va_Qi post (Po (xI D ad cI)) (xA ad)) 0 0 (xA ad) := by
  refine g_of (A := (xA ad)) (by decide) (Nat.le_of_ble_eq_true rfl) (lv := [(0, .ref (ad 4)), (1, .int a1), (2, .int a2)]) rfl ?_
  intro p e s m below meth c ls S hr hk hI hN hS hl
  have hx := S.1
  have hb := S.2.1
  have ho := S.2.2.2.1
  have hg := @xG D ad cI rk ks kv
  refine lv_iload_n hx hb dX1_placeOf_0 rfl (lv_at hl 1 rfl) ?_
  refine lv_iconst (v := (3 : Int32)) hx hb dX1_placeOf_1 (by decide) ?_
  refine lv_imul hx hb dX1_placeOf_2 ?_
  refine lv_iload_n hx hb dX1_placeOf_3 rfl (lv_at hl 2 rfl) ?_
  refine lv_iadd hx hb dX1_placeOf_4 ?_
  exact g_iret S hr hk hg hI hS dX1_placeOf_5 hw
set_option maxRecDepth 100000 in
set_option maxHeartbeats 4000000 in
theorem tX1_countWaysFrom (l : Launch) (D : va_G) (ad : Nat → Nat) (cI : ClassId) (rk ks kv : Nat) : ∀ (d : Nat) (a1 : Int32) (u : SS) (post : Int32 → SS → Prop), wX1_countWaysFrom d a1 u post → Met l yX1_countWaysFrom (Cond.code yX1_countWaysFrom cX1_countWaysFrom 6 (some .int) :: XT) (Rm (5 + d)) (va_Pc [.ref (ad 4), .int a1] (Pr (xI D ad cI) (xN ad rk ks kv) u)) (va_Qi post (Po (xI D ad cI)) (xA ad)) 0 0 (xA ad) := by
  intro d
  induction d with
  | zero => intro a1 u post hw; exact False.elim hw
  | succ d ih =>
    intro a1 u post hw
    refine g_of (A := (xA ad)) (by decide) (Nat.le_of_ble_eq_true rfl) (lv := [(0, .ref (ad 4)), (1, .int a1)]) rfl ?_
    intro p e s m below meth c ls S hr hk hI hN hS hl
    have hx := S.1
    have hb := S.2.1
    have ho := S.2.2.2.1
    have hg := @xG D ad cI rk ks kv
    have L17 : ∀ (x1_17 : Int32) (K17 : Int32 → Int32 → SS → Prop) (n : Nat) (x2_17 : Int32) (x3_17 : Int32) (u1 : SS) (H : Heap) (locs : List Loc) (ls : Array Slot), xI D ad cI u1 s H → va_S (xA ad) s.heap H locs → lv_has ls 6 [(0, .ref (ad 4)), (1, .int x1_17), (2, .int x2_17), (3, .int x3_17)] → wX1_countWaysFrom_17 post (wX1_countWaysFrom d) x1_17 K17 n x2_17 x3_17 u1 → (∀ (x2_17 : Int32) (x3_17 : Int32) (u1 : SS) (H : Heap) (locs : List Loc) (ls : Array Slot), xI D ad cI u1 s H → va_S (xA ad) s.heap H locs → lv_has ls 6 [(0, .ref (ad 4)), (1, .int x1_17), (2, .int x2_17), (3, .int x3_17)] → K17 x2_17 x3_17 u1 → W p l e (Rm (5 + (d + 1))) s m [.ref (ad 4), .int a1].toArray below meth c H locs 0 0 (MQ below (va_Qi post (Po (xI D ad cI)) (xA ad)) [.ref (ad 4), .int a1].toArray s 0 0 (xA ad)) (F0 m 107 ls [])) → W p l e (Rm (5 + (d + 1))) s m [.ref (ad 4), .int a1].toArray below meth c H locs 0 0 (MQ below (va_Qi post (Po (xI D ad cI)) (xA ad)) [.ref (ad 4), .int a1].toArray s 0 0 (xA ad)) (F0 m 17 ls []) := by
      intro x1_17 K17 n
      induction n with
      | zero => intro x2_17 x3_17 u1 H locs ls hI hS hl hw hK17; exact False.elim hw
      | succ n17 ih17 =>
        intro x2_17 x3_17 u1 H locs ls hI hS hl hw hK17
        refine lv_iload_n hx hb dX1_countWaysFrom_17 rfl (lv_at hl 3 rfl) ?_
        refine lv_aload_n hx hb dX1_countWaysFrom_18 rfl (lv_at hl 0 rfl) ?_
        refine xg_X1_4_35 S hI dX1_countWaysFrom_19 ?_
        refine xg_X1_2_62 S hN hI dX1_countWaysFrom_22 ?_
        refine lv_icmp_ge (tgt := 107) hx hb dX1_countWaysFrom_25 (by decide) (fun hc => ?_) (fun hc => ?_)
        · have hw := hw.1 hc
          exact hK17 x2_17 x3_17 u1 _ _ _ hI hS (lv_sub hl [0, 1, 2, 3] rfl) hw
        · have hw := hw.2 hc
          refine lv_aload_n hx hb dX1_countWaysFrom_28 rfl (lv_at hl 0 rfl) ?_
          refine lv_iload_n hx hb dX1_countWaysFrom_29 rfl (lv_at hl 1 rfl) ?_
          refine lv_iload_n hx hb dX1_countWaysFrom_30 rfl (lv_at hl 3 rfl) ?_
          refine g_ci hg hS (g_runV S hg hI hN hS (As := [.int x1_17, .int x3_17]) (rest := []) (tX1_mayHave l D ad cI rk ks kv  _ _ _ _ hw) cv_yX1_mayHave qm_X1_65 (va_recv hI.2.1 hI.1 (ci := 1) (q0 := 4) rfl rfl) ⟨by show _ ≤ 5 + (d + 1); omega, by show _ ≤ 40 * (5 + (d + 1)); omega⟩ rfl hl.1 rfl (Nat.le_of_ble_eq_true rfl) dX1_countWaysFrom_31) (fun r2 u3 H locs hI hS hw => ?_)
          refine lv_if_eq (tgt := 101) hx hb dX1_countWaysFrom_34 (by decide) (fun hc => ?_) (fun hc => ?_)
          · have hw := hw.1 hc
            refine lv_iinc (v := x3_17 + 1) (lv' := [(3, .int (x3_17 + 1)), (0, .ref (ad 4)), (1, .int x1_17), (2, .int x2_17)]) hx hb dX1_countWaysFrom_101 hl (k := 3) rfl (congrArg (fun z => x3_17 + z) (by decide)) (by decide) rfl (fun ls hl => ?_)
            refine lv_goto (tgt := 17) hx hb dX1_countWaysFrom_104 (by decide) ?_
            exact ih17 x2_17 (x3_17 + 1) u3 _ _ _ hI hS (lv_sub hl [1, 2, 3, 0] rfl) hw hK17
          · have hw := hw.2 hc
            refine lv_aload_n hx hb dX1_countWaysFrom_37 rfl (lv_at hl 0 rfl) ?_
            refine lv_iload_n hx hb dX1_countWaysFrom_38 rfl (lv_at hl 1 rfl) ?_
            refine lv_iload_n hx hb dX1_countWaysFrom_39 rfl (lv_at hl 3 rfl) ?_
            refine g_ci hg hS (g_runV S hg hI hN hS (As := [.int x1_17, .int x3_17]) (rest := []) (tX1_tryColour l D ad cI rk ks kv  _ _ _ _ hw) cv_yX1_tryColour qm_X1_69 (va_recv hI.2.1 hI.1 (ci := 1) (q0 := 4) rfl rfl) ⟨by show _ ≤ 5 + (d + 1); omega, by show _ ≤ 40 * (5 + (d + 1)); omega⟩ rfl hl.1 rfl (Nat.le_of_ble_eq_true rfl) dX1_countWaysFrom_40) (fun r4 u5 H locs hI hS hw => ?_)
            refine lv_if_eq (tgt := 101) hx hb dX1_countWaysFrom_43 (by decide) (fun hc => ?_) (fun hc => ?_)
            · have hw := hw.1 hc
              refine lv_iinc (v := x3_17 + 1) (lv' := [(3, .int (x3_17 + 1)), (0, .ref (ad 4)), (1, .int x1_17), (2, .int x2_17)]) hx hb dX1_countWaysFrom_101 hl (k := 3) rfl (congrArg (fun z => x3_17 + z) (by decide)) (by decide) rfl (fun ls hl => ?_)
              refine lv_goto (tgt := 17) hx hb dX1_countWaysFrom_104 (by decide) ?_
              exact ih17 x2_17 (x3_17 + 1) u5 _ _ _ hI hS (lv_sub hl [1, 2, 3, 0] rfl) hw hK17
            · have hw := hw.2 hc
              refine lv_aload_n hx hb dX1_countWaysFrom_46 rfl (lv_at hl 0 rfl) ?_
              refine lv_aload_n hx hb dX1_countWaysFrom_47 rfl (lv_at hl 0 rfl) ?_
              refine xg_X1_4_22 S hI dX1_countWaysFrom_48 ?_
              refine lv_iload_n hx hb dX1_countWaysFrom_51 rfl (lv_at hl 1 rfl) ?_
              refine va_mmax hx hb (S.2.2.1.trans hl.1.symm) ho (g_in S qm_X1_72) (g_in S qs_Lib_Math_max_name) (g_in S qz_java_lang_Math) (g_in S qc_Lib_Math_max_name) (by show 1 ≤ 5 + (d + 1); omega) (by show _ ≤ 40 * (5 + (d + 1)); simp [Value.category]; omega) (Nat.zero_le _) (Nat.zero_le _) dX1_countWaysFrom_52 ?_
              refine xp_X1_4_22 S hI hS dX1_countWaysFrom_55 (fun H locs hI hS => ?_)
              refine lv_aload_n hx hb dX1_countWaysFrom_58 rfl (lv_at hl 0 rfl) ?_
              refine lv_iload_n hx hb dX1_countWaysFrom_59 rfl (lv_at hl 1 rfl) ?_
              refine lv_iconst (v := (1 : Int32)) hx hb dX1_countWaysFrom_60 (by decide) ?_
              refine lv_iadd hx hb dX1_countWaysFrom_61 ?_
              refine g_ci hg hS (g_runV S hg hI hN hS (As := [.int (x1_17 + (1 : Int32))]) (rest := []) (ih _ _ _ hw) cv_yX1_countWaysFrom qm_X1_43 (va_recv hI.2.1 hI.1 (ci := 1) (q0 := 4) rfl rfl) ⟨by show 5 + d + 1 ≤ 5 + (d + 1); omega, by show 8 + (6 + 11) + 40 * (5 + d) ≤ 40 * (5 + (d + 1)); omega⟩ rfl hl.1 rfl (Nat.le_of_ble_eq_true rfl) dX1_countWaysFrom_62) (fun r6 u7 H locs hI hS hw => ?_)
              refine lv_istore (lv' := [(4, .int r6), (0, .ref (ad 4)), (1, .int x1_17), (2, .int x2_17), (3, .int x3_17)]) hx hb dX1_countWaysFrom_65 hl (by decide) rfl (fun ls hl => ?_)
              refine lv_aload_n hx hb dX1_countWaysFrom_67 rfl (lv_at hl 1 rfl) ?_
              refine lv_iload_n hx hb dX1_countWaysFrom_68 rfl (lv_at hl 2 rfl) ?_
              refine lv_iload_n hx hb dX1_countWaysFrom_69 rfl (lv_at hl 4 rfl) ?_
              refine g_ci hg hS (g_runV S hg hI hN hS (As := [.int x1_17, .int x3_17]) (rest := []) (tX1_placeOf l D ad cI rk ks kv  _ _ _ _ hw) cv_yX1_placeOf qm_X1_78 (va_recv hI.2.1 hI.1 (ci := 1) (q0 := 4) rfl rfl) ⟨by show _ ≤ 5 + (d + 1); omega, by show _ ≤ 40 * (5 + (d + 1)); omega⟩ rfl hl.1 rfl (Nat.le_of_ble_eq_true rfl) dX1_countWaysFrom_70) (fun r8 u9 H locs hI hS hw => ?_)
              refine lv_istore (lv' := [(5, .int r8), (4, .int r6), (0, .ref (ad 4)), (1, .int x1_17), (2, .int x2_17), (3, .int x3_17)]) hx hb dX1_countWaysFrom_73 hl (by decide) rfl (fun ls hl => ?_)
              refine lv_aload_n hx hb dX1_countWaysFrom_75 rfl (lv_at hl 2 rfl) ?_
              refine xg_X1_4_15 S hI dX1_countWaysFrom_76 ?_
              refine lv_iload hx hb dX1_countWaysFrom_79 (lv_at hl 0 rfl) ?_
              refine lv_aload_n hx hb dX1_countWaysFrom_81 rfl (lv_at hl 2 rfl) ?_
              refine xg_X1_4_15 S hI dX1_countWaysFrom_82 ?_
              refine lv_iload hx hb dX1_countWaysFrom_85 (lv_at hl 0 rfl) ?_
              refine x_atN (j := 7) S hI hl.1 (by decide) (nm_X1_56 hN) ⟨by show _ ≤ 5 + (d + 1); omega, by show _ ≤ 40 * (5 + (d + 1)); omega⟩ (Nat.le_of_ble_eq_true rfl) dX1_countWaysFrom_87 ?_
              refine lv_iload hx hb dX1_countWaysFrom_90 (lv_at hl 1 rfl) ?_
              refine lv_iadd hx hb dX1_countWaysFrom_92 ?_
              refine x_putN (j := 7) S hI hN hS hl.1 (by decide) (nm_X1_39 hN) ⟨by show _ ≤ 5 + (d + 1); omega, by show _ ≤ 40 * (5 + (d + 1)); omega⟩ (Nat.le_of_ble_eq_true rfl) dX1_countWaysFrom_93 (fun H locs hI hS => ?_)
              refine lv_iload_n hx hb dX1_countWaysFrom_96 rfl (lv_at hl 4 rfl) ?_
              refine lv_iload hx hb dX1_countWaysFrom_97 (lv_at hl 1 rfl) ?_
              refine lv_iadd hx hb dX1_countWaysFrom_99 ?_
              refine lv_istore_n (lv' := [(2, .int (x2_17 + r6)), (5, .int r8), (4, .int r6), (0, .ref (ad 4)), (1, .int x1_17), (3, .int x3_17)]) hx hb dX1_countWaysFrom_100 rfl hl (by decide) rfl (fun ls hl => ?_)
              refine lv_iinc (v := x3_17 + 1) (lv' := [(3, .int (x3_17 + 1)), (2, .int (x2_17 + r6)), (5, .int r8), (4, .int r6), (0, .ref (ad 4)), (1, .int x1_17)]) hx hb dX1_countWaysFrom_101 hl (k := 5) rfl (congrArg (fun z => x3_17 + z) (by decide)) (by decide) rfl (fun ls hl => ?_)
              refine lv_goto (tgt := 17) hx hb dX1_countWaysFrom_104 (by decide) ?_
              exact ih17 (x2_17 + r6) (x3_17 + 1) (xput u9 7 r8 ((xat u9 7 r8) + r6)) _ _ _ hI hS (lv_sub hl [4, 5, 1, 0] rfl) hw hK17
    refine lv_iload_n hx hb dX1_countWaysFrom_0 rfl (lv_at hl 1 rfl) ?_
    refine lv_aload_n hx hb dX1_countWaysFrom_1 rfl (lv_at hl 0 rfl) ?_
    refine xg_X1_4_35 S hI dX1_countWaysFrom_2 ?_
    refine xg_X1_2_59 S hN hI dX1_countWaysFrom_5 ?_
    refine lv_icmp_le (tgt := 13) hx hb dX1_countWaysFrom_8 (by decide) (fun hc => ?_) (fun hc => ?_)
    · have hw := hw.1 hc
      refine lv_iconst (v := (0 : Int32)) hx hb dX1_countWaysFrom_13 (by decide) ?_
      refine lv_istore_n (lv' := [(2, .int (0 : Int32)), (0, .ref (ad 4)), (1, .int a1)]) hx hb dX1_countWaysFrom_14 rfl hl (by decide) rfl (fun ls hl => ?_)
      refine lv_iconst (v := (0 : Int32)) hx hb dX1_countWaysFrom_15 (by decide) ?_
      refine lv_istore_n (lv' := [(3, .int (0 : Int32)), (2, .int (0 : Int32)), (0, .ref (ad 4)), (1, .int a1)]) hx hb dX1_countWaysFrom_16 rfl hl (by decide) rfl (fun ls hl => ?_)
      obtain ⟨n, hw⟩ := hw
      refine L17 a1 _ n (0 : Int32) (0 : Int32) u _ _ _ hI hS (lv_sub hl [2, 3, 1, 0] rfl) hw (fun x2_10 x3_11 u12 H locs ls hI hS hl hw => ?_)
      refine lv_iload_n hx hb dX1_countWaysFrom_107 rfl (lv_at hl 2 rfl) ?_
      exact g_iret S hr hk hg hI hS dX1_countWaysFrom_108 hw
    · have hw := hw.2 hc
      refine lv_iconst (v := (1 : Int32)) hx hb dX1_countWaysFrom_11 (by decide) ?_
      exact g_iret S hr hk hg hI hS dX1_countWaysFrom_12 hw
set_option maxRecDepth 100000 in
set_option maxHeartbeats 4000000 in
theorem tX1_refresh (l : Launch) (D : va_G) (ad : Nat → Nat) (cI : ClassId) (rk ks kv : Nat)   (u : SS) (post : SS → Prop) (hw : wX1_refresh   u post) : Met l yX1_refresh (Cond.code yX1_refresh cX1_refresh 2 none :: XT) (Rm 26) (va_Pc [.ref (ad 4)] (Pr (xI D ad cI) (xN ad rk ks kv) u)) (va_Qv post (Po (xI D ad cI)) (xA ad)) 0 0 (xA ad) := by
  refine g_of (A := (xA ad)) (by decide) (Nat.le_of_ble_eq_true rfl) (lv := [(0, .ref (ad 4))]) rfl ?_
  intro p e s m below meth c ls S hr hk hI hN hS hl
  have hx := S.1
  have hb := S.2.1
  have ho := S.2.2.2.1
  have hg := @xG D ad cI rk ks kv
  have L10 : ∀  (K10 : Int32 → SS → Prop) (n : Nat) (x1_10 : Int32) (u1 : SS) (H : Heap) (locs : List Loc) (ls : Array Slot), xI D ad cI u1 s H → va_S (xA ad) s.heap H locs → lv_has ls 2 [(0, .ref (ad 4)), (1, .int x1_10)] → wX1_refresh_10 post K10 n x1_10 u1 → (∀ (x1_10 : Int32) (u1 : SS) (H : Heap) (locs : List Loc) (ls : Array Slot), xI D ad cI u1 s H → va_S (xA ad) s.heap H locs → lv_has ls 2 [(0, .ref (ad 4)), (1, .int x1_10)] → K10 x1_10 u1 → W p l e (Rm 26) s m [.ref (ad 4)].toArray below meth c H locs 0 0 (MQ below (va_Qv post (Po (xI D ad cI)) (xA ad)) [.ref (ad 4)].toArray s 0 0 (xA ad)) (F0 m 34 ls [])) → W p l e (Rm 26) s m [.ref (ad 4)].toArray below meth c H locs 0 0 (MQ below (va_Qv post (Po (xI D ad cI)) (xA ad)) [.ref (ad 4)].toArray s 0 0 (xA ad)) (F0 m 10 ls []) := by
    intro K10 n
    induction n with
    | zero => intro x1_10 u1 H locs ls hI hS hl hw hK10; exact False.elim hw
    | succ n10 ih10 =>
      intro x1_10 u1 H locs ls hI hS hl hw hK10
      refine lv_iload_n hx hb dX1_refresh_10 rfl (lv_at hl 1 rfl) ?_
      refine lv_aload_n hx hb dX1_refresh_11 rfl (lv_at hl 0 rfl) ?_
      refine xg_X1_4_15 S hI dX1_refresh_12 ?_
      refine va_alen (v := (33 : Int32)) hx hb hI.2.1 hI.1 14 0 rfl rfl rfl dX1_refresh_15 ?_
      refine lv_icmp_ge (tgt := 34) hx hb dX1_refresh_16 (by decide) (fun hc => ?_) (fun hc => ?_)
      · have hw := hw.1 hc
        exact hK10 x1_10 u1 _ _ _ hI hS (lv_sub hl [0, 1] rfl) hw
      · have hw := hw.2 hc
        refine lv_aload_n hx hb dX1_refresh_19 rfl (lv_at hl 0 rfl) ?_
        refine xg_X1_4_15 S hI dX1_refresh_20 ?_
        refine lv_iload_n hx hb dX1_refresh_23 rfl (lv_at hl 1 rfl) ?_
        refine lv_iconst (v := (0 : Int32)) hx hb dX1_refresh_24 (by decide) ?_
        refine x_putN (j := 7) S hI hN hS hl.1 (by decide) (nm_X1_39 hN) ⟨Nat.le_of_ble_eq_true rfl, Nat.le_of_ble_eq_true rfl⟩ (Nat.le_of_ble_eq_true rfl) dX1_refresh_25 (fun H locs hI hS => ?_)
        refine lv_iinc (v := x1_10 + 1) (lv' := [(1, .int (x1_10 + 1)), (0, .ref (ad 4))]) hx hb dX1_refresh_28 hl (k := 1) rfl (congrArg (fun z => x1_10 + z) (by decide)) (by decide) rfl (fun ls hl => ?_)
        refine lv_goto (tgt := 10) hx hb dX1_refresh_31 (by decide) ?_
        exact ih10 (x1_10 + 1) (xput u1 7 x1_10 (0 : Int32)) _ _ _ hI hS (lv_sub hl [1, 0] rfl) hw hK10
  refine lv_aload_n hx hb dX1_refresh_0 rfl (lv_at hl 0 rfl) ?_
  refine xg_X1_4_31 S hI dX1_refresh_1 ?_
  refine lv_if_ne (tgt := 8) hx hb dX1_refresh_4 (by decide) (fun hc => ?_) (fun hc => ?_)
  · have hw := hw.1 hc
    refine lv_iconst (v := (0 : Int32)) hx hb dX1_refresh_8 (by decide) ?_
    refine lv_istore_n (lv' := [(1, .int (0 : Int32)), (0, .ref (ad 4))]) hx hb dX1_refresh_9 rfl hl (by decide) rfl (fun ls hl => ?_)
    obtain ⟨n, hw⟩ := hw
    refine L10 _ n (0 : Int32) u _ _ _ hI hS (lv_sub hl [1, 0] rfl) hw (fun x1_2 u3 H locs ls hI hS hl hw => ?_)
    refine lv_aload_n hx hb dX1_refresh_34 rfl (lv_at hl 0 rfl) ?_
    refine lv_iconst (v := (0 : Int32)) hx hb dX1_refresh_35 (by decide) ?_
    refine xp_X1_4_22 S hI hS dX1_refresh_36 (fun H locs hI hS => ?_)
    refine lv_aload_n hx hb dX1_refresh_39 rfl (lv_at hl 0 rfl) ?_
    refine lv_aload_n hx hb dX1_refresh_40 rfl (lv_at hl 0 rfl) ?_
    refine lv_iconst (v := (1 : Int32)) hx hb dX1_refresh_41 (by decide) ?_
    obtain ⟨d, hd, hw⟩ := hw
    refine g_ci hg hS (g_runV S hg hI hN hS (As := [.int (1 : Int32)]) (rest := [.ref (ad 4)]) (tX1_countWaysFrom l D ad cI rk ks kv d _ _ _ hw) cv_yX1_countWaysFrom qm_X1_43 (va_recv hI.2.1 hI.1 (ci := 1) (q0 := 4) rfl rfl) ⟨by show 5 + d + 1 ≤ 26; omega, by show 8 + (6 + 11) + 40 * (5 + d) ≤ 40 * 26; omega⟩ rfl hl.1 rfl (Nat.le_of_ble_eq_true rfl) dX1_refresh_42) (fun r4 u5 H locs hI hS hw => ?_)
    refine xp_X1_4_18 S hI hS dX1_refresh_45 (fun H locs hI hS => ?_)
    refine lv_aload_n hx hb dX1_refresh_48 rfl (lv_at hl 0 rfl) ?_
    refine lv_iconst (v := (0 : Int32)) hx hb dX1_refresh_49 (by decide) ?_
    refine xp_X1_4_31 rfl rfl S hI hS dX1_refresh_50 (fun H locs hI hS => ?_)
    exact g_vret S hr hk hg hI hS dX1_refresh_53 hw
  · have hw := hw.2 hc
    exact g_vret S hr hk hg hI hS dX1_refresh_7 hw
set_option maxRecDepth 100000 in
set_option maxHeartbeats 4000000 in
theorem tX1_waysWith (l : Launch) (D : va_G) (ad : Nat → Nat) (cI : ClassId) (rk ks kv : Nat)  (a1 : Int32) (a2 : Int32) (u : SS) (post : Int32 → SS → Prop) (hw : wX1_waysWith  a1 a2 u post) : Met l yX1_waysWith (Cond.code yX1_waysWith cX1_waysWith 3 (some .int) :: XT) (Rm 2) (va_Pc [.ref (ad 4), .int a1, .int a2] (Pr (xI D ad cI) (xN ad rk ks kv) u)) (va_Qi post (Po (xI D ad cI)) (xA ad)) 0 0 (xA ad) := by
  refine g_of (A := (xA ad)) (by decide) (Nat.le_of_ble_eq_true rfl) (lv := [(0, .ref (ad 4)), (1, .int a1), (2, .int a2)]) rfl ?_
  intro p e s m below meth c ls S hr hk hI hN hS hl
  have hx := S.1
  have hb := S.2.1
  have ho := S.2.2.2.1
  have hg := @xG D ad cI rk ks kv
  refine lv_aload_n hx hb dX1_waysWith_0 rfl (lv_at hl 0 rfl) ?_
  refine xg_X1_4_15 S hI dX1_waysWith_1 ?_
  refine lv_aload_n hx hb dX1_waysWith_4 rfl (lv_at hl 0 rfl) ?_
  refine lv_iload_n hx hb dX1_waysWith_5 rfl (lv_at hl 1 rfl) ?_
  refine lv_iload_n hx hb dX1_waysWith_6 rfl (lv_at hl 2 rfl) ?_
  refine g_ci hg hS (g_runV S hg hI hN hS (As := [.int a1, .int a2]) (rest := [.ref (ad 14)]) (tX1_placeOf l D ad cI rk ks kv  _ _ _ _ hw) cv_yX1_placeOf qm_X1_78 (va_recv hI.2.1 hI.1 (ci := 1) (q0 := 4) rfl rfl) ⟨Nat.le_of_ble_eq_true rfl, Nat.le_of_ble_eq_true rfl⟩ rfl hl.1 rfl (Nat.le_of_ble_eq_true rfl) dX1_waysWith_7) (fun r1 u2 H locs hI hS hw => ?_)
  refine x_atN (j := 7) S hI hl.1 (by decide) (nm_X1_56 hN) ⟨Nat.le_of_ble_eq_true rfl, Nat.le_of_ble_eq_true rfl⟩ (Nat.le_of_ble_eq_true rfl) dX1_waysWith_10 ?_
  exact g_iret S hr hk hg hI hS dX1_waysWith_13 hw
set_option maxRecDepth 100000 in
set_option maxHeartbeats 4000000 in
theorem tX1_sureColour (l : Launch) (D : va_G) (ad : Nat → Nat) (cI : ClassId) (rk ks kv : Nat)  (a1 : Int32) (u : SS) (post : Int32 → SS → Prop) (hw : wX1_sureColour  a1 u post) : Met l yX1_sureColour (Cond.code yX1_sureColour cX1_sureColour 3 (some .int) :: XT) (Rm 3) (va_Pc [.ref (ad 4), .int a1] (Pr (xI D ad cI) (xN ad rk ks kv) u)) (va_Qi post (Po (xI D ad cI)) (xA ad)) 0 0 (xA ad) := by
  refine g_of (A := (xA ad)) (by decide) (Nat.le_of_ble_eq_true rfl) (lv := [(0, .ref (ad 4)), (1, .int a1)]) rfl ?_
  intro p e s m below meth c ls S hr hk hI hN hS hl
  have hx := S.1
  have hb := S.2.1
  have ho := S.2.2.2.1
  have hg := @xG D ad cI rk ks kv
  have L2 : ∀ (x1_2 : Int32) (K2 : Int32 → SS → Prop) (n : Nat) (x2_2 : Int32) (u1 : SS) (H : Heap) (locs : List Loc) (ls : Array Slot), xI D ad cI u1 s H → va_S (xA ad) s.heap H locs → lv_has ls 3 [(0, .ref (ad 4)), (1, .int x1_2), (2, .int x2_2)] → wX1_sureColour_2 post x1_2 K2 n x2_2 u1 → (∀ (x2_2 : Int32) (u1 : SS) (H : Heap) (locs : List Loc) (ls : Array Slot), xI D ad cI u1 s H → va_S (xA ad) s.heap H locs → lv_has ls 3 [(0, .ref (ad 4)), (1, .int x1_2), (2, .int x2_2)] → K2 x2_2 u1 → W p l e (Rm 3) s m [.ref (ad 4), .int a1].toArray below meth c H locs 0 0 (MQ below (va_Qi post (Po (xI D ad cI)) (xA ad)) [.ref (ad 4), .int a1].toArray s 0 0 (xA ad)) (F0 m 41 ls [])) → W p l e (Rm 3) s m [.ref (ad 4), .int a1].toArray below meth c H locs 0 0 (MQ below (va_Qi post (Po (xI D ad cI)) (xA ad)) [.ref (ad 4), .int a1].toArray s 0 0 (xA ad)) (F0 m 2 ls []) := by
    intro x1_2 K2 n
    induction n with
    | zero => intro x2_2 u1 H locs ls hI hS hl hw hK2; exact False.elim hw
    | succ n2 ih2 =>
      intro x2_2 u1 H locs ls hI hS hl hw hK2
      refine lv_iload_n hx hb dX1_sureColour_2 rfl (lv_at hl 2 rfl) ?_
      refine lv_aload_n hx hb dX1_sureColour_3 rfl (lv_at hl 0 rfl) ?_
      refine xg_X1_4_35 S hI dX1_sureColour_4 ?_
      refine xg_X1_2_62 S hN hI dX1_sureColour_7 ?_
      refine lv_icmp_ge (tgt := 41) hx hb dX1_sureColour_10 (by decide) (fun hc => ?_) (fun hc => ?_)
      · have hw := hw.1 hc
        exact hK2 x2_2 u1 _ _ _ hI hS (lv_sub hl [0, 1, 2] rfl) hw
      · have hw := hw.2 hc
        refine lv_aload_n hx hb dX1_sureColour_13 rfl (lv_at hl 0 rfl) ?_
        refine xg_X1_4_18 S hI dX1_sureColour_14 ?_
        refine lv_if_le (tgt := 35) hx hb dX1_sureColour_17 (by decide) (fun hc => ?_) (fun hc => ?_)
        · have hw := hw.1 hc
          refine lv_iinc (v := x2_2 + 1) (lv' := [(2, .int (x2_2 + 1)), (0, .ref (ad 4)), (1, .int x1_2)]) hx hb dX1_sureColour_35 hl (k := 2) rfl (congrArg (fun z => x2_2 + z) (by decide)) (by decide) rfl (fun ls hl => ?_)
          refine lv_goto (tgt := 2) hx hb dX1_sureColour_38 (by decide) ?_
          exact ih2 (x2_2 + 1) u1 _ _ _ hI hS (lv_sub hl [1, 2, 0] rfl) hw hK2
        · have hw := hw.2 hc
          refine lv_aload_n hx hb dX1_sureColour_20 rfl (lv_at hl 0 rfl) ?_
          refine lv_iload_n hx hb dX1_sureColour_21 rfl (lv_at hl 1 rfl) ?_
          refine lv_iload_n hx hb dX1_sureColour_22 rfl (lv_at hl 2 rfl) ?_
          refine g_ci hg hS (g_runV S hg hI hN hS (As := [.int x1_2, .int x2_2]) (rest := []) (tX1_waysWith l D ad cI rk ks kv  _ _ _ _ hw) cv_yX1_waysWith qm_X1_81 (va_recv hI.2.1 hI.1 (ci := 1) (q0 := 4) rfl rfl) ⟨Nat.le_of_ble_eq_true rfl, Nat.le_of_ble_eq_true rfl⟩ rfl hl.1 rfl (Nat.le_of_ble_eq_true rfl) dX1_sureColour_23) (fun r2 u3 H locs hI hS hw => ?_)
          refine lv_aload_n hx hb dX1_sureColour_26 rfl (lv_at hl 0 rfl) ?_
          refine xg_X1_4_18 S hI dX1_sureColour_27 ?_
          refine lv_icmp_ne (tgt := 35) hx hb dX1_sureColour_30 (by decide) (fun hc => ?_) (fun hc => ?_)
          · have hw := hw.1 hc
            refine lv_iinc (v := x2_2 + 1) (lv' := [(2, .int (x2_2 + 1)), (0, .ref (ad 4)), (1, .int x1_2)]) hx hb dX1_sureColour_35 hl (k := 2) rfl (congrArg (fun z => x2_2 + z) (by decide)) (by decide) rfl (fun ls hl => ?_)
            refine lv_goto (tgt := 2) hx hb dX1_sureColour_38 (by decide) ?_
            exact ih2 (x2_2 + 1) u3 _ _ _ hI hS (lv_sub hl [1, 2, 0] rfl) hw hK2
          · have hw := hw.2 hc
            refine lv_iload_n hx hb dX1_sureColour_33 rfl (lv_at hl 2 rfl) ?_
            exact g_iret S hr hk hg hI hS dX1_sureColour_34 hw
  refine lv_iconst (v := (0 : Int32)) hx hb dX1_sureColour_0 (by decide) ?_
  refine lv_istore_n (lv' := [(2, .int (0 : Int32)), (0, .ref (ad 4)), (1, .int a1)]) hx hb dX1_sureColour_1 rfl hl (by decide) rfl (fun ls hl => ?_)
  obtain ⟨n, hw⟩ := hw
  refine L2 a1 _ n (0 : Int32) u _ _ _ hI hS (lv_sub hl [1, 2, 0] rfl) hw (fun x2_4 u5 H locs ls hI hS hl hw => ?_)
  refine lv_iconst (v := (-1 : Int32)) hx hb dX1_sureColour_41 (by decide) ?_
  exact g_iret S hr hk hg hI hS dX1_sureColour_42 hw
set_option maxRecDepth 100000 in
set_option maxHeartbeats 4000000 in
theorem tX4_kindHasRole (l : Launch) (D : va_G) (ad : Nat → Nat) (cI : ClassId) (rk ks kv : Nat)  (a0 : Int32) (a1 : Int32) (u : SS) (post : Int32 → SS → Prop) (hw : wX4_kindHasRole  a0 a1 u post) : Met l yX4_kindHasRole (Cond.code yX4_kindHasRole cX4_kindHasRole 2 (some .boolean) :: XT) (Rm 2) (va_Pc [.int a0, .int a1] (Pr (xI D ad cI) (xN ad rk ks kv) u)) (va_Qi post (Po (xI D ad cI)) (xA ad)) 0 0 (xA ad) := by
  refine g_of (A := (xA ad)) (by decide) (Nat.le_of_ble_eq_true rfl) (lv := [(0, .int a0), (1, .int a1)]) rfl ?_
  intro p e s m below meth c ls S hr hk hI hN hS hl
  have hx := S.1
  have hb := S.2.1
  have ho := S.2.2.2.1
  have hg := @xG D ad cI rk ks kv
  refine va_gets hx hb hN.2.2.2.1 hS ho (g_in S qf_X4_221) (fun _ h9 => h9) dX4_kindHasRole_0 ?_
  refine lv_iload_n hx hb dX4_kindHasRole_3 rfl (lv_at hl 0 rfl) ?_
  refine x_atRS S hN hS hl.1 qm_X4_89 ⟨Nat.le_of_ble_eq_true rfl, Nat.le_of_ble_eq_true rfl⟩ (Nat.le_of_ble_eq_true rfl) dX4_kindHasRole_4 ?_
  refine lv_iconst (v := (1 : Int32)) hx hb dX4_kindHasRole_7 (by decide) ?_
  refine lv_iload_n hx hb dX4_kindHasRole_8 rfl (lv_at hl 1 rfl) ?_
  refine lv_ishl hx hb dX4_kindHasRole_9 ?_
  refine lv_iand hx hb dX4_kindHasRole_10 ?_
  refine lv_if_eq (tgt := 18) hx hb dX4_kindHasRole_11 (by decide) (fun hc => ?_) (fun hc => ?_)
  · have hw := hw.1 hc
    refine lv_iconst (v := (0 : Int32)) hx hb dX4_kindHasRole_18 (by decide) ?_
    exact g_zret S hr rfl hk hg hI hS dX4_kindHasRole_19 hw
  · have hw := hw.2 hc
    refine lv_iconst (v := (1 : Int32)) hx hb dX4_kindHasRole_14 (by decide) ?_
    refine lv_goto (tgt := 19) hx hb dX4_kindHasRole_15 (by decide) ?_
    exact g_zret S hr rfl hk hg hI hS dX4_kindHasRole_19 hw
set_option maxRecDepth 100000 in
set_option maxHeartbeats 4000000 in
theorem tX3_allowKind (l : Launch) (D : va_G) (ad : Nat → Nat) (cI : ClassId) (rk ks kv : Nat)  (a1 : Int32) (a2 : Int32) (u : SS) (post : Int32 → SS → Prop) (hw : wX3_allowKind  a1 a2 u post) : Met l yX3_allowKind (Cond.code yX3_allowKind cX3_allowKind 5 (some .boolean) :: XT) (Rm 3) (va_Pc [.ref (ad 3), .int a1, .int a2] (Pr (xI D ad cI) (xN ad rk ks kv) u)) (va_Qi post (Po (xI D ad cI)) (xA ad)) 0 0 (xA ad) := by
  refine g_of (A := (xA ad)) (by decide) (Nat.le_of_ble_eq_true rfl) (lv := [(0, .ref (ad 3)), (1, .int a1), (2, .int a2)]) rfl ?_
  intro p e s m below meth c ls S hr hk hI hN hS hl
  have hx := S.1
  have hb := S.2.1
  have ho := S.2.2.2.1
  have hg := @xG D ad cI rk ks kv
  have L2 : ∀ (x1_2 : Int32) (x2_2 : Int32) (K2 : Int32 → SS → Prop) (n : Nat) (x3_2 : Int32) (u1 : SS) (H : Heap) (locs : List Loc) (ls : Array Slot), xI D ad cI u1 s H → va_S (xA ad) s.heap H locs → lv_has ls 5 [(0, .ref (ad 3)), (1, .int x1_2), (2, .int x2_2), (3, .int x3_2)] → wX3_allowKind_2 post x1_2 x2_2 K2 n x3_2 u1 → (∀ (x3_2 : Int32) (u1 : SS) (H : Heap) (locs : List Loc) (ls : Array Slot), xI D ad cI u1 s H → va_S (xA ad) s.heap H locs → lv_has ls 5 [(0, .ref (ad 3)), (1, .int x1_2), (2, .int x2_2), (3, .int x3_2)] → K2 x3_2 u1 → W p l e (Rm 3) s m [.ref (ad 3), .int a1, .int a2].toArray below meth c H locs 0 0 (MQ below (va_Qi post (Po (xI D ad cI)) (xA ad)) [.ref (ad 3), .int a1, .int a2].toArray s 0 0 (xA ad)) (F0 m 66 ls [])) → W p l e (Rm 3) s m [.ref (ad 3), .int a1, .int a2].toArray below meth c H locs 0 0 (MQ below (va_Qi post (Po (xI D ad cI)) (xA ad)) [.ref (ad 3), .int a1, .int a2].toArray s 0 0 (xA ad)) (F0 m 2 ls []) := by
    intro x1_2 x2_2 K2 n
    induction n with
    | zero => intro x3_2 u1 H locs ls hI hS hl hw hK2; exact False.elim hw
    | succ n2 ih2 =>
      intro x3_2 u1 H locs ls hI hS hl hw hK2
      refine lv_iload_n hx hb dX3_allowKind_2 rfl (lv_at hl 3 rfl) ?_
      refine lv_aload_n hx hb dX3_allowKind_3 rfl (lv_at hl 0 rfl) ?_
      refine xg_X3_3_21 S hI dX3_allowKind_4 ?_
      refine lv_icmp_ge (tgt := 66) hx hb dX3_allowKind_7 (by decide) (fun hc => ?_) (fun hc => ?_)
      · have hw := hw.1 hc
        exact hK2 x3_2 u1 _ _ _ hI hS (lv_sub hl [0, 1, 2, 3] rfl) hw
      · have hw := hw.2 hc
        refine lv_aload_n hx hb dX3_allowKind_10 rfl (lv_at hl 0 rfl) ?_
        refine xg_X3_3_18 S hI dX3_allowKind_11 ?_
        refine lv_iload_n hx hb dX3_allowKind_14 rfl (lv_at hl 3 rfl) ?_
        refine x_atN (j := 5) S hI hl.1 (by decide) (nm_X3_33 hN) ⟨Nat.le_of_ble_eq_true rfl, Nat.le_of_ble_eq_true rfl⟩ (Nat.le_of_ble_eq_true rfl) dX3_allowKind_15 ?_
        refine lv_iconst (v := (1 : Int32)) hx hb dX3_allowKind_18 (by decide) ?_
        refine lv_icmp_ne (tgt := 26) hx hb dX3_allowKind_19 (by decide) (fun hc => ?_) (fun hc => ?_)
        · have hw := hw.1 hc
          refine lv_iconst (v := (0 : Int32)) hx hb dX3_allowKind_26 (by decide) ?_
          refine lv_istore (lv' := [(4, .int (0 : Int32)), (0, .ref (ad 3)), (1, .int x1_2), (2, .int x2_2), (3, .int x3_2)]) hx hb dX3_allowKind_27 hl (by decide) rfl (fun ls hl => ?_)
          refine lv_aload_n hx hb dX3_allowKind_29 rfl (lv_at hl 1 rfl) ?_
          refine xg_X3_3_9 S hI dX3_allowKind_30 ?_
          refine lv_iload_n hx hb dX3_allowKind_33 rfl (lv_at hl 4 rfl) ?_
          refine x_atN (j := 3) S hI hl.1 (by decide) (nm_X3_33 hN) ⟨Nat.le_of_ble_eq_true rfl, Nat.le_of_ble_eq_true rfl⟩ (Nat.le_of_ble_eq_true rfl) dX3_allowKind_34 ?_
          refine lv_iload_n hx hb dX3_allowKind_37 rfl (lv_at hl 2 rfl) ?_
          refine lv_icmp_ne (tgt := 60) hx hb dX3_allowKind_38 (by decide) (fun hc => ?_) (fun hc => ?_)
          · have hw := hw.1 hc
            refine lv_iinc (v := x3_2 + 1) (lv' := [(3, .int (x3_2 + 1)), (4, .int (0 : Int32)), (0, .ref (ad 3)), (1, .int x1_2), (2, .int x2_2)]) hx hb dX3_allowKind_60 hl (k := 4) rfl (congrArg (fun z => x3_2 + z) (by decide)) (by decide) rfl (fun ls hl => ?_)
            refine lv_goto (tgt := 2) hx hb dX3_allowKind_63 (by decide) ?_
            exact ih2 (x3_2 + 1) u1 _ _ _ hI hS (lv_sub hl [2, 3, 4, 0] rfl) hw hK2
          · have hw := hw.2 hc
            refine lv_iload_n hx hb dX3_allowKind_41 rfl (lv_at hl 3 rfl) ?_
            refine lv_aload_n hx hb dX3_allowKind_42 rfl (lv_at hl 1 rfl) ?_
            refine xg_X3_3_15 S hI dX3_allowKind_43 ?_
            refine lv_iload_n hx hb dX3_allowKind_46 rfl (lv_at hl 4 rfl) ?_
            refine x_atN (j := 4) S hI hl.1 (by decide) (nm_X3_33 hN) ⟨Nat.le_of_ble_eq_true rfl, Nat.le_of_ble_eq_true rfl⟩ (Nat.le_of_ble_eq_true rfl) dX3_allowKind_47 ?_
            refine g_ci hg hS (g_runSN S hg hI hN hS (As := [.int x2_2, .int (xat u1 4 x3_2)]) (rest := []) (tX4_kindHasRole l D ad cI rk ks kv  _ _ _ _ hw) cs_yX4_kindHasRole (nm_X3_37 hN) ⟨Nat.le_of_ble_eq_true rfl, Nat.le_of_ble_eq_true rfl⟩ rfl hl.1 rfl (Nat.le_of_ble_eq_true rfl) dX3_allowKind_50) (fun r2 u3 H locs hI hS hw => ?_)
            refine lv_iload hx hb dX3_allowKind_53 (lv_at hl 0 rfl) ?_
            refine lv_icmp_eq (tgt := 60) hx hb dX3_allowKind_55 (by decide) (fun hc => ?_) (fun hc => ?_)
            · have hw := hw.1 hc
              refine lv_iinc (v := x3_2 + 1) (lv' := [(3, .int (x3_2 + 1)), (4, .int (0 : Int32)), (0, .ref (ad 3)), (1, .int x1_2), (2, .int x2_2)]) hx hb dX3_allowKind_60 hl (k := 4) rfl (congrArg (fun z => x3_2 + z) (by decide)) (by decide) rfl (fun ls hl => ?_)
              refine lv_goto (tgt := 2) hx hb dX3_allowKind_63 (by decide) ?_
              exact ih2 (x3_2 + 1) u3 _ _ _ hI hS (lv_sub hl [2, 3, 4, 0] rfl) hw hK2
            · have hw := hw.2 hc
              refine lv_iconst (v := (0 : Int32)) hx hb dX3_allowKind_58 (by decide) ?_
              exact g_zret S hr rfl hk hg hI hS dX3_allowKind_59 hw
        · have hw := hw.2 hc
          refine lv_iconst (v := (1 : Int32)) hx hb dX3_allowKind_22 (by decide) ?_
          refine lv_goto (tgt := 27) hx hb dX3_allowKind_23 (by decide) ?_
          refine lv_istore (lv' := [(4, .int (1 : Int32)), (0, .ref (ad 3)), (1, .int x1_2), (2, .int x2_2), (3, .int x3_2)]) hx hb dX3_allowKind_27 hl (by decide) rfl (fun ls hl => ?_)
          refine lv_aload_n hx hb dX3_allowKind_29 rfl (lv_at hl 1 rfl) ?_
          refine xg_X3_3_9 S hI dX3_allowKind_30 ?_
          refine lv_iload_n hx hb dX3_allowKind_33 rfl (lv_at hl 4 rfl) ?_
          refine x_atN (j := 3) S hI hl.1 (by decide) (nm_X3_33 hN) ⟨Nat.le_of_ble_eq_true rfl, Nat.le_of_ble_eq_true rfl⟩ (Nat.le_of_ble_eq_true rfl) dX3_allowKind_34 ?_
          refine lv_iload_n hx hb dX3_allowKind_37 rfl (lv_at hl 2 rfl) ?_
          refine lv_icmp_ne (tgt := 60) hx hb dX3_allowKind_38 (by decide) (fun hc => ?_) (fun hc => ?_)
          · have hw := hw.1 hc
            refine lv_iinc (v := x3_2 + 1) (lv' := [(3, .int (x3_2 + 1)), (4, .int (1 : Int32)), (0, .ref (ad 3)), (1, .int x1_2), (2, .int x2_2)]) hx hb dX3_allowKind_60 hl (k := 4) rfl (congrArg (fun z => x3_2 + z) (by decide)) (by decide) rfl (fun ls hl => ?_)
            refine lv_goto (tgt := 2) hx hb dX3_allowKind_63 (by decide) ?_
            exact ih2 (x3_2 + 1) u1 _ _ _ hI hS (lv_sub hl [2, 3, 4, 0] rfl) hw hK2
          · have hw := hw.2 hc
            refine lv_iload_n hx hb dX3_allowKind_41 rfl (lv_at hl 3 rfl) ?_
            refine lv_aload_n hx hb dX3_allowKind_42 rfl (lv_at hl 1 rfl) ?_
            refine xg_X3_3_15 S hI dX3_allowKind_43 ?_
            refine lv_iload_n hx hb dX3_allowKind_46 rfl (lv_at hl 4 rfl) ?_
            refine x_atN (j := 4) S hI hl.1 (by decide) (nm_X3_33 hN) ⟨Nat.le_of_ble_eq_true rfl, Nat.le_of_ble_eq_true rfl⟩ (Nat.le_of_ble_eq_true rfl) dX3_allowKind_47 ?_
            refine g_ci hg hS (g_runSN S hg hI hN hS (As := [.int x2_2, .int (xat u1 4 x3_2)]) (rest := []) (tX4_kindHasRole l D ad cI rk ks kv  _ _ _ _ hw) cs_yX4_kindHasRole (nm_X3_37 hN) ⟨Nat.le_of_ble_eq_true rfl, Nat.le_of_ble_eq_true rfl⟩ rfl hl.1 rfl (Nat.le_of_ble_eq_true rfl) dX3_allowKind_50) (fun r4 u5 H locs hI hS hw => ?_)
            refine lv_iload hx hb dX3_allowKind_53 (lv_at hl 0 rfl) ?_
            refine lv_icmp_eq (tgt := 60) hx hb dX3_allowKind_55 (by decide) (fun hc => ?_) (fun hc => ?_)
            · have hw := hw.1 hc
              refine lv_iinc (v := x3_2 + 1) (lv' := [(3, .int (x3_2 + 1)), (4, .int (1 : Int32)), (0, .ref (ad 3)), (1, .int x1_2), (2, .int x2_2)]) hx hb dX3_allowKind_60 hl (k := 4) rfl (congrArg (fun z => x3_2 + z) (by decide)) (by decide) rfl (fun ls hl => ?_)
              refine lv_goto (tgt := 2) hx hb dX3_allowKind_63 (by decide) ?_
              exact ih2 (x3_2 + 1) u5 _ _ _ hI hS (lv_sub hl [2, 3, 4, 0] rfl) hw hK2
            · have hw := hw.2 hc
              refine lv_iconst (v := (0 : Int32)) hx hb dX3_allowKind_58 (by decide) ?_
              exact g_zret S hr rfl hk hg hI hS dX3_allowKind_59 hw
  refine lv_iconst (v := (0 : Int32)) hx hb dX3_allowKind_0 (by decide) ?_
  refine lv_istore_n (lv' := [(3, .int (0 : Int32)), (0, .ref (ad 3)), (1, .int a1), (2, .int a2)]) hx hb dX3_allowKind_1 rfl hl (by decide) rfl (fun ls hl => ?_)
  obtain ⟨n, hw⟩ := hw
  refine L2 a1 a2 _ n (0 : Int32) u _ _ _ hI hS (lv_sub hl [1, 2, 3, 0] rfl) hw (fun x3_6 u7 H locs ls hI hS hl hw => ?_)
  refine lv_iconst (v := (1 : Int32)) hx hb dX3_allowKind_66 (by decide) ?_
  exact g_zret S hr rfl hk hg hI hS dX3_allowKind_67 hw
set_option maxRecDepth 100000 in
set_option maxHeartbeats 4000000 in
theorem tX3_sorts (l : Launch) (D : va_G) (ad : Nat → Nat) (cI : ClassId) (rk ks kv : Nat)  (a1 : Int32) (u : SS) (post : Int32 → SS → Prop) (hw : wX3_sorts  a1 u post) : Met l yX3_sorts (Cond.code yX3_sorts cX3_sorts 4 (some .int) :: XT) (Rm 4) (va_Pc [.ref (ad 3), .int a1] (Pr (xI D ad cI) (xN ad rk ks kv) u)) (va_Qi post (Po (xI D ad cI)) (xA ad)) 0 0 (xA ad) := by
  refine g_of (A := (xA ad)) (by decide) (Nat.le_of_ble_eq_true rfl) (lv := [(0, .ref (ad 3)), (1, .int a1)]) rfl ?_
  intro p e s m below meth c ls S hr hk hI hN hS hl
  have hx := S.1
  have hb := S.2.1
  have ho := S.2.2.2.1
  have hg := @xG D ad cI rk ks kv
  have L4 : ∀ (x1_4 : Int32) (K4 : Int32 → Int32 → SS → Prop) (n : Nat) (x2_4 : Int32) (x3_4 : Int32) (u1 : SS) (H : Heap) (locs : List Loc) (ls : Array Slot), xI D ad cI u1 s H → va_S (xA ad) s.heap H locs → lv_has ls 4 [(0, .ref (ad 3)), (1, .int x1_4), (2, .int x2_4), (3, .int x3_4)] → wX3_sorts_4 post x1_4 K4 n x2_4 x3_4 u1 → (∀ (x2_4 : Int32) (x3_4 : Int32) (u1 : SS) (H : Heap) (locs : List Loc) (ls : Array Slot), xI D ad cI u1 s H → va_S (xA ad) s.heap H locs → lv_has ls 4 [(0, .ref (ad 3)), (1, .int x1_4), (2, .int x2_4), (3, .int x3_4)] → K4 x2_4 x3_4 u1 → W p l e (Rm 4) s m [.ref (ad 3), .int a1].toArray below meth c H locs 0 0 (MQ below (va_Qi post (Po (xI D ad cI)) (xA ad)) [.ref (ad 3), .int a1].toArray s 0 0 (xA ad)) (F0 m 34 ls [])) → W p l e (Rm 4) s m [.ref (ad 3), .int a1].toArray below meth c H locs 0 0 (MQ below (va_Qi post (Po (xI D ad cI)) (xA ad)) [.ref (ad 3), .int a1].toArray s 0 0 (xA ad)) (F0 m 4 ls []) := by
    intro x1_4 K4 n
    induction n with
    | zero => intro x2_4 x3_4 u1 H locs ls hI hS hl hw hK4; exact False.elim hw
    | succ n4 ih4 =>
      intro x2_4 x3_4 u1 H locs ls hI hS hl hw hK4
      refine lv_iload_n hx hb dX3_sorts_4 rfl (lv_at hl 3 rfl) ?_
      refine lv_iconst (v := (5 : Int32)) hx hb dX3_sorts_5 (by decide) ?_
      refine lv_icmp_ge (tgt := 34) hx hb dX3_sorts_6 (by decide) (fun hc => ?_) (fun hc => ?_)
      · have hw := hw.1 hc
        exact hK4 x2_4 x3_4 u1 _ _ _ hI hS (lv_sub hl [0, 1, 2, 3] rfl) hw
      · have hw := hw.2 hc
        refine lv_iload_n hx hb dX3_sorts_9 rfl (lv_at hl 2 rfl) ?_
        refine lv_aload_n hx hb dX3_sorts_10 rfl (lv_at hl 0 rfl) ?_
        refine lv_iload_n hx hb dX3_sorts_11 rfl (lv_at hl 1 rfl) ?_
        refine lv_iload_n hx hb dX3_sorts_12 rfl (lv_at hl 3 rfl) ?_
        refine g_ci hg hS (g_runV S hg hI hN hS (As := [.int x1_4, .int x3_4]) (rest := [.int x2_4]) (tX3_allowKind l D ad cI rk ks kv  _ _ _ _ hw) cv_yX3_allowKind qm_X3_41 (va_recv hI.2.1 hI.1 (ci := 3) (q0 := 3) rfl rfl) ⟨Nat.le_of_ble_eq_true rfl, Nat.le_of_ble_eq_true rfl⟩ rfl hl.1 rfl (Nat.le_of_ble_eq_true rfl) dX3_sorts_13) (fun r2 u3 H locs hI hS hw => ?_)
        refine lv_if_eq (tgt := 25) hx hb dX3_sorts_16 (by decide) (fun hc => ?_) (fun hc => ?_)
        · have hw := hw.1 hc
          refine lv_iconst (v := (0 : Int32)) hx hb dX3_sorts_25 (by decide) ?_
          refine lv_ior hx hb dX3_sorts_26 ?_
          refine lv_istore_n (lv' := [(2, .int (x2_4 ||| (0 : Int32))), (0, .ref (ad 3)), (1, .int x1_4), (3, .int x3_4)]) hx hb dX3_sorts_27 rfl hl (by decide) rfl (fun ls hl => ?_)
          refine lv_iinc (v := x3_4 + 1) (lv' := [(3, .int (x3_4 + 1)), (2, .int (x2_4 ||| (0 : Int32))), (0, .ref (ad 3)), (1, .int x1_4)]) hx hb dX3_sorts_28 hl (k := 3) rfl (congrArg (fun z => x3_4 + z) (by decide)) (by decide) rfl (fun ls hl => ?_)
          refine lv_goto (tgt := 4) hx hb dX3_sorts_31 (by decide) ?_
          exact ih4 (x2_4 ||| (0 : Int32)) (x3_4 + 1) u3 _ _ _ hI hS (lv_sub hl [2, 3, 1, 0] rfl) hw hK4
        · have hw := hw.2 hc
          refine lv_iconst (v := (1 : Int32)) hx hb dX3_sorts_19 (by decide) ?_
          refine lv_iload_n hx hb dX3_sorts_20 rfl (lv_at hl 3 rfl) ?_
          refine lv_ishl hx hb dX3_sorts_21 ?_
          refine lv_goto (tgt := 26) hx hb dX3_sorts_22 (by decide) ?_
          refine lv_ior hx hb dX3_sorts_26 ?_
          refine lv_istore_n (lv' := [(2, .int (x2_4 ||| ((1 : Int32) <<< (x3_4 &&& 31)))), (0, .ref (ad 3)), (1, .int x1_4), (3, .int x3_4)]) hx hb dX3_sorts_27 rfl hl (by decide) rfl (fun ls hl => ?_)
          refine lv_iinc (v := x3_4 + 1) (lv' := [(3, .int (x3_4 + 1)), (2, .int (x2_4 ||| ((1 : Int32) <<< (x3_4 &&& 31)))), (0, .ref (ad 3)), (1, .int x1_4)]) hx hb dX3_sorts_28 hl (k := 3) rfl (congrArg (fun z => x3_4 + z) (by decide)) (by decide) rfl (fun ls hl => ?_)
          refine lv_goto (tgt := 4) hx hb dX3_sorts_31 (by decide) ?_
          exact ih4 (x2_4 ||| ((1 : Int32) <<< (x3_4 &&& 31))) (x3_4 + 1) u3 _ _ _ hI hS (lv_sub hl [2, 3, 1, 0] rfl) hw hK4
  refine lv_iconst (v := (0 : Int32)) hx hb dX3_sorts_0 (by decide) ?_
  refine lv_istore_n (lv' := [(2, .int (0 : Int32)), (0, .ref (ad 3)), (1, .int a1)]) hx hb dX3_sorts_1 rfl hl (by decide) rfl (fun ls hl => ?_)
  refine lv_iconst (v := (0 : Int32)) hx hb dX3_sorts_2 (by decide) ?_
  refine lv_istore_n (lv' := [(3, .int (0 : Int32)), (2, .int (0 : Int32)), (0, .ref (ad 3)), (1, .int a1)]) hx hb dX3_sorts_3 rfl hl (by decide) rfl (fun ls hl => ?_)
  obtain ⟨n, hw⟩ := hw
  refine L4 a1 _ n (0 : Int32) (0 : Int32) u _ _ _ hI hS (lv_sub hl [2, 3, 1, 0] rfl) hw (fun x2_4 x3_5 u6 H locs ls hI hS hl hw => ?_)
  refine lv_iload_n hx hb dX3_sorts_34 rfl (lv_at hl 2 rfl) ?_
  exact g_iret S hr hk hg hI hS dX3_sorts_35 hw
set_option maxRecDepth 100000 in
set_option maxHeartbeats 4000000 in
theorem tX3_leftAtWorst (l : Launch) (D : va_G) (ad : Nat → Nat) (cI : ClassId) (rk ks kv : Nat)  (a1 : Int32) (a2 : Int32) (u : SS) (post : Int32 → SS → Prop) (hw : wX3_leftAtWorst  a1 a2 u post) : Met l yX3_leftAtWorst (Cond.code yX3_leftAtWorst cX3_leftAtWorst 7 (some .int) :: XT) (Rm 3) (va_Pc [.ref (ad 3), .int a1, .int a2] (Pr (xI D ad cI) (xN ad rk ks kv) u)) (va_Qi post (Po (xI D ad cI)) (xA ad)) 0 0 (xA ad) := by
  refine g_of (A := (xA ad)) (by decide) (Nat.le_of_ble_eq_true rfl) (lv := [(0, .ref (ad 3)), (1, .int a1), (2, .int a2)]) rfl ?_
  intro p e s m below meth c ls S hr hk hI hN hS hl
  have hx := S.1
  have hb := S.2.1
  have ho := S.2.2.2.1
  have hg := @xG D ad cI rk ks kv
  have L8 : ∀ (x1_8 : Int32) (x2_8 : Int32) (K8 : Int32 → Int32 → Int32 → SS → Prop) (n : Nat) (x3_8 : Int32) (x4_8 : Int32) (x5_8 : Int32) (u1 : SS) (H : Heap) (locs : List Loc) (ls : Array Slot), xI D ad cI u1 s H → va_S (xA ad) s.heap H locs → lv_has ls 7 [(0, .ref (ad 3)), (1, .int x1_8), (2, .int x2_8), (3, .int x3_8), (4, .int x4_8), (5, .int x5_8)] → wX3_leftAtWorst_8 post x1_8 x2_8 K8 n x3_8 x4_8 x5_8 u1 → (∀ (x3_8 : Int32) (x4_8 : Int32) (x5_8 : Int32) (u1 : SS) (H : Heap) (locs : List Loc) (ls : Array Slot), xI D ad cI u1 s H → va_S (xA ad) s.heap H locs → lv_has ls 7 [(0, .ref (ad 3)), (1, .int x1_8), (2, .int x2_8), (3, .int x3_8), (4, .int x4_8), (5, .int x5_8)] → K8 x3_8 x4_8 x5_8 u1 → W p l e (Rm 3) s m [.ref (ad 3), .int a1, .int a2].toArray below meth c H locs 0 0 (MQ below (va_Qi post (Po (xI D ad cI)) (xA ad)) [.ref (ad 3), .int a1, .int a2].toArray s 0 0 (xA ad)) (F0 m 52 ls [])) → W p l e (Rm 3) s m [.ref (ad 3), .int a1, .int a2].toArray below meth c H locs 0 0 (MQ below (va_Qi post (Po (xI D ad cI)) (xA ad)) [.ref (ad 3), .int a1, .int a2].toArray s 0 0 (xA ad)) (F0 m 8 ls []) := by
    intro x1_8 x2_8 K8 n
    induction n with
    | zero => intro x3_8 x4_8 x5_8 u1 H locs ls hI hS hl hw hK8; exact False.elim hw
    | succ n8 ih8 =>
      intro x3_8 x4_8 x5_8 u1 H locs ls hI hS hl hw hK8
      refine lv_iload hx hb dX3_leftAtWorst_8 (lv_at hl 5 rfl) ?_
      refine lv_iconst (v := (5 : Int32)) hx hb dX3_leftAtWorst_10 (by decide) ?_
      refine lv_icmp_ge (tgt := 52) hx hb dX3_leftAtWorst_11 (by decide) (fun hc => ?_) (fun hc => ?_)
      · have hw := hw.1 hc
        exact hK8 x3_8 x4_8 x5_8 u1 _ _ _ hI hS (lv_sub hl [0, 1, 2, 3, 4, 5] rfl) hw
      · have hw := hw.2 hc
        refine lv_iload_n hx hb dX3_leftAtWorst_14 rfl (lv_at hl 1 rfl) ?_
        refine lv_iload hx hb dX3_leftAtWorst_15 (lv_at hl 5 rfl) ?_
        refine lv_ishr hx hb dX3_leftAtWorst_17 ?_
        refine lv_iconst (v := (1 : Int32)) hx hb dX3_leftAtWorst_18 (by decide) ?_
        refine lv_iand hx hb dX3_leftAtWorst_19 ?_
        refine lv_istore (lv' := [(6, .int ((x1_8 >>> (x5_8 &&& 31)) &&& (1 : Int32))), (0, .ref (ad 3)), (1, .int x1_8), (2, .int x2_8), (3, .int x3_8), (4, .int x4_8), (5, .int x5_8)]) hx hb dX3_leftAtWorst_20 hl (by decide) rfl (fun ls hl => ?_)
        refine lv_iload hx hb dX3_leftAtWorst_22 (lv_at hl 6 rfl) ?_
        refine lv_iload_n hx hb dX3_leftAtWorst_24 rfl (lv_at hl 3 rfl) ?_
        refine g_ci hg hS (g_runSN S hg hI hN hS (As := [.int x5_8, .int x2_8]) (rest := []) (tX4_kindHasRole l D ad cI rk ks kv  _ _ _ _ hw) cs_yX4_kindHasRole (nm_X3_37 hN) ⟨Nat.le_of_ble_eq_true rfl, Nat.le_of_ble_eq_true rfl⟩ rfl hl.1 rfl (Nat.le_of_ble_eq_true rfl) dX3_leftAtWorst_25) (fun r2 u3 H locs hI hS hw => ?_)
        refine lv_if_eq (tgt := 39) hx hb dX3_leftAtWorst_28 (by decide) (fun hc => ?_) (fun hc => ?_)
        · have hw := hw.1 hc
          refine lv_iload hx hb dX3_leftAtWorst_39 (lv_at hl 5 rfl) ?_
          refine lv_iload hx hb dX3_leftAtWorst_41 (lv_at hl 0 rfl) ?_
          refine lv_iadd hx hb dX3_leftAtWorst_43 ?_
          refine lv_istore (lv' := [(4, .int (x4_8 + ((x1_8 >>> (x5_8 &&& 31)) &&& (1 : Int32)))), (6, .int ((x1_8 >>> (x5_8 &&& 31)) &&& (1 : Int32))), (0, .ref (ad 3)), (1, .int x1_8), (2, .int x2_8), (3, .int x3_8), (5, .int x5_8)]) hx hb dX3_leftAtWorst_44 hl (by decide) rfl (fun ls hl => ?_)
          refine lv_iinc (v := x5_8 + 1) (lv' := [(5, .int (x5_8 + 1)), (4, .int (x4_8 + ((x1_8 >>> (x5_8 &&& 31)) &&& (1 : Int32)))), (6, .int ((x1_8 >>> (x5_8 &&& 31)) &&& (1 : Int32))), (0, .ref (ad 3)), (1, .int x1_8), (2, .int x2_8), (3, .int x3_8)]) hx hb dX3_leftAtWorst_46 hl (k := 6) rfl (congrArg (fun z => x5_8 + z) (by decide)) (by decide) rfl (fun ls hl => ?_)
          refine lv_goto (tgt := 8) hx hb dX3_leftAtWorst_49 (by decide) ?_
          exact ih8 x3_8 (x4_8 + ((x1_8 >>> (x5_8 &&& 31)) &&& (1 : Int32))) (x5_8 + 1) u3 _ _ _ hI hS (lv_sub hl [3, 4, 5, 6, 1, 0] rfl) hw hK8
        · have hw := hw.2 hc
          refine lv_iload_n hx hb dX3_leftAtWorst_31 rfl (lv_at hl 4 rfl) ?_
          refine lv_iload hx hb dX3_leftAtWorst_32 (lv_at hl 0 rfl) ?_
          refine lv_iadd hx hb dX3_leftAtWorst_34 ?_
          refine lv_istore_n (lv' := [(3, .int (x3_8 + ((x1_8 >>> (x5_8 &&& 31)) &&& (1 : Int32)))), (6, .int ((x1_8 >>> (x5_8 &&& 31)) &&& (1 : Int32))), (0, .ref (ad 3)), (1, .int x1_8), (2, .int x2_8), (4, .int x4_8), (5, .int x5_8)]) hx hb dX3_leftAtWorst_35 rfl hl (by decide) rfl (fun ls hl => ?_)
          refine lv_goto (tgt := 46) hx hb dX3_leftAtWorst_36 (by decide) ?_
          refine lv_iinc (v := x5_8 + 1) (lv' := [(5, .int (x5_8 + 1)), (3, .int (x3_8 + ((x1_8 >>> (x5_8 &&& 31)) &&& (1 : Int32)))), (6, .int ((x1_8 >>> (x5_8 &&& 31)) &&& (1 : Int32))), (0, .ref (ad 3)), (1, .int x1_8), (2, .int x2_8), (4, .int x4_8)]) hx hb dX3_leftAtWorst_46 hl (k := 6) rfl (congrArg (fun z => x5_8 + z) (by decide)) (by decide) rfl (fun ls hl => ?_)
          refine lv_goto (tgt := 8) hx hb dX3_leftAtWorst_49 (by decide) ?_
          exact ih8 (x3_8 + ((x1_8 >>> (x5_8 &&& 31)) &&& (1 : Int32))) x4_8 (x5_8 + 1) u3 _ _ _ hI hS (lv_sub hl [3, 4, 5, 1, 6, 0] rfl) hw hK8
  refine lv_iconst (v := (0 : Int32)) hx hb dX3_leftAtWorst_0 (by decide) ?_
  refine lv_istore_n (lv' := [(3, .int (0 : Int32)), (0, .ref (ad 3)), (1, .int a1), (2, .int a2)]) hx hb dX3_leftAtWorst_1 rfl hl (by decide) rfl (fun ls hl => ?_)
  refine lv_iconst (v := (0 : Int32)) hx hb dX3_leftAtWorst_2 (by decide) ?_
  refine lv_istore (lv' := [(4, .int (0 : Int32)), (3, .int (0 : Int32)), (0, .ref (ad 3)), (1, .int a1), (2, .int a2)]) hx hb dX3_leftAtWorst_3 hl (by decide) rfl (fun ls hl => ?_)
  refine lv_iconst (v := (0 : Int32)) hx hb dX3_leftAtWorst_5 (by decide) ?_
  refine lv_istore (lv' := [(5, .int (0 : Int32)), (4, .int (0 : Int32)), (3, .int (0 : Int32)), (0, .ref (ad 3)), (1, .int a1), (2, .int a2)]) hx hb dX3_leftAtWorst_6 hl (by decide) rfl (fun ls hl => ?_)
  obtain ⟨n, hw⟩ := hw
  refine L8 a1 a2 _ n (0 : Int32) (0 : Int32) (0 : Int32) u _ _ _ hI hS (lv_sub hl [3, 4, 5, 2, 1, 0] rfl) hw (fun x3_4 x4_5 x5_6 u7 H locs ls hI hS hl hw => ?_)
  refine lv_iload_n hx hb dX3_leftAtWorst_52 rfl (lv_at hl 3 rfl) ?_
  refine lv_iload hx hb dX3_leftAtWorst_53 (lv_at hl 4 rfl) ?_
  refine va_mmax hx hb (S.2.2.1.trans hl.1.symm) ho (g_in S qm_X3_52) (g_in S qs_Lib_Math_max_name) (g_in S qz_java_lang_Math) (g_in S qc_Lib_Math_max_name) (Nat.le_of_ble_eq_true rfl) (Nat.le_of_ble_eq_true rfl) (Nat.zero_le _) (Nat.zero_le _) dX3_leftAtWorst_55 ?_
  exact g_iret S hr hk hg hI hS dX3_leftAtWorst_58 hw
set_option maxRecDepth 100000 in
set_option maxHeartbeats 4000000 in
theorem tX3_bestRoleToAsk (l : Launch) (D : va_G) (ad : Nat → Nat) (cI : ClassId) (rk ks kv : Nat)  (a1 : Int32) (u : SS) (post : Int32 → SS → Prop) (hw : wX3_bestRoleToAsk  a1 u post) : Met l yX3_bestRoleToAsk (Cond.code yX3_bestRoleToAsk cX3_bestRoleToAsk 7 (some .int) :: XT) (Rm 5) (va_Pc [.ref (ad 3), .int a1] (Pr (xI D ad cI) (xN ad rk ks kv) u)) (va_Qi post (Po (xI D ad cI)) (xA ad)) 0 0 (xA ad) := by
  refine g_of (A := (xA ad)) (by decide) (Nat.le_of_ble_eq_true rfl) (lv := [(0, .ref (ad 3)), (1, .int a1)]) rfl ?_
  intro p e s m below meth c ls S hr hk hI hN hS hl
  have hx := S.1
  have hb := S.2.1
  have ho := S.2.2.2.1
  have hg := @xG D ad cI rk ks kv
  have L23 : ∀ (x1_23 : Int32) (x2_23 : Int32) (K23 : Int32 → Int32 → Int32 → SS → Prop) (n : Nat) (x3_23 : Int32) (x4_23 : Int32) (x5_23 : Int32) (u3 : SS) (H : Heap) (locs : List Loc) (ls : Array Slot), xI D ad cI u3 s H → va_S (xA ad) s.heap H locs → lv_has ls 7 [(0, .ref (ad 3)), (1, .int x1_23), (2, .int x2_23), (3, .int x3_23), (4, .int x4_23), (5, .int x5_23)] → wX3_bestRoleToAsk_23 post x1_23 x2_23 K23 n x3_23 x4_23 x5_23 u3 → (∀ (x3_23 : Int32) (x4_23 : Int32) (x5_23 : Int32) (u3 : SS) (H : Heap) (locs : List Loc) (ls : Array Slot), xI D ad cI u3 s H → va_S (xA ad) s.heap H locs → lv_has ls 7 [(0, .ref (ad 3)), (1, .int x1_23), (2, .int x2_23), (3, .int x3_23), (4, .int x4_23), (5, .int x5_23)] → K23 x3_23 x4_23 x5_23 u3 → W p l e (Rm 5) s m [.ref (ad 3), .int a1].toArray below meth c H locs 0 0 (MQ below (va_Qi post (Po (xI D ad cI)) (xA ad)) [.ref (ad 3), .int a1].toArray s 0 0 (xA ad)) (F0 m 58 ls [])) → W p l e (Rm 5) s m [.ref (ad 3), .int a1].toArray below meth c H locs 0 0 (MQ below (va_Qi post (Po (xI D ad cI)) (xA ad)) [.ref (ad 3), .int a1].toArray s 0 0 (xA ad)) (F0 m 23 ls []) := by
    intro x1_23 x2_23 K23 n
    induction n with
    | zero => intro x3_23 x4_23 x5_23 u3 H locs ls hI hS hl hw hK23; exact False.elim hw
    | succ n23 ih23 =>
      intro x3_23 x4_23 x5_23 u3 H locs ls hI hS hl hw hK23
      refine lv_iload hx hb dX3_bestRoleToAsk_23 (lv_at hl 5 rfl) ?_
      refine lv_iconst (v := (3 : Int32)) hx hb dX3_bestRoleToAsk_25 (by decide) ?_
      refine lv_icmp_ge (tgt := 58) hx hb dX3_bestRoleToAsk_26 (by decide) (fun hc => ?_) (fun hc => ?_)
      · have hw := hw.1 hc
        exact hK23 x3_23 x4_23 x5_23 u3 _ _ _ hI hS (lv_sub hl [0, 1, 2, 3, 4, 5] rfl) hw
      · have hw := hw.2 hc
        refine lv_aload_n hx hb dX3_bestRoleToAsk_29 rfl (lv_at hl 0 rfl) ?_
        refine lv_iload_n hx hb dX3_bestRoleToAsk_30 rfl (lv_at hl 2 rfl) ?_
        refine lv_iload hx hb dX3_bestRoleToAsk_31 (lv_at hl 5 rfl) ?_
        refine g_ci hg hS (g_runV S hg hI hN hS (As := [.int x2_23, .int x5_23]) (rest := []) (tX3_leftAtWorst l D ad cI rk ks kv  _ _ _ _ hw) cv_yX3_leftAtWorst qm_X3_48 (va_recv hI.2.1 hI.1 (ci := 3) (q0 := 3) rfl rfl) ⟨Nat.le_of_ble_eq_true rfl, Nat.le_of_ble_eq_true rfl⟩ rfl hl.1 rfl (Nat.le_of_ble_eq_true rfl) dX3_bestRoleToAsk_33) (fun r4 u5 H locs hI hS hw => ?_)
        refine lv_istore (lv' := [(6, .int r4), (0, .ref (ad 3)), (1, .int x1_23), (2, .int x2_23), (3, .int x3_23), (4, .int x4_23), (5, .int x5_23)]) hx hb dX3_bestRoleToAsk_36 hl (by decide) rfl (fun ls hl => ?_)
        refine lv_iload hx hb dX3_bestRoleToAsk_38 (lv_at hl 0 rfl) ?_
        refine lv_iload hx hb dX3_bestRoleToAsk_40 (lv_at hl 5 rfl) ?_
        refine lv_icmp_ge (tgt := 52) hx hb dX3_bestRoleToAsk_42 (by decide) (fun hc => ?_) (fun hc => ?_)
        · have hw := hw.1 hc
          refine lv_iinc (v := x5_23 + 1) (lv' := [(5, .int (x5_23 + 1)), (6, .int r4), (0, .ref (ad 3)), (1, .int x1_23), (2, .int x2_23), (3, .int x3_23), (4, .int x4_23)]) hx hb dX3_bestRoleToAsk_52 hl (k := 6) rfl (congrArg (fun z => x5_23 + z) (by decide)) (by decide) rfl (fun ls hl => ?_)
          refine lv_goto (tgt := 23) hx hb dX3_bestRoleToAsk_55 (by decide) ?_
          exact ih23 x3_23 x4_23 (x5_23 + 1) u5 _ _ _ hI hS (lv_sub hl [2, 3, 4, 5, 6, 0] rfl) hw hK23
        · have hw := hw.2 hc
          refine lv_iload hx hb dX3_bestRoleToAsk_45 (lv_at hl 0 rfl) ?_
          refine lv_istore (lv' := [(4, .int r4), (6, .int r4), (0, .ref (ad 3)), (1, .int x1_23), (2, .int x2_23), (3, .int x3_23), (5, .int x5_23)]) hx hb dX3_bestRoleToAsk_47 hl (by decide) rfl (fun ls hl => ?_)
          refine lv_iload hx hb dX3_bestRoleToAsk_49 (lv_at hl 6 rfl) ?_
          refine lv_istore_n (lv' := [(3, .int x5_23), (4, .int r4), (6, .int r4), (0, .ref (ad 3)), (1, .int x1_23), (2, .int x2_23), (5, .int x5_23)]) hx hb dX3_bestRoleToAsk_51 rfl hl (by decide) rfl (fun ls hl => ?_)
          refine lv_iinc (v := x5_23 + 1) (lv' := [(5, .int (x5_23 + 1)), (3, .int x5_23), (4, .int r4), (6, .int r4), (0, .ref (ad 3)), (1, .int x1_23), (2, .int x2_23)]) hx hb dX3_bestRoleToAsk_52 hl (k := 6) rfl (congrArg (fun z => x5_23 + z) (by decide)) (by decide) rfl (fun ls hl => ?_)
          refine lv_goto (tgt := 23) hx hb dX3_bestRoleToAsk_55 (by decide) ?_
          exact ih23 x5_23 r4 (x5_23 + 1) u5 _ _ _ hI hS (lv_sub hl [4, 5, 6, 1, 2, 0] rfl) hw hK23
  refine lv_aload_n hx hb dX3_bestRoleToAsk_0 rfl (lv_at hl 0 rfl) ?_
  refine lv_iload_n hx hb dX3_bestRoleToAsk_1 rfl (lv_at hl 1 rfl) ?_
  refine g_ci hg hS (g_runV S hg hI hN hS (As := [.int a1]) (rest := []) (tX3_sorts l D ad cI rk ks kv  _ _ _ hw) cv_yX3_sorts qm_X3_44 (va_recv hI.2.1 hI.1 (ci := 3) (q0 := 3) rfl rfl) ⟨Nat.le_of_ble_eq_true rfl, Nat.le_of_ble_eq_true rfl⟩ rfl hl.1 rfl (Nat.le_of_ble_eq_true rfl) dX3_bestRoleToAsk_2) (fun r1 u2 H locs hI hS hw => ?_)
  refine lv_istore_n (lv' := [(2, .int r1), (0, .ref (ad 3)), (1, .int a1)]) hx hb dX3_bestRoleToAsk_5 rfl hl (by decide) rfl (fun ls hl => ?_)
  refine lv_iconst (v := (-1 : Int32)) hx hb dX3_bestRoleToAsk_6 (by decide) ?_
  refine lv_istore_n (lv' := [(3, .int (-1 : Int32)), (2, .int r1), (0, .ref (ad 3)), (1, .int a1)]) hx hb dX3_bestRoleToAsk_7 rfl hl (by decide) rfl (fun ls hl => ?_)
  refine lv_iload_n hx hb dX3_bestRoleToAsk_8 rfl (lv_at hl 1 rfl) ?_
  refine lv_if_ne (tgt := 16) hx hb dX3_bestRoleToAsk_9 (by decide) (fun hc => ?_) (fun hc => ?_)
  · have hw := hw.1 hc
    refine lv_bipush (v := (6 : Int32)) hx hb dX3_bestRoleToAsk_16 (by decide) ?_
    refine lv_istore (lv' := [(4, .int (6 : Int32)), (3, .int (-1 : Int32)), (2, .int r1), (0, .ref (ad 3)), (1, .int a1)]) hx hb dX3_bestRoleToAsk_18 hl (by decide) rfl (fun ls hl => ?_)
    refine lv_iconst (v := (0 : Int32)) hx hb dX3_bestRoleToAsk_20 (by decide) ?_
    refine lv_istore (lv' := [(5, .int (0 : Int32)), (4, .int (6 : Int32)), (3, .int (-1 : Int32)), (2, .int r1), (0, .ref (ad 3)), (1, .int a1)]) hx hb dX3_bestRoleToAsk_21 hl (by decide) rfl (fun ls hl => ?_)
    obtain ⟨n, hw⟩ := hw
    refine L23 a1 r1 _ n (-1 : Int32) (6 : Int32) (0 : Int32) u2 _ _ _ hI hS (lv_sub hl [4, 5, 3, 2, 1, 0] rfl) hw (fun x3_6 x4_7 x5_8 u9 H locs ls hI hS hl hw => ?_)
    refine lv_iload_n hx hb dX3_bestRoleToAsk_58 rfl (lv_at hl 3 rfl) ?_
    exact g_iret S hr hk hg hI hS dX3_bestRoleToAsk_59 hw
  · have hw := hw.2 hc
    refine lv_iconst (v := (0 : Int32)) hx hb dX3_bestRoleToAsk_12 (by decide) ?_
    refine lv_goto (tgt := 18) hx hb dX3_bestRoleToAsk_13 (by decide) ?_
    refine lv_istore (lv' := [(4, .int (0 : Int32)), (3, .int (-1 : Int32)), (2, .int r1), (0, .ref (ad 3)), (1, .int a1)]) hx hb dX3_bestRoleToAsk_18 hl (by decide) rfl (fun ls hl => ?_)
    refine lv_iconst (v := (0 : Int32)) hx hb dX3_bestRoleToAsk_20 (by decide) ?_
    refine lv_istore (lv' := [(5, .int (0 : Int32)), (4, .int (0 : Int32)), (3, .int (-1 : Int32)), (2, .int r1), (0, .ref (ad 3)), (1, .int a1)]) hx hb dX3_bestRoleToAsk_21 hl (by decide) rfl (fun ls hl => ?_)
    obtain ⟨n, hw⟩ := hw
    refine L23 a1 r1 _ n (-1 : Int32) (0 : Int32) (0 : Int32) u2 _ _ _ hI hS (lv_sub hl [4, 5, 3, 2, 1, 0] rfl) hw (fun x3_10 x4_11 x5_12 u13 H locs ls hI hS hl hw => ?_)
    refine lv_iload_n hx hb dX3_bestRoleToAsk_58 rfl (lv_at hl 3 rfl) ?_
    exact g_iret S hr hk hg hI hS dX3_bestRoleToAsk_59 hw
set_option maxRecDepth 100000 in
set_option maxHeartbeats 4000000 in
theorem tX0_badWith (l : Launch) (D : va_G) (ad : Nat → Nat) (cI : ClassId) (rk ks kv : Nat) (pj : Nat) (hpj : pj < 13) (a2 : Int32) (u : SS) (post : Int32 → SS → Prop) (hw : wX0_badWith pj a2 u post) : Met l yX0_badWith (Cond.code yX0_badWith cX0_badWith 5 (some .int) :: XT) (Rm 4) (va_Pc [.ref (ad 2), .ref (ad (7 + pj)), .int a2] (Pr (xI D ad cI) (xN ad rk ks kv) u)) (va_Qi post (Po (xI D ad cI)) (xA ad)) 0 0 (xA ad) := by
  refine g_of (A := (xA ad)) (by decide) (Nat.le_of_ble_eq_true rfl) (lv := [(0, .ref (ad 2)), (1, .ref (ad (7 + pj))), (2, .int a2)]) rfl ?_
  intro p e s m below meth c ls S hr hk hI hN hS hl
  have hx := S.1
  have hb := S.2.1
  have ho := S.2.2.2.1
  have hg := @xG D ad cI rk ks kv
  have L10 : ∀ (x2_10 : Int32) (K10 : Int32 → Int32 → SS → Prop) (n : Nat) (x3_10 : Int32) (x4_10 : Int32) (u3 : SS) (H : Heap) (locs : List Loc) (ls : Array Slot), xI D ad cI u3 s H → va_S (xA ad) s.heap H locs → lv_has ls 5 [(0, .ref (ad 2)), (1, .ref (ad (7 + pj))), (2, .int x2_10), (3, .int x3_10), (4, .int x4_10)] → wX0_badWith_10 post pj x2_10 K10 n x3_10 x4_10 u3 → (∀ (x3_10 : Int32) (x4_10 : Int32) (u3 : SS) (H : Heap) (locs : List Loc) (ls : Array Slot), xI D ad cI u3 s H → va_S (xA ad) s.heap H locs → lv_has ls 5 [(0, .ref (ad 2)), (1, .ref (ad (7 + pj))), (2, .int x2_10), (3, .int x3_10), (4, .int x4_10)] → K10 x3_10 x4_10 u3 → W p l e (Rm 4) s m [.ref (ad 2), .ref (ad (7 + pj)), .int a2].toArray below meth c H locs 0 0 (MQ below (va_Qi post (Po (xI D ad cI)) (xA ad)) [.ref (ad 2), .ref (ad (7 + pj)), .int a2].toArray s 0 0 (xA ad)) (F0 m 46 ls [])) → W p l e (Rm 4) s m [.ref (ad 2), .ref (ad (7 + pj)), .int a2].toArray below meth c H locs 0 0 (MQ below (va_Qi post (Po (xI D ad cI)) (xA ad)) [.ref (ad 2), .ref (ad (7 + pj)), .int a2].toArray s 0 0 (xA ad)) (F0 m 10 ls []) := by
    intro x2_10 K10 n
    induction n with
    | zero => intro x3_10 x4_10 u3 H locs ls hI hS hl hw hK10; exact False.elim hw
    | succ n10 ih10 =>
      intro x3_10 x4_10 u3 H locs ls hI hS hl hw hK10
      refine lv_iload hx hb dX0_badWith_10 (lv_at hl 4 rfl) ?_
      refine lv_aload_n hx hb dX0_badWith_12 rfl (lv_at hl 0 rfl) ?_
      refine xg_X0_2_18 S hI dX0_badWith_13 ?_
      refine lv_iload_n hx hb dX0_badWith_16 rfl (lv_at hl 2 rfl) ?_
      refine lv_isub hx hb dX0_badWith_17 ?_
      refine lv_icmp_gt (tgt := 46) hx hb dX0_badWith_18 (by decide) (fun hc => ?_) (fun hc => ?_)
      · have hw := hw.1 hc
        exact hK10 x3_10 x4_10 u3 _ _ _ hI hS (lv_sub hl [0, 1, 2, 3, 4] rfl) hw
      · have hw := hw.2 hc
        refine lv_iload_n hx hb dX0_badWith_21 rfl (lv_at hl 3 rfl) ?_
        refine lv_aload_n hx hb dX0_badWith_22 rfl (lv_at hl 0 rfl) ?_
        refine lv_aload_n hx hb dX0_badWith_23 rfl (lv_at hl 1 rfl) ?_
        refine lv_iload_n hx hb dX0_badWith_24 rfl (lv_at hl 2 rfl) ?_
        refine lv_iload hx hb dX0_badWith_25 (lv_at hl 4 rfl) ?_
        refine g_ci hg hS (g_runV S hg hI hN hS (As := [.ref (ad (7 + pj)), .int x2_10, .int x4_10]) (rest := [.int x3_10]) (tX0_isBad l D ad cI rk ks kv pj hpj _ _ _ _ hw) cv_yX0_isBad qm_X0_62 (va_recv hI.2.1 hI.1 (ci := 0) (q0 := 2) rfl rfl) ⟨Nat.le_of_ble_eq_true rfl, Nat.le_of_ble_eq_true rfl⟩ rfl hl.1 rfl (Nat.le_of_ble_eq_true rfl) dX0_badWith_27) (fun r4 u5 H locs hI hS hw => ?_)
        refine lv_if_eq (tgt := 37) hx hb dX0_badWith_30 (by decide) (fun hc => ?_) (fun hc => ?_)
        · have hw := hw.1 hc
          refine lv_iconst (v := (0 : Int32)) hx hb dX0_badWith_37 (by decide) ?_
          refine lv_iadd hx hb dX0_badWith_38 ?_
          refine lv_istore_n (lv' := [(3, .int (x3_10 + (0 : Int32))), (0, .ref (ad 2)), (1, .ref (ad (7 + pj))), (2, .int x2_10), (4, .int x4_10)]) hx hb dX0_badWith_39 rfl hl (by decide) rfl (fun ls hl => ?_)
          refine lv_iinc (v := x4_10 + 1) (lv' := [(4, .int (x4_10 + 1)), (3, .int (x3_10 + (0 : Int32))), (0, .ref (ad 2)), (1, .ref (ad (7 + pj))), (2, .int x2_10)]) hx hb dX0_badWith_40 hl (k := 4) rfl (congrArg (fun z => x4_10 + z) (by decide)) (by decide) rfl (fun ls hl => ?_)
          refine lv_goto (tgt := 10) hx hb dX0_badWith_43 (by decide) ?_
          exact ih10 (x3_10 + (0 : Int32)) (x4_10 + 1) u5 _ _ _ hI hS (lv_sub hl [2, 3, 4, 1, 0] rfl) hw hK10
        · have hw := hw.2 hc
          refine lv_iconst (v := (1 : Int32)) hx hb dX0_badWith_33 (by decide) ?_
          refine lv_goto (tgt := 38) hx hb dX0_badWith_34 (by decide) ?_
          refine lv_iadd hx hb dX0_badWith_38 ?_
          refine lv_istore_n (lv' := [(3, .int (x3_10 + (1 : Int32))), (0, .ref (ad 2)), (1, .ref (ad (7 + pj))), (2, .int x2_10), (4, .int x4_10)]) hx hb dX0_badWith_39 rfl hl (by decide) rfl (fun ls hl => ?_)
          refine lv_iinc (v := x4_10 + 1) (lv' := [(4, .int (x4_10 + 1)), (3, .int (x3_10 + (1 : Int32))), (0, .ref (ad 2)), (1, .ref (ad (7 + pj))), (2, .int x2_10)]) hx hb dX0_badWith_40 hl (k := 4) rfl (congrArg (fun z => x4_10 + z) (by decide)) (by decide) rfl (fun ls hl => ?_)
          refine lv_goto (tgt := 10) hx hb dX0_badWith_43 (by decide) ?_
          exact ih10 (x3_10 + (1 : Int32)) (x4_10 + 1) u5 _ _ _ hI hS (lv_sub hl [2, 3, 4, 1, 0] rfl) hw hK10
  refine lv_aload_n hx hb dX0_badWith_0 rfl (lv_at hl 0 rfl) ?_
  refine lv_aload_n hx hb dX0_badWith_1 rfl (lv_at hl 1 rfl) ?_
  refine lv_iload_n hx hb dX0_badWith_2 rfl (lv_at hl 2 rfl) ?_
  refine g_ci hg hS (g_runV S hg hI hN hS (As := [.ref (ad (7 + pj)), .int a2]) (rest := []) (tX0_badWithSum l D ad cI rk ks kv pj hpj _ _ _ hw) cv_yX0_badWithSum qm_X0_66 (va_recv hI.2.1 hI.1 (ci := 0) (q0 := 2) rfl rfl) ⟨Nat.le_of_ble_eq_true rfl, Nat.le_of_ble_eq_true rfl⟩ rfl hl.1 rfl (Nat.le_of_ble_eq_true rfl) dX0_badWith_3) (fun r1 u2 H locs hI hS hw => ?_)
  refine lv_istore_n (lv' := [(3, .int r1), (0, .ref (ad 2)), (1, .ref (ad (7 + pj))), (2, .int a2)]) hx hb dX0_badWith_6 rfl hl (by decide) rfl (fun ls hl => ?_)
  refine lv_iconst (v := (1 : Int32)) hx hb dX0_badWith_7 (by decide) ?_
  refine lv_istore (lv' := [(4, .int (1 : Int32)), (3, .int r1), (0, .ref (ad 2)), (1, .ref (ad (7 + pj))), (2, .int a2)]) hx hb dX0_badWith_8 hl (by decide) rfl (fun ls hl => ?_)
  obtain ⟨n, hw⟩ := hw
  refine L10 a2 _ n r1 (1 : Int32) u2 _ _ _ hI hS (lv_sub hl [2, 3, 4, 1, 0] rfl) hw (fun x3_6 x4_7 u8 H locs ls hI hS hl hw => ?_)
  refine lv_iload_n hx hb dX0_badWith_46 rfl (lv_at hl 3 rfl) ?_
  exact g_iret S hr hk hg hI hS dX0_badWith_47 hw
set_option maxRecDepth 100000 in
set_option maxHeartbeats 4000000 in
theorem tX4_number (l : Launch) (D : va_G) (ad : Nat → Nat) (cI : ClassId) (rk ks kv : Nat)  (a1 : Int32) (a2 : Int32) (u : SS) (post : Int32 → SS → Prop) (hw : wX4_number  a1 a2 u post) : Met l yX4_number (Cond.code yX4_number cX4_number 3 (some .int) :: XT) (Rm 27) (va_Pc [.ref (ad 0), .int a1, .int a2] (Pr (xI D ad cI) (xN ad rk ks kv) u)) (va_Qi post (Po (xI D ad cI)) (xA ad)) 0 0 (xA ad) := by
  refine g_of (A := (xA ad)) (by decide) (Nat.le_of_ble_eq_true rfl) (lv := [(0, .ref (ad 0)), (1, .int a1), (2, .int a2)]) rfl ?_
  intro p e s m below meth c ls S hr hk hI hN hS hl
  have hx := S.1
  have hb := S.2.1
  have ho := S.2.2.2.1
  have hg := @xG D ad cI rk ks kv
  refine lv_aload_n hx hb dX4_number_0 rfl (lv_at hl 0 rfl) ?_
  refine xg_X4_0_19 S hI dX4_number_1 ?_
  refine lv_iload_n hx hb dX4_number_4 rfl (lv_at hl 1 rfl) ?_
  refine g_ci hg hS (g_runVN S hg hI hN hS (As := [.int a1]) (rest := []) (tX0_hasNumber l D ad cI rk ks kv  _ _ _ hw) cv_yX0_hasNumber (nm_X4_81 hN) (va_recv hI.2.1 hI.1 (ci := 0) (q0 := 2) rfl rfl) ⟨Nat.le_of_ble_eq_true rfl, Nat.le_of_ble_eq_true rfl⟩ rfl hl.1 rfl (Nat.le_of_ble_eq_true rfl) dX4_number_5) (fun r1 u2 H locs hI hS hw => ?_)
  refine lv_if_ne (tgt := 14) hx hb dX4_number_8 (by decide) (fun hc => ?_) (fun hc => ?_)
  · have hw := hw.1 hc
    refine lv_iload_n hx hb dX4_number_14 rfl (lv_at hl 2 rfl) ?_
    have hsw := hw
    by_cases hk0 : a2 = (0 : Int32)
    · refine lv_tableIn (tgt := 52) (off := 37) hx hb dX4_number_15 (by rw [hk0]; decide) (by rw [hk0]; decide) (by rw [hk0]; decide) (by decide) ?_
      have hw := hsw.1 hk0
      refine lv_aload_n hx hb dX4_number_52 rfl (lv_at hl 0 rfl) ?_
      refine xg_X4_0_19 S hI dX4_number_53 ?_
      refine xg_X4_2_85 S hN hI dX4_number_56 ?_
      refine lv_iload_n hx hb dX4_number_59 rfl (lv_at hl 1 rfl) ?_
      refine x_atS (j := 1) S hI hl.1 (by decide) qm_X4_89 ⟨Nat.le_of_ble_eq_true rfl, Nat.le_of_ble_eq_true rfl⟩ (Nat.le_of_ble_eq_true rfl) dX4_number_60 ?_
      exact g_iret S hr hk hg hI hS dX4_number_63 hw
    by_cases hk1 : a2 = (1 : Int32)
    · refine lv_tableIn (tgt := 64) (off := 49) hx hb dX4_number_15 (by rw [hk1]; decide) (by rw [hk1]; decide) (by rw [hk1]; decide) (by decide) ?_
      have hw := hsw.2.1 hk1
      refine lv_aload_n hx hb dX4_number_64 rfl (lv_at hl 0 rfl) ?_
      refine xg_X4_0_19 S hI dX4_number_65 ?_
      refine xg_X4_2_93 S hN hI dX4_number_68 ?_
      refine lv_iload_n hx hb dX4_number_71 rfl (lv_at hl 1 rfl) ?_
      refine x_atS (j := 2) S hI hl.1 (by decide) qm_X4_89 ⟨Nat.le_of_ble_eq_true rfl, Nat.le_of_ble_eq_true rfl⟩ (Nat.le_of_ble_eq_true rfl) dX4_number_72 ?_
      exact g_iret S hr hk hg hI hS dX4_number_75 hw
    by_cases hk2 : a2 = (2 : Int32)
    · refine lv_tableIn (tgt := 76) (off := 61) hx hb dX4_number_15 (by rw [hk2]; decide) (by rw [hk2]; decide) (by rw [hk2]; decide) (by decide) ?_
      have hw := hsw.2.2.1 hk2
      refine lv_aload_n hx hb dX4_number_76 rfl (lv_at hl 0 rfl) ?_
      refine xg_X4_0_35 S hI dX4_number_77 ?_
      refine g_cv hg hS (g_runVN S hg hI hN hS (As := []) (rest := []) (tX1_refresh l D ad cI rk ks kv   _ _ hw) cv_yX1_refresh (nm_X4_96 hN) (va_recv hI.2.1 hI.1 (ci := 1) (q0 := 4) rfl rfl) ⟨Nat.le_of_ble_eq_true rfl, Nat.le_of_ble_eq_true rfl⟩ rfl hl.1 rfl (Nat.le_of_ble_eq_true rfl) dX4_number_80) (fun u4 H locs hI hS hw => ?_)
      refine lv_aload_n hx hb dX4_number_83 rfl (lv_at hl 0 rfl) ?_
      refine xg_X4_0_35 S hI dX4_number_84 ?_
      refine lv_iload_n hx hb dX4_number_87 rfl (lv_at hl 1 rfl) ?_
      refine g_ci hg hS (g_runVN S hg hI hN hS (As := [.int a1]) (rest := []) (tX1_sureColour l D ad cI rk ks kv  _ _ _ hw) cv_yX1_sureColour (nm_X4_99 hN) (va_recv hI.2.1 hI.1 (ci := 1) (q0 := 4) rfl rfl) ⟨Nat.le_of_ble_eq_true rfl, Nat.le_of_ble_eq_true rfl⟩ rfl hl.1 rfl (Nat.le_of_ble_eq_true rfl) dX4_number_88) (fun r5 u6 H locs hI hS hw => ?_)
      exact g_iret S hr hk hg hI hS dX4_number_91 hw
    by_cases hk3 : a2 = (3 : Int32)
    · refine lv_tableIn (tgt := 92) (off := 77) hx hb dX4_number_15 (by rw [hk3]; decide) (by rw [hk3]; decide) (by rw [hk3]; decide) (by decide) ?_
      have hw := hsw.2.2.2.1 hk3
      refine lv_aload_n hx hb dX4_number_92 rfl (lv_at hl 0 rfl) ?_
      refine xg_X4_0_26 S hI dX4_number_93 ?_
      refine lv_iload_n hx hb dX4_number_96 rfl (lv_at hl 1 rfl) ?_
      refine g_ci hg hS (g_runVN S hg hI hN hS (As := [.int a1]) (rest := []) (tX3_sorts l D ad cI rk ks kv  _ _ _ hw) cv_yX3_sorts (nm_X4_103 hN) (va_recv hI.2.1 hI.1 (ci := 3) (q0 := 3) rfl rfl) ⟨Nat.le_of_ble_eq_true rfl, Nat.le_of_ble_eq_true rfl⟩ rfl hl.1 rfl (Nat.le_of_ble_eq_true rfl) dX4_number_97) (fun r7 u8 H locs hI hS hw => ?_)
      exact g_iret S hr hk hg hI hS dX4_number_100 hw
    by_cases hk4 : a2 = (4 : Int32)
    · refine lv_tableIn (tgt := 101) (off := 86) hx hb dX4_number_15 (by rw [hk4]; decide) (by rw [hk4]; decide) (by rw [hk4]; decide) (by decide) ?_
      have hw := hsw.2.2.2.2.1 hk4
      refine lv_aload_n hx hb dX4_number_101 rfl (lv_at hl 0 rfl) ?_
      refine xg_X4_0_26 S hI dX4_number_102 ?_
      refine lv_iload_n hx hb dX4_number_105 rfl (lv_at hl 1 rfl) ?_
      refine g_ci hg hS (g_runVN S hg hI hN hS (As := [.int a1]) (rest := []) (tX3_bestRoleToAsk l D ad cI rk ks kv  _ _ _ hw) cv_yX3_bestRoleToAsk (nm_X4_106 hN) (va_recv hI.2.1 hI.1 (ci := 3) (q0 := 3) rfl rfl) ⟨Nat.le_of_ble_eq_true rfl, Nat.le_of_ble_eq_true rfl⟩ rfl hl.1 rfl (Nat.le_of_ble_eq_true rfl) dX4_number_106) (fun r9 u10 H locs hI hS hw => ?_)
      exact g_iret S hr hk hg hI hS dX4_number_109 hw
    by_cases hk5 : a2 = (5 : Int32)
    · refine lv_tableIn (tgt := 110) (off := 95) hx hb dX4_number_15 (by rw [hk5]; decide) (by rw [hk5]; decide) (by rw [hk5]; decide) (by decide) ?_
      have hw := hsw.2.2.2.2.2.1 hk5
      refine lv_aload_n hx hb dX4_number_110 rfl (lv_at hl 0 rfl) ?_
      refine xg_X4_0_19 S hI dX4_number_111 ?_
      refine lv_aload_n hx hb dX4_number_114 rfl (lv_at hl 0 rfl) ?_
      refine xg_X4_0_19 S hI dX4_number_115 ?_
      refine xg_X4_2_93 S hN hI dX4_number_118 ?_
      refine lv_iload_n hx hb dX4_number_121 rfl (lv_at hl 1 rfl) ?_
      refine g_ci hg hS (g_runVN S hg hI hN hS (As := [.ref (ad 9), .int a1]) (rest := []) (tX0_badWith l D ad cI rk ks kv 2 (by decide) _ _ _ hw) cv_yX0_badWith (nm_X4_109 hN) (va_recv hI.2.1 hI.1 (ci := 0) (q0 := 2) rfl rfl) ⟨Nat.le_of_ble_eq_true rfl, Nat.le_of_ble_eq_true rfl⟩ rfl hl.1 rfl (Nat.le_of_ble_eq_true rfl) dX4_number_122) (fun r11 u12 H locs hI hS hw => ?_)
      exact g_iret S hr hk hg hI hS dX4_number_125 hw
    have hw := hsw.2.2.2.2.2.2 hk0 hk1 hk2 hk3 hk4 hk5
    have hto : (a2).toInt < 0 ∨ 5 < (a2).toInt := by
      have t0 := lv_neT (a := 0) hk0 (by decide)
      have t1 := lv_neT (a := 1) hk1 (by decide)
      have t2 := lv_neT (a := 2) hk2 (by decide)
      have t3 := lv_neT (a := 3) hk3 (by decide)
      have t4 := lv_neT (a := 4) hk4 (by decide)
      have t5 := lv_neT (a := 5) hk5 (by decide)
      omega
    refine lv_tableOut (tgt := 126) hx hb dX4_number_15 hto (by decide) ?_
    refine lv_bipush (v := (-102 : Int32)) hx hb dX4_number_126 (by decide) ?_
    exact g_iret S hr hk hg hI hS dX4_number_128 hw
  · have hw := hw.2 hc
    refine lv_bipush (v := (-101 : Int32)) hx hb dX4_number_11 (by decide) ?_
    exact g_iret S hr hk hg hI hS dX4_number_13 hw
set_option maxRecDepth 100000 in
set_option maxHeartbeats 4000000 in
theorem tX4_isKind (l : Launch) (D : va_G) (ad : Nat → Nat) (cI : ClassId) (rk ks kv : Nat)  (a0 : Int32) (u : SS) (post : Int32 → SS → Prop) (hw : wX4_isKind  a0 u post) : Met l yX4_isKind (Cond.code yX4_isKind cX4_isKind 1 (some .boolean) :: XT) (Rm 1) (va_Pc [.int a0] (Pr (xI D ad cI) (xN ad rk ks kv) u)) (va_Qi post (Po (xI D ad cI)) (xA ad)) 0 0 (xA ad) := by
  refine g_of (A := (xA ad)) (by decide) (Nat.le_of_ble_eq_true rfl) (lv := [(0, .int a0)]) rfl ?_
  intro p e s m below meth c ls S hr hk hI hN hS hl
  have hx := S.1
  have hb := S.2.1
  have ho := S.2.2.2.1
  have hg := @xG D ad cI rk ks kv
  refine lv_iload_n hx hb dX4_isKind_0 rfl (lv_at hl 0 rfl) ?_
  refine lv_if_lt (tgt := 13) hx hb dX4_isKind_1 (by decide) (fun hc => ?_) (fun hc => ?_)
  · have hw := hw.1 hc
    refine lv_iconst (v := (0 : Int32)) hx hb dX4_isKind_13 (by decide) ?_
    exact g_zret S hr rfl hk hg hI hS dX4_isKind_14 hw
  · have hw := hw.2 hc
    refine lv_iload_n hx hb dX4_isKind_4 rfl (lv_at hl 0 rfl) ?_
    refine lv_iconst (v := (5 : Int32)) hx hb dX4_isKind_5 (by decide) ?_
    refine lv_icmp_ge (tgt := 13) hx hb dX4_isKind_6 (by decide) (fun hc => ?_) (fun hc => ?_)
    · have hw := hw.1 hc
      refine lv_iconst (v := (0 : Int32)) hx hb dX4_isKind_13 (by decide) ?_
      exact g_zret S hr rfl hk hg hI hS dX4_isKind_14 hw
    · have hw := hw.2 hc
      refine lv_iconst (v := (1 : Int32)) hx hb dX4_isKind_9 (by decide) ?_
      refine lv_goto (tgt := 14) hx hb dX4_isKind_10 (by decide) ?_
      exact g_zret S hr rfl hk hg hI hS dX4_isKind_14 hw
set_option maxRecDepth 100000 in
set_option maxHeartbeats 4000000 in
theorem tX4_as (l : Launch) (D : va_G) (ad : Nat → Nat) (cI : ClassId) (rk ks kv : Nat)  (a1 : Int32) (a2 : Int32) (u : SS) (post : Int32 → SS → Prop) (hw : wX4_as  a1 a2 u post) : Met l yX4_as (Cond.code yX4_as cX4_as 5 (some .int) :: XT) (Rm 2) (va_Pc [.ref (ad 0), .int a1, .int a2] (Pr (xI D ad cI) (xN ad rk ks kv) u)) (va_Qi post (Po (xI D ad cI)) (xA ad)) 0 0 (xA ad) := by
  refine g_of (A := (xA ad)) (by decide) (Nat.le_of_ble_eq_true rfl) (lv := [(0, .ref (ad 0)), (1, .int a1), (2, .int a2)]) rfl ?_
  intro p e s m below meth c ls S hr hk hI hN hS hl
  have hx := S.1
  have hb := S.2.1
  have ho := S.2.2.2.1
  have hg := @xG D ad cI rk ks kv
  refine lv_aload_n hx hb dX4_as_0 rfl (lv_at hl 0 rfl) ?_
  refine xg_X4_0_19 S hI dX4_as_1 ?_
  refine lv_iload_n hx hb dX4_as_4 rfl (lv_at hl 1 rfl) ?_
  refine g_ci hg hS (g_runVN S hg hI hN hS (As := [.int a1]) (rest := []) (tX0_hasNumber l D ad cI rk ks kv  _ _ _ hw) cv_yX0_hasNumber (nm_X4_81 hN) (va_recv hI.2.1 hI.1 (ci := 0) (q0 := 2) rfl rfl) ⟨Nat.le_of_ble_eq_true rfl, Nat.le_of_ble_eq_true rfl⟩ rfl hl.1 rfl (Nat.le_of_ble_eq_true rfl) dX4_as_5) (fun r1 u2 H locs hI hS hw => ?_)
  refine lv_if_ne (tgt := 14) hx hb dX4_as_8 (by decide) (fun hc => ?_) (fun hc => ?_)
  · have hw := hw.1 hc
    refine lv_iload_n hx hb dX4_as_14 rfl (lv_at hl 2 rfl) ?_
    refine g_ci hg hS (g_runS S hg hI hN hS (As := [.int a2]) (rest := []) (tX4_isKind l D ad cI rk ks kv  _ _ _ hw) cs_yX4_isKind qm_X4_112 ⟨Nat.le_of_ble_eq_true rfl, Nat.le_of_ble_eq_true rfl⟩ rfl hl.1 rfl (Nat.le_of_ble_eq_true rfl) dX4_as_15) (fun r3 u4 H locs hI hS hw => ?_)
    refine lv_if_ne (tgt := 24) hx hb dX4_as_18 (by decide) (fun hc => ?_) (fun hc => ?_)
    · have hw := hw.1 hc
      refine lv_aload_n hx hb dX4_as_24 rfl (lv_at hl 0 rfl) ?_
      refine xg_X4_0_19 S hI dX4_as_25 ?_
      refine xg_X4_2_85 S hN hI dX4_as_28 ?_
      refine lv_iload_n hx hb dX4_as_31 rfl (lv_at hl 1 rfl) ?_
      refine x_atS (j := 1) S hI hl.1 (by decide) qm_X4_89 ⟨Nat.le_of_ble_eq_true rfl, Nat.le_of_ble_eq_true rfl⟩ (Nat.le_of_ble_eq_true rfl) dX4_as_32 ?_
      refine lv_istore_n (lv' := [(3, .int (xat u4 1 a1)), (0, .ref (ad 0)), (1, .int a1), (2, .int a2)]) hx hb dX4_as_35 rfl hl (by decide) rfl (fun ls hl => ?_)
      refine lv_iload_n hx hb dX4_as_36 rfl (lv_at hl 3 rfl) ?_
      refine lv_if_eq (tgt := 55) hx hb dX4_as_37 (by decide) (fun hc => ?_) (fun hc => ?_)
      · have hw := hw.1 hc
        refine lv_iconst (v := (1 : Int32)) hx hb dX4_as_55 (by decide) ?_
        refine lv_goto (tgt := 60) hx hb dX4_as_56 (by decide) ?_
        refine lv_istore (lv' := [(4, .int (1 : Int32)), (3, .int (xat u4 1 a1)), (0, .ref (ad 0)), (1, .int a1), (2, .int a2)]) hx hb dX4_as_60 hl (by decide) rfl (fun ls hl => ?_)
        refine lv_iload hx hb dX4_as_62 (lv_at hl 0 rfl) ?_
        refine lv_if_eq (tgt := 71) hx hb dX4_as_64 (by decide) (fun hc => ?_) (fun hc => ?_)
        · exact absurd hc (by decide)
        refine lv_iload_n hx hb dX4_as_67 rfl (lv_at hl 3 rfl) ?_
        refine lv_goto (tgt := 72) hx hb dX4_as_68 (by decide) ?_
        exact g_iret S hr hk hg hI hS dX4_as_72 hw
      · have hw := hw.2 hc
        refine lv_iload_n hx hb dX4_as_40 rfl (lv_at hl 3 rfl) ?_
        refine lv_iload_n hx hb dX4_as_41 rfl (lv_at hl 0 rfl) ?_
        refine lv_icmp_eq (tgt := 55) hx hb dX4_as_42 (by decide) (fun hc => ?_) (fun hc => ?_)
        · have hw := hw.1 hc
          refine lv_iconst (v := (1 : Int32)) hx hb dX4_as_55 (by decide) ?_
          refine lv_goto (tgt := 60) hx hb dX4_as_56 (by decide) ?_
          refine lv_istore (lv' := [(4, .int (1 : Int32)), (3, .int (xat u4 1 a1)), (0, .ref (ad 0)), (1, .int a1), (2, .int a2)]) hx hb dX4_as_60 hl (by decide) rfl (fun ls hl => ?_)
          refine lv_iload hx hb dX4_as_62 (lv_at hl 0 rfl) ?_
          refine lv_if_eq (tgt := 71) hx hb dX4_as_64 (by decide) (fun hc => ?_) (fun hc => ?_)
          · exact absurd hc (by decide)
          refine lv_iload_n hx hb dX4_as_67 rfl (lv_at hl 3 rfl) ?_
          refine lv_goto (tgt := 72) hx hb dX4_as_68 (by decide) ?_
          exact g_iret S hr hk hg hI hS dX4_as_72 hw
        · have hw := hw.2 hc
          refine lv_iload_n hx hb dX4_as_45 rfl (lv_at hl 3 rfl) ?_
          refine lv_iconst (v := (3 : Int32)) hx hb dX4_as_46 (by decide) ?_
          refine lv_icmp_ne (tgt := 59) hx hb dX4_as_47 (by decide) (fun hc => ?_) (fun hc => ?_)
          · have hw := hw.1 hc
            refine lv_iconst (v := (0 : Int32)) hx hb dX4_as_59 (by decide) ?_
            refine lv_istore (lv' := [(4, .int (0 : Int32)), (3, .int (xat u4 1 a1)), (0, .ref (ad 0)), (1, .int a1), (2, .int a2)]) hx hb dX4_as_60 hl (by decide) rfl (fun ls hl => ?_)
            refine lv_iload hx hb dX4_as_62 (lv_at hl 0 rfl) ?_
            refine lv_if_eq (tgt := 71) hx hb dX4_as_64 (by decide) (fun hc => ?_) (fun hc => ?_)
            rotate_left
            · exact absurd (by decide) hc
            refine lv_iconst (v := (-1 : Int32)) hx hb dX4_as_71 (by decide) ?_
            exact g_iret S hr hk hg hI hS dX4_as_72 hw
          · have hw := hw.2 hc
            refine lv_iload_n hx hb dX4_as_50 rfl (lv_at hl 0 rfl) ?_
            refine lv_iconst (v := (4 : Int32)) hx hb dX4_as_51 (by decide) ?_
            refine lv_icmp_ne (tgt := 59) hx hb dX4_as_52 (by decide) (fun hc => ?_) (fun hc => ?_)
            · have hw := hw.1 hc
              refine lv_iconst (v := (0 : Int32)) hx hb dX4_as_59 (by decide) ?_
              refine lv_istore (lv' := [(4, .int (0 : Int32)), (3, .int (xat u4 1 a1)), (0, .ref (ad 0)), (1, .int a1), (2, .int a2)]) hx hb dX4_as_60 hl (by decide) rfl (fun ls hl => ?_)
              refine lv_iload hx hb dX4_as_62 (lv_at hl 0 rfl) ?_
              refine lv_if_eq (tgt := 71) hx hb dX4_as_64 (by decide) (fun hc => ?_) (fun hc => ?_)
              rotate_left
              · exact absurd (by decide) hc
              refine lv_iconst (v := (-1 : Int32)) hx hb dX4_as_71 (by decide) ?_
              exact g_iret S hr hk hg hI hS dX4_as_72 hw
            · have hw := hw.2 hc
              refine lv_iconst (v := (1 : Int32)) hx hb dX4_as_55 (by decide) ?_
              refine lv_goto (tgt := 60) hx hb dX4_as_56 (by decide) ?_
              refine lv_istore (lv' := [(4, .int (1 : Int32)), (3, .int (xat u4 1 a1)), (0, .ref (ad 0)), (1, .int a1), (2, .int a2)]) hx hb dX4_as_60 hl (by decide) rfl (fun ls hl => ?_)
              refine lv_iload hx hb dX4_as_62 (lv_at hl 0 rfl) ?_
              refine lv_if_eq (tgt := 71) hx hb dX4_as_64 (by decide) (fun hc => ?_) (fun hc => ?_)
              · exact absurd hc (by decide)
              refine lv_iload_n hx hb dX4_as_67 rfl (lv_at hl 3 rfl) ?_
              refine lv_goto (tgt := 72) hx hb dX4_as_68 (by decide) ?_
              exact g_iret S hr hk hg hI hS dX4_as_72 hw
    · have hw := hw.2 hc
      refine lv_bipush (v := (-102 : Int32)) hx hb dX4_as_21 (by decide) ?_
      exact g_iret S hr hk hg hI hS dX4_as_23 hw
  · have hw := hw.2 hc
    refine lv_bipush (v := (-101 : Int32)) hx hb dX4_as_11 (by decide) ?_
    exact g_iret S hr hk hg hI hS dX4_as_13 hw
