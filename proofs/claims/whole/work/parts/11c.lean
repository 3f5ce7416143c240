set_option maxRecDepth 100000 in
set_option maxHeartbeats 4000000 in
theorem tX1_goToWayFrom (l : Launch) (D : va_G) (ad : Nat → Nat) (cI : ClassId) (rk ks kv : Nat) : ∀ (d : Nat) (a1 : Int32) (u : SS) (post : Int32 → SS → Prop), wX1_goToWayFrom d a1 u post → Met l yX1_goToWayFrom (Cond.code yX1_goToWayFrom cX1_goToWayFrom 3 (some .boolean) :: XT) (Rm (5 + d)) (va_Pc [.ref (ad 4), .int a1] (Pr (xI D ad cI) (xN ad rk ks kv) u)) (va_Qi post (Po (xI D ad cI)) (xA ad)) 0 0 (xA ad) := by
  intro d
  induction d with
  | zero => intro a1 u post hw; exact False.elim hw
  | succ d ih =>
    intro a1 u post hw
    refine g_of (A := (xA ad)) (by decide) (Nat.le_of_ble_eq_true rfl) (lv := [(0, .ref (ad 4)), (1, .int a1)]) rfl ?_
    intro p e s m below meth c ls S hr hk hI hN hS hl
    have hx := S.1
    have hb := S.2.1
    have ho := S.2.2.2.1
    have hg := @xG D ad cI rk ks kv
    have L36 : ∀ (x1_36 : Int32) (K36 : Int32 → SS → Prop) (n : Nat) (x2_36 : Int32) (u1 : SS) (H : Heap) (locs : List Loc) (ls : Array Slot), xI D ad cI u1 s H → va_S (xA ad) s.heap H locs → lv_has ls 3 [(0, .ref (ad 4)), (1, .int x1_36), (2, .int x2_36)] → wX1_goToWayFrom_36 post (wX1_goToWayFrom d) x1_36 K36 n x2_36 u1 → (∀ (x2_36 : Int32) (u1 : SS) (H : Heap) (locs : List Loc) (ls : Array Slot), xI D ad cI u1 s H → va_S (xA ad) s.heap H locs → lv_has ls 3 [(0, .ref (ad 4)), (1, .int x1_36), (2, .int x2_36)] → K36 x2_36 u1 → W p l e (Rm (5 + (d + 1))) s m [.ref (ad 4), .int a1].toArray below meth c H locs 0 0 (MQ below (va_Qi post (Po (xI D ad cI)) (xA ad)) [.ref (ad 4), .int a1].toArray s 0 0 (xA ad)) (F0 m 83 ls [])) → W p l e (Rm (5 + (d + 1))) s m [.ref (ad 4), .int a1].toArray below meth c H locs 0 0 (MQ below (va_Qi post (Po (xI D ad cI)) (xA ad)) [.ref (ad 4), .int a1].toArray s 0 0 (xA ad)) (F0 m 36 ls []) := by
      intro x1_36 K36 n
      induction n with
      | zero => intro x2_36 u1 H locs ls hI hS hl hw hK36; exact False.elim hw
      | succ n36 ih36 =>
        intro x2_36 u1 H locs ls hI hS hl hw hK36
        refine lv_iload_n hx hb dX1_goToWayFrom_36 rfl (lv_at hl 2 rfl) ?_
        refine lv_aload_n hx hb dX1_goToWayFrom_37 rfl (lv_at hl 0 rfl) ?_
        refine xg_X1_4_35 S hI dX1_goToWayFrom_38 ?_
        refine xg_X1_2_62 S hN hI dX1_goToWayFrom_41 ?_
        refine lv_icmp_ge (tgt := 83) hx hb dX1_goToWayFrom_44 (by decide) (fun hc => ?_) (fun hc => ?_)
        · have hw := hw.1 hc
          exact hK36 x2_36 u1 _ _ _ hI hS (lv_sub hl [0, 1, 2] rfl) hw
        · have hw := hw.2 hc
          refine lv_aload_n hx hb dX1_goToWayFrom_47 rfl (lv_at hl 0 rfl) ?_
          refine lv_iload_n hx hb dX1_goToWayFrom_48 rfl (lv_at hl 1 rfl) ?_
          refine lv_iload_n hx hb dX1_goToWayFrom_49 rfl (lv_at hl 2 rfl) ?_
          refine g_ci hg hS (g_runV S hg hI hN hS (As := [.int x1_36, .int x2_36]) (rest := []) (tX1_mayHave l D ad cI rk ks kv  _ _ _ _ hw) cv_yX1_mayHave qm_X1_65 (va_recv hI.2.1 hI.1 (ci := 1) (q0 := 4) rfl rfl) ⟨by show _ ≤ 5 + (d + 1); omega, by show _ ≤ 40 * (5 + (d + 1)); omega⟩ rfl hl.1 rfl (Nat.le_of_ble_eq_true rfl) dX1_goToWayFrom_50) (fun r2 u3 H locs hI hS hw => ?_)
          refine lv_if_eq (tgt := 77) hx hb dX1_goToWayFrom_53 (by decide) (fun hc => ?_) (fun hc => ?_)
          · have hw := hw.1 hc
            refine lv_iinc (v := x2_36 + 1) (lv' := [(2, .int (x2_36 + 1)), (0, .ref (ad 4)), (1, .int x1_36)]) hx hb dX1_goToWayFrom_77 hl (k := 2) rfl (congrArg (fun z => x2_36 + z) (by decide)) (by decide) rfl (fun ls hl => ?_)
            refine lv_goto (tgt := 36) hx hb dX1_goToWayFrom_80 (by decide) ?_
            exact ih36 (x2_36 + 1) u3 _ _ _ hI hS (lv_sub hl [1, 2, 0] rfl) hw hK36
          · have hw := hw.2 hc
            refine lv_aload_n hx hb dX1_goToWayFrom_56 rfl (lv_at hl 0 rfl) ?_
            refine lv_iload_n hx hb dX1_goToWayFrom_57 rfl (lv_at hl 1 rfl) ?_
            refine lv_iload_n hx hb dX1_goToWayFrom_58 rfl (lv_at hl 2 rfl) ?_
            refine g_ci hg hS (g_runV S hg hI hN hS (As := [.int x1_36, .int x2_36]) (rest := []) (tX1_tryColour l D ad cI rk ks kv  _ _ _ _ hw) cv_yX1_tryColour qm_X1_69 (va_recv hI.2.1 hI.1 (ci := 1) (q0 := 4) rfl rfl) ⟨by show _ ≤ 5 + (d + 1); omega, by show _ ≤ 40 * (5 + (d + 1)); omega⟩ rfl hl.1 rfl (Nat.le_of_ble_eq_true rfl) dX1_goToWayFrom_59) (fun r4 u5 H locs hI hS hw => ?_)
            refine lv_if_eq (tgt := 77) hx hb dX1_goToWayFrom_62 (by decide) (fun hc => ?_) (fun hc => ?_)
            · have hw := hw.1 hc
              refine lv_iinc (v := x2_36 + 1) (lv' := [(2, .int (x2_36 + 1)), (0, .ref (ad 4)), (1, .int x1_36)]) hx hb dX1_goToWayFrom_77 hl (k := 2) rfl (congrArg (fun z => x2_36 + z) (by decide)) (by decide) rfl (fun ls hl => ?_)
              refine lv_goto (tgt := 36) hx hb dX1_goToWayFrom_80 (by decide) ?_
              exact ih36 (x2_36 + 1) u5 _ _ _ hI hS (lv_sub hl [1, 2, 0] rfl) hw hK36
            · have hw := hw.2 hc
              refine lv_aload_n hx hb dX1_goToWayFrom_65 rfl (lv_at hl 0 rfl) ?_
              refine lv_iload_n hx hb dX1_goToWayFrom_66 rfl (lv_at hl 1 rfl) ?_
              refine lv_iconst (v := (1 : Int32)) hx hb dX1_goToWayFrom_67 (by decide) ?_
              refine lv_iadd hx hb dX1_goToWayFrom_68 ?_
              refine g_ci hg hS (g_runV S hg hI hN hS (As := [.int (x1_36 + (1 : Int32))]) (rest := []) (ih _ _ _ hw) cv_yX1_goToWayFrom qm_X1_88 (va_recv hI.2.1 hI.1 (ci := 1) (q0 := 4) rfl rfl) ⟨by show 5 + d + 1 ≤ 5 + (d + 1); omega, by show 8 + (3 + 11) + 40 * (5 + d) ≤ 40 * (5 + (d + 1)); omega⟩ rfl hl.1 rfl (Nat.le_of_ble_eq_true rfl) dX1_goToWayFrom_69) (fun r6 u7 H locs hI hS hw => ?_)
              refine lv_if_eq (tgt := 77) hx hb dX1_goToWayFrom_72 (by decide) (fun hc => ?_) (fun hc => ?_)
              · have hw := hw.1 hc
                refine lv_iinc (v := x2_36 + 1) (lv' := [(2, .int (x2_36 + 1)), (0, .ref (ad 4)), (1, .int x1_36)]) hx hb dX1_goToWayFrom_77 hl (k := 2) rfl (congrArg (fun z => x2_36 + z) (by decide)) (by decide) rfl (fun ls hl => ?_)
                refine lv_goto (tgt := 36) hx hb dX1_goToWayFrom_80 (by decide) ?_
                exact ih36 (x2_36 + 1) u7 _ _ _ hI hS (lv_sub hl [1, 2, 0] rfl) hw hK36
              · have hw := hw.2 hc
                refine lv_iconst (v := (1 : Int32)) hx hb dX1_goToWayFrom_75 (by decide) ?_
                exact g_zret S hr rfl hk hg hI hS dX1_goToWayFrom_76 hw
    refine lv_iload_n hx hb dX1_goToWayFrom_0 rfl (lv_at hl 1 rfl) ?_
    refine lv_aload_n hx hb dX1_goToWayFrom_1 rfl (lv_at hl 0 rfl) ?_
    refine xg_X1_4_35 S hI dX1_goToWayFrom_2 ?_
    refine xg_X1_2_59 S hN hI dX1_goToWayFrom_5 ?_
    refine lv_icmp_le (tgt := 34) hx hb dX1_goToWayFrom_8 (by decide) (fun hc => ?_) (fun hc => ?_)
    · have hw := hw.1 hc
      refine lv_iconst (v := (0 : Int32)) hx hb dX1_goToWayFrom_34 (by decide) ?_
      refine lv_istore_n (lv' := [(2, .int (0 : Int32)), (0, .ref (ad 4)), (1, .int a1)]) hx hb dX1_goToWayFrom_35 rfl hl (by decide) rfl (fun ls hl => ?_)
      obtain ⟨n, hw⟩ := hw
      refine L36 a1 _ n (0 : Int32) u _ _ _ hI hS (lv_sub hl [1, 2, 0] rfl) hw (fun x2_8 u9 H locs ls hI hS hl hw => ?_)
      refine lv_iconst (v := (0 : Int32)) hx hb dX1_goToWayFrom_83 (by decide) ?_
      exact g_zret S hr rfl hk hg hI hS dX1_goToWayFrom_84 hw
    · have hw := hw.2 hc
      refine lv_aload_n hx hb dX1_goToWayFrom_11 rfl (lv_at hl 0 rfl) ?_
      refine lv_dup hx hb dX1_goToWayFrom_12 rfl ?_
      refine xg_X1_4_28 S hI dX1_goToWayFrom_13 ?_
      refine lv_iconst (v := (1 : Int32)) hx hb dX1_goToWayFrom_16 (by decide) ?_
      refine lv_isub hx hb dX1_goToWayFrom_17 ?_
      refine xp_X1_4_28 S hI hS dX1_goToWayFrom_18 (fun H locs hI hS => ?_)
      refine lv_aload_n hx hb dX1_goToWayFrom_21 rfl (lv_at hl 0 rfl) ?_
      refine xg_X1_4_28 S hI dX1_goToWayFrom_22 ?_
      refine lv_if_ge (tgt := 32) hx hb dX1_goToWayFrom_25 (by decide) (fun hc => ?_) (fun hc => ?_)
      · have hw := hw.1 hc
        refine lv_iconst (v := (0 : Int32)) hx hb dX1_goToWayFrom_32 (by decide) ?_
        exact g_zret S hr rfl hk hg hI hS dX1_goToWayFrom_33 hw
      · have hw := hw.2 hc
        refine lv_iconst (v := (1 : Int32)) hx hb dX1_goToWayFrom_28 (by decide) ?_
        refine lv_goto (tgt := 33) hx hb dX1_goToWayFrom_29 (by decide) ?_
        exact g_zret S hr rfl hk hg hI hS dX1_goToWayFrom_33 hw
set_option maxRecDepth 100000 in
set_option maxHeartbeats 4000000 in
theorem tX1_colourInWay (l : Launch) (D : va_G) (ad : Nat → Nat) (cI : ClassId) (rk ks kv : Nat)  (a1 : Int32) (a2 : Int32) (u : SS) (post : Int32 → SS → Prop) (hw : wX1_colourInWay  a1 a2 u post) : Met l yX1_colourInWay (Cond.code yX1_colourInWay cX1_colourInWay 3 (some .int) :: XT) (Rm 26) (va_Pc [.ref (ad 4), .int a1, .int a2] (Pr (xI D ad cI) (xN ad rk ks kv) u)) (va_Qi post (Po (xI D ad cI)) (xA ad)) 0 0 (xA ad) := by
  refine g_of (A := (xA ad)) (by decide) (Nat.le_of_ble_eq_true rfl) (lv := [(0, .ref (ad 4)), (1, .int a1), (2, .int a2)]) rfl ?_
  intro p e s m below meth c ls S hr hk hI hN hS hl
  have hx := S.1
  have hb := S.2.1
  have ho := S.2.2.2.1
  have hg := @xG D ad cI rk ks kv
  refine lv_aload_n hx hb dX1_colourInWay_0 rfl (lv_at hl 0 rfl) ?_
  refine lv_iload_n hx hb dX1_colourInWay_1 rfl (lv_at hl 1 rfl) ?_
  refine xp_X1_4_28 S hI hS dX1_colourInWay_2 (fun H locs hI hS => ?_)
  refine lv_aload_n hx hb dX1_colourInWay_5 rfl (lv_at hl 0 rfl) ?_
  refine lv_iconst (v := (1 : Int32)) hx hb dX1_colourInWay_6 (by decide) ?_
  obtain ⟨d, hd, hw⟩ := hw
  refine g_ci hg hS (g_runV S hg hI hN hS (As := [.int (1 : Int32)]) (rest := []) (tX1_goToWayFrom l D ad cI rk ks kv d _ _ _ hw) cv_yX1_goToWayFrom qm_X1_88 (va_recv hI.2.1 hI.1 (ci := 1) (q0 := 4) rfl rfl) ⟨by show 5 + d + 1 ≤ 26; omega, by show 8 + (3 + 11) + 40 * (5 + d) ≤ 40 * 26; omega⟩ rfl hl.1 rfl (Nat.le_of_ble_eq_true rfl) dX1_colourInWay_7) (fun r1 u2 H locs hI hS hw => ?_)
  refine lv_if_eq (tgt := 24) hx hb dX1_colourInWay_10 (by decide) (fun hc => ?_) (fun hc => ?_)
  · have hw := hw.1 hc
    refine lv_bipush (v := (-101 : Int32)) hx hb dX1_colourInWay_24 (by decide) ?_
    exact g_iret S hr hk hg hI hS dX1_colourInWay_26 hw
  · have hw := hw.2 hc
    refine lv_aload_n hx hb dX1_colourInWay_13 rfl (lv_at hl 0 rfl) ?_
    refine xg_X1_4_9 S hI dX1_colourInWay_14 ?_
    refine lv_iload_n hx hb dX1_colourInWay_17 rfl (lv_at hl 2 rfl) ?_
    refine x_atN (j := 6) S hI hl.1 (by decide) (nm_X1_56 hN) ⟨Nat.le_of_ble_eq_true rfl, Nat.le_of_ble_eq_true rfl⟩ (Nat.le_of_ble_eq_true rfl) dX1_colourInWay_18 ?_
    refine lv_goto (tgt := 26) hx hb dX1_colourInWay_21 (by decide) ?_
    exact g_iret S hr hk hg hI hS dX1_colourInWay_26 hw
set_option maxRecDepth 100000 in
set_option maxHeartbeats 4000000 in
theorem tX4_way (l : Launch) (D : va_G) (ad : Nat → Nat) (cI : ClassId) (rk ks kv : Nat)  (a1 : Int32) (a2 : Int32) (u : SS) (post : Int32 → SS → Prop) (hw : wX4_way  a1 a2 u post) : Met l yX4_way (Cond.code yX4_way cX4_way 3 (some .int) :: XT) (Rm 27) (va_Pc [.ref (ad 0), .int a1, .int a2] (Pr (xI D ad cI) (xN ad rk ks kv) u)) (va_Qi post (Po (xI D ad cI)) (xA ad)) 0 0 (xA ad) := by
  refine g_of (A := (xA ad)) (by decide) (Nat.le_of_ble_eq_true rfl) (lv := [(0, .ref (ad 0)), (1, .int a1), (2, .int a2)]) rfl ?_
  intro p e s m below meth c ls S hr hk hI hN hS hl
  have hx := S.1
  have hb := S.2.1
  have ho := S.2.2.2.1
  have hg := @xG D ad cI rk ks kv
  refine lv_iload_n hx hb dX4_way_0 rfl (lv_at hl 1 rfl) ?_
  refine lv_if_lt (tgt := 15) hx hb dX4_way_1 (by decide) (fun hc => ?_) (fun hc => ?_)
  · have hw := hw.1 hc
    refine lv_bipush (v := (-101 : Int32)) hx hb dX4_way_15 (by decide) ?_
    exact g_iret S hr hk hg hI hS dX4_way_17 hw
  · have hw := hw.2 hc
    refine lv_aload_n hx hb dX4_way_4 rfl (lv_at hl 0 rfl) ?_
    refine xg_X4_0_19 S hI dX4_way_5 ?_
    refine lv_iload_n hx hb dX4_way_8 rfl (lv_at hl 2 rfl) ?_
    refine g_ci hg hS (g_runVN S hg hI hN hS (As := [.int a2]) (rest := []) (tX0_hasNumber l D ad cI rk ks kv  _ _ _ hw) cv_yX0_hasNumber (nm_X4_81 hN) (va_recv hI.2.1 hI.1 (ci := 0) (q0 := 2) rfl rfl) ⟨Nat.le_of_ble_eq_true rfl, Nat.le_of_ble_eq_true rfl⟩ rfl hl.1 rfl (Nat.le_of_ble_eq_true rfl) dX4_way_9) (fun r1 u2 H locs hI hS hw => ?_)
    refine lv_if_ne (tgt := 18) hx hb dX4_way_12 (by decide) (fun hc => ?_) (fun hc => ?_)
    · have hw := hw.1 hc
      refine lv_aload_n hx hb dX4_way_18 rfl (lv_at hl 0 rfl) ?_
      refine xg_X4_0_35 S hI dX4_way_19 ?_
      refine g_cv hg hS (g_runVN S hg hI hN hS (As := []) (rest := []) (tX1_refresh l D ad cI rk ks kv   _ _ hw) cv_yX1_refresh (nm_X4_96 hN) (va_recv hI.2.1 hI.1 (ci := 1) (q0 := 4) rfl rfl) ⟨Nat.le_of_ble_eq_true rfl, Nat.le_of_ble_eq_true rfl⟩ rfl hl.1 rfl (Nat.le_of_ble_eq_true rfl) dX4_way_22) (fun u4 H locs hI hS hw => ?_)
      refine lv_iload_n hx hb dX4_way_25 rfl (lv_at hl 1 rfl) ?_
      refine lv_aload_n hx hb dX4_way_26 rfl (lv_at hl 0 rfl) ?_
      refine xg_X4_0_35 S hI dX4_way_27 ?_
      refine xg_X4_4_115 S hN hI dX4_way_30 ?_
      refine lv_icmp_lt (tgt := 39) hx hb dX4_way_33 (by decide) (fun hc => ?_) (fun hc => ?_)
      · have hw := hw.1 hc
        refine lv_aload_n hx hb dX4_way_39 rfl (lv_at hl 0 rfl) ?_
        refine xg_X4_0_35 S hI dX4_way_40 ?_
        refine lv_iload_n hx hb dX4_way_43 rfl (lv_at hl 1 rfl) ?_
        refine lv_iload_n hx hb dX4_way_44 rfl (lv_at hl 2 rfl) ?_
        refine g_ci hg hS (g_runVN S hg hI hN hS (As := [.int a1, .int a2]) (rest := []) (tX1_colourInWay l D ad cI rk ks kv  _ _ _ _ hw) cv_yX1_colourInWay (nm_X4_118 hN) (va_recv hI.2.1 hI.1 (ci := 1) (q0 := 4) rfl rfl) ⟨Nat.le_of_ble_eq_true rfl, Nat.le_of_ble_eq_true rfl⟩ rfl hl.1 rfl (Nat.le_of_ble_eq_true rfl) dX4_way_45) (fun r5 u6 H locs hI hS hw => ?_)
        exact g_iret S hr hk hg hI hS dX4_way_48 hw
      · have hw := hw.2 hc
        refine lv_bipush (v := (-101 : Int32)) hx hb dX4_way_36 (by decide) ?_
        exact g_iret S hr hk hg hI hS dX4_way_38 hw
    · have hw := hw.2 hc
      refine lv_bipush (v := (-101 : Int32)) hx hb dX4_way_15 (by decide) ?_
      exact g_iret S hr hk hg hI hS dX4_way_17 hw
set_option maxRecDepth 100000 in
set_option maxHeartbeats 4000000 in
theorem tX0_hasColour (l : Launch) (D : va_G) (ad : Nat → Nat) (cI : ClassId) (rk ks kv : Nat)  (a1 : Int32) (u : SS) (post : Int32 → SS → Prop) (hw : wX0_hasColour  a1 u post) : Met l yX0_hasColour (Cond.code yX0_hasColour cX0_hasColour 2 (some .boolean) :: XT) (Rm 1) (va_Pc [.ref (ad 2), .int a1] (Pr (xI D ad cI) (xN ad rk ks kv) u)) (va_Qi post (Po (xI D ad cI)) (xA ad)) 0 0 (xA ad) := by
  refine g_of (A := (xA ad)) (by decide) (Nat.le_of_ble_eq_true rfl) (lv := [(0, .ref (ad 2)), (1, .int a1)]) rfl ?_
  intro p e s m below meth c ls S hr hk hI hN hS hl
  have hx := S.1
  have hb := S.2.1
  have ho := S.2.2.2.1
  have hg := @xG D ad cI rk ks kv
  refine lv_iload_n hx hb dX0_hasColour_0 rfl (lv_at hl 1 rfl) ?_
  refine lv_if_lt (tgt := 16) hx hb dX0_hasColour_1 (by decide) (fun hc => ?_) (fun hc => ?_)
  · have hw := hw.1 hc
    refine lv_iconst (v := (0 : Int32)) hx hb dX0_hasColour_16 (by decide) ?_
    exact g_zret S hr rfl hk hg hI hS dX0_hasColour_17 hw
  · have hw := hw.2 hc
    refine lv_iload_n hx hb dX0_hasColour_4 rfl (lv_at hl 1 rfl) ?_
    refine lv_aload_n hx hb dX0_hasColour_5 rfl (lv_at hl 0 rfl) ?_
    refine xg_X0_2_22 S hI dX0_hasColour_6 ?_
    refine lv_icmp_ge (tgt := 16) hx hb dX0_hasColour_9 (by decide) (fun hc => ?_) (fun hc => ?_)
    · have hw := hw.1 hc
      refine lv_iconst (v := (0 : Int32)) hx hb dX0_hasColour_16 (by decide) ?_
      exact g_zret S hr rfl hk hg hI hS dX0_hasColour_17 hw
    · have hw := hw.2 hc
      refine lv_iconst (v := (1 : Int32)) hx hb dX0_hasColour_12 (by decide) ?_
      refine lv_goto (tgt := 17) hx hb dX0_hasColour_13 (by decide) ?_
      exact g_zret S hr rfl hk hg hI hS dX0_hasColour_17 hw
set_option maxRecDepth 100000 in
set_option maxHeartbeats 4000000 in
theorem tX4_changeColour (l : Launch) (D : va_G) (ad : Nat → Nat) (cI : ClassId) (rk ks kv : Nat)  (a1 : Int32) (a2 : Int32) (u : SS) (post : SS → Prop) (hw : wX4_changeColour  a1 a2 u post) : Met l yX4_changeColour (Cond.code yX4_changeColour cX4_changeColour 3 none :: XT) (Rm 2) (va_Pc [.ref (ad 0), .int a1, .int a2] (Pr (xI D ad cI) (xN ad rk ks kv) u)) (va_Qv post (Po (xI D ad cI)) (xA ad)) 0 0 (xA ad) := by
  refine g_of (A := (xA ad)) (by decide) (Nat.le_of_ble_eq_true rfl) (lv := [(0, .ref (ad 0)), (1, .int a1), (2, .int a2)]) rfl ?_
  intro p e s m below meth c ls S hr hk hI hN hS hl
  have hx := S.1
  have hb := S.2.1
  have ho := S.2.2.2.1
  have hg := @xG D ad cI rk ks kv
  refine lv_aload_n hx hb dX4_changeColour_0 rfl (lv_at hl 0 rfl) ?_
  refine xg_X4_0_19 S hI dX4_changeColour_1 ?_
  refine xg_X4_2_93 S hN hI dX4_changeColour_4 ?_
  refine lv_iload_n hx hb dX4_changeColour_7 rfl (lv_at hl 1 rfl) ?_
  refine lv_iload_n hx hb dX4_changeColour_8 rfl (lv_at hl 2 rfl) ?_
  refine x_putS (j := 2) S hI hN hS hl.1 (by decide) qm_X4_136 ⟨Nat.le_of_ble_eq_true rfl, Nat.le_of_ble_eq_true rfl⟩ (Nat.le_of_ble_eq_true rfl) dX4_changeColour_9 (fun H locs hI hS => ?_)
  refine lv_aload_n hx hb dX4_changeColour_12 rfl (lv_at hl 0 rfl) ?_
  refine xg_X4_0_19 S hI dX4_changeColour_13 ?_
  refine lv_dup hx hb dX4_changeColour_16 rfl ?_
  refine xg_X4_2_125 S hN hI dX4_changeColour_17 ?_
  refine lv_iconst (v := (1 : Int32)) hx hb dX4_changeColour_20 (by decide) ?_
  refine lv_iadd hx hb dX4_changeColour_21 ?_
  refine xp_X4_2_125 S hN hI hS dX4_changeColour_22 (fun H locs hI hS => ?_)
  refine lv_aload_n hx hb dX4_changeColour_25 rfl (lv_at hl 0 rfl) ?_
  refine xg_X4_0_35 S hI dX4_changeColour_26 ?_
  refine lv_iconst (v := (1 : Int32)) hx hb dX4_changeColour_29 (by decide) ?_
  refine xp_X4_4_75 rfl rfl S hN hI hS dX4_changeColour_30 (fun H locs hI hS => ?_)
  exact g_vret S hr hk hg hI hS dX4_changeColour_33 hw
set_option maxRecDepth 100000 in
set_option maxHeartbeats 4000000 in
theorem tX0_badThrees (l : Launch) (D : va_G) (ad : Nat → Nat) (cI : ClassId) (rk ks kv : Nat) (pj : Nat) (hpj : pj < 13)  (u : SS) (post : Int32 → SS → Prop) (hw : wX0_badThrees pj  u post) : Met l yX0_badThrees (Cond.code yX0_badThrees cX0_badThrees 4 (some .int) :: XT) (Rm 4) (va_Pc [.ref (ad 2), .ref (ad (7 + pj))] (Pr (xI D ad cI) (xN ad rk ks kv) u)) (va_Qi post (Po (xI D ad cI)) (xA ad)) 0 0 (xA ad) := by
  refine g_of (A := (xA ad)) (by decide) (Nat.le_of_ble_eq_true rfl) (lv := [(0, .ref (ad 2)), (1, .ref (ad (7 + pj)))]) rfl ?_
  intro p e s m below meth c ls S hr hk hI hN hS hl
  have hx := S.1
  have hb := S.2.1
  have ho := S.2.2.2.1
  have hg := @xG D ad cI rk ks kv
  have L4 : ∀  (K4 : Int32 → Int32 → SS → Prop) (n : Nat) (x2_4 : Int32) (x3_4 : Int32) (u1 : SS) (H : Heap) (locs : List Loc) (ls : Array Slot), xI D ad cI u1 s H → va_S (xA ad) s.heap H locs → lv_has ls 4 [(0, .ref (ad 2)), (1, .ref (ad (7 + pj))), (2, .int x2_4), (3, .int x3_4)] → wX0_badThrees_4 post pj K4 n x2_4 x3_4 u1 → (∀ (x2_4 : Int32) (x3_4 : Int32) (u1 : SS) (H : Heap) (locs : List Loc) (ls : Array Slot), xI D ad cI u1 s H → va_S (xA ad) s.heap H locs → lv_has ls 4 [(0, .ref (ad 2)), (1, .ref (ad (7 + pj))), (2, .int x2_4), (3, .int x3_4)] → K4 x2_4 x3_4 u1 → W p l e (Rm 4) s m [.ref (ad 2), .ref (ad (7 + pj))].toArray below meth c H locs 0 0 (MQ below (va_Qi post (Po (xI D ad cI)) (xA ad)) [.ref (ad 2), .ref (ad (7 + pj))].toArray s 0 0 (xA ad)) (F0 m 27 ls [])) → W p l e (Rm 4) s m [.ref (ad 2), .ref (ad (7 + pj))].toArray below meth c H locs 0 0 (MQ below (va_Qi post (Po (xI D ad cI)) (xA ad)) [.ref (ad 2), .ref (ad (7 + pj))].toArray s 0 0 (xA ad)) (F0 m 4 ls []) := by
    intro K4 n
    induction n with
    | zero => intro x2_4 x3_4 u1 H locs ls hI hS hl hw hK4; exact False.elim hw
    | succ n4 ih4 =>
      intro x2_4 x3_4 u1 H locs ls hI hS hl hw hK4
      refine lv_iload_n hx hb dX0_badThrees_4 rfl (lv_at hl 3 rfl) ?_
      refine lv_aload_n hx hb dX0_badThrees_5 rfl (lv_at hl 0 rfl) ?_
      refine xg_X0_2_18 S hI dX0_badThrees_6 ?_
      refine lv_icmp_gt (tgt := 27) hx hb dX0_badThrees_9 (by decide) (fun hc => ?_) (fun hc => ?_)
      · have hw := hw.1 hc
        exact hK4 x2_4 x3_4 u1 _ _ _ hI hS (lv_sub hl [0, 1, 2, 3] rfl) hw
      · have hw := hw.2 hc
        refine lv_iload_n hx hb dX0_badThrees_12 rfl (lv_at hl 2 rfl) ?_
        refine lv_aload_n hx hb dX0_badThrees_13 rfl (lv_at hl 0 rfl) ?_
        refine lv_aload_n hx hb dX0_badThrees_14 rfl (lv_at hl 1 rfl) ?_
        refine lv_iload_n hx hb dX0_badThrees_15 rfl (lv_at hl 3 rfl) ?_
        refine g_ci hg hS (g_runV S hg hI hN hS (As := [.ref (ad (7 + pj)), .int x3_4]) (rest := [.int x2_4]) (tX0_badWithSum l D ad cI rk ks kv pj hpj _ _ _ hw) cv_yX0_badWithSum qm_X0_66 (va_recv hI.2.1 hI.1 (ci := 0) (q0 := 2) rfl rfl) ⟨Nat.le_of_ble_eq_true rfl, Nat.le_of_ble_eq_true rfl⟩ rfl hl.1 rfl (Nat.le_of_ble_eq_true rfl) dX0_badThrees_16) (fun r2 u3 H locs hI hS hw => ?_)
        refine lv_iadd hx hb dX0_badThrees_19 ?_
        refine lv_istore_n (lv' := [(2, .int (x2_4 + r2)), (0, .ref (ad 2)), (1, .ref (ad (7 + pj))), (3, .int x3_4)]) hx hb dX0_badThrees_20 rfl hl (by decide) rfl (fun ls hl => ?_)
        refine lv_iinc (v := x3_4 + 1) (lv' := [(3, .int (x3_4 + 1)), (2, .int (x2_4 + r2)), (0, .ref (ad 2)), (1, .ref (ad (7 + pj)))]) hx hb dX0_badThrees_21 hl (k := 3) rfl (congrArg (fun z => x3_4 + z) (by decide)) (by decide) rfl (fun ls hl => ?_)
        refine lv_goto (tgt := 4) hx hb dX0_badThrees_24 (by decide) ?_
        exact ih4 (x2_4 + r2) (x3_4 + 1) u3 _ _ _ hI hS (lv_sub hl [2, 3, 1, 0] rfl) hw hK4
  refine lv_iconst (v := (0 : Int32)) hx hb dX0_badThrees_0 (by decide) ?_
  refine lv_istore_n (lv' := [(2, .int (0 : Int32)), (0, .ref (ad 2)), (1, .ref (ad (7 + pj)))]) hx hb dX0_badThrees_1 rfl hl (by decide) rfl (fun ls hl => ?_)
  refine lv_iconst (v := (1 : Int32)) hx hb dX0_badThrees_2 (by decide) ?_
  refine lv_istore_n (lv' := [(3, .int (1 : Int32)), (2, .int (0 : Int32)), (0, .ref (ad 2)), (1, .ref (ad (7 + pj)))]) hx hb dX0_badThrees_3 rfl hl (by decide) rfl (fun ls hl => ?_)
  obtain ⟨n, hw⟩ := hw
  refine L4 _ n (0 : Int32) (1 : Int32) u _ _ _ hI hS (lv_sub hl [2, 3, 1, 0] rfl) hw (fun x2_4 x3_5 u6 H locs ls hI hS hl hw => ?_)
  refine lv_iload_n hx hb dX0_badThrees_27 rfl (lv_at hl 2 rfl) ?_
  exact g_iret S hr hk hg hI hS dX0_badThrees_28 hw
set_option maxRecDepth 100000 in
set_option maxHeartbeats 4000000 in
theorem tX4_paint (l : Launch) (D : va_G) (ad : Nat → Nat) (cI : ClassId) (rk ks kv : Nat)  (a1 : Int32) (a2 : Int32) (u : SS) (post : Int32 → SS → Prop) (hw : wX4_paint  a1 a2 u post) : Met l yX4_paint (Cond.code yX4_paint cX4_paint 3 (some .int) :: XT) (Rm 5) (va_Pc [.ref (ad 0), .int a1, .int a2] (Pr (xI D ad cI) (xN ad rk ks kv) u)) (va_Qi post (Po (xI D ad cI)) (xA ad)) 0 0 (xA ad) := by
  refine g_of (A := (xA ad)) (by decide) (Nat.le_of_ble_eq_true rfl) (lv := [(0, .ref (ad 0)), (1, .int a1), (2, .int a2)]) rfl ?_
  intro p e s m below meth c ls S hr hk hI hN hS hl
  have hx := S.1
  have hb := S.2.1
  have ho := S.2.2.2.1
  have hg := @xG D ad cI rk ks kv
  refine lv_aload_n hx hb dX4_paint_0 rfl (lv_at hl 0 rfl) ?_
  refine xg_X4_0_19 S hI dX4_paint_1 ?_
  refine lv_iload_n hx hb dX4_paint_4 rfl (lv_at hl 1 rfl) ?_
  refine g_ci hg hS (g_runVN S hg hI hN hS (As := [.int a1]) (rest := []) (tX0_hasNumber l D ad cI rk ks kv  _ _ _ hw) cv_yX0_hasNumber (nm_X4_81 hN) (va_recv hI.2.1 hI.1 (ci := 0) (q0 := 2) rfl rfl) ⟨Nat.le_of_ble_eq_true rfl, Nat.le_of_ble_eq_true rfl⟩ rfl hl.1 rfl (Nat.le_of_ble_eq_true rfl) dX4_paint_5) (fun r1 u2 H locs hI hS hw => ?_)
  refine lv_if_ne (tgt := 14) hx hb dX4_paint_8 (by decide) (fun hc => ?_) (fun hc => ?_)
  · have hw := hw.1 hc
    refine lv_aload_n hx hb dX4_paint_14 rfl (lv_at hl 0 rfl) ?_
    refine xg_X4_0_19 S hI dX4_paint_15 ?_
    refine lv_iload_n hx hb dX4_paint_18 rfl (lv_at hl 2 rfl) ?_
    refine g_ci hg hS (g_runVN S hg hI hN hS (As := [.int a2]) (rest := []) (tX0_hasColour l D ad cI rk ks kv  _ _ _ hw) cv_yX0_hasColour (nm_X4_122 hN) (va_recv hI.2.1 hI.1 (ci := 0) (q0 := 2) rfl rfl) ⟨Nat.le_of_ble_eq_true rfl, Nat.le_of_ble_eq_true rfl⟩ rfl hl.1 rfl (Nat.le_of_ble_eq_true rfl) dX4_paint_19) (fun r3 u4 H locs hI hS hw => ?_)
    refine lv_if_ne (tgt := 28) hx hb dX4_paint_22 (by decide) (fun hc => ?_) (fun hc => ?_)
    · have hw := hw.1 hc
      refine lv_aload_n hx hb dX4_paint_28 rfl (lv_at hl 0 rfl) ?_
      refine xg_X4_0_19 S hI dX4_paint_29 ?_
      refine xg_X4_2_125 S hN hI dX4_paint_32 ?_
      refine lv_sipush (v := (999 : Int32)) hx hb dX4_paint_35 (by decide) ?_
      refine lv_icmp_lt (tgt := 44) hx hb dX4_paint_38 (by decide) (fun hc => ?_) (fun hc => ?_)
      · have hw := hw.1 hc
        refine lv_aload_n hx hb dX4_paint_44 rfl (lv_at hl 0 rfl) ?_
        refine lv_iload_n hx hb dX4_paint_45 rfl (lv_at hl 1 rfl) ?_
        refine lv_iload_n hx hb dX4_paint_46 rfl (lv_at hl 2 rfl) ?_
        refine g_cv hg hS (g_runV S hg hI hN hS (As := [.int a1, .int a2]) (rest := []) (tX4_changeColour l D ad cI rk ks kv  _ _ _ _ hw) cv_yX4_changeColour qm_X4_128 (va_recv hI.2.1 hI.1 (ci := 4) (q0 := 0) rfl rfl) ⟨Nat.le_of_ble_eq_true rfl, Nat.le_of_ble_eq_true rfl⟩ rfl hl.1 rfl (Nat.le_of_ble_eq_true rfl) dX4_paint_47) (fun u6 H locs hI hS hw => ?_)
        refine lv_aload_n hx hb dX4_paint_50 rfl (lv_at hl 0 rfl) ?_
        refine xg_X4_0_19 S hI dX4_paint_51 ?_
        refine lv_aload_n hx hb dX4_paint_54 rfl (lv_at hl 0 rfl) ?_
        refine xg_X4_0_19 S hI dX4_paint_55 ?_
        refine xg_X4_2_93 S hN hI dX4_paint_58 ?_
        refine g_ci hg hS (g_runVN S hg hI hN hS (As := [.ref (ad 9)]) (rest := []) (tX0_badThrees l D ad cI rk ks kv 2 (by decide)  _ _ hw) cv_yX0_badThrees (nm_X4_132 hN) (va_recv hI.2.1 hI.1 (ci := 0) (q0 := 2) rfl rfl) ⟨Nat.le_of_ble_eq_true rfl, Nat.le_of_ble_eq_true rfl⟩ rfl hl.1 rfl (Nat.le_of_ble_eq_true rfl) dX4_paint_61) (fun r7 u8 H locs hI hS hw => ?_)
        exact g_iret S hr hk hg hI hS dX4_paint_64 hw
      · have hw := hw.2 hc
        refine lv_bipush (v := (-104 : Int32)) hx hb dX4_paint_41 (by decide) ?_
        exact g_iret S hr hk hg hI hS dX4_paint_43 hw
    · have hw := hw.2 hc
      refine lv_bipush (v := (-102 : Int32)) hx hb dX4_paint_25 (by decide) ?_
      exact g_iret S hr hk hg hI hS dX4_paint_27 hw
  · have hw := hw.2 hc
    refine lv_bipush (v := (-101 : Int32)) hx hb dX4_paint_11 (by decide) ?_
    exact g_iret S hr hk hg hI hS dX4_paint_13 hw
set_option maxRecDepth 100000 in
set_option maxHeartbeats 4000000 in
theorem tX4_wipe (l : Launch) (D : va_G) (ad : Nat → Nat) (cI : ClassId) (rk ks kv : Nat)  (a1 : Int32) (u : SS) (post : Int32 → SS → Prop) (hw : wX4_wipe  a1 u post) : Met l yX4_wipe (Cond.code yX4_wipe cX4_wipe 3 (some .int) :: XT) (Rm 3) (va_Pc [.ref (ad 0), .int a1] (Pr (xI D ad cI) (xN ad rk ks kv) u)) (va_Qi post (Po (xI D ad cI)) (xA ad)) 0 0 (xA ad) := by
  refine g_of (A := (xA ad)) (by decide) (Nat.le_of_ble_eq_true rfl) (lv := [(0, .ref (ad 0)), (1, .int a1)]) rfl ?_
  intro p e s m below meth c ls S hr hk hI hN hS hl
  have hx := S.1
  have hb := S.2.1
  have ho := S.2.2.2.1
  have hg := @xG D ad cI rk ks kv
  refine lv_aload_n hx hb dX4_wipe_0 rfl (lv_at hl 0 rfl) ?_
  refine xg_X4_0_19 S hI dX4_wipe_1 ?_
  refine lv_iload_n hx hb dX4_wipe_4 rfl (lv_at hl 1 rfl) ?_
  refine g_ci hg hS (g_runVN S hg hI hN hS (As := [.int a1]) (rest := []) (tX0_hasNumber l D ad cI rk ks kv  _ _ _ hw) cv_yX0_hasNumber (nm_X4_81 hN) (va_recv hI.2.1 hI.1 (ci := 0) (q0 := 2) rfl rfl) ⟨Nat.le_of_ble_eq_true rfl, Nat.le_of_ble_eq_true rfl⟩ rfl hl.1 rfl (Nat.le_of_ble_eq_true rfl) dX4_wipe_5) (fun r1 u2 H locs hI hS hw => ?_)
  refine lv_if_ne (tgt := 14) hx hb dX4_wipe_8 (by decide) (fun hc => ?_) (fun hc => ?_)
  · have hw := hw.1 hc
    refine lv_aload_n hx hb dX4_wipe_14 rfl (lv_at hl 0 rfl) ?_
    refine xg_X4_0_19 S hI dX4_wipe_15 ?_
    refine xg_X4_2_93 S hN hI dX4_wipe_18 ?_
    refine lv_iload_n hx hb dX4_wipe_21 rfl (lv_at hl 1 rfl) ?_
    refine x_atS (j := 2) S hI hl.1 (by decide) qm_X4_89 ⟨Nat.le_of_ble_eq_true rfl, Nat.le_of_ble_eq_true rfl⟩ (Nat.le_of_ble_eq_true rfl) dX4_wipe_22 ?_
    refine lv_istore_n (lv' := [(2, .int (xat u2 2 a1)), (0, .ref (ad 0)), (1, .int a1)]) hx hb dX4_wipe_25 rfl hl (by decide) rfl (fun ls hl => ?_)
    refine lv_iload_n hx hb dX4_wipe_26 rfl (lv_at hl 0 rfl) ?_
    refine lv_iconst (v := (-1 : Int32)) hx hb dX4_wipe_27 (by decide) ?_
    refine lv_icmp_ne (tgt := 34) hx hb dX4_wipe_28 (by decide) (fun hc => ?_) (fun hc => ?_)
    · have hw := hw.1 hc
      refine lv_aload_n hx hb dX4_wipe_34 rfl (lv_at hl 1 rfl) ?_
      refine xg_X4_0_19 S hI dX4_wipe_35 ?_
      refine xg_X4_2_125 S hN hI dX4_wipe_38 ?_
      refine lv_sipush (v := (999 : Int32)) hx hb dX4_wipe_41 (by decide) ?_
      refine lv_icmp_lt (tgt := 50) hx hb dX4_wipe_44 (by decide) (fun hc => ?_) (fun hc => ?_)
      · have hw := hw.1 hc
        refine lv_aload_n hx hb dX4_wipe_50 rfl (lv_at hl 1 rfl) ?_
        refine lv_iload_n hx hb dX4_wipe_51 rfl (lv_at hl 2 rfl) ?_
        refine lv_iconst (v := (-1 : Int32)) hx hb dX4_wipe_52 (by decide) ?_
        refine g_cv hg hS (g_runV S hg hI hN hS (As := [.int a1, .int (-1 : Int32)]) (rest := []) (tX4_changeColour l D ad cI rk ks kv  _ _ _ _ hw) cv_yX4_changeColour qm_X4_128 (va_recv hI.2.1 hI.1 (ci := 4) (q0 := 0) rfl rfl) ⟨Nat.le_of_ble_eq_true rfl, Nat.le_of_ble_eq_true rfl⟩ rfl hl.1 rfl (Nat.le_of_ble_eq_true rfl) dX4_wipe_53) (fun u4 H locs hI hS hw => ?_)
        refine lv_iload_n hx hb dX4_wipe_56 rfl (lv_at hl 0 rfl) ?_
        exact g_iret S hr hk hg hI hS dX4_wipe_57 hw
      · have hw := hw.2 hc
        refine lv_bipush (v := (-104 : Int32)) hx hb dX4_wipe_47 (by decide) ?_
        exact g_iret S hr hk hg hI hS dX4_wipe_49 hw
    · have hw := hw.2 hc
      refine lv_bipush (v := (-103 : Int32)) hx hb dX4_wipe_31 (by decide) ?_
      exact g_iret S hr hk hg hI hS dX4_wipe_33 hw
  · have hw := hw.2 hc
    refine lv_bipush (v := (-101 : Int32)) hx hb dX4_wipe_11 (by decide) ?_
    exact g_iret S hr hk hg hI hS dX4_wipe_13 hw
set_option maxRecDepth 100000 in
set_option maxHeartbeats 4000000 in
theorem tX4_be (l : Launch) (D : va_G) (ad : Nat → Nat) (cI : ClassId) (rk ks kv : Nat)  (a1 : Int32) (a2 : Int32) (u : SS) (post : Int32 → SS → Prop) (hw : wX4_be  a1 a2 u post) : Met l yX4_be (Cond.code yX4_be cX4_be 4 (some .int) :: XT) (Rm 2) (va_Pc [.ref (ad 0), .int a1, .int a2] (Pr (xI D ad cI) (xN ad rk ks kv) u)) (va_Qi post (Po (xI D ad cI)) (xA ad)) 0 0 (xA ad) := by
  refine g_of (A := (xA ad)) (by decide) (Nat.le_of_ble_eq_true rfl) (lv := [(0, .ref (ad 0)), (1, .int a1), (2, .int a2)]) rfl ?_
  intro p e s m below meth c ls S hr hk hI hN hS hl
  have hx := S.1
  have hb := S.2.1
  have ho := S.2.2.2.1
  have hg := @xG D ad cI rk ks kv
  refine lv_aload_n hx hb dX4_be_0 rfl (lv_at hl 0 rfl) ?_
  refine xg_X4_0_19 S hI dX4_be_1 ?_
  refine lv_iload_n hx hb dX4_be_4 rfl (lv_at hl 1 rfl) ?_
  refine g_ci hg hS (g_runVN S hg hI hN hS (As := [.int a1]) (rest := []) (tX0_hasNumber l D ad cI rk ks kv  _ _ _ hw) cv_yX0_hasNumber (nm_X4_81 hN) (va_recv hI.2.1 hI.1 (ci := 0) (q0 := 2) rfl rfl) ⟨Nat.le_of_ble_eq_true rfl, Nat.le_of_ble_eq_true rfl⟩ rfl hl.1 rfl (Nat.le_of_ble_eq_true rfl) dX4_be_5) (fun r1 u2 H locs hI hS hw => ?_)
  refine lv_if_ne (tgt := 14) hx hb dX4_be_8 (by decide) (fun hc => ?_) (fun hc => ?_)
  · have hw := hw.1 hc
    refine lv_iload_n hx hb dX4_be_14 rfl (lv_at hl 2 rfl) ?_
    refine g_ci hg hS (g_runS S hg hI hN hS (As := [.int a2]) (rest := []) (tX4_isKind l D ad cI rk ks kv  _ _ _ hw) cs_yX4_isKind qm_X4_112 ⟨Nat.le_of_ble_eq_true rfl, Nat.le_of_ble_eq_true rfl⟩ rfl hl.1 rfl (Nat.le_of_ble_eq_true rfl) dX4_be_15) (fun r3 u4 H locs hI hS hw => ?_)
    refine lv_if_ne (tgt := 24) hx hb dX4_be_18 (by decide) (fun hc => ?_) (fun hc => ?_)
    · have hw := hw.1 hc
      refine lv_aload_n hx hb dX4_be_24 rfl (lv_at hl 0 rfl) ?_
      refine xg_X4_0_19 S hI dX4_be_25 ?_
      refine xg_X4_2_85 S hN hI dX4_be_28 ?_
      refine lv_iload_n hx hb dX4_be_31 rfl (lv_at hl 1 rfl) ?_
      refine x_atS (j := 1) S hI hl.1 (by decide) qm_X4_89 ⟨Nat.le_of_ble_eq_true rfl, Nat.le_of_ble_eq_true rfl⟩ (Nat.le_of_ble_eq_true rfl) dX4_be_32 ?_
      refine lv_istore_n (lv' := [(3, .int (xat u4 1 a1)), (0, .ref (ad 0)), (1, .int a1), (2, .int a2)]) hx hb dX4_be_35 rfl hl (by decide) rfl (fun ls hl => ?_)
      refine lv_aload_n hx hb dX4_be_36 rfl (lv_at hl 1 rfl) ?_
      refine xg_X4_0_19 S hI dX4_be_37 ?_
      refine xg_X4_2_85 S hN hI dX4_be_40 ?_
      refine lv_iload_n hx hb dX4_be_43 rfl (lv_at hl 2 rfl) ?_
      refine lv_iload_n hx hb dX4_be_44 rfl (lv_at hl 3 rfl) ?_
      refine x_putS (j := 1) S hI hN hS hl.1 (by decide) qm_X4_136 ⟨Nat.le_of_ble_eq_true rfl, Nat.le_of_ble_eq_true rfl⟩ (Nat.le_of_ble_eq_true rfl) dX4_be_45 (fun H locs hI hS => ?_)
      refine lv_aload_n hx hb dX4_be_48 rfl (lv_at hl 1 rfl) ?_
      refine xg_X4_0_35 S hI dX4_be_49 ?_
      refine lv_iconst (v := (1 : Int32)) hx hb dX4_be_52 (by decide) ?_
      refine xp_X4_4_75 rfl rfl S hN hI hS dX4_be_53 (fun H locs hI hS => ?_)
      refine lv_iload_n hx hb dX4_be_56 rfl (lv_at hl 0 rfl) ?_
      exact g_iret S hr hk hg hI hS dX4_be_57 hw
    · have hw := hw.2 hc
      refine lv_bipush (v := (-102 : Int32)) hx hb dX4_be_21 (by decide) ?_
      exact g_iret S hr hk hg hI hS dX4_be_23 hw
  · have hw := hw.2 hc
    refine lv_bipush (v := (-101 : Int32)) hx hb dX4_be_11 (by decide) ?_
    exact g_iret S hr hk hg hI hS dX4_be_13 hw
set_option maxRecDepth 100000 in
set_option maxHeartbeats 4000000 in
theorem tX0_isThere (l : Launch) (D : va_G) (ad : Nat → Nat) (cI : ClassId) (rk ks kv : Nat)   (u : SS) (post : Int32 → SS → Prop) (hw : wX0_isThere   u post) : Met l yX0_isThere (Cond.code yX0_isThere cX0_isThere 1 (some .boolean) :: XT) (Rm 1) (va_Pc [.ref (ad 2)] (Pr (xI D ad cI) (xN ad rk ks kv) u)) (va_Qi post (Po (xI D ad cI)) (xA ad)) 0 0 (xA ad) := by
  refine g_of (A := (xA ad)) (by decide) (Nat.le_of_ble_eq_true rfl) (lv := [(0, .ref (ad 2))]) rfl ?_
  intro p e s m below meth c ls S hr hk hI hN hS hl
  have hx := S.1
  have hb := S.2.1
  have ho := S.2.2.2.1
  have hg := @xG D ad cI rk ks kv
  refine lv_aload_n hx hb dX0_isThere_0 rfl (lv_at hl 0 rfl) ?_
  refine xg_X0_2_18 S hI dX0_isThere_1 ?_
  refine lv_if_le (tgt := 11) hx hb dX0_isThere_4 (by decide) (fun hc => ?_) (fun hc => ?_)
  · have hw := hw.1 hc
    refine lv_iconst (v := (0 : Int32)) hx hb dX0_isThere_11 (by decide) ?_
    exact g_zret S hr rfl hk hg hI hS dX0_isThere_12 hw
  · have hw := hw.2 hc
    refine lv_iconst (v := (1 : Int32)) hx hb dX0_isThere_7 (by decide) ?_
    refine lv_goto (tgt := 12) hx hb dX0_isThere_8 (by decide) ?_
    exact g_zret S hr rfl hk hg hI hS dX0_isThere_12 hw
set_option maxRecDepth 100000 in
set_option maxHeartbeats 4000000 in
theorem tX0_isBare (l : Launch) (D : va_G) (ad : Nat → Nat) (cI : ClassId) (rk ks kv : Nat)  (a1 : Int32) (u : SS) (post : Int32 → SS → Prop) (hw : wX0_isBare  a1 u post) : Met l yX0_isBare (Cond.code yX0_isBare cX0_isBare 2 (some .boolean) :: XT) (Rm 2) (va_Pc [.ref (ad 2), .int a1] (Pr (xI D ad cI) (xN ad rk ks kv) u)) (va_Qi post (Po (xI D ad cI)) (xA ad)) 0 0 (xA ad) := by
  refine g_of (A := (xA ad)) (by decide) (Nat.le_of_ble_eq_true rfl) (lv := [(0, .ref (ad 2)), (1, .int a1)]) rfl ?_
  intro p e s m below meth c ls S hr hk hI hN hS hl
  have hx := S.1
  have hb := S.2.1
  have ho := S.2.2.2.1
  have hg := @xG D ad cI rk ks kv
  refine lv_aload_n hx hb dX0_isBare_0 rfl (lv_at hl 0 rfl) ?_
  refine xg_X0_2_15 S hI dX0_isBare_1 ?_
  refine lv_iload_n hx hb dX0_isBare_4 rfl (lv_at hl 1 rfl) ?_
  refine x_atN (j := 2) S hI hl.1 (by decide) (nm_X0_51 hN) ⟨Nat.le_of_ble_eq_true rfl, Nat.le_of_ble_eq_true rfl⟩ (Nat.le_of_ble_eq_true rfl) dX0_isBare_5 ?_
  refine lv_iconst (v := (-1 : Int32)) hx hb dX0_isBare_8 (by decide) ?_
  refine lv_icmp_ne (tgt := 16) hx hb dX0_isBare_9 (by decide) (fun hc => ?_) (fun hc => ?_)
  · have hw := hw.1 hc
    refine lv_iconst (v := (0 : Int32)) hx hb dX0_isBare_16 (by decide) ?_
    exact g_zret S hr rfl hk hg hI hS dX0_isBare_17 hw
  · have hw := hw.2 hc
    refine lv_iconst (v := (1 : Int32)) hx hb dX0_isBare_12 (by decide) ?_
    refine lv_goto (tgt := 17) hx hb dX0_isBare_13 (by decide) ?_
    exact g_zret S hr rfl hk hg hI hS dX0_isBare_17 hw
set_option maxRecDepth 100000 in
set_option maxHeartbeats 4000000 in
theorem tX1_nextToPaint (l : Launch) (D : va_G) (ad : Nat → Nat) (cI : ClassId) (rk ks kv : Nat)   (u : SS) (post : Int32 → SS → Prop) (hw : wX1_nextToPaint   u post) : Met l yX1_nextToPaint (Cond.code yX1_nextToPaint cX1_nextToPaint 6 (some .int) :: XT) (Rm 3) (va_Pc [.ref (ad 4)] (Pr (xI D ad cI) (xN ad rk ks kv) u)) (va_Qi post (Po (xI D ad cI)) (xA ad)) 0 0 (xA ad) := by
  refine g_of (A := (xA ad)) (by decide) (Nat.le_of_ble_eq_true rfl) (lv := [(0, .ref (ad 4))]) rfl ?_
  intro p e s m below meth c ls S hr hk hI hN hS hl
  have hx := S.1
  have hb := S.2.1
  have ho := S.2.2.2.1
  have hg := @xG D ad cI rk ks kv
  have L20 : ∀ (x3_20 : Int32) (K20 : Int32 → Int32 → Int32 → SS → Prop) (n : Nat) (x1_20 : Int32) (x2_20 : Int32) (x4_20 : Int32) (u2 : SS) (H : Heap) (locs : List Loc) (ls : Array Slot), xI D ad cI u2 s H → va_S (xA ad) s.heap H locs → lv_has ls 6 [(0, .ref (ad 4)), (1, .int x1_20), (2, .int x2_20), (3, .int x3_20), (4, .int x4_20)] → wX1_nextToPaint_20 post x3_20 K20 n x1_20 x2_20 x4_20 u2 → (∀ (x1_20 : Int32) (x2_20 : Int32) (x4_20 : Int32) (u2 : SS) (H : Heap) (locs : List Loc) (ls : Array Slot), xI D ad cI u2 s H → va_S (xA ad) s.heap H locs → lv_has ls 6 [(0, .ref (ad 4)), (1, .int x1_20), (2, .int x2_20), (3, .int x3_20), (4, .int x4_20)] → K20 x1_20 x2_20 x4_20 u2 → W p l e (Rm 3) s m [.ref (ad 4)].toArray below meth c H locs 0 0 (MQ below (va_Qi post (Po (xI D ad cI)) (xA ad)) [.ref (ad 4)].toArray s 0 0 (xA ad)) (F0 m 75 ls [])) → W p l e (Rm 3) s m [.ref (ad 4)].toArray below meth c H locs 0 0 (MQ below (va_Qi post (Po (xI D ad cI)) (xA ad)) [.ref (ad 4)].toArray s 0 0 (xA ad)) (F0 m 20 ls []) := by
    intro x3_20 K20 n
    induction n with
    | zero => intro x1_20 x2_20 x4_20 u2 H locs ls hI hS hl hw hK20; exact False.elim hw
    | succ n20 ih20 =>
      intro x1_20 x2_20 x4_20 u2 H locs ls hI hS hl hw hK20
      refine lv_iload hx hb dX1_nextToPaint_20 (lv_at hl 4 rfl) ?_
      refine lv_aload_n hx hb dX1_nextToPaint_22 rfl (lv_at hl 0 rfl) ?_
      refine xg_X1_4_35 S hI dX1_nextToPaint_23 ?_
      refine xg_X1_2_62 S hN hI dX1_nextToPaint_26 ?_
      refine lv_icmp_ge (tgt := 75) hx hb dX1_nextToPaint_29 (by decide) (fun hc => ?_) (fun hc => ?_)
      · have hw := hw.1 hc
        exact hK20 x1_20 x2_20 x4_20 u2 _ _ _ hI hS (lv_sub hl [0, 1, 2, 3, 4] rfl) hw
      · have hw := hw.2 hc
        refine lv_aload_n hx hb dX1_nextToPaint_32 rfl (lv_at hl 0 rfl) ?_
        refine lv_iload_n hx hb dX1_nextToPaint_33 rfl (lv_at hl 3 rfl) ?_
        refine lv_iload hx hb dX1_nextToPaint_34 (lv_at hl 4 rfl) ?_
        refine g_ci hg hS (g_runV S hg hI hN hS (As := [.int x3_20, .int x4_20]) (rest := []) (tX1_waysWith l D ad cI rk ks kv  _ _ _ _ hw) cv_yX1_waysWith qm_X1_81 (va_recv hI.2.1 hI.1 (ci := 1) (q0 := 4) rfl rfl) ⟨Nat.le_of_ble_eq_true rfl, Nat.le_of_ble_eq_true rfl⟩ rfl hl.1 rfl (Nat.le_of_ble_eq_true rfl) dX1_nextToPaint_36) (fun r3 u4 H locs hI hS hw => ?_)
        refine lv_istore (lv' := [(5, .int r3), (0, .ref (ad 4)), (1, .int x1_20), (2, .int x2_20), (3, .int x3_20), (4, .int x4_20)]) hx hb dX1_nextToPaint_39 hl (by decide) rfl (fun ls hl => ?_)
        refine lv_aload_n hx hb dX1_nextToPaint_41 rfl (lv_at hl 1 rfl) ?_
        refine xg_X1_4_35 S hI dX1_nextToPaint_42 ?_
        refine lv_iload_n hx hb dX1_nextToPaint_45 rfl (lv_at hl 4 rfl) ?_
        refine g_ci hg hS (g_runVN S hg hI hN hS (As := [.int x3_20]) (rest := []) (tX0_isBare l D ad cI rk ks kv  _ _ _ hw) cv_yX0_isBare (nm_X1_84 hN) (va_recv hI.2.1 hI.1 (ci := 0) (q0 := 2) rfl rfl) ⟨Nat.le_of_ble_eq_true rfl, Nat.le_of_ble_eq_true rfl⟩ rfl hl.1 rfl (Nat.le_of_ble_eq_true rfl) dX1_nextToPaint_46) (fun r5 u6 H locs hI hS hw => ?_)
        refine lv_if_eq (tgt := 69) hx hb dX1_nextToPaint_49 (by decide) (fun hc => ?_) (fun hc => ?_)
        · have hw := hw.1 hc
          refine lv_iinc (v := x4_20 + 1) (lv' := [(4, .int (x4_20 + 1)), (5, .int r3), (0, .ref (ad 4)), (1, .int x1_20), (2, .int x2_20), (3, .int x3_20)]) hx hb dX1_nextToPaint_69 hl (k := 5) rfl (congrArg (fun z => x4_20 + z) (by decide)) (by decide) rfl (fun ls hl => ?_)
          refine lv_goto (tgt := 20) hx hb dX1_nextToPaint_72 (by decide) ?_
          exact ih20 x1_20 x2_20 (x4_20 + 1) u6 _ _ _ hI hS (lv_sub hl [2, 3, 4, 5, 0] rfl) hw hK20
        · have hw := hw.2 hc
          refine lv_iload hx hb dX1_nextToPaint_52 (lv_at hl 0 rfl) ?_
          refine lv_iload_n hx hb dX1_nextToPaint_54 rfl (lv_at hl 3 rfl) ?_
          refine lv_icmp_le (tgt := 69) hx hb dX1_nextToPaint_55 (by decide) (fun hc => ?_) (fun hc => ?_)
          · have hw := hw.1 hc
            refine lv_iinc (v := x4_20 + 1) (lv' := [(4, .int (x4_20 + 1)), (5, .int r3), (0, .ref (ad 4)), (1, .int x1_20), (2, .int x2_20), (3, .int x3_20)]) hx hb dX1_nextToPaint_69 hl (k := 5) rfl (congrArg (fun z => x4_20 + z) (by decide)) (by decide) rfl (fun ls hl => ?_)
            refine lv_goto (tgt := 20) hx hb dX1_nextToPaint_72 (by decide) ?_
            exact ih20 x1_20 x2_20 (x4_20 + 1) u6 _ _ _ hI hS (lv_sub hl [2, 3, 4, 5, 0] rfl) hw hK20
          · have hw := hw.2 hc
            refine lv_iload hx hb dX1_nextToPaint_58 (lv_at hl 0 rfl) ?_
            refine lv_istore_n (lv' := [(2, .int r3), (5, .int r3), (0, .ref (ad 4)), (1, .int x1_20), (3, .int x3_20), (4, .int x4_20)]) hx hb dX1_nextToPaint_60 rfl hl (by decide) rfl (fun ls hl => ?_)
            refine lv_bipush (v := (10 : Int32)) hx hb dX1_nextToPaint_61 (by decide) ?_
            refine lv_iload_n hx hb dX1_nextToPaint_63 rfl (lv_at hl 4 rfl) ?_
            refine lv_imul hx hb dX1_nextToPaint_64 ?_
            refine lv_iload hx hb dX1_nextToPaint_65 (lv_at hl 5 rfl) ?_
            refine lv_iadd hx hb dX1_nextToPaint_67 ?_
            refine lv_istore_n (lv' := [(1, .int (((10 : Int32) * x3_20) + x4_20)), (2, .int r3), (5, .int r3), (0, .ref (ad 4)), (3, .int x3_20), (4, .int x4_20)]) hx hb dX1_nextToPaint_68 rfl hl (by decide) rfl (fun ls hl => ?_)
            refine lv_iinc (v := x4_20 + 1) (lv' := [(4, .int (x4_20 + 1)), (1, .int (((10 : Int32) * x3_20) + x4_20)), (2, .int r3), (5, .int r3), (0, .ref (ad 4)), (3, .int x3_20)]) hx hb dX1_nextToPaint_69 hl (k := 5) rfl (congrArg (fun z => x4_20 + z) (by decide)) (by decide) rfl (fun ls hl => ?_)
            refine lv_goto (tgt := 20) hx hb dX1_nextToPaint_72 (by decide) ?_
            exact ih20 (((10 : Int32) * x3_20) + x4_20) r3 (x4_20 + 1) u6 _ _ _ hI hS (lv_sub hl [4, 1, 2, 5, 0] rfl) hw hK20
  have L6 : ∀  (K6 : Int32 → Int32 → Int32 → SS → Prop) (n : Nat) (x1_6 : Int32) (x2_6 : Int32) (x3_6 : Int32) (u1 : SS) (H : Heap) (locs : List Loc) (ls : Array Slot), xI D ad cI u1 s H → va_S (xA ad) s.heap H locs → lv_has ls 6 [(0, .ref (ad 4)), (1, .int x1_6), (2, .int x2_6), (3, .int x3_6)] → wX1_nextToPaint_6 post K6 n x1_6 x2_6 x3_6 u1 → (∀ (x1_6 : Int32) (x2_6 : Int32) (x3_6 : Int32) (u1 : SS) (H : Heap) (locs : List Loc) (ls : Array Slot), xI D ad cI u1 s H → va_S (xA ad) s.heap H locs → lv_has ls 6 [(0, .ref (ad 4)), (1, .int x1_6), (2, .int x2_6), (3, .int x3_6)] → K6 x1_6 x2_6 x3_6 u1 → W p l e (Rm 3) s m [.ref (ad 4)].toArray below meth c H locs 0 0 (MQ below (va_Qi post (Po (xI D ad cI)) (xA ad)) [.ref (ad 4)].toArray s 0 0 (xA ad)) (F0 m 81 ls [])) → W p l e (Rm 3) s m [.ref (ad 4)].toArray below meth c H locs 0 0 (MQ below (va_Qi post (Po (xI D ad cI)) (xA ad)) [.ref (ad 4)].toArray s 0 0 (xA ad)) (F0 m 6 ls []) := by
    intro K6 n
    induction n with
    | zero => intro x1_6 x2_6 x3_6 u1 H locs ls hI hS hl hw hK6; exact False.elim hw
    | succ n6 ih6 =>
      intro x1_6 x2_6 x3_6 u1 H locs ls hI hS hl hw hK6
      refine lv_iload_n hx hb dX1_nextToPaint_6 rfl (lv_at hl 3 rfl) ?_
      refine lv_aload_n hx hb dX1_nextToPaint_7 rfl (lv_at hl 0 rfl) ?_
      refine xg_X1_4_35 S hI dX1_nextToPaint_8 ?_
      refine xg_X1_2_59 S hN hI dX1_nextToPaint_11 ?_
      refine lv_icmp_gt (tgt := 81) hx hb dX1_nextToPaint_14 (by decide) (fun hc => ?_) (fun hc => ?_)
      · have hw := hw.1 hc
        exact hK6 x1_6 x2_6 x3_6 u1 _ _ _ hI hS (lv_sub hl [0, 1, 2, 3] rfl) hw
      · have hw := hw.2 hc
        refine lv_iconst (v := (0 : Int32)) hx hb dX1_nextToPaint_17 (by decide) ?_
        refine lv_istore (lv' := [(4, .int (0 : Int32)), (0, .ref (ad 4)), (1, .int x1_6), (2, .int x2_6), (3, .int x3_6)]) hx hb dX1_nextToPaint_18 hl (by decide) rfl (fun ls hl => ?_)
        obtain ⟨n, hw⟩ := hw
        refine L20 x3_6 _ n x1_6 x2_6 (0 : Int32) u1 _ _ _ hI hS (lv_sub hl [1, 2, 3, 4, 0] rfl) hw (fun x1_7 x2_8 x4_9 u10 H locs ls hI hS hl hw => ?_)
        refine lv_iinc (v := x3_6 + 1) (lv' := [(3, .int (x3_6 + 1)), (0, .ref (ad 4)), (1, .int x1_7), (2, .int x2_8), (4, .int x4_9)]) hx hb dX1_nextToPaint_75 hl (k := 3) rfl (congrArg (fun z => x3_6 + z) (by decide)) (by decide) rfl (fun ls hl => ?_)
        refine lv_goto (tgt := 6) hx hb dX1_nextToPaint_78 (by decide) ?_
        exact ih6 x1_7 x2_8 (x3_6 + 1) u10 _ _ _ hI hS (lv_sub hl [1, 2, 3, 0] rfl) hw hK6
  refine lv_iconst (v := (-1 : Int32)) hx hb dX1_nextToPaint_0 (by decide) ?_
  refine lv_istore_n (lv' := [(1, .int (-1 : Int32)), (0, .ref (ad 4))]) hx hb dX1_nextToPaint_1 rfl hl (by decide) rfl (fun ls hl => ?_)
  refine lv_iconst (v := (0 : Int32)) hx hb dX1_nextToPaint_2 (by decide) ?_
  refine lv_istore_n (lv' := [(2, .int (0 : Int32)), (1, .int (-1 : Int32)), (0, .ref (ad 4))]) hx hb dX1_nextToPaint_3 rfl hl (by decide) rfl (fun ls hl => ?_)
  refine lv_iconst (v := (1 : Int32)) hx hb dX1_nextToPaint_4 (by decide) ?_
  refine lv_istore_n (lv' := [(3, .int (1 : Int32)), (2, .int (0 : Int32)), (1, .int (-1 : Int32)), (0, .ref (ad 4))]) hx hb dX1_nextToPaint_5 rfl hl (by decide) rfl (fun ls hl => ?_)
  obtain ⟨n, hw⟩ := hw
  refine L6 _ n (-1 : Int32) (0 : Int32) (1 : Int32) u _ _ _ hI hS (lv_sub hl [3, 2, 1, 0] rfl) hw (fun x1_11 x2_12 x3_13 u14 H locs ls hI hS hl hw => ?_)
  refine lv_iload_n hx hb dX1_nextToPaint_81 rfl (lv_at hl 1 rfl) ?_
  exact g_iret S hr hk hg hI hS dX1_nextToPaint_82 hw
set_option maxRecDepth 100000 in
set_option maxHeartbeats 4000000 in
theorem tX4_ways (l : Launch) (D : va_G) (ad : Nat → Nat) (cI : ClassId) (rk ks kv : Nat)  (a1 : Int32) (u : SS) (post : Int32 → SS → Prop) (hw : wX4_ways  a1 u post) : Met l yX4_ways (Cond.code yX4_ways cX4_ways 2 (some .int) :: XT) (Rm 27) (va_Pc [.ref (ad 0), .int a1] (Pr (xI D ad cI) (xN ad rk ks kv) u)) (va_Qi post (Po (xI D ad cI)) (xA ad)) 0 0 (xA ad) := by
  refine g_of (A := (xA ad)) (by decide) (Nat.le_of_ble_eq_true rfl) (lv := [(0, .ref (ad 0)), (1, .int a1)]) rfl ?_
  intro p e s m below meth c ls S hr hk hI hN hS hl
  have hx := S.1
  have hb := S.2.1
  have ho := S.2.2.2.1
  have hg := @xG D ad cI rk ks kv
  refine lv_iload_n hx hb dX4_ways_0 rfl (lv_at hl 1 rfl) ?_
  refine lv_if_lt (tgt := 9) hx hb dX4_ways_1 (by decide) (fun hc => ?_) (fun hc => ?_)
  · have hw := hw.1 hc
    refine lv_bipush (v := (-102 : Int32)) hx hb dX4_ways_9 (by decide) ?_
    exact g_iret S hr hk hg hI hS dX4_ways_11 hw
  · have hw := hw.2 hc
    refine lv_iload_n hx hb dX4_ways_4 rfl (lv_at hl 1 rfl) ?_
    refine lv_iconst (v := (2 : Int32)) hx hb dX4_ways_5 (by decide) ?_
    refine lv_icmp_le (tgt := 12) hx hb dX4_ways_6 (by decide) (fun hc => ?_) (fun hc => ?_)
    · have hw := hw.1 hc
      refine lv_aload_n hx hb dX4_ways_12 rfl (lv_at hl 0 rfl) ?_
      refine xg_X4_0_19 S hI dX4_ways_13 ?_
      refine g_ci hg hS (g_runVN S hg hI hN hS (As := []) (rest := []) (tX0_isThere l D ad cI rk ks kv   _ _ hw) cv_yX0_isThere (nm_X4_140 hN) (va_recv hI.2.1 hI.1 (ci := 0) (q0 := 2) rfl rfl) ⟨Nat.le_of_ble_eq_true rfl, Nat.le_of_ble_eq_true rfl⟩ rfl hl.1 rfl (Nat.le_of_ble_eq_true rfl) dX4_ways_16) (fun r1 u2 H locs hI hS hw => ?_)
      refine lv_if_ne (tgt := 25) hx hb dX4_ways_19 (by decide) (fun hc => ?_) (fun hc => ?_)
      · have hw := hw.1 hc
        refine lv_aload_n hx hb dX4_ways_25 rfl (lv_at hl 0 rfl) ?_
        refine xg_X4_0_35 S hI dX4_ways_26 ?_
        refine g_cv hg hS (g_runVN S hg hI hN hS (As := []) (rest := []) (tX1_refresh l D ad cI rk ks kv   _ _ hw) cv_yX1_refresh (nm_X4_96 hN) (va_recv hI.2.1 hI.1 (ci := 1) (q0 := 4) rfl rfl) ⟨Nat.le_of_ble_eq_true rfl, Nat.le_of_ble_eq_true rfl⟩ rfl hl.1 rfl (Nat.le_of_ble_eq_true rfl) dX4_ways_29) (fun u4 H locs hI hS hw => ?_)
        refine lv_iload_n hx hb dX4_ways_32 rfl (lv_at hl 1 rfl) ?_
        refine lv_if_ne (tgt := 46) hx hb dX4_ways_33 (by decide) (fun hc => ?_) (fun hc => ?_)
        · have hw := hw.1 hc
          refine lv_iload_n hx hb dX4_ways_46 rfl (lv_at hl 1 rfl) ?_
          refine lv_iconst (v := (1 : Int32)) hx hb dX4_ways_47 (by decide) ?_
          refine lv_icmp_ne (tgt := 61) hx hb dX4_ways_48 (by decide) (fun hc => ?_) (fun hc => ?_)
          · have hw := hw.1 hc
            refine lv_aload_n hx hb dX4_ways_61 rfl (lv_at hl 0 rfl) ?_
            refine xg_X4_0_35 S hI dX4_ways_62 ?_
            refine xg_X4_4_146 S hN hI dX4_ways_65 ?_
            exact g_iret S hr hk hg hI hS dX4_ways_68 hw
          · have hw := hw.2 hc
            refine lv_aload_n hx hb dX4_ways_51 rfl (lv_at hl 0 rfl) ?_
            refine xg_X4_0_35 S hI dX4_ways_52 ?_
            refine g_ci hg hS (g_runVN S hg hI hN hS (As := []) (rest := []) (tX1_nextToPaint l D ad cI rk ks kv   _ _ hw) cv_yX1_nextToPaint (nm_X4_143 hN) (va_recv hI.2.1 hI.1 (ci := 1) (q0 := 4) rfl rfl) ⟨Nat.le_of_ble_eq_true rfl, Nat.le_of_ble_eq_true rfl⟩ rfl hl.1 rfl (Nat.le_of_ble_eq_true rfl) dX4_ways_55) (fun r5 u6 H locs hI hS hw => ?_)
            refine lv_goto (tgt := 68) hx hb dX4_ways_58 (by decide) ?_
            exact g_iret S hr hk hg hI hS dX4_ways_68 hw
        · have hw := hw.2 hc
          refine lv_aload_n hx hb dX4_ways_36 rfl (lv_at hl 0 rfl) ?_
          refine xg_X4_0_35 S hI dX4_ways_37 ?_
          refine xg_X4_4_115 S hN hI dX4_ways_40 ?_
          refine lv_goto (tgt := 68) hx hb dX4_ways_43 (by decide) ?_
          exact g_iret S hr hk hg hI hS dX4_ways_68 hw
      · have hw := hw.2 hc
        refine lv_bipush (v := (-103 : Int32)) hx hb dX4_ways_22 (by decide) ?_
        exact g_iret S hr hk hg hI hS dX4_ways_24 hw
    · have hw := hw.2 hc
      refine lv_bipush (v := (-102 : Int32)) hx hb dX4_ways_9 (by decide) ?_
      exact g_iret S hr hk hg hI hS dX4_ways_11 hw
set_option maxRecDepth 100000 in
set_option maxHeartbeats 4000000 in
theorem tX1_paintAnewFrom (l : Launch) (D : va_G) (ad : Nat → Nat) (cI : ClassId) (rk ks kv : Nat) : ∀ (d : Nat) (a1 : Int32) (a2 : Int32) (u : SS) (post : SS → Prop), wX1_paintAnewFrom d a1 a2 u post → Met l yX1_paintAnewFrom (Cond.code yX1_paintAnewFrom cX1_paintAnewFrom 4 none :: XT) (Rm (5 + d)) (va_Pc [.ref (ad 4), .int a1, .int a2] (Pr (xI D ad cI) (xN ad rk ks kv) u)) (va_Qv post (Po (xI D ad cI)) (xA ad)) 0 0 (xA ad) := by
  intro d
  induction d with
  | zero => intro a1 a2 u post hw; exact False.elim hw
  | succ d ih =>
    intro a1 a2 u post hw
    refine g_of (A := (xA ad)) (by decide) (Nat.le_of_ble_eq_true rfl) (lv := [(0, .ref (ad 4)), (1, .int a1), (2, .int a2)]) rfl ?_
    intro p e s m below meth c ls S hr hk hI hN hS hl
    have hx := S.1
    have hb := S.2.1
    have ho := S.2.2.2.1
    have hg := @xG D ad cI rk ks kv
    have L28 : ∀ (x1_28 : Int32) (x2_28 : Int32) (K28 : Int32 → SS → Prop) (n : Nat) (x3_28 : Int32) (u1 : SS) (H : Heap) (locs : List Loc) (ls : Array Slot), xI D ad cI u1 s H → va_S (xA ad) s.heap H locs → lv_has ls 4 [(0, .ref (ad 4)), (1, .int x1_28), (2, .int x2_28), (3, .int x3_28)] → wX1_paintAnewFrom_28 post (wX1_paintAnewFrom d) x1_28 x2_28 K28 n x3_28 u1 → (∀ (x3_28 : Int32) (u1 : SS) (H : Heap) (locs : List Loc) (ls : Array Slot), xI D ad cI u1 s H → va_S (xA ad) s.heap H locs → lv_has ls 4 [(0, .ref (ad 4)), (1, .int x1_28), (2, .int x2_28), (3, .int x3_28)] → K28 x3_28 u1 → W p l e (Rm (5 + (d + 1))) s m [.ref (ad 4), .int a1, .int a2].toArray below meth c H locs 0 0 (MQ below (va_Qv post (Po (xI D ad cI)) (xA ad)) [.ref (ad 4), .int a1, .int a2].toArray s 0 0 (xA ad)) (F0 m 77 ls [])) → W p l e (Rm (5 + (d + 1))) s m [.ref (ad 4), .int a1, .int a2].toArray below meth c H locs 0 0 (MQ below (va_Qv post (Po (xI D ad cI)) (xA ad)) [.ref (ad 4), .int a1, .int a2].toArray s 0 0 (xA ad)) (F0 m 28 ls []) := by
      intro x1_28 x2_28 K28 n
      induction n with
      | zero => intro x3_28 u1 H locs ls hI hS hl hw hK28; exact False.elim hw
      | succ n28 ih28 =>
        intro x3_28 u1 H locs ls hI hS hl hw hK28
        refine lv_iload_n hx hb dX1_paintAnewFrom_28 rfl (lv_at hl 3 rfl) ?_
        refine lv_aload_n hx hb dX1_paintAnewFrom_29 rfl (lv_at hl 0 rfl) ?_
        refine xg_X1_4_35 S hI dX1_paintAnewFrom_30 ?_
        refine xg_X1_2_62 S hN hI dX1_paintAnewFrom_33 ?_
        refine lv_icmp_ge (tgt := 77) hx hb dX1_paintAnewFrom_36 (by decide) (fun hc => ?_) (fun hc => ?_)
        · have hw := hw.1 hc
          exact hK28 x3_28 u1 _ _ _ hI hS (lv_sub hl [0, 1, 2, 3] rfl) hw
        · have hw := hw.2 hc
          refine lv_aload_n hx hb dX1_paintAnewFrom_39 rfl (lv_at hl 0 rfl) ?_
          refine lv_iload_n hx hb dX1_paintAnewFrom_40 rfl (lv_at hl 1 rfl) ?_
          refine lv_iload_n hx hb dX1_paintAnewFrom_41 rfl (lv_at hl 3 rfl) ?_
          refine g_ci hg hS (g_runV S hg hI hN hS (As := [.int x1_28, .int x3_28]) (rest := []) (tX1_tryColour l D ad cI rk ks kv  _ _ _ _ hw) cv_yX1_tryColour qm_X1_69 (va_recv hI.2.1 hI.1 (ci := 1) (q0 := 4) rfl rfl) ⟨by show _ ≤ 5 + (d + 1); omega, by show _ ≤ 40 * (5 + (d + 1)); omega⟩ rfl hl.1 rfl (Nat.le_of_ble_eq_true rfl) dX1_paintAnewFrom_42) (fun r2 u3 H locs hI hS hw => ?_)
          refine lv_if_eq (tgt := 71) hx hb dX1_paintAnewFrom_45 (by decide) (fun hc => ?_) (fun hc => ?_)
          · have hw := hw.1 hc
            refine lv_iinc (v := x3_28 + 1) (lv' := [(3, .int (x3_28 + 1)), (0, .ref (ad 4)), (1, .int x1_28), (2, .int x2_28)]) hx hb dX1_paintAnewFrom_71 hl (k := 3) rfl (congrArg (fun z => x3_28 + z) (by decide)) (by decide) rfl (fun ls hl => ?_)
            refine lv_goto (tgt := 28) hx hb dX1_paintAnewFrom_74 (by decide) ?_
            exact ih28 (x3_28 + 1) u3 _ _ _ hI hS (lv_sub hl [1, 2, 3, 0] rfl) hw hK28
          · have hw := hw.2 hc
            refine lv_aload_n hx hb dX1_paintAnewFrom_48 rfl (lv_at hl 0 rfl) ?_
            refine lv_iload_n hx hb dX1_paintAnewFrom_49 rfl (lv_at hl 1 rfl) ?_
            refine lv_iconst (v := (1 : Int32)) hx hb dX1_paintAnewFrom_50 (by decide) ?_
            refine lv_iadd hx hb dX1_paintAnewFrom_51 ?_
            refine lv_aload_n hx hb dX1_paintAnewFrom_52 rfl (lv_at hl 0 rfl) ?_
            refine lv_iload_n hx hb dX1_paintAnewFrom_53 rfl (lv_at hl 1 rfl) ?_
            refine lv_iload_n hx hb dX1_paintAnewFrom_54 rfl (lv_at hl 3 rfl) ?_
            refine g_ci hg hS (g_runV S hg hI hN hS (As := [.int x1_28, .int x3_28]) (rest := [.int (x1_28 + (1 : Int32)), .ref (ad 4)]) (tX1_mayHave l D ad cI rk ks kv  _ _ _ _ hw) cv_yX1_mayHave qm_X1_65 (va_recv hI.2.1 hI.1 (ci := 1) (q0 := 4) rfl rfl) ⟨by show _ ≤ 5 + (d + 1); omega, by show _ ≤ 40 * (5 + (d + 1)); omega⟩ rfl hl.1 rfl (Nat.le_of_ble_eq_true rfl) dX1_paintAnewFrom_55) (fun r4 u5 H locs hI hS hw => ?_)
            refine lv_if_eq (tgt := 65) hx hb dX1_paintAnewFrom_58 (by decide) (fun hc => ?_) (fun hc => ?_)
            · have hw := hw.1 hc
              refine lv_iload_n hx hb dX1_paintAnewFrom_65 rfl (lv_at hl 2 rfl) ?_
              refine lv_iconst (v := (1 : Int32)) hx hb dX1_paintAnewFrom_66 (by decide) ?_
              refine lv_iadd hx hb dX1_paintAnewFrom_67 ?_
              refine g_cv hg hS (g_runV S hg hI hN hS (As := [.int (x1_28 + (1 : Int32)), .int (x2_28 + (1 : Int32))]) (rest := []) (ih _ _ _ _ hw) cv_yX1_paintAnewFrom qm_X1_91 (va_recv hI.2.1 hI.1 (ci := 1) (q0 := 4) rfl rfl) ⟨by show 5 + d + 1 ≤ 5 + (d + 1); omega, by show 8 + (4 + 11) + 40 * (5 + d) ≤ 40 * (5 + (d + 1)); omega⟩ rfl hl.1 rfl (Nat.le_of_ble_eq_true rfl) dX1_paintAnewFrom_68) (fun u7 H locs hI hS hw => ?_)
              refine lv_iinc (v := x3_28 + 1) (lv' := [(3, .int (x3_28 + 1)), (0, .ref (ad 4)), (1, .int x1_28), (2, .int x2_28)]) hx hb dX1_paintAnewFrom_71 hl (k := 3) rfl (congrArg (fun z => x3_28 + z) (by decide)) (by decide) rfl (fun ls hl => ?_)
              refine lv_goto (tgt := 28) hx hb dX1_paintAnewFrom_74 (by decide) ?_
              exact ih28 (x3_28 + 1) u7 _ _ _ hI hS (lv_sub hl [1, 2, 3, 0] rfl) hw hK28
            · have hw := hw.2 hc
              refine lv_iload_n hx hb dX1_paintAnewFrom_61 rfl (lv_at hl 2 rfl) ?_
              refine lv_goto (tgt := 68) hx hb dX1_paintAnewFrom_62 (by decide) ?_
              refine g_cv hg hS (g_runV S hg hI hN hS (As := [.int (x1_28 + (1 : Int32)), .int x2_28]) (rest := []) (ih _ _ _ _ hw) cv_yX1_paintAnewFrom qm_X1_91 (va_recv hI.2.1 hI.1 (ci := 1) (q0 := 4) rfl rfl) ⟨by show 5 + d + 1 ≤ 5 + (d + 1); omega, by show 8 + (4 + 11) + 40 * (5 + d) ≤ 40 * (5 + (d + 1)); omega⟩ rfl hl.1 rfl (Nat.le_of_ble_eq_true rfl) dX1_paintAnewFrom_68) (fun u9 H locs hI hS hw => ?_)
              refine lv_iinc (v := x3_28 + 1) (lv' := [(3, .int (x3_28 + 1)), (0, .ref (ad 4)), (1, .int x1_28), (2, .int x2_28)]) hx hb dX1_paintAnewFrom_71 hl (k := 3) rfl (congrArg (fun z => x3_28 + z) (by decide)) (by decide) rfl (fun ls hl => ?_)
              refine lv_goto (tgt := 28) hx hb dX1_paintAnewFrom_74 (by decide) ?_
              exact ih28 (x3_28 + 1) u9 _ _ _ hI hS (lv_sub hl [1, 2, 3, 0] rfl) hw hK28
    refine lv_iload_n hx hb dX1_paintAnewFrom_0 rfl (lv_at hl 2 rfl) ?_
    refine lv_aload_n hx hb dX1_paintAnewFrom_1 rfl (lv_at hl 0 rfl) ?_
    refine xg_X1_4_25 S hI dX1_paintAnewFrom_2 ?_
    refine lv_icmp_lt (tgt := 9) hx hb dX1_paintAnewFrom_5 (by decide) (fun hc => ?_) (fun hc => ?_)
    · have hw := hw.1 hc
      refine lv_iload_n hx hb dX1_paintAnewFrom_9 rfl (lv_at hl 1 rfl) ?_
      refine lv_aload_n hx hb dX1_paintAnewFrom_10 rfl (lv_at hl 0 rfl) ?_
      refine xg_X1_4_35 S hI dX1_paintAnewFrom_11 ?_
      refine xg_X1_2_59 S hN hI dX1_paintAnewFrom_14 ?_
      refine lv_icmp_le (tgt := 26) hx hb dX1_paintAnewFrom_17 (by decide) (fun hc => ?_) (fun hc => ?_)
      · have hw := hw.1 hc
        refine lv_iconst (v := (0 : Int32)) hx hb dX1_paintAnewFrom_26 (by decide) ?_
        refine lv_istore_n (lv' := [(3, .int (0 : Int32)), (0, .ref (ad 4)), (1, .int a1), (2, .int a2)]) hx hb dX1_paintAnewFrom_27 rfl hl (by decide) rfl (fun ls hl => ?_)
        obtain ⟨n, hw⟩ := hw
        refine L28 a1 a2 _ n (0 : Int32) u _ _ _ hI hS (lv_sub hl [1, 2, 3, 0] rfl) hw (fun x3_10 u11 H locs ls hI hS hl hw => ?_)
        exact g_vret S hr hk hg hI hS dX1_paintAnewFrom_77 hw
      · have hw := hw.2 hc
        refine lv_aload_n hx hb dX1_paintAnewFrom_20 rfl (lv_at hl 0 rfl) ?_
        refine lv_iload_n hx hb dX1_paintAnewFrom_21 rfl (lv_at hl 2 rfl) ?_
        refine xp_X1_4_25 S hI hS dX1_paintAnewFrom_22 (fun H locs hI hS => ?_)
        exact g_vret S hr hk hg hI hS dX1_paintAnewFrom_25 hw
    · have hw := hw.2 hc
      exact g_vret S hr hk hg hI hS dX1_paintAnewFrom_8 hw
set_option maxRecDepth 100000 in
set_option maxHeartbeats 4000000 in
theorem tX1_fewestAnew (l : Launch) (D : va_G) (ad : Nat → Nat) (cI : ClassId) (rk ks kv : Nat)   (u : SS) (post : Int32 → SS → Prop) (hw : wX1_fewestAnew   u post) : Met l yX1_fewestAnew (Cond.code yX1_fewestAnew cX1_fewestAnew 1 (some .int) :: XT) (Rm 26) (va_Pc [.ref (ad 4)] (Pr (xI D ad cI) (xN ad rk ks kv) u)) (va_Qi post (Po (xI D ad cI)) (xA ad)) 0 0 (xA ad) := by
  refine g_of (A := (xA ad)) (by decide) (Nat.le_of_ble_eq_true rfl) (lv := [(0, .ref (ad 4))]) rfl ?_
  intro p e s m below meth c ls S hr hk hI hN hS hl
  have hx := S.1
  have hb := S.2.1
  have ho := S.2.2.2.1
  have hg := @xG D ad cI rk ks kv
  refine lv_aload_n hx hb dX1_fewestAnew_0 rfl (lv_at hl 0 rfl) ?_
  refine lv_bipush (v := (11 : Int32)) hx hb dX1_fewestAnew_1 (by decide) ?_
  refine xp_X1_4_25 S hI hS dX1_fewestAnew_3 (fun H locs hI hS => ?_)
  refine lv_aload_n hx hb dX1_fewestAnew_6 rfl (lv_at hl 0 rfl) ?_
  refine lv_iconst (v := (1 : Int32)) hx hb dX1_fewestAnew_7 (by decide) ?_
  refine lv_iconst (v := (0 : Int32)) hx hb dX1_fewestAnew_8 (by decide) ?_
  obtain ⟨d, hd, hw⟩ := hw
  refine g_cv hg hS (g_runV S hg hI hN hS (As := [.int (1 : Int32), .int (0 : Int32)]) (rest := []) (tX1_paintAnewFrom l D ad cI rk ks kv d _ _ _ _ hw) cv_yX1_paintAnewFrom qm_X1_91 (va_recv hI.2.1 hI.1 (ci := 1) (q0 := 4) rfl rfl) ⟨by show 5 + d + 1 ≤ 26; omega, by show 8 + (4 + 11) + 40 * (5 + d) ≤ 40 * 26; omega⟩ rfl hl.1 rfl (Nat.le_of_ble_eq_true rfl) dX1_fewestAnew_9) (fun u2 H locs hI hS hw => ?_)
  refine lv_aload_n hx hb dX1_fewestAnew_12 rfl (lv_at hl 0 rfl) ?_
  refine xg_X1_4_25 S hI dX1_fewestAnew_13 ?_
  refine lv_bipush (v := (10 : Int32)) hx hb dX1_fewestAnew_16 (by decide) ?_
  refine lv_icmp_le (tgt := 25) hx hb dX1_fewestAnew_18 (by decide) (fun hc => ?_) (fun hc => ?_)
  · have hw := hw.1 hc
    refine lv_aload_n hx hb dX1_fewestAnew_25 rfl (lv_at hl 0 rfl) ?_
    refine xg_X1_4_25 S hI dX1_fewestAnew_26 ?_
    exact g_iret S hr hk hg hI hS dX1_fewestAnew_29 hw
  · have hw := hw.2 hc
    refine lv_iconst (v := (-1 : Int32)) hx hb dX1_fewestAnew_21 (by decide) ?_
    refine lv_goto (tgt := 29) hx hb dX1_fewestAnew_22 (by decide) ?_
    exact g_iret S hr hk hg hI hS dX1_fewestAnew_29 hw
set_option maxRecDepth 100000 in
set_option maxHeartbeats 4000000 in
theorem tX4_mend (l : Launch) (D : va_G) (ad : Nat → Nat) (cI : ClassId) (rk ks kv : Nat)   (u : SS) (post : Int32 → SS → Prop) (hw : wX4_mend   u post) : Met l yX4_mend (Cond.code yX4_mend cX4_mend 1 (some .int) :: XT) (Rm 27) (va_Pc [.ref (ad 0)] (Pr (xI D ad cI) (xN ad rk ks kv) u)) (va_Qi post (Po (xI D ad cI)) (xA ad)) 0 0 (xA ad) := by
  refine g_of (A := (xA ad)) (by decide) (Nat.le_of_ble_eq_true rfl) (lv := [(0, .ref (ad 0))]) rfl ?_
  intro p e s m below meth c ls S hr hk hI hN hS hl
  have hx := S.1
  have hb := S.2.1
  have ho := S.2.2.2.1
  have hg := @xG D ad cI rk ks kv
  refine lv_aload_n hx hb dX4_mend_0 rfl (lv_at hl 0 rfl) ?_
  refine xg_X4_0_19 S hI dX4_mend_1 ?_
  refine g_ci hg hS (g_runVN S hg hI hN hS (As := []) (rest := []) (tX0_isThere l D ad cI rk ks kv   _ _ hw) cv_yX0_isThere (nm_X4_140 hN) (va_recv hI.2.1 hI.1 (ci := 0) (q0 := 2) rfl rfl) ⟨Nat.le_of_ble_eq_true rfl, Nat.le_of_ble_eq_true rfl⟩ rfl hl.1 rfl (Nat.le_of_ble_eq_true rfl) dX4_mend_4) (fun r1 u2 H locs hI hS hw => ?_)
  refine lv_if_ne (tgt := 13) hx hb dX4_mend_7 (by decide) (fun hc => ?_) (fun hc => ?_)
  · have hw := hw.1 hc
    refine lv_aload_n hx hb dX4_mend_13 rfl (lv_at hl 0 rfl) ?_
    refine xg_X4_0_35 S hI dX4_mend_14 ?_
    refine g_ci hg hS (g_runVN S hg hI hN hS (As := []) (rest := []) (tX1_fewestAnew l D ad cI rk ks kv   _ _ hw) cv_yX1_fewestAnew (nm_X4_149 hN) (va_recv hI.2.1 hI.1 (ci := 1) (q0 := 4) rfl rfl) ⟨Nat.le_of_ble_eq_true rfl, Nat.le_of_ble_eq_true rfl⟩ rfl hl.1 rfl (Nat.le_of_ble_eq_true rfl) dX4_mend_17) (fun r3 u4 H locs hI hS hw => ?_)
    exact g_iret S hr hk hg hI hS dX4_mend_20 hw
  · have hw := hw.2 hc
    refine lv_bipush (v := (-103 : Int32)) hx hb dX4_mend_10 (by decide) ?_
    exact g_iret S hr hk hg hI hS dX4_mend_12 hw
set_option maxRecDepth 100000 in
set_option maxHeartbeats 4000000 in
theorem tX1_winningColourFrom (l : Launch) (D : va_G) (ad : Nat → Nat) (cI : ClassId) (rk ks kv : Nat) : ∀ (d : Nat) (a1 : Int32) (u : SS) (post : Int32 → SS → Prop), wX1_winningColourFrom d a1 u post → Met l yX1_winningColourFrom (Cond.code yX1_winningColourFrom cX1_winningColourFrom 4 (some .int) :: XT) (Rm (5 + d)) (va_Pc [.ref (ad 4), .int a1] (Pr (xI D ad cI) (xN ad rk ks kv) u)) (va_Qi post (Po (xI D ad cI)) (xA ad)) 0 0 (xA ad) := by
  intro d
  induction d with
  | zero => intro a1 u post hw; exact False.elim hw
  | succ d ih =>
    intro a1 u post hw
    refine g_of (A := (xA ad)) (by decide) (Nat.le_of_ble_eq_true rfl) (lv := [(0, .ref (ad 4)), (1, .int a1)]) rfl ?_
    intro p e s m below meth c ls S hr hk hI hN hS hl
    have hx := S.1
    have hb := S.2.1
    have ho := S.2.2.2.1
    have hg := @xG D ad cI rk ks kv
    have L36 : ∀ (x1_36 : Int32) (K36 : Int32 → Int32 → SS → Prop) (n : Nat) (x2_36 : Int32) (x3_36 : Int32) (u3 : SS) (H : Heap) (locs : List Loc) (ls : Array Slot), xI D ad cI u3 s H → va_S (xA ad) s.heap H locs → lv_has ls 4 [(0, .ref (ad 4)), (1, .int x1_36), (2, .int x2_36), (3, .int x3_36)] → wX1_winningColourFrom_36 post (wX1_winningColourFrom d) x1_36 K36 n x2_36 x3_36 u3 → (∀ (x2_36 : Int32) (x3_36 : Int32) (u3 : SS) (H : Heap) (locs : List Loc) (ls : Array Slot), xI D ad cI u3 s H → va_S (xA ad) s.heap H locs → lv_has ls 4 [(0, .ref (ad 4)), (1, .int x1_36), (2, .int x2_36), (3, .int x3_36)] → K36 x2_36 x3_36 u3 → W p l e (Rm (5 + (d + 1))) s m [.ref (ad 4), .int a1].toArray below meth c H locs 0 0 (MQ below (va_Qi post (Po (xI D ad cI)) (xA ad)) [.ref (ad 4), .int a1].toArray s 0 0 (xA ad)) (F0 m 95 ls [])) → W p l e (Rm (5 + (d + 1))) s m [.ref (ad 4), .int a1].toArray below meth c H locs 0 0 (MQ below (va_Qi post (Po (xI D ad cI)) (xA ad)) [.ref (ad 4), .int a1].toArray s 0 0 (xA ad)) (F0 m 36 ls []) := by
      intro x1_36 K36 n
      induction n with
      | zero => intro x2_36 x3_36 u3 H locs ls hI hS hl hw hK36; exact False.elim hw
      | succ n36 ih36 =>
        intro x2_36 x3_36 u3 H locs ls hI hS hl hw hK36
        refine lv_iload_n hx hb dX1_winningColourFrom_36 rfl (lv_at hl 3 rfl) ?_
        refine lv_aload_n hx hb dX1_winningColourFrom_37 rfl (lv_at hl 0 rfl) ?_
        refine xg_X1_4_35 S hI dX1_winningColourFrom_38 ?_
        refine xg_X1_2_62 S hN hI dX1_winningColourFrom_41 ?_
        refine lv_icmp_ge (tgt := 95) hx hb dX1_winningColourFrom_44 (by decide) (fun hc => ?_) (fun hc => ?_)
        · have hw := hw.1 hc
          exact hK36 x2_36 x3_36 u3 _ _ _ hI hS (lv_sub hl [0, 1, 2, 3] rfl) hw
        · have hw := hw.2 hc
          refine lv_iload_n hx hb dX1_winningColourFrom_47 rfl (lv_at hl 2 rfl) ?_
          refine lv_iconst (v := (-1 : Int32)) hx hb dX1_winningColourFrom_48 (by decide) ?_
          refine lv_icmp_ne (tgt := 95) hx hb dX1_winningColourFrom_49 (by decide) (fun hc => ?_) (fun hc => ?_)
          · have hw := hw.1 hc
            exact hK36 x2_36 x3_36 u3 _ _ _ hI hS (lv_sub hl [0, 1, 2, 3] rfl) hw
          · have hw := hw.2 hc
            refine lv_aload_n hx hb dX1_winningColourFrom_52 rfl (lv_at hl 0 rfl) ?_
            refine xg_X1_4_9 S hI dX1_winningColourFrom_53 ?_
            refine lv_iload_n hx hb dX1_winningColourFrom_56 rfl (lv_at hl 1 rfl) ?_
            refine lv_iload_n hx hb dX1_winningColourFrom_57 rfl (lv_at hl 3 rfl) ?_
            refine x_putN (j := 6) S hI hN hS hl.1 (by decide) (nm_X1_39 hN) ⟨by show _ ≤ 5 + (d + 1); omega, by show _ ≤ 40 * (5 + (d + 1)); omega⟩ (Nat.le_of_ble_eq_true rfl) dX1_winningColourFrom_58 (fun H locs hI hS => ?_)
            refine lv_aload_n hx hb dX1_winningColourFrom_61 rfl (lv_at hl 0 rfl) ?_
            refine xg_X1_4_35 S hI dX1_winningColourFrom_62 ?_
            refine lv_aload_n hx hb dX1_winningColourFrom_65 rfl (lv_at hl 0 rfl) ?_
            refine xg_X1_4_9 S hI dX1_winningColourFrom_66 ?_
            refine lv_iload_n hx hb dX1_winningColourFrom_69 rfl (lv_at hl 1 rfl) ?_
            refine g_ci hg hS (g_runVN S hg hI hN hS (As := [.ref (ad 13), .int x1_36]) (rest := []) (tX0_badWith l D ad cI rk ks kv 6 (by decide) _ _ _ hw) cv_yX0_badWith (nm_X1_106 hN) (va_recv hI.2.1 hI.1 (ci := 0) (q0 := 2) rfl rfl) ⟨by show _ ≤ 5 + (d + 1); omega, by show _ ≤ 40 * (5 + (d + 1)); omega⟩ rfl hl.1 rfl (Nat.le_of_ble_eq_true rfl) dX1_winningColourFrom_70) (fun r4 u5 H locs hI hS hw => ?_)
            refine lv_if_ne (tgt := 89) hx hb dX1_winningColourFrom_73 (by decide) (fun hc => ?_) (fun hc => ?_)
            · have hw := hw.1 hc
              refine lv_iinc (v := x3_36 + 1) (lv' := [(3, .int (x3_36 + 1)), (0, .ref (ad 4)), (1, .int x1_36), (2, .int x2_36)]) hx hb dX1_winningColourFrom_89 hl (k := 3) rfl (congrArg (fun z => x3_36 + z) (by decide)) (by decide) rfl (fun ls hl => ?_)
              refine lv_goto (tgt := 36) hx hb dX1_winningColourFrom_92 (by decide) ?_
              exact ih36 x2_36 (x3_36 + 1) u5 _ _ _ hI hS (lv_sub hl [1, 2, 3, 0] rfl) hw hK36
            · have hw := hw.2 hc
              refine lv_aload_n hx hb dX1_winningColourFrom_76 rfl (lv_at hl 0 rfl) ?_
              refine lv_iload_n hx hb dX1_winningColourFrom_77 rfl (lv_at hl 1 rfl) ?_
              refine lv_iconst (v := (1 : Int32)) hx hb dX1_winningColourFrom_78 (by decide) ?_
              refine lv_iadd hx hb dX1_winningColourFrom_79 ?_
              refine g_ci hg hS (g_runV S hg hI hN hS (As := [.int (x1_36 + (1 : Int32))]) (rest := []) (ih _ _ _ hw) cv_yX1_winningColourFrom qm_X1_103 (va_recv hI.2.1 hI.1 (ci := 1) (q0 := 4) rfl rfl) ⟨by show 5 + d + 1 ≤ 5 + (d + 1); omega, by show 8 + (4 + 11) + 40 * (5 + d) ≤ 40 * (5 + (d + 1)); omega⟩ rfl hl.1 rfl (Nat.le_of_ble_eq_true rfl) dX1_winningColourFrom_80) (fun r6 u7 H locs hI hS hw => ?_)
              refine lv_iconst (v := (-1 : Int32)) hx hb dX1_winningColourFrom_83 (by decide) ?_
              refine lv_icmp_ne (tgt := 89) hx hb dX1_winningColourFrom_84 (by decide) (fun hc => ?_) (fun hc => ?_)
              · have hw := hw.1 hc
                refine lv_iinc (v := x3_36 + 1) (lv' := [(3, .int (x3_36 + 1)), (0, .ref (ad 4)), (1, .int x1_36), (2, .int x2_36)]) hx hb dX1_winningColourFrom_89 hl (k := 3) rfl (congrArg (fun z => x3_36 + z) (by decide)) (by decide) rfl (fun ls hl => ?_)
                refine lv_goto (tgt := 36) hx hb dX1_winningColourFrom_92 (by decide) ?_
                exact ih36 x2_36 (x3_36 + 1) u7 _ _ _ hI hS (lv_sub hl [1, 2, 3, 0] rfl) hw hK36
              · have hw := hw.2 hc
                refine lv_iload_n hx hb dX1_winningColourFrom_87 rfl (lv_at hl 3 rfl) ?_
                refine lv_istore_n (lv' := [(2, .int x3_36), (0, .ref (ad 4)), (1, .int x1_36), (3, .int x3_36)]) hx hb dX1_winningColourFrom_88 rfl hl (by decide) rfl (fun ls hl => ?_)
                refine lv_iinc (v := x3_36 + 1) (lv' := [(3, .int (x3_36 + 1)), (2, .int x3_36), (0, .ref (ad 4)), (1, .int x1_36)]) hx hb dX1_winningColourFrom_89 hl (k := 3) rfl (congrArg (fun z => x3_36 + z) (by decide)) (by decide) rfl (fun ls hl => ?_)
                refine lv_goto (tgt := 36) hx hb dX1_winningColourFrom_92 (by decide) ?_
                exact ih36 x3_36 (x3_36 + 1) u7 _ _ _ hI hS (lv_sub hl [2, 3, 1, 0] rfl) hw hK36
    refine lv_iload_n hx hb dX1_winningColourFrom_0 rfl (lv_at hl 1 rfl) ?_
    refine lv_aload_n hx hb dX1_winningColourFrom_1 rfl (lv_at hl 0 rfl) ?_
    refine xg_X1_4_35 S hI dX1_winningColourFrom_2 ?_
    refine xg_X1_2_59 S hN hI dX1_winningColourFrom_5 ?_
    refine lv_icmp_le (tgt := 13) hx hb dX1_winningColourFrom_8 (by decide) (fun hc => ?_) (fun hc => ?_)
    · have hw := hw.1 hc
      refine lv_aload_n hx hb dX1_winningColourFrom_13 rfl (lv_at hl 0 rfl) ?_
      refine xg_X1_4_35 S hI dX1_winningColourFrom_14 ?_
      refine lv_iload_n hx hb dX1_winningColourFrom_17 rfl (lv_at hl 1 rfl) ?_
      refine g_ci hg hS (g_runVN S hg hI hN hS (As := [.int a1]) (rest := []) (tX0_isBare l D ad cI rk ks kv  _ _ _ hw) cv_yX0_isBare (nm_X1_84 hN) (va_recv hI.2.1 hI.1 (ci := 0) (q0 := 2) rfl rfl) ⟨by show _ ≤ 5 + (d + 1); omega, by show _ ≤ 40 * (5 + (d + 1)); omega⟩ rfl hl.1 rfl (Nat.le_of_ble_eq_true rfl) dX1_winningColourFrom_18) (fun r1 u2 H locs hI hS hw => ?_)
      refine lv_if_ne (tgt := 32) hx hb dX1_winningColourFrom_21 (by decide) (fun hc => ?_) (fun hc => ?_)
      · have hw := hw.1 hc
        refine lv_iconst (v := (-1 : Int32)) hx hb dX1_winningColourFrom_32 (by decide) ?_
        refine lv_istore_n (lv' := [(2, .int (-1 : Int32)), (0, .ref (ad 4)), (1, .int a1)]) hx hb dX1_winningColourFrom_33 rfl hl (by decide) rfl (fun ls hl => ?_)
        refine lv_iconst (v := (0 : Int32)) hx hb dX1_winningColourFrom_34 (by decide) ?_
        refine lv_istore_n (lv' := [(3, .int (0 : Int32)), (2, .int (-1 : Int32)), (0, .ref (ad 4)), (1, .int a1)]) hx hb dX1_winningColourFrom_35 rfl hl (by decide) rfl (fun ls hl => ?_)
        obtain ⟨n, hw⟩ := hw
        refine L36 a1 _ n (-1 : Int32) (0 : Int32) u2 _ _ _ hI hS (lv_sub hl [2, 3, 1, 0] rfl) hw (fun x2_8 x3_9 u10 H locs ls hI hS hl hw => ?_)
        refine lv_aload_n hx hb dX1_winningColourFrom_95 rfl (lv_at hl 0 rfl) ?_
        refine xg_X1_4_9 S hI dX1_winningColourFrom_96 ?_
        refine lv_iload_n hx hb dX1_winningColourFrom_99 rfl (lv_at hl 1 rfl) ?_
        refine lv_iconst (v := (-1 : Int32)) hx hb dX1_winningColourFrom_100 (by decide) ?_
        refine x_putN (j := 6) S hI hN hS hl.1 (by decide) (nm_X1_39 hN) ⟨by show _ ≤ 5 + (d + 1); omega, by show _ ≤ 40 * (5 + (d + 1)); omega⟩ (Nat.le_of_ble_eq_true rfl) dX1_winningColourFrom_101 (fun H locs hI hS => ?_)
        refine lv_iload_n hx hb dX1_winningColourFrom_104 rfl (lv_at hl 2 rfl) ?_
        exact g_iret S hr hk hg hI hS dX1_winningColourFrom_105 hw
      · have hw := hw.2 hc
        refine lv_aload_n hx hb dX1_winningColourFrom_24 rfl (lv_at hl 0 rfl) ?_
        refine lv_iload_n hx hb dX1_winningColourFrom_25 rfl (lv_at hl 1 rfl) ?_
        refine lv_iconst (v := (1 : Int32)) hx hb dX1_winningColourFrom_26 (by decide) ?_
        refine lv_iadd hx hb dX1_winningColourFrom_27 ?_
        refine g_ci hg hS (g_runV S hg hI hN hS (As := [.int (a1 + (1 : Int32))]) (rest := []) (ih _ _ _ hw) cv_yX1_winningColourFrom qm_X1_103 (va_recv hI.2.1 hI.1 (ci := 1) (q0 := 4) rfl rfl) ⟨by show 5 + d + 1 ≤ 5 + (d + 1); omega, by show 8 + (4 + 11) + 40 * (5 + d) ≤ 40 * (5 + (d + 1)); omega⟩ rfl hl.1 rfl (Nat.le_of_ble_eq_true rfl) dX1_winningColourFrom_28) (fun r11 u12 H locs hI hS hw => ?_)
        exact g_iret S hr hk hg hI hS dX1_winningColourFrom_31 hw
    · have hw := hw.2 hc
      refine lv_iconst (v := (-1 : Int32)) hx hb dX1_winningColourFrom_11 (by decide) ?_
      exact g_iret S hr hk hg hI hS dX1_winningColourFrom_12 hw
set_option maxRecDepth 100000 in
set_option maxHeartbeats 4000000 in
theorem tX1_winningColour (l : Launch) (D : va_G) (ad : Nat → Nat) (cI : ClassId) (rk ks kv : Nat)   (u : SS) (post : Int32 → SS → Prop) (hw : wX1_winningColour   u post) : Met l yX1_winningColour (Cond.code yX1_winningColour cX1_winningColour 1 (some .int) :: XT) (Rm 26) (va_Pc [.ref (ad 4)] (Pr (xI D ad cI) (xN ad rk ks kv) u)) (va_Qi post (Po (xI D ad cI)) (xA ad)) 0 0 (xA ad) := by
  refine g_of (A := (xA ad)) (by decide) (Nat.le_of_ble_eq_true rfl) (lv := [(0, .ref (ad 4))]) rfl ?_
  intro p e s m below meth c ls S hr hk hI hN hS hl
  have hx := S.1
  have hb := S.2.1
  have ho := S.2.2.2.1
  have hg := @xG D ad cI rk ks kv
  refine lv_aload_n hx hb dX1_winningColour_0 rfl (lv_at hl 0 rfl) ?_
  refine xg_X1_4_35 S hI dX1_winningColour_1 ?_
  refine lv_aload_n hx hb dX1_winningColour_4 rfl (lv_at hl 0 rfl) ?_
  refine xg_X1_4_35 S hI dX1_winningColour_5 ?_
  refine xg_X1_2_53 S hN hI dX1_winningColour_8 ?_
  refine g_ci hg hS (g_runVN S hg hI hN hS (As := [.ref (ad 9)]) (rest := []) (tX0_badThrees l D ad cI rk ks kv 2 (by decide)  _ _ hw) cv_yX0_badThrees (nm_X1_95 hN) (va_recv hI.2.1 hI.1 (ci := 0) (q0 := 2) rfl rfl) ⟨Nat.le_of_ble_eq_true rfl, Nat.le_of_ble_eq_true rfl⟩ rfl hl.1 rfl (Nat.le_of_ble_eq_true rfl) dX1_winningColour_11) (fun r1 u2 H locs hI hS hw => ?_)
  refine lv_if_le (tgt := 19) hx hb dX1_winningColour_14 (by decide) (fun hc => ?_) (fun hc => ?_)
  · have hw := hw.1 hc
    refine lv_aload_n hx hb dX1_winningColour_19 rfl (lv_at hl 0 rfl) ?_
    refine xg_X1_4_35 S hI dX1_winningColour_20 ?_
    refine xg_X1_2_53 S hN hI dX1_winningColour_23 ?_
    refine lv_aload_n hx hb dX1_winningColour_26 rfl (lv_at hl 0 rfl) ?_
    refine xg_X1_4_9 S hI dX1_winningColour_27 ?_
    refine x_cpyN (jf := 2) (jt := 6) S hI hN hS hl.1 (by decide) (by decide) (by decide) (nm_X1_99 hN) ⟨Nat.le_of_ble_eq_true rfl, Nat.le_of_ble_eq_true rfl⟩ (Nat.le_of_ble_eq_true rfl) dX1_winningColour_30 (fun H locs hI hS => ?_)
    refine lv_aload_n hx hb dX1_winningColour_33 rfl (lv_at hl 0 rfl) ?_
    refine lv_iconst (v := (1 : Int32)) hx hb dX1_winningColour_34 (by decide) ?_
    obtain ⟨d, hd, hw⟩ := hw
    refine g_ci hg hS (g_runV S hg hI hN hS (As := [.int (1 : Int32)]) (rest := []) (tX1_winningColourFrom l D ad cI rk ks kv d _ _ _ hw) cv_yX1_winningColourFrom qm_X1_103 (va_recv hI.2.1 hI.1 (ci := 1) (q0 := 4) rfl rfl) ⟨by show 5 + d + 1 ≤ 26; omega, by show 8 + (4 + 11) + 40 * (5 + d) ≤ 40 * 26; omega⟩ rfl hl.1 rfl (Nat.le_of_ble_eq_true rfl) dX1_winningColour_35) (fun r3 u4 H locs hI hS hw => ?_)
    exact g_iret S hr hk hg hI hS dX1_winningColour_38 hw
  · have hw := hw.2 hc
    refine lv_iconst (v := (-1 : Int32)) hx hb dX1_winningColour_17 (by decide) ?_
    exact g_iret S hr hk hg hI hS dX1_winningColour_18 hw
set_option maxRecDepth 100000 in
set_option maxHeartbeats 4000000 in
theorem tX4_wins (l : Launch) (D : va_G) (ad : Nat → Nat) (cI : ClassId) (rk ks kv : Nat)  (a1 : Int32) (u : SS) (post : Int32 → SS → Prop) (hw : wX4_wins  a1 u post) : Met l yX4_wins (Cond.code yX4_wins cX4_wins 3 (some .int) :: XT) (Rm 27) (va_Pc [.ref (ad 0), .int a1] (Pr (xI D ad cI) (xN ad rk ks kv) u)) (va_Qi post (Po (xI D ad cI)) (xA ad)) 0 0 (xA ad) := by
  refine g_of (A := (xA ad)) (by decide) (Nat.le_of_ble_eq_true rfl) (lv := [(0, .ref (ad 0)), (1, .int a1)]) rfl ?_
  intro p e s m below meth c ls S hr hk hI hN hS hl
  have hx := S.1
  have hb := S.2.1
  have ho := S.2.2.2.1
  have hg := @xG D ad cI rk ks kv
  refine lv_iload_n hx hb dX4_wins_0 rfl (lv_at hl 1 rfl) ?_
  refine lv_if_lt (tgt := 9) hx hb dX4_wins_1 (by decide) (fun hc => ?_) (fun hc => ?_)
  · have hw := hw.1 hc
    refine lv_bipush (v := (-102 : Int32)) hx hb dX4_wins_9 (by decide) ?_
    exact g_iret S hr hk hg hI hS dX4_wins_11 hw
  · have hw := hw.2 hc
    refine lv_iload_n hx hb dX4_wins_4 rfl (lv_at hl 1 rfl) ?_
    refine lv_iconst (v := (1 : Int32)) hx hb dX4_wins_5 (by decide) ?_
    refine lv_icmp_le (tgt := 12) hx hb dX4_wins_6 (by decide) (fun hc => ?_) (fun hc => ?_)
    · have hw := hw.1 hc
      refine lv_aload_n hx hb dX4_wins_12 rfl (lv_at hl 0 rfl) ?_
      refine xg_X4_0_19 S hI dX4_wins_13 ?_
      refine g_ci hg hS (g_runVN S hg hI hN hS (As := []) (rest := []) (tX0_isThere l D ad cI rk ks kv   _ _ hw) cv_yX0_isThere (nm_X4_140 hN) (va_recv hI.2.1 hI.1 (ci := 0) (q0 := 2) rfl rfl) ⟨Nat.le_of_ble_eq_true rfl, Nat.le_of_ble_eq_true rfl⟩ rfl hl.1 rfl (Nat.le_of_ble_eq_true rfl) dX4_wins_16) (fun r1 u2 H locs hI hS hw => ?_)
      refine lv_if_ne (tgt := 25) hx hb dX4_wins_19 (by decide) (fun hc => ?_) (fun hc => ?_)
      · have hw := hw.1 hc
        refine lv_aload_n hx hb dX4_wins_25 rfl (lv_at hl 0 rfl) ?_
        refine xg_X4_0_35 S hI dX4_wins_26 ?_
        refine g_ci hg hS (g_runVN S hg hI hN hS (As := []) (rest := []) (tX1_winningColour l D ad cI rk ks kv   _ _ hw) cv_yX1_winningColour (nm_X4_152 hN) (va_recv hI.2.1 hI.1 (ci := 1) (q0 := 4) rfl rfl) ⟨Nat.le_of_ble_eq_true rfl, Nat.le_of_ble_eq_true rfl⟩ rfl hl.1 rfl (Nat.le_of_ble_eq_true rfl) dX4_wins_29) (fun r3 u4 H locs hI hS hw => ?_)
        refine lv_istore_n (lv' := [(2, .int r3), (0, .ref (ad 0)), (1, .int a1)]) hx hb dX4_wins_32 rfl hl (by decide) rfl (fun ls hl => ?_)
        refine lv_iload_n hx hb dX4_wins_33 rfl (lv_at hl 2 rfl) ?_
        refine lv_iconst (v := (1 : Int32)) hx hb dX4_wins_34 (by decide) ?_
        refine lv_icmp_ne (tgt := 40) hx hb dX4_wins_35 (by decide) (fun hc => ?_) (fun hc => ?_)
        · have hw := hw.1 hc
          refine lv_iload_n hx hb dX4_wins_40 rfl (lv_at hl 0 rfl) ?_
          refine lv_iconst (v := (-1 : Int32)) hx hb dX4_wins_41 (by decide) ?_
          refine lv_icmp_ne (tgt := 49) hx hb dX4_wins_42 (by decide) (fun hc => ?_) (fun hc => ?_)
          · have hw := hw.1 hc
            refine lv_iconst (v := (1 : Int32)) hx hb dX4_wins_49 (by decide) ?_
            exact g_iret S hr hk hg hI hS dX4_wins_50 hw
          · have hw := hw.2 hc
            refine lv_iconst (v := (0 : Int32)) hx hb dX4_wins_45 (by decide) ?_
            refine lv_goto (tgt := 50) hx hb dX4_wins_46 (by decide) ?_
            exact g_iret S hr hk hg hI hS dX4_wins_50 hw
        · have hw := hw.2 hc
          refine lv_iload_n hx hb dX4_wins_38 rfl (lv_at hl 0 rfl) ?_
          exact g_iret S hr hk hg hI hS dX4_wins_39 hw
      · have hw := hw.2 hc
        refine lv_bipush (v := (-103 : Int32)) hx hb dX4_wins_22 (by decide) ?_
        exact g_iret S hr hk hg hI hS dX4_wins_24 hw
    · have hw := hw.2 hc
      refine lv_bipush (v := (-102 : Int32)) hx hb dX4_wins_9 (by decide) ?_
      exact g_iret S hr hk hg hI hS dX4_wins_11 hw
