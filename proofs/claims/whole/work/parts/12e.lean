set_option maxRecDepth 100000 in
set_option maxHeartbeats 4000000 in
theorem tX5_see (l : Launch) (D : va_G) (ad : Nat → Nat) (cI cB : ClassId)  (a1 : Int32) (a2 : Int32) (a3 : Int32) (u : SS) (post : Int32 → SS → Prop) (hw : wX5_see  a1 a2 a3 u post) : Met l yX5_see (Cond.code yX5_see cX5_see 4 (some .int) :: XT) (Rm 3) (va_Pc [.ref (ad 0), .int a1, .int a2, .int a3] (Pr (mI D ad cI cB) mN u)) (va_Qi post (Po (mI D ad cI cB)) (mA ad)) 0 0 (mA ad) := by
  refine g_of (A := (mA ad)) (by decide) (Nat.le_of_ble_eq_true rfl) (lv := [(0, .ref (ad 0)), (1, .int a1), (2, .int a2), (3, .int a3)]) rfl ?_
  intro p e s m below meth c ls S hr hk hI hN hS hl
  have hx := S.1
  have hb := S.2.1
  have ho := S.2.2.2.1
  have hg := @mG D ad cI cB
  refine lv_aload_n hx hb dX5_see_0 rfl (lv_at hl 0 rfl) ?_
  refine lv_iload_n hx hb dX5_see_1 rfl (lv_at hl 1 rfl) ?_
  refine g_ci hg hS (g_runV S hg hI hN hS (As := [.int a1]) (rest := []) (tX5_isNumber l D ad cI cB  _ _ _ hw) cv_yX5_isNumber qm_X5_149 (va_recv hI.2.1 hI.1 (ci := 5) (q0 := 0) rfl rfl) ⟨Nat.le_of_ble_eq_true rfl, Nat.le_of_ble_eq_true rfl⟩ rfl hl.1 rfl (Nat.le_of_ble_eq_true rfl) dX5_see_2) (fun r1 u2 H locs hI hS hw => ?_)
  refine lv_if_ne (tgt := 11) hx hb dX5_see_5 (by decide) (fun hc => ?_) (fun hc => ?_)
  · have hw := hw.1 hc
    refine lv_iload_n hx hb dX5_see_11 rfl (lv_at hl 2 rfl) ?_
    refine lv_iconst (v := (0 : Int32)) hx hb dX5_see_12 (by decide) ?_
    refine lv_iconst (v := (2 : Int32)) hx hb dX5_see_13 (by decide) ?_
    refine g_ci hg hS (g_runS S hg hI hN hS (As := [.int a2, .int (0 : Int32), .int (2 : Int32)]) (rest := []) (tX5_within l D ad cI cB  _ _ _ _ _ hw) cs_yX5_within qm_X5_65 ⟨Nat.le_of_ble_eq_true rfl, Nat.le_of_ble_eq_true rfl⟩ rfl hl.1 rfl (Nat.le_of_ble_eq_true rfl) dX5_see_14) (fun r3 u4 H locs hI hS hw => ?_)
    refine lv_if_ne (tgt := 23) hx hb dX5_see_17 (by decide) (fun hc => ?_) (fun hc => ?_)
    · have hw := hw.1 hc
      refine lv_aload_n hx hb dX5_see_23 rfl (lv_at hl 0 rfl) ?_
      refine mg_X5_0_110 S hI dX5_see_24 ?_
      refine lv_bipush (v := (6 : Int32)) hx hb dX5_see_27 (by decide) ?_
      refine lv_icmp_ne (tgt := 35) hx hb dX5_see_29 (by decide) (fun hc => ?_) (fun hc => ?_)
      · have hw := hw.1 hc
        refine lv_aload_n hx hb dX5_see_35 rfl (lv_at hl 0 rfl) ?_
        refine mg_X5_0_16 S hI dX5_see_36 ?_
        refine lv_aload_n hx hb dX5_see_39 rfl (lv_at hl 0 rfl) ?_
        refine mg_X5_0_110 S hI dX5_see_40 ?_
        refine lv_iload_n hx hb dX5_see_43 rfl (lv_at hl 1 rfl) ?_
        obtain ⟨hv, hw⟩ := hw
        refine mst_2 S hI hS hv dX5_see_44 (fun H locs hI hS => ?_)
        refine lv_aload_n hx hb dX5_see_45 rfl (lv_at hl 0 rfl) ?_
        refine mg_X5_0_19 S hI dX5_see_46 ?_
        refine lv_aload_n hx hb dX5_see_49 rfl (lv_at hl 0 rfl) ?_
        refine mg_X5_0_110 S hI dX5_see_50 ?_
        refine lv_iload_n hx hb dX5_see_53 rfl (lv_at hl 2 rfl) ?_
        obtain ⟨hv, hw⟩ := hw
        refine mst_3 S hI hS hv dX5_see_54 (fun H locs hI hS => ?_)
        refine lv_aload_n hx hb dX5_see_55 rfl (lv_at hl 0 rfl) ?_
        refine mg_X5_0_22 S hI dX5_see_56 ?_
        refine lv_aload_n hx hb dX5_see_59 rfl (lv_at hl 0 rfl) ?_
        refine mg_X5_0_110 S hI dX5_see_60 ?_
        refine lv_iload_n hx hb dX5_see_63 rfl (lv_at hl 3 rfl) ?_
        refine lv_if_eq (tgt := 71) hx hb dX5_see_64 (by decide) (fun hc => ?_) (fun hc => ?_)
        · have hw := hw.1 hc
          refine lv_iconst (v := (0 : Int32)) hx hb dX5_see_71 (by decide) ?_
          obtain ⟨hv, hw⟩ := hw
          refine mst_4 S hI hS hv dX5_see_72 (fun H locs hI hS => ?_)
          refine lv_aload_n hx hb dX5_see_73 rfl (lv_at hl 0 rfl) ?_
          refine lv_dup hx hb dX5_see_74 rfl ?_
          refine mg_X5_0_110 S hI dX5_see_75 ?_
          refine lv_iconst (v := (1 : Int32)) hx hb dX5_see_78 (by decide) ?_
          refine lv_iadd hx hb dX5_see_79 ?_
          refine mp_X5_0_110 S hI hS dX5_see_80 (fun H locs hI hS => ?_)
          refine lv_aload_n hx hb dX5_see_83 rfl (lv_at hl 0 rfl) ?_
          refine mg_X5_0_110 S hI dX5_see_84 ?_
          exact g_iret S hr hk hg hI hS dX5_see_87 hw
        · have hw := hw.2 hc
          refine lv_iconst (v := (1 : Int32)) hx hb dX5_see_67 (by decide) ?_
          refine lv_goto (tgt := 72) hx hb dX5_see_68 (by decide) ?_
          obtain ⟨hv, hw⟩ := hw
          refine mst_4 S hI hS hv dX5_see_72 (fun H locs hI hS => ?_)
          refine lv_aload_n hx hb dX5_see_73 rfl (lv_at hl 0 rfl) ?_
          refine lv_dup hx hb dX5_see_74 rfl ?_
          refine mg_X5_0_110 S hI dX5_see_75 ?_
          refine lv_iconst (v := (1 : Int32)) hx hb dX5_see_78 (by decide) ?_
          refine lv_iadd hx hb dX5_see_79 ?_
          refine mp_X5_0_110 S hI hS dX5_see_80 (fun H locs hI hS => ?_)
          refine lv_aload_n hx hb dX5_see_83 rfl (lv_at hl 0 rfl) ?_
          refine mg_X5_0_110 S hI dX5_see_84 ?_
          exact g_iret S hr hk hg hI hS dX5_see_87 hw
      · have hw := hw.2 hc
        refine lv_bipush (v := (-104 : Int32)) hx hb dX5_see_32 (by decide) ?_
        exact g_iret S hr hk hg hI hS dX5_see_34 hw
    · have hw := hw.2 hc
      refine lv_bipush (v := (-102 : Int32)) hx hb dX5_see_20 (by decide) ?_
      exact g_iret S hr hk hg hI hS dX5_see_22 hw
  · have hw := hw.2 hc
    refine lv_bipush (v := (-101 : Int32)) hx hb dX5_see_8 (by decide) ?_
    exact g_iret S hr hk hg hI hS dX5_see_10 hw
set_option maxRecDepth 100000 in
set_option maxHeartbeats 4000000 in
theorem tX5_forget (l : Launch) (D : va_G) (ad : Nat → Nat) (cI cB : ClassId)   (u : SS) (post : Int32 → SS → Prop) (hw : wX5_forget   u post) : Met l yX5_forget (Cond.code yX5_forget cX5_forget 2 (some .int) :: XT) (Rm 1) (va_Pc [.ref (ad 0)] (Pr (mI D ad cI cB) mN u)) (va_Qi post (Po (mI D ad cI cB)) (mA ad)) 0 0 (mA ad) := by
  refine g_of (A := (mA ad)) (by decide) (Nat.le_of_ble_eq_true rfl) (lv := [(0, .ref (ad 0))]) rfl ?_
  intro p e s m below meth c ls S hr hk hI hN hS hl
  have hx := S.1
  have hb := S.2.1
  have ho := S.2.2.2.1
  have hg := @mG D ad cI cB
  refine lv_aload_n hx hb dX5_forget_0 rfl (lv_at hl 0 rfl) ?_
  refine mg_X5_0_110 S hI dX5_forget_1 ?_
  refine lv_istore_n (lv' := [(1, .int (u.1 4)), (0, .ref (ad 0))]) hx hb dX5_forget_4 rfl hl (by decide) rfl (fun ls hl => ?_)
  refine lv_aload_n hx hb dX5_forget_5 rfl (lv_at hl 1 rfl) ?_
  refine lv_iconst (v := (0 : Int32)) hx hb dX5_forget_6 (by decide) ?_
  refine mp_X5_0_110 S hI hS dX5_forget_7 (fun H locs hI hS => ?_)
  refine lv_iload_n hx hb dX5_forget_10 rfl (lv_at hl 0 rfl) ?_
  exact g_iret S hr hk hg hI hS dX5_forget_11 hw
set_option maxRecDepth 100000 in
set_option maxHeartbeats 4000000 in
theorem tX5_draw (l : Launch) (D : va_G) (ad : Nat → Nat) (cI cB : ClassId)  (a1 : Int32) (u : SS) (post : Int32 → SS → Prop) (hw : wX5_draw  a1 u post) : Met l yX5_draw (Cond.code yX5_draw cX5_draw 2 (some .int) :: XT) (Rm 1) (va_Pc [.ref (ad 0), .int a1] (Pr (mI D ad cI cB) mN u)) (va_Qi post (Po (mI D ad cI cB)) (mA ad)) 0 0 (mA ad) := by
  refine g_of (A := (mA ad)) (by decide) (Nat.le_of_ble_eq_true rfl) (lv := [(0, .ref (ad 0)), (1, .int a1)]) rfl ?_
  intro p e s m below meth c ls S hr hk hI hN hS hl
  have hx := S.1
  have hb := S.2.1
  have ho := S.2.2.2.1
  have hg := @mG D ad cI cB
  refine lv_aload_n hx hb dX5_draw_0 rfl (lv_at hl 0 rfl) ?_
  refine lv_ldc2 (v := (1103515245 : Int64)) hx hb ho (g_in S ql_X5_209) dX5_draw_1 ?_
  refine lv_aload_n hx hb dX5_draw_4 rfl (lv_at hl 0 rfl) ?_
  refine mg_X5_0_211 S hI dX5_draw_5 ?_
  refine lv_lmul hx hb dX5_draw_8 ?_
  refine lv_ldc2 (v := (12345 : Int64)) hx hb ho (g_in S ql_X5_215) dX5_draw_9 ?_
  refine lv_ladd hx hb dX5_draw_12 ?_
  refine lv_ldc2 (v := (2147483647 : Int64)) hx hb ho (g_in S ql_X5_217) dX5_draw_13 ?_
  refine lv_land hx hb dX5_draw_16 ?_
  refine mp_X5_0_211 S hI hS dX5_draw_17 (fun H locs hI hS => ?_)
  refine lv_aload_n hx hb dX5_draw_20 rfl (lv_at hl 0 rfl) ?_
  refine mg_X5_0_211 S hI dX5_draw_21 ?_
  refine lv_ldc2 (v := (65536 : Int64)) hx hb ho (g_in S ql_X5_219) dX5_draw_24 ?_
  refine lv_ldiv hx hb dX5_draw_27 (by decide) ?_
  refine lv_iload_n hx hb dX5_draw_28 rfl (lv_at hl 1 rfl) ?_
  refine lv_i2l (v := a1.toInt64) hx hb dX5_draw_29 rfl ?_
  obtain ⟨hv, hw⟩ := hw
  refine lv_lrem hx hb dX5_draw_30 hv ?_
  refine lv_l2i (v := ((((sL u 0 ((((1103515245 : Int64) * (u.2.1 0)) + (12345 : Int64)) &&& (2147483647 : Int64))).2.1 0) / (65536 : Int64)) - (((sL u 0 ((((1103515245 : Int64) * (u.2.1 0)) + (12345 : Int64)) &&& (2147483647 : Int64))).2.1 0) / (65536 : Int64)) / a1.toInt64 * a1.toInt64).toInt32) hx hb dX5_draw_31 rfl ?_
  exact g_iret S hr hk hg hI hS dX5_draw_32 hw
set_option maxRecDepth 100000 in
set_option maxHeartbeats 4000000 in
theorem tX5_paintingsNow (l : Launch) (D : va_G) (ad : Nat → Nat) (cI cB : ClassId)  (a1 : Int32) (a2 : Int32) (a3 : Int32) (u : SS) (post : Int32 → SS → Prop) (hw : wX5_paintingsNow  a1 a2 a3 u post) : Met l yX5_paintingsNow (Cond.code yX5_paintingsNow cX5_paintingsNow 8 (some .int) :: XT) (Rm 5) (va_Pc [.ref (ad 0), .int a1, .int a2, .int a3] (Pr (mI D ad cI cB) mN u)) (va_Qi post (Po (mI D ad cI cB)) (mA ad)) 0 0 (mA ad) := by
  refine g_of (A := (mA ad)) (by decide) (Nat.le_of_ble_eq_true rfl) (lv := [(0, .ref (ad 0)), (1, .int a1), (2, .int a2), (3, .int a3)]) rfl ?_
  intro p e s m below meth c ls S hr hk hI hN hS hl
  have hx := S.1
  have hb := S.2.1
  have ho := S.2.2.2.1
  have hg := @mG D ad cI cB
  have L28 : ∀ (x1_28 : Int32) (x2_28 : Int32) (x3_28 : Int32) (x4_28 : Int32) (x5_28 : Int32) (x6_28 : Int32) (K28 : Int32 → SS → Prop) (n : Nat) (x7_28 : Int32) (u4 : SS) (H : Heap) (locs : List Loc) (ls : Array Slot), mI D ad cI cB u4 s H → va_S (mA ad) s.heap H locs → lv_has ls 8 [(0, .ref (ad 0)), (1, .int x1_28), (2, .int x2_28), (3, .int x3_28), (4, .int x4_28), (5, .int x5_28), (6, .int x6_28), (7, .int x7_28)] → wX5_paintingsNow_28 post x1_28 x2_28 x3_28 x4_28 x5_28 x6_28 K28 n x7_28 u4 → (∀ (x7_28 : Int32) (u4 : SS) (H : Heap) (locs : List Loc) (ls : Array Slot), mI D ad cI cB u4 s H → va_S (mA ad) s.heap H locs → lv_has ls 8 [(0, .ref (ad 0)), (1, .int x1_28), (2, .int x2_28), (3, .int x3_28), (4, .int x4_28), (5, .int x5_28), (6, .int x6_28), (7, .int x7_28)] → K28 x7_28 u4 → W p l e (Rm 5) s m [.ref (ad 0), .int a1, .int a2, .int a3].toArray below meth c H locs 0 0 (MQ below (va_Qi post (Po (mI D ad cI cB)) (mA ad)) [.ref (ad 0), .int a1, .int a2, .int a3].toArray s 0 0 (mA ad)) (F0 m 79 ls [])) → W p l e (Rm 5) s m [.ref (ad 0), .int a1, .int a2, .int a3].toArray below meth c H locs 0 0 (MQ below (va_Qi post (Po (mI D ad cI cB)) (mA ad)) [.ref (ad 0), .int a1, .int a2, .int a3].toArray s 0 0 (mA ad)) (F0 m 28 ls []) := by
    intro x1_28 x2_28 x3_28 x4_28 x5_28 x6_28 K28 n
    induction n with
    | zero => intro x7_28 u4 H locs ls hI hS hl hw hK28; exact False.elim hw
    | succ n28 ih28 =>
      intro x7_28 u4 H locs ls hI hS hl hw hK28
      refine lv_iload hx hb dX5_paintingsNow_28 (lv_at hl 7 rfl) ?_
      refine lv_aload_n hx hb dX5_paintingsNow_30 rfl (lv_at hl 0 rfl) ?_
      refine mg_X5_0_101 S hI dX5_paintingsNow_31 ?_
      refine lv_icmp_gt (tgt := 79) hx hb dX5_paintingsNow_34 (by decide) (fun hc => ?_) (fun hc => ?_)
      · have hw := hw.1 hc
        exact hK28 x7_28 u4 _ _ _ hI hS (lv_sub hl [0, 1, 2, 3, 4, 5, 6, 7] rfl) hw
      · have hw := hw.2 hc
        refine lv_aload_n hx hb dX5_paintingsNow_37 rfl (lv_at hl 0 rfl) ?_
        refine mg_X5_0_29 S hI dX5_paintingsNow_38 ?_
        refine lv_iload hx hb dX5_paintingsNow_41 (lv_at hl 7 rfl) ?_
        refine lv_aload_n hx hb dX5_paintingsNow_43 rfl (lv_at hl 0 rfl) ?_
        refine mg_X5_0_29 S hI dX5_paintingsNow_44 ?_
        refine lv_iload hx hb dX5_paintingsNow_47 (lv_at hl 7 rfl) ?_
        obtain ⟨hv, hw⟩ := hw
        refine mld_6 S hI hv dX5_paintingsNow_49 ?_
        refine lv_iconst (v := (-1 : Int32)) hx hb dX5_paintingsNow_50 (by decide) ?_
        refine lv_icmp_ne (tgt := 65) hx hb dX5_paintingsNow_51 (by decide) (fun hc => ?_) (fun hc => ?_)
        · have hw := hw.1 hc
          refine lv_aload_n hx hb dX5_paintingsNow_65 rfl (lv_at hl 0 rfl) ?_
          refine mg_X5_0_29 S hI dX5_paintingsNow_66 ?_
          refine lv_iload hx hb dX5_paintingsNow_69 (lv_at hl 7 rfl) ?_
          obtain ⟨hv, hw⟩ := hw
          refine mld_6 S hI hv dX5_paintingsNow_71 ?_
          obtain ⟨hv, hw⟩ := hw
          refine mst_6 S hI hS hv dX5_paintingsNow_72 (fun H locs hI hS => ?_)
          refine lv_iinc (v := x7_28 + 1) (lv' := [(7, .int (x7_28 + 1)), (0, .ref (ad 0)), (1, .int x1_28), (2, .int x2_28), (3, .int x3_28), (4, .int x4_28), (5, .int x5_28), (6, .int x6_28)]) hx hb dX5_paintingsNow_73 hl (k := 7) rfl (congrArg (fun z => x7_28 + z) (by decide)) (by decide) rfl (fun ls hl => ?_)
          refine lv_goto (tgt := 28) hx hb dX5_paintingsNow_76 (by decide) ?_
          exact ih28 (x7_28 + 1) (sA u4 6 x7_28.toNatClampNeg (u4.2.2 6 x7_28.toNatClampNeg)) _ _ _ hI hS (lv_sub hl [1, 2, 3, 4, 5, 6, 7, 0] rfl) hw hK28
        · have hw := hw.2 hc
          refine lv_aload_n hx hb dX5_paintingsNow_54 rfl (lv_at hl 0 rfl) ?_
          refine lv_aload_n hx hb dX5_paintingsNow_55 rfl (lv_at hl 0 rfl) ?_
          refine mg_X5_0_98 S hI dX5_paintingsNow_56 ?_
          refine g_ci hg hS (g_runV S hg hI hN hS (As := [.int (u4.1 2)]) (rest := [.int x7_28, .ref (ad 7)]) (tX5_draw l D ad cI cB  _ _ _ hw) cv_yX5_draw qm_X5_221 (va_recv hI.2.1 hI.1 (ci := 5) (q0 := 0) rfl rfl) ⟨Nat.le_of_ble_eq_true rfl, Nat.le_of_ble_eq_true rfl⟩ rfl hl.1 rfl (Nat.le_of_ble_eq_true rfl) dX5_paintingsNow_59) (fun r5 u6 H locs hI hS hw => ?_)
          refine lv_goto (tgt := 72) hx hb dX5_paintingsNow_62 (by decide) ?_
          obtain ⟨hv, hw⟩ := hw
          refine mst_6 S hI hS hv dX5_paintingsNow_72 (fun H locs hI hS => ?_)
          refine lv_iinc (v := x7_28 + 1) (lv' := [(7, .int (x7_28 + 1)), (0, .ref (ad 0)), (1, .int x1_28), (2, .int x2_28), (3, .int x3_28), (4, .int x4_28), (5, .int x5_28), (6, .int x6_28)]) hx hb dX5_paintingsNow_73 hl (k := 7) rfl (congrArg (fun z => x7_28 + z) (by decide)) (by decide) rfl (fun ls hl => ?_)
          refine lv_goto (tgt := 28) hx hb dX5_paintingsNow_76 (by decide) ?_
          exact ih28 (x7_28 + 1) (sA u6 6 x7_28.toNatClampNeg r5) _ _ _ hI hS (lv_sub hl [1, 2, 3, 4, 5, 6, 7, 0] rfl) hw hK28
  have L15 : ∀ (x1_15 : Int32) (x2_15 : Int32) (x3_15 : Int32) (K15 : Int32 → Int32 → Int32 → SS → Prop) (n : Nat) (x4_15 : Int32) (x5_15 : Int32) (x6_15 : Int32) (u1 : SS) (H : Heap) (locs : List Loc) (ls : Array Slot), mI D ad cI cB u1 s H → va_S (mA ad) s.heap H locs → lv_has ls 8 [(0, .ref (ad 0)), (1, .int x1_15), (2, .int x2_15), (3, .int x3_15), (4, .int x4_15), (5, .int x5_15), (6, .int x6_15)] → wX5_paintingsNow_15 post x1_15 x2_15 x3_15 K15 n x4_15 x5_15 x6_15 u1 → (∀ (x4_15 : Int32) (x5_15 : Int32) (x6_15 : Int32) (u1 : SS) (H : Heap) (locs : List Loc) (ls : Array Slot), mI D ad cI cB u1 s H → va_S (mA ad) s.heap H locs → lv_has ls 8 [(0, .ref (ad 0)), (1, .int x1_15), (2, .int x2_15), (3, .int x3_15), (4, .int x4_15), (5, .int x5_15), (6, .int x6_15)] → K15 x4_15 x5_15 x6_15 u1 → W p l e (Rm 5) s m [.ref (ad 0), .int a1, .int a2, .int a3].toArray below meth c H locs 0 0 (MQ below (va_Qi post (Po (mI D ad cI cB)) (mA ad)) [.ref (ad 0), .int a1, .int a2, .int a3].toArray s 0 0 (mA ad)) (F0 m 117 ls [])) → W p l e (Rm 5) s m [.ref (ad 0), .int a1, .int a2, .int a3].toArray below meth c H locs 0 0 (MQ below (va_Qi post (Po (mI D ad cI cB)) (mA ad)) [.ref (ad 0), .int a1, .int a2, .int a3].toArray s 0 0 (mA ad)) (F0 m 15 ls []) := by
    intro x1_15 x2_15 x3_15 K15 n
    induction n with
    | zero => intro x4_15 x5_15 x6_15 u1 H locs ls hI hS hl hw hK15; exact False.elim hw
    | succ n15 ih15 =>
      intro x4_15 x5_15 x6_15 u1 H locs ls hI hS hl hw hK15
      refine lv_iload hx hb dX5_paintingsNow_15 (lv_at hl 6 rfl) ?_
      refine lv_iload_n hx hb dX5_paintingsNow_17 rfl (lv_at hl 1 rfl) ?_
      refine lv_icmp_ge (tgt := 117) hx hb dX5_paintingsNow_18 (by decide) (fun hc => ?_) (fun hc => ?_)
      · have hw := hw.1 hc
        exact hK15 x4_15 x5_15 x6_15 u1 _ _ _ hI hS (lv_sub hl [0, 1, 2, 3, 4, 5, 6] rfl) hw
      · have hw := hw.2 hc
        refine lv_aload_n hx hb dX5_paintingsNow_21 rfl (lv_at hl 0 rfl) ?_
        refine g_cv hg hS (g_runV S hg hI hN hS (As := []) (rest := []) (tX5_layNow l D ad cI cB   _ _ hw) cv_yX5_layNow qm_X5_128 (va_recv hI.2.1 hI.1 (ci := 5) (q0 := 0) rfl rfl) ⟨Nat.le_of_ble_eq_true rfl, Nat.le_of_ble_eq_true rfl⟩ rfl hl.1 rfl (Nat.le_of_ble_eq_true rfl) dX5_paintingsNow_22) (fun u3 H locs hI hS hw => ?_)
        refine lv_iconst (v := (1 : Int32)) hx hb dX5_paintingsNow_25 (by decide) ?_
        refine lv_istore (lv' := [(7, .int (1 : Int32)), (0, .ref (ad 0)), (1, .int x1_15), (2, .int x2_15), (3, .int x3_15), (4, .int x4_15), (5, .int x5_15), (6, .int x6_15)]) hx hb dX5_paintingsNow_26 hl (by decide) rfl (fun ls hl => ?_)
        obtain ⟨n, hw⟩ := hw
        refine L28 x1_15 x2_15 x3_15 x4_15 x5_15 x6_15 _ n (1 : Int32) u3 _ _ _ hI hS (lv_sub hl [1, 2, 3, 4, 5, 6, 7, 0] rfl) hw (fun x7_7 u8 H locs ls hI hS hl hw => ?_)
        refine lv_aload_n hx hb dX5_paintingsNow_79 rfl (lv_at hl 0 rfl) ?_
        refine lv_aload_n hx hb dX5_paintingsNow_80 rfl (lv_at hl 0 rfl) ?_
        refine mg_X5_0_101 S hI dX5_paintingsNow_81 ?_
        refine g_ci hg hS (g_runV S hg hI hN hS (As := [.int (u8.1 1)]) (rest := []) (tX5_badUpTo l D ad cI cB  _ _ _ hw) cv_yX5_badUpTo qm_X5_131 (va_recv hI.2.1 hI.1 (ci := 5) (q0 := 0) rfl rfl) ⟨Nat.le_of_ble_eq_true rfl, Nat.le_of_ble_eq_true rfl⟩ rfl hl.1 rfl (Nat.le_of_ble_eq_true rfl) dX5_paintingsNow_84) (fun r9 u10 H locs hI hS hw => ?_)
        refine lv_istore (lv' := [(7, .int r9), (0, .ref (ad 0)), (1, .int x1_15), (2, .int x2_15), (3, .int x3_15), (4, .int x4_15), (5, .int x5_15), (6, .int x6_15)]) hx hb dX5_paintingsNow_87 hl (by decide) rfl (fun ls hl => ?_)
        refine lv_iload hx hb dX5_paintingsNow_89 (lv_at hl 5 rfl) ?_
        refine lv_iload hx hb dX5_paintingsNow_91 (lv_at hl 0 rfl) ?_
        refine lv_if_ne (tgt := 100) hx hb dX5_paintingsNow_93 (by decide) (fun hc => ?_) (fun hc => ?_)
        · have hw := hw.1 hc
          refine lv_iconst (v := (0 : Int32)) hx hb dX5_paintingsNow_100 (by decide) ?_
          refine lv_iadd hx hb dX5_paintingsNow_101 ?_
          refine lv_istore (lv' := [(4, .int (x4_15 + (0 : Int32))), (7, .int r9), (0, .ref (ad 0)), (1, .int x1_15), (2, .int x2_15), (3, .int x3_15), (5, .int x5_15), (6, .int x6_15)]) hx hb dX5_paintingsNow_102 hl (by decide) rfl (fun ls hl => ?_)
          refine lv_iload hx hb dX5_paintingsNow_104 (lv_at hl 6 rfl) ?_
          refine lv_iload hx hb dX5_paintingsNow_106 (lv_at hl 1 rfl) ?_
          refine lv_iadd hx hb dX5_paintingsNow_108 ?_
          refine lv_istore (lv' := [(5, .int (x5_15 + r9)), (4, .int (x4_15 + (0 : Int32))), (7, .int r9), (0, .ref (ad 0)), (1, .int x1_15), (2, .int x2_15), (3, .int x3_15), (6, .int x6_15)]) hx hb dX5_paintingsNow_109 hl (by decide) rfl (fun ls hl => ?_)
          refine lv_iinc (v := x6_15 + 1) (lv' := [(6, .int (x6_15 + 1)), (5, .int (x5_15 + r9)), (4, .int (x4_15 + (0 : Int32))), (7, .int r9), (0, .ref (ad 0)), (1, .int x1_15), (2, .int x2_15), (3, .int x3_15)]) hx hb dX5_paintingsNow_111 hl (k := 7) rfl (congrArg (fun z => x6_15 + z) (by decide)) (by decide) rfl (fun ls hl => ?_)
          refine lv_goto (tgt := 15) hx hb dX5_paintingsNow_114 (by decide) ?_
          exact ih15 (x4_15 + (0 : Int32)) (x5_15 + r9) (x6_15 + 1) u10 _ _ _ hI hS (lv_sub hl [4, 5, 6, 7, 2, 1, 0] rfl) hw hK15
        · have hw := hw.2 hc
          refine lv_iconst (v := (1 : Int32)) hx hb dX5_paintingsNow_96 (by decide) ?_
          refine lv_goto (tgt := 101) hx hb dX5_paintingsNow_97 (by decide) ?_
          refine lv_iadd hx hb dX5_paintingsNow_101 ?_
          refine lv_istore (lv' := [(4, .int (x4_15 + (1 : Int32))), (7, .int r9), (0, .ref (ad 0)), (1, .int x1_15), (2, .int x2_15), (3, .int x3_15), (5, .int x5_15), (6, .int x6_15)]) hx hb dX5_paintingsNow_102 hl (by decide) rfl (fun ls hl => ?_)
          refine lv_iload hx hb dX5_paintingsNow_104 (lv_at hl 6 rfl) ?_
          refine lv_iload hx hb dX5_paintingsNow_106 (lv_at hl 1 rfl) ?_
          refine lv_iadd hx hb dX5_paintingsNow_108 ?_
          refine lv_istore (lv' := [(5, .int (x5_15 + r9)), (4, .int (x4_15 + (1 : Int32))), (7, .int r9), (0, .ref (ad 0)), (1, .int x1_15), (2, .int x2_15), (3, .int x3_15), (6, .int x6_15)]) hx hb dX5_paintingsNow_109 hl (by decide) rfl (fun ls hl => ?_)
          refine lv_iinc (v := x6_15 + 1) (lv' := [(6, .int (x6_15 + 1)), (5, .int (x5_15 + r9)), (4, .int (x4_15 + (1 : Int32))), (7, .int r9), (0, .ref (ad 0)), (1, .int x1_15), (2, .int x2_15), (3, .int x3_15)]) hx hb dX5_paintingsNow_111 hl (k := 7) rfl (congrArg (fun z => x6_15 + z) (by decide)) (by decide) rfl (fun ls hl => ?_)
          refine lv_goto (tgt := 15) hx hb dX5_paintingsNow_114 (by decide) ?_
          exact ih15 (x4_15 + (1 : Int32)) (x5_15 + r9) (x6_15 + 1) u10 _ _ _ hI hS (lv_sub hl [4, 5, 6, 7, 2, 1, 0] rfl) hw hK15
  refine lv_aload_n hx hb dX5_paintingsNow_0 rfl (lv_at hl 0 rfl) ?_
  refine lv_iload_n hx hb dX5_paintingsNow_1 rfl (lv_at hl 2 rfl) ?_
  refine lv_i2l (v := a2.toInt64) hx hb dX5_paintingsNow_2 rfl ?_
  refine mp_X5_0_211 S hI hS dX5_paintingsNow_3 (fun H locs hI hS => ?_)
  refine lv_iconst (v := (0 : Int32)) hx hb dX5_paintingsNow_6 (by decide) ?_
  refine lv_istore (lv' := [(4, .int (0 : Int32)), (0, .ref (ad 0)), (1, .int a1), (2, .int a2), (3, .int a3)]) hx hb dX5_paintingsNow_7 hl (by decide) rfl (fun ls hl => ?_)
  refine lv_iconst (v := (0 : Int32)) hx hb dX5_paintingsNow_9 (by decide) ?_
  refine lv_istore (lv' := [(5, .int (0 : Int32)), (4, .int (0 : Int32)), (0, .ref (ad 0)), (1, .int a1), (2, .int a2), (3, .int a3)]) hx hb dX5_paintingsNow_10 hl (by decide) rfl (fun ls hl => ?_)
  refine lv_iconst (v := (0 : Int32)) hx hb dX5_paintingsNow_12 (by decide) ?_
  refine lv_istore (lv' := [(6, .int (0 : Int32)), (5, .int (0 : Int32)), (4, .int (0 : Int32)), (0, .ref (ad 0)), (1, .int a1), (2, .int a2), (3, .int a3)]) hx hb dX5_paintingsNow_13 hl (by decide) rfl (fun ls hl => ?_)
  obtain ⟨n, hw⟩ := hw
  refine L15 a1 a2 a3 _ n (0 : Int32) (0 : Int32) (0 : Int32) (sL u 0 a2.toInt64) _ _ _ hI hS (lv_sub hl [3, 4, 5, 6, 2, 1, 0] rfl) hw (fun x4_11 x5_12 x6_13 u14 H locs ls hI hS hl hw => ?_)
  refine lv_iload_n hx hb dX5_paintingsNow_117 rfl (lv_at hl 3 rfl) ?_
  refine lv_if_ne (tgt := 126) hx hb dX5_paintingsNow_118 (by decide) (fun hc => ?_) (fun hc => ?_)
  · have hw := hw.1 hc
    refine lv_iload_n hx hb dX5_paintingsNow_126 rfl (lv_at hl 3 rfl) ?_
    refine lv_iconst (v := (1 : Int32)) hx hb dX5_paintingsNow_127 (by decide) ?_
    refine lv_icmp_ne (tgt := 136) hx hb dX5_paintingsNow_128 (by decide) (fun hc => ?_) (fun hc => ?_)
    · have hw := hw.1 hc
      refine lv_aload_n hx hb dX5_paintingsNow_136 rfl (lv_at hl 0 rfl) ?_
      refine mg_X5_0_211 S hI dX5_paintingsNow_137 ?_
      refine lv_l2i (v := (u14.2.1 0).toInt32) hx hb dX5_paintingsNow_140 rfl ?_
      exact g_iret S hr hk hg hI hS dX5_paintingsNow_141 hw
    · have hw := hw.2 hc
      refine lv_iload hx hb dX5_paintingsNow_131 (lv_at hl 5 rfl) ?_
      refine lv_goto (tgt := 141) hx hb dX5_paintingsNow_133 (by decide) ?_
      exact g_iret S hr hk hg hI hS dX5_paintingsNow_141 hw
  · have hw := hw.2 hc
    refine lv_iload hx hb dX5_paintingsNow_121 (lv_at hl 4 rfl) ?_
    refine lv_goto (tgt := 141) hx hb dX5_paintingsNow_123 (by decide) ?_
    exact g_iret S hr hk hg hI hS dX5_paintingsNow_141 hw
set_option maxRecDepth 100000 in
set_option maxHeartbeats 4000000 in
theorem tX5_paintings (l : Launch) (D : va_G) (ad : Nat → Nat) (cI cB : ClassId)  (a1 : Int32) (a2 : Int32) (a3 : Int32) (u : SS) (post : Int32 → SS → Prop) (hw : wX5_paintings  a1 a2 a3 u post) : Met l yX5_paintings (Cond.code yX5_paintings cX5_paintings 4 (some .int) :: XT) (Rm 6) (va_Pc [.ref (ad 0), .int a1, .int a2, .int a3] (Pr (mI D ad cI cB) mN u)) (va_Qi post (Po (mI D ad cI cB)) (mA ad)) 0 0 (mA ad) := by
  refine g_of (A := (mA ad)) (by decide) (Nat.le_of_ble_eq_true rfl) (lv := [(0, .ref (ad 0)), (1, .int a1), (2, .int a2), (3, .int a3)]) rfl ?_
  intro p e s m below meth c ls S hr hk hI hN hS hl
  have hx := S.1
  have hb := S.2.1
  have ho := S.2.2.2.1
  have hg := @mG D ad cI cB
  refine lv_iload_n hx hb dX5_paintings_0 rfl (lv_at hl 1 rfl) ?_
  refine lv_iconst (v := (1 : Int32)) hx hb dX5_paintings_1 (by decide) ?_
  refine lv_bipush (v := (40 : Int32)) hx hb dX5_paintings_2 (by decide) ?_
  refine g_ci hg hS (g_runS S hg hI hN hS (As := [.int a1, .int (1 : Int32), .int (40 : Int32)]) (rest := []) (tX5_within l D ad cI cB  _ _ _ _ _ hw) cs_yX5_within qm_X5_65 ⟨Nat.le_of_ble_eq_true rfl, Nat.le_of_ble_eq_true rfl⟩ rfl hl.1 rfl (Nat.le_of_ble_eq_true rfl) dX5_paintings_4) (fun r1 u2 H locs hI hS hw => ?_)
  refine lv_if_eq (tgt := 23) hx hb dX5_paintings_7 (by decide) (fun hc => ?_) (fun hc => ?_)
  · have hw := hw.1 hc
    refine lv_bipush (v := (-102 : Int32)) hx hb dX5_paintings_23 (by decide) ?_
    exact g_iret S hr hk hg hI hS dX5_paintings_25 hw
  · have hw := hw.2 hc
    refine lv_iload_n hx hb dX5_paintings_10 rfl (lv_at hl 2 rfl) ?_
    refine lv_if_lt (tgt := 23) hx hb dX5_paintings_11 (by decide) (fun hc => ?_) (fun hc => ?_)
    · have hw := hw.1 hc
      refine lv_bipush (v := (-102 : Int32)) hx hb dX5_paintings_23 (by decide) ?_
      exact g_iret S hr hk hg hI hS dX5_paintings_25 hw
    · have hw := hw.2 hc
      refine lv_iload_n hx hb dX5_paintings_14 rfl (lv_at hl 3 rfl) ?_
      refine lv_iconst (v := (0 : Int32)) hx hb dX5_paintings_15 (by decide) ?_
      refine lv_iconst (v := (2 : Int32)) hx hb dX5_paintings_16 (by decide) ?_
      refine g_ci hg hS (g_runS S hg hI hN hS (As := [.int a3, .int (0 : Int32), .int (2 : Int32)]) (rest := []) (tX5_within l D ad cI cB  _ _ _ _ _ hw) cs_yX5_within qm_X5_65 ⟨Nat.le_of_ble_eq_true rfl, Nat.le_of_ble_eq_true rfl⟩ rfl hl.1 rfl (Nat.le_of_ble_eq_true rfl) dX5_paintings_17) (fun r3 u4 H locs hI hS hw => ?_)
      refine lv_if_ne (tgt := 26) hx hb dX5_paintings_20 (by decide) (fun hc => ?_) (fun hc => ?_)
      · have hw := hw.1 hc
        refine lv_aload_n hx hb dX5_paintings_26 rfl (lv_at hl 0 rfl) ?_
        refine mg_X5_0_101 S hI dX5_paintings_27 ?_
        refine lv_if_ne (tgt := 38) hx hb dX5_paintings_30 (by decide) (fun hc => ?_) (fun hc => ?_)
        · have hw := hw.1 hc
          refine lv_aload_n hx hb dX5_paintings_38 rfl (lv_at hl 0 rfl) ?_
          refine lv_iload_n hx hb dX5_paintings_39 rfl (lv_at hl 1 rfl) ?_
          refine lv_iload_n hx hb dX5_paintings_40 rfl (lv_at hl 2 rfl) ?_
          refine lv_iload_n hx hb dX5_paintings_41 rfl (lv_at hl 3 rfl) ?_
          refine g_ci hg hS (g_runV S hg hI hN hS (As := [.int a1, .int a2, .int a3]) (rest := []) (tX5_paintingsNow l D ad cI cB  _ _ _ _ _ hw) cv_yX5_paintingsNow qm_X5_224 (va_recv hI.2.1 hI.1 (ci := 5) (q0 := 0) rfl rfl) ⟨Nat.le_of_ble_eq_true rfl, Nat.le_of_ble_eq_true rfl⟩ rfl hl.1 rfl (Nat.le_of_ble_eq_true rfl) dX5_paintings_42) (fun r5 u6 H locs hI hS hw => ?_)
          exact g_iret S hr hk hg hI hS dX5_paintings_45 hw
        · have hw := hw.2 hc
          refine lv_bipush (v := (-103 : Int32)) hx hb dX5_paintings_33 (by decide) ?_
          refine lv_goto (tgt := 45) hx hb dX5_paintings_35 (by decide) ?_
          exact g_iret S hr hk hg hI hS dX5_paintings_45 hw
      · have hw := hw.2 hc
        refine lv_bipush (v := (-102 : Int32)) hx hb dX5_paintings_23 (by decide) ?_
        exact g_iret S hr hk hg hI hS dX5_paintings_25 hw
set_option maxRecDepth 100000 in
set_option maxHeartbeats 4000000 in
theorem tX5_image (l : Launch) (D : va_G) (ad : Nat → Nat) (cI cB : ClassId)   (u : SS) (post : Int32 → SS → Prop) (hw : wX5_image   u post) : Met l yX5_image (Cond.code yX5_image cX5_image 2 (some .int) :: XT) (Rm 1) (va_Pc [.ref (ad 0)] (Pr (mI D ad cI cB) mN u)) (va_Qi post (Po (mI D ad cI cB)) (mA ad)) 0 0 (mA ad) := by
  refine g_of (A := (mA ad)) (by decide) (Nat.le_of_ble_eq_true rfl) (lv := [(0, .ref (ad 0))]) rfl ?_
  intro p e s m below meth c ls S hr hk hI hN hS hl
  have hx := S.1
  have hb := S.2.1
  have ho := S.2.2.2.1
  have hg := @mG D ad cI cB
  have L41 : ∀  (K41 : Int32 → SS → Prop) (n : Nat) (x1_41 : Int32) (u1 : SS) (H : Heap) (locs : List Loc) (ls : Array Slot), mI D ad cI cB u1 s H → va_S (mA ad) s.heap H locs → lv_has ls 2 [(0, .ref (ad 0)), (1, .int x1_41)] → wX5_image_41 post K41 n x1_41 u1 → (∀ (x1_41 : Int32) (u1 : SS) (H : Heap) (locs : List Loc) (ls : Array Slot), mI D ad cI cB u1 s H → va_S (mA ad) s.heap H locs → lv_has ls 2 [(0, .ref (ad 0)), (1, .int x1_41)] → K41 x1_41 u1 → W p l e (Rm 1) s m [.ref (ad 0)].toArray below meth c H locs 0 0 (MQ below (va_Qi post (Po (mI D ad cI cB)) (mA ad)) [.ref (ad 0)].toArray s 0 0 (mA ad)) (F0 m 79 ls [])) → W p l e (Rm 1) s m [.ref (ad 0)].toArray below meth c H locs 0 0 (MQ below (va_Qi post (Po (mI D ad cI cB)) (mA ad)) [.ref (ad 0)].toArray s 0 0 (mA ad)) (F0 m 41 ls []) := by
    intro K41 n
    induction n with
    | zero => intro x1_41 u1 H locs ls hI hS hl hw hK41; exact False.elim hw
    | succ n41 ih41 =>
      intro x1_41 u1 H locs ls hI hS hl hw hK41
      refine lv_iload_n hx hb dX5_image_41 rfl (lv_at hl 1 rfl) ?_
      refine lv_aload_n hx hb dX5_image_42 rfl (lv_at hl 0 rfl) ?_
      refine mg_X5_0_101 S hI dX5_image_43 ?_
      refine lv_icmp_gt (tgt := 79) hx hb dX5_image_46 (by decide) (fun hc => ?_) (fun hc => ?_)
      · have hw := hw.1 hc
        exact hK41 x1_41 u1 _ _ _ hI hS (lv_sub hl [0, 1] rfl) hw
      · have hw := hw.2 hc
        refine lv_aload_n hx hb dX5_image_49 rfl (lv_at hl 0 rfl) ?_
        refine mg_X5_0_50 S hI dX5_image_50 ?_
        refine lv_iload_n hx hb dX5_image_53 rfl (lv_at hl 1 rfl) ?_
        refine lv_aload_n hx hb dX5_image_54 rfl (lv_at hl 0 rfl) ?_
        refine mg_X5_0_7 S hI dX5_image_55 ?_
        refine lv_iload_n hx hb dX5_image_58 rfl (lv_at hl 1 rfl) ?_
        obtain ⟨hv, hw⟩ := hw
        refine mld_0 S hI hv dX5_image_59 ?_
        obtain ⟨hv, hw⟩ := hw
        refine mst_13 S hI hS hv dX5_image_60 (fun H locs hI hS => ?_)
        refine lv_aload_n hx hb dX5_image_61 rfl (lv_at hl 0 rfl) ?_
        refine mg_X5_0_53 S hI dX5_image_62 ?_
        refine lv_iload_n hx hb dX5_image_65 rfl (lv_at hl 1 rfl) ?_
        refine lv_aload_n hx hb dX5_image_66 rfl (lv_at hl 0 rfl) ?_
        refine mg_X5_0_13 S hI dX5_image_67 ?_
        refine lv_iload_n hx hb dX5_image_70 rfl (lv_at hl 1 rfl) ?_
        obtain ⟨hv, hw⟩ := hw
        refine mld_1 S hI hv dX5_image_71 ?_
        obtain ⟨hv, hw⟩ := hw
        refine mst_14 S hI hS hv dX5_image_72 (fun H locs hI hS => ?_)
        refine lv_iinc (v := x1_41 + 1) (lv' := [(1, .int (x1_41 + 1)), (0, .ref (ad 0))]) hx hb dX5_image_73 hl (k := 1) rfl (congrArg (fun z => x1_41 + z) (by decide)) (by decide) rfl (fun ls hl => ?_)
        refine lv_goto (tgt := 41) hx hb dX5_image_76 (by decide) ?_
        exact ih41 (x1_41 + 1) (sA (sA u1 13 x1_41.toNatClampNeg (u1.2.2 0 x1_41.toNatClampNeg)) 14 x1_41.toNatClampNeg ((sA u1 13 x1_41.toNatClampNeg (u1.2.2 0 x1_41.toNatClampNeg)).2.2 1 x1_41.toNatClampNeg)) _ _ _ hI hS (lv_sub hl [1, 0] rfl) hw hK41
  have L81 : ∀  (K81 : Int32 → SS → Prop) (n : Nat) (x1_81 : Int32) (u4 : SS) (H : Heap) (locs : List Loc) (ls : Array Slot), mI D ad cI cB u4 s H → va_S (mA ad) s.heap H locs → lv_has ls 2 [(0, .ref (ad 0)), (1, .int x1_81)] → wX5_image_81 post K81 n x1_81 u4 → (∀ (x1_81 : Int32) (u4 : SS) (H : Heap) (locs : List Loc) (ls : Array Slot), mI D ad cI cB u4 s H → va_S (mA ad) s.heap H locs → lv_has ls 2 [(0, .ref (ad 0)), (1, .int x1_81)] → K81 x1_81 u4 → W p l e (Rm 1) s m [.ref (ad 0)].toArray below meth c H locs 0 0 (MQ below (va_Qi post (Po (mI D ad cI cB)) (mA ad)) [.ref (ad 0)].toArray s 0 0 (mA ad)) (F0 m 129 ls [])) → W p l e (Rm 1) s m [.ref (ad 0)].toArray below meth c H locs 0 0 (MQ below (va_Qi post (Po (mI D ad cI cB)) (mA ad)) [.ref (ad 0)].toArray s 0 0 (mA ad)) (F0 m 81 ls []) := by
    intro K81 n
    induction n with
    | zero => intro x1_81 u4 H locs ls hI hS hl hw hK81; exact False.elim hw
    | succ n81 ih81 =>
      intro x1_81 u4 H locs ls hI hS hl hw hK81
      refine lv_iload_n hx hb dX5_image_81 rfl (lv_at hl 1 rfl) ?_
      refine lv_bipush (v := (6 : Int32)) hx hb dX5_image_82 (by decide) ?_
      refine lv_icmp_ge (tgt := 129) hx hb dX5_image_84 (by decide) (fun hc => ?_) (fun hc => ?_)
      · have hw := hw.1 hc
        exact hK81 x1_81 u4 _ _ _ hI hS (lv_sub hl [0, 1] rfl) hw
      · have hw := hw.2 hc
        refine lv_aload_n hx hb dX5_image_87 rfl (lv_at hl 0 rfl) ?_
        refine mg_X5_0_56 S hI dX5_image_88 ?_
        refine lv_iload_n hx hb dX5_image_91 rfl (lv_at hl 1 rfl) ?_
        refine lv_aload_n hx hb dX5_image_92 rfl (lv_at hl 0 rfl) ?_
        refine mg_X5_0_16 S hI dX5_image_93 ?_
        refine lv_iload_n hx hb dX5_image_96 rfl (lv_at hl 1 rfl) ?_
        obtain ⟨hv, hw⟩ := hw
        refine mld_2 S hI hv dX5_image_97 ?_
        obtain ⟨hv, hw⟩ := hw
        refine mst_15 S hI hS hv dX5_image_98 (fun H locs hI hS => ?_)
        refine lv_aload_n hx hb dX5_image_99 rfl (lv_at hl 0 rfl) ?_
        refine mg_X5_0_59 S hI dX5_image_100 ?_
        refine lv_iload_n hx hb dX5_image_103 rfl (lv_at hl 1 rfl) ?_
        refine lv_aload_n hx hb dX5_image_104 rfl (lv_at hl 0 rfl) ?_
        refine mg_X5_0_19 S hI dX5_image_105 ?_
        refine lv_iload_n hx hb dX5_image_108 rfl (lv_at hl 1 rfl) ?_
        obtain ⟨hv, hw⟩ := hw
        refine mld_3 S hI hv dX5_image_109 ?_
        obtain ⟨hv, hw⟩ := hw
        refine mst_16 S hI hS hv dX5_image_110 (fun H locs hI hS => ?_)
        refine lv_aload_n hx hb dX5_image_111 rfl (lv_at hl 0 rfl) ?_
        refine mg_X5_0_62 S hI dX5_image_112 ?_
        refine lv_iload_n hx hb dX5_image_115 rfl (lv_at hl 1 rfl) ?_
        refine lv_aload_n hx hb dX5_image_116 rfl (lv_at hl 0 rfl) ?_
        refine mg_X5_0_22 S hI dX5_image_117 ?_
        refine lv_iload_n hx hb dX5_image_120 rfl (lv_at hl 1 rfl) ?_
        obtain ⟨hv, hw⟩ := hw
        refine mld_4 S hI hv dX5_image_121 ?_
        obtain ⟨hv, hw⟩ := hw
        refine mst_17 S hI hS hv dX5_image_122 (fun H locs hI hS => ?_)
        refine lv_iinc (v := x1_81 + 1) (lv' := [(1, .int (x1_81 + 1)), (0, .ref (ad 0))]) hx hb dX5_image_123 hl (k := 1) rfl (congrArg (fun z => x1_81 + z) (by decide)) (by decide) rfl (fun ls hl => ?_)
        refine lv_goto (tgt := 81) hx hb dX5_image_126 (by decide) ?_
        exact ih81 (x1_81 + 1) (sA (sA (sA u4 15 x1_81.toNatClampNeg (u4.2.2 2 x1_81.toNatClampNeg)) 16 x1_81.toNatClampNeg ((sA u4 15 x1_81.toNatClampNeg (u4.2.2 2 x1_81.toNatClampNeg)).2.2 3 x1_81.toNatClampNeg)) 17 x1_81.toNatClampNeg ((sA (sA u4 15 x1_81.toNatClampNeg (u4.2.2 2 x1_81.toNatClampNeg)) 16 x1_81.toNatClampNeg ((sA u4 15 x1_81.toNatClampNeg (u4.2.2 2 x1_81.toNatClampNeg)).2.2 3 x1_81.toNatClampNeg)).2.2 4 x1_81.toNatClampNeg)) _ _ _ hI hS (lv_sub hl [1, 0] rfl) hw hK81
  refine lv_aload_n hx hb dX5_image_0 rfl (lv_at hl 0 rfl) ?_
  refine mg_X5_0_101 S hI dX5_image_1 ?_
  refine lv_if_ne (tgt := 10) hx hb dX5_image_4 (by decide) (fun hc => ?_) (fun hc => ?_)
  · have hw := hw.1 hc
    refine lv_aload_n hx hb dX5_image_10 rfl (lv_at hl 0 rfl) ?_
    refine lv_iconst (v := (1 : Int32)) hx hb dX5_image_11 (by decide) ?_
    refine mp_X5_0_227 rfl rfl S hI hS dX5_image_12 (fun H locs hI hS => ?_)
    refine lv_aload_n hx hb dX5_image_15 rfl (lv_at hl 0 rfl) ?_
    refine lv_aload_n hx hb dX5_image_16 rfl (lv_at hl 0 rfl) ?_
    refine mg_X5_0_107 S hI dX5_image_17 ?_
    refine mp_X5_0_230 S hI hS dX5_image_20 (fun H locs hI hS => ?_)
    refine lv_aload_n hx hb dX5_image_23 rfl (lv_at hl 0 rfl) ?_
    refine lv_aload_n hx hb dX5_image_24 rfl (lv_at hl 0 rfl) ?_
    refine mg_X5_0_104 S hI dX5_image_25 ?_
    refine mp_X5_0_233 S hI hS dX5_image_28 (fun H locs hI hS => ?_)
    refine lv_aload_n hx hb dX5_image_31 rfl (lv_at hl 0 rfl) ?_
    refine lv_aload_n hx hb dX5_image_32 rfl (lv_at hl 0 rfl) ?_
    refine mg_X5_0_110 S hI dX5_image_33 ?_
    refine mp_X5_0_236 S hI hS dX5_image_36 (fun H locs hI hS => ?_)
    refine lv_iconst (v := (1 : Int32)) hx hb dX5_image_39 (by decide) ?_
    refine lv_istore_n (lv' := [(1, .int (1 : Int32)), (0, .ref (ad 0))]) hx hb dX5_image_40 rfl hl (by decide) rfl (fun ls hl => ?_)
    obtain ⟨n, hw⟩ := hw
    refine L41 _ n (1 : Int32) (sI (sI (sI (sI u 9 (1 : Int32)) 10 ((sI u 9 (1 : Int32)).1 0)) 11 ((sI (sI u 9 (1 : Int32)) 10 ((sI u 9 (1 : Int32)).1 0)).1 3)) 12 ((sI (sI (sI u 9 (1 : Int32)) 10 ((sI u 9 (1 : Int32)).1 0)) 11 ((sI (sI u 9 (1 : Int32)) 10 ((sI u 9 (1 : Int32)).1 0)).1 3)).1 4)) _ _ _ hI hS (lv_sub hl [1, 0] rfl) hw (fun x1_2 u3 H locs ls hI hS hl hw => ?_)
    refine lv_iconst (v := (0 : Int32)) hx hb dX5_image_79 (by decide) ?_
    refine lv_istore_n (lv' := [(1, .int (0 : Int32)), (0, .ref (ad 0))]) hx hb dX5_image_80 rfl hl (by decide) rfl (fun ls hl => ?_)
    obtain ⟨n, hw⟩ := hw
    refine L81 _ n (0 : Int32) u3 _ _ _ hI hS (lv_sub hl [1, 0] rfl) hw (fun x1_5 u6 H locs ls hI hS hl hw => ?_)
    refine lv_aload_n hx hb dX5_image_129 rfl (lv_at hl 0 rfl) ?_
    refine mg_X5_0_104 S hI dX5_image_130 ?_
    exact g_iret S hr hk hg hI hS dX5_image_133 hw
  · have hw := hw.2 hc
    refine lv_bipush (v := (-103 : Int32)) hx hb dX5_image_7 (by decide) ?_
    exact g_iret S hr hk hg hI hS dX5_image_9 hw
set_option maxRecDepth 100000 in
set_option maxHeartbeats 4000000 in
theorem tX5_restore (l : Launch) (D : va_G) (ad : Nat → Nat) (cI cB : ClassId)   (u : SS) (post : Int32 → SS → Prop) (hw : wX5_restore   u post) : Met l yX5_restore (Cond.code yX5_restore cX5_restore 2 (some .int) :: XT) (Rm 1) (va_Pc [.ref (ad 0)] (Pr (mI D ad cI cB) mN u)) (va_Qi post (Po (mI D ad cI cB)) (mA ad)) 0 0 (mA ad) := by
  refine g_of (A := (mA ad)) (by decide) (Nat.le_of_ble_eq_true rfl) (lv := [(0, .ref (ad 0))]) rfl ?_
  intro p e s m below meth c ls S hr hk hI hN hS hl
  have hx := S.1
  have hb := S.2.1
  have ho := S.2.2.2.1
  have hg := @mG D ad cI cB
  have L39 : ∀  (K39 : Int32 → SS → Prop) (n : Nat) (x1_39 : Int32) (u1 : SS) (H : Heap) (locs : List Loc) (ls : Array Slot), mI D ad cI cB u1 s H → va_S (mA ad) s.heap H locs → lv_has ls 2 [(0, .ref (ad 0)), (1, .int x1_39)] → wX5_restore_39 post K39 n x1_39 u1 → (∀ (x1_39 : Int32) (u1 : SS) (H : Heap) (locs : List Loc) (ls : Array Slot), mI D ad cI cB u1 s H → va_S (mA ad) s.heap H locs → lv_has ls 2 [(0, .ref (ad 0)), (1, .int x1_39)] → K39 x1_39 u1 → W p l e (Rm 1) s m [.ref (ad 0)].toArray below meth c H locs 0 0 (MQ below (va_Qi post (Po (mI D ad cI cB)) (mA ad)) [.ref (ad 0)].toArray s 0 0 (mA ad)) (F0 m 77 ls [])) → W p l e (Rm 1) s m [.ref (ad 0)].toArray below meth c H locs 0 0 (MQ below (va_Qi post (Po (mI D ad cI cB)) (mA ad)) [.ref (ad 0)].toArray s 0 0 (mA ad)) (F0 m 39 ls []) := by
    intro K39 n
    induction n with
    | zero => intro x1_39 u1 H locs ls hI hS hl hw hK39; exact False.elim hw
    | succ n39 ih39 =>
      intro x1_39 u1 H locs ls hI hS hl hw hK39
      refine lv_iload_n hx hb dX5_restore_39 rfl (lv_at hl 1 rfl) ?_
      refine lv_aload_n hx hb dX5_restore_40 rfl (lv_at hl 0 rfl) ?_
      refine mg_X5_0_101 S hI dX5_restore_41 ?_
      refine lv_icmp_gt (tgt := 77) hx hb dX5_restore_44 (by decide) (fun hc => ?_) (fun hc => ?_)
      · have hw := hw.1 hc
        exact hK39 x1_39 u1 _ _ _ hI hS (lv_sub hl [0, 1] rfl) hw
      · have hw := hw.2 hc
        refine lv_aload_n hx hb dX5_restore_47 rfl (lv_at hl 0 rfl) ?_
        refine mg_X5_0_7 S hI dX5_restore_48 ?_
        refine lv_iload_n hx hb dX5_restore_51 rfl (lv_at hl 1 rfl) ?_
        refine lv_aload_n hx hb dX5_restore_52 rfl (lv_at hl 0 rfl) ?_
        refine mg_X5_0_50 S hI dX5_restore_53 ?_
        refine lv_iload_n hx hb dX5_restore_56 rfl (lv_at hl 1 rfl) ?_
        obtain ⟨hv, hw⟩ := hw
        refine mld_13 S hI hv dX5_restore_57 ?_
        obtain ⟨hv, hw⟩ := hw
        refine mst_0 S hI hS hv dX5_restore_58 (fun H locs hI hS => ?_)
        refine lv_aload_n hx hb dX5_restore_59 rfl (lv_at hl 0 rfl) ?_
        refine mg_X5_0_13 S hI dX5_restore_60 ?_
        refine lv_iload_n hx hb dX5_restore_63 rfl (lv_at hl 1 rfl) ?_
        refine lv_aload_n hx hb dX5_restore_64 rfl (lv_at hl 0 rfl) ?_
        refine mg_X5_0_53 S hI dX5_restore_65 ?_
        refine lv_iload_n hx hb dX5_restore_68 rfl (lv_at hl 1 rfl) ?_
        obtain ⟨hv, hw⟩ := hw
        refine mld_14 S hI hv dX5_restore_69 ?_
        obtain ⟨hv, hw⟩ := hw
        refine mst_1 S hI hS hv dX5_restore_70 (fun H locs hI hS => ?_)
        refine lv_iinc (v := x1_39 + 1) (lv' := [(1, .int (x1_39 + 1)), (0, .ref (ad 0))]) hx hb dX5_restore_71 hl (k := 1) rfl (congrArg (fun z => x1_39 + z) (by decide)) (by decide) rfl (fun ls hl => ?_)
        refine lv_goto (tgt := 39) hx hb dX5_restore_74 (by decide) ?_
        exact ih39 (x1_39 + 1) (sA (sA u1 0 x1_39.toNatClampNeg (u1.2.2 13 x1_39.toNatClampNeg)) 1 x1_39.toNatClampNeg ((sA u1 0 x1_39.toNatClampNeg (u1.2.2 13 x1_39.toNatClampNeg)).2.2 14 x1_39.toNatClampNeg)) _ _ _ hI hS (lv_sub hl [1, 0] rfl) hw hK39
  have L79 : ∀  (K79 : Int32 → SS → Prop) (n : Nat) (x1_79 : Int32) (u4 : SS) (H : Heap) (locs : List Loc) (ls : Array Slot), mI D ad cI cB u4 s H → va_S (mA ad) s.heap H locs → lv_has ls 2 [(0, .ref (ad 0)), (1, .int x1_79)] → wX5_restore_79 post K79 n x1_79 u4 → (∀ (x1_79 : Int32) (u4 : SS) (H : Heap) (locs : List Loc) (ls : Array Slot), mI D ad cI cB u4 s H → va_S (mA ad) s.heap H locs → lv_has ls 2 [(0, .ref (ad 0)), (1, .int x1_79)] → K79 x1_79 u4 → W p l e (Rm 1) s m [.ref (ad 0)].toArray below meth c H locs 0 0 (MQ below (va_Qi post (Po (mI D ad cI cB)) (mA ad)) [.ref (ad 0)].toArray s 0 0 (mA ad)) (F0 m 127 ls [])) → W p l e (Rm 1) s m [.ref (ad 0)].toArray below meth c H locs 0 0 (MQ below (va_Qi post (Po (mI D ad cI cB)) (mA ad)) [.ref (ad 0)].toArray s 0 0 (mA ad)) (F0 m 79 ls []) := by
    intro K79 n
    induction n with
    | zero => intro x1_79 u4 H locs ls hI hS hl hw hK79; exact False.elim hw
    | succ n79 ih79 =>
      intro x1_79 u4 H locs ls hI hS hl hw hK79
      refine lv_iload_n hx hb dX5_restore_79 rfl (lv_at hl 1 rfl) ?_
      refine lv_bipush (v := (6 : Int32)) hx hb dX5_restore_80 (by decide) ?_
      refine lv_icmp_ge (tgt := 127) hx hb dX5_restore_82 (by decide) (fun hc => ?_) (fun hc => ?_)
      · have hw := hw.1 hc
        exact hK79 x1_79 u4 _ _ _ hI hS (lv_sub hl [0, 1] rfl) hw
      · have hw := hw.2 hc
        refine lv_aload_n hx hb dX5_restore_85 rfl (lv_at hl 0 rfl) ?_
        refine mg_X5_0_16 S hI dX5_restore_86 ?_
        refine lv_iload_n hx hb dX5_restore_89 rfl (lv_at hl 1 rfl) ?_
        refine lv_aload_n hx hb dX5_restore_90 rfl (lv_at hl 0 rfl) ?_
        refine mg_X5_0_56 S hI dX5_restore_91 ?_
        refine lv_iload_n hx hb dX5_restore_94 rfl (lv_at hl 1 rfl) ?_
        obtain ⟨hv, hw⟩ := hw
        refine mld_15 S hI hv dX5_restore_95 ?_
        obtain ⟨hv, hw⟩ := hw
        refine mst_2 S hI hS hv dX5_restore_96 (fun H locs hI hS => ?_)
        refine lv_aload_n hx hb dX5_restore_97 rfl (lv_at hl 0 rfl) ?_
        refine mg_X5_0_19 S hI dX5_restore_98 ?_
        refine lv_iload_n hx hb dX5_restore_101 rfl (lv_at hl 1 rfl) ?_
        refine lv_aload_n hx hb dX5_restore_102 rfl (lv_at hl 0 rfl) ?_
        refine mg_X5_0_59 S hI dX5_restore_103 ?_
        refine lv_iload_n hx hb dX5_restore_106 rfl (lv_at hl 1 rfl) ?_
        obtain ⟨hv, hw⟩ := hw
        refine mld_16 S hI hv dX5_restore_107 ?_
        obtain ⟨hv, hw⟩ := hw
        refine mst_3 S hI hS hv dX5_restore_108 (fun H locs hI hS => ?_)
        refine lv_aload_n hx hb dX5_restore_109 rfl (lv_at hl 0 rfl) ?_
        refine mg_X5_0_22 S hI dX5_restore_110 ?_
        refine lv_iload_n hx hb dX5_restore_113 rfl (lv_at hl 1 rfl) ?_
        refine lv_aload_n hx hb dX5_restore_114 rfl (lv_at hl 0 rfl) ?_
        refine mg_X5_0_62 S hI dX5_restore_115 ?_
        refine lv_iload_n hx hb dX5_restore_118 rfl (lv_at hl 1 rfl) ?_
        obtain ⟨hv, hw⟩ := hw
        refine mld_17 S hI hv dX5_restore_119 ?_
        obtain ⟨hv, hw⟩ := hw
        refine mst_4 S hI hS hv dX5_restore_120 (fun H locs hI hS => ?_)
        refine lv_iinc (v := x1_79 + 1) (lv' := [(1, .int (x1_79 + 1)), (0, .ref (ad 0))]) hx hb dX5_restore_121 hl (k := 1) rfl (congrArg (fun z => x1_79 + z) (by decide)) (by decide) rfl (fun ls hl => ?_)
        refine lv_goto (tgt := 79) hx hb dX5_restore_124 (by decide) ?_
        exact ih79 (x1_79 + 1) (sA (sA (sA u4 2 x1_79.toNatClampNeg (u4.2.2 15 x1_79.toNatClampNeg)) 3 x1_79.toNatClampNeg ((sA u4 2 x1_79.toNatClampNeg (u4.2.2 15 x1_79.toNatClampNeg)).2.2 16 x1_79.toNatClampNeg)) 4 x1_79.toNatClampNeg ((sA (sA u4 2 x1_79.toNatClampNeg (u4.2.2 15 x1_79.toNatClampNeg)) 3 x1_79.toNatClampNeg ((sA u4 2 x1_79.toNatClampNeg (u4.2.2 15 x1_79.toNatClampNeg)).2.2 16 x1_79.toNatClampNeg)).2.2 17 x1_79.toNatClampNeg)) _ _ _ hI hS (lv_sub hl [1, 0] rfl) hw hK79
  refine lv_aload_n hx hb dX5_restore_0 rfl (lv_at hl 0 rfl) ?_
  refine mg_X5_0_227 S hI dX5_restore_1 ?_
  refine lv_if_eq (tgt := 18) hx hb dX5_restore_4 (by decide) (fun hc => ?_) (fun hc => ?_)
  · have hw := hw.1 hc
    refine lv_bipush (v := (-103 : Int32)) hx hb dX5_restore_18 (by decide) ?_
    exact g_iret S hr hk hg hI hS dX5_restore_20 hw
  · have hw := hw.2 hc
    refine lv_aload_n hx hb dX5_restore_7 rfl (lv_at hl 0 rfl) ?_
    refine mg_X5_0_230 S hI dX5_restore_8 ?_
    refine lv_aload_n hx hb dX5_restore_11 rfl (lv_at hl 0 rfl) ?_
    refine mg_X5_0_107 S hI dX5_restore_12 ?_
    refine lv_icmp_eq (tgt := 21) hx hb dX5_restore_15 (by decide) (fun hc => ?_) (fun hc => ?_)
    · have hw := hw.1 hc
      refine lv_aload_n hx hb dX5_restore_21 rfl (lv_at hl 0 rfl) ?_
      refine lv_aload_n hx hb dX5_restore_22 rfl (lv_at hl 0 rfl) ?_
      refine mg_X5_0_233 S hI dX5_restore_23 ?_
      refine mp_X5_0_104 S hI hS dX5_restore_26 (fun H locs hI hS => ?_)
      refine lv_aload_n hx hb dX5_restore_29 rfl (lv_at hl 0 rfl) ?_
      refine lv_aload_n hx hb dX5_restore_30 rfl (lv_at hl 0 rfl) ?_
      refine mg_X5_0_236 S hI dX5_restore_31 ?_
      refine mp_X5_0_110 S hI hS dX5_restore_34 (fun H locs hI hS => ?_)
      refine lv_iconst (v := (1 : Int32)) hx hb dX5_restore_37 (by decide) ?_
      refine lv_istore_n (lv' := [(1, .int (1 : Int32)), (0, .ref (ad 0))]) hx hb dX5_restore_38 rfl hl (by decide) rfl (fun ls hl => ?_)
      obtain ⟨n, hw⟩ := hw
      refine L39 _ n (1 : Int32) (sI (sI u 3 (u.1 11)) 4 ((sI u 3 (u.1 11)).1 12)) _ _ _ hI hS (lv_sub hl [1, 0] rfl) hw (fun x1_2 u3 H locs ls hI hS hl hw => ?_)
      refine lv_iconst (v := (0 : Int32)) hx hb dX5_restore_77 (by decide) ?_
      refine lv_istore_n (lv' := [(1, .int (0 : Int32)), (0, .ref (ad 0))]) hx hb dX5_restore_78 rfl hl (by decide) rfl (fun ls hl => ?_)
      obtain ⟨n, hw⟩ := hw
      refine L79 _ n (0 : Int32) u3 _ _ _ hI hS (lv_sub hl [1, 0] rfl) hw (fun x1_5 u6 H locs ls hI hS hl hw => ?_)
      refine lv_aload_n hx hb dX5_restore_127 rfl (lv_at hl 0 rfl) ?_
      refine mg_X5_0_104 S hI dX5_restore_128 ?_
      exact g_iret S hr hk hg hI hS dX5_restore_131 hw
    · have hw := hw.2 hc
      refine lv_bipush (v := (-103 : Int32)) hx hb dX5_restore_18 (by decide) ?_
      exact g_iret S hr hk hg hI hS dX5_restore_20 hw
set_option maxRecDepth 100000 in
set_option maxHeartbeats 4000000 in
theorem tX5_bare (l : Launch) (D : va_G) (ad : Nat → Nat) (cI cB : ClassId)   (u : SS) (post : Int32 → SS → Prop) (hw : wX5_bare   u post) : Met l yX5_bare (Cond.code yX5_bare cX5_bare 3 (some .int) :: XT) (Rm 1) (va_Pc [.ref (ad 0)] (Pr (mI D ad cI cB) mN u)) (va_Qi post (Po (mI D ad cI cB)) (mA ad)) 0 0 (mA ad) := by
  refine g_of (A := (mA ad)) (by decide) (Nat.le_of_ble_eq_true rfl) (lv := [(0, .ref (ad 0))]) rfl ?_
  intro p e s m below meth c ls S hr hk hI hN hS hl
  have hx := S.1
  have hb := S.2.1
  have ho := S.2.2.2.1
  have hg := @mG D ad cI cB
  have L4 : ∀  (K4 : Int32 → Int32 → SS → Prop) (n : Nat) (x1_4 : Int32) (x2_4 : Int32) (u1 : SS) (H : Heap) (locs : List Loc) (ls : Array Slot), mI D ad cI cB u1 s H → va_S (mA ad) s.heap H locs → lv_has ls 3 [(0, .ref (ad 0)), (1, .int x1_4), (2, .int x2_4)] → wX5_bare_4 post K4 n x1_4 x2_4 u1 → (∀ (x1_4 : Int32) (x2_4 : Int32) (u1 : SS) (H : Heap) (locs : List Loc) (ls : Array Slot), mI D ad cI cB u1 s H → va_S (mA ad) s.heap H locs → lv_has ls 3 [(0, .ref (ad 0)), (1, .int x1_4), (2, .int x2_4)] → K4 x1_4 x2_4 u1 → W p l e (Rm 1) s m [.ref (ad 0)].toArray below meth c H locs 0 0 (MQ below (va_Qi post (Po (mI D ad cI cB)) (mA ad)) [.ref (ad 0)].toArray s 0 0 (mA ad)) (F0 m 36 ls [])) → W p l e (Rm 1) s m [.ref (ad 0)].toArray below meth c H locs 0 0 (MQ below (va_Qi post (Po (mI D ad cI cB)) (mA ad)) [.ref (ad 0)].toArray s 0 0 (mA ad)) (F0 m 4 ls []) := by
    intro K4 n
    induction n with
    | zero => intro x1_4 x2_4 u1 H locs ls hI hS hl hw hK4; exact False.elim hw
    | succ n4 ih4 =>
      intro x1_4 x2_4 u1 H locs ls hI hS hl hw hK4
      refine lv_iload_n hx hb dX5_bare_4 rfl (lv_at hl 2 rfl) ?_
      refine lv_aload_n hx hb dX5_bare_5 rfl (lv_at hl 0 rfl) ?_
      refine mg_X5_0_101 S hI dX5_bare_6 ?_
      refine lv_icmp_gt (tgt := 36) hx hb dX5_bare_9 (by decide) (fun hc => ?_) (fun hc => ?_)
      · have hw := hw.1 hc
        exact hK4 x1_4 x2_4 u1 _ _ _ hI hS (lv_sub hl [0, 1, 2] rfl) hw
      · have hw := hw.2 hc
        refine lv_iload_n hx hb dX5_bare_12 rfl (lv_at hl 1 rfl) ?_
        refine lv_aload_n hx hb dX5_bare_13 rfl (lv_at hl 0 rfl) ?_
        refine mg_X5_0_13 S hI dX5_bare_14 ?_
        refine lv_iload_n hx hb dX5_bare_17 rfl (lv_at hl 2 rfl) ?_
        obtain ⟨hv, hw⟩ := hw
        refine mld_1 S hI hv dX5_bare_18 ?_
        refine lv_iconst (v := (-1 : Int32)) hx hb dX5_bare_19 (by decide) ?_
        refine lv_icmp_ne (tgt := 27) hx hb dX5_bare_20 (by decide) (fun hc => ?_) (fun hc => ?_)
        · have hw := hw.1 hc
          refine lv_iconst (v := (0 : Int32)) hx hb dX5_bare_27 (by decide) ?_
          refine lv_iadd hx hb dX5_bare_28 ?_
          refine lv_istore_n (lv' := [(1, .int (x1_4 + (0 : Int32))), (0, .ref (ad 0)), (2, .int x2_4)]) hx hb dX5_bare_29 rfl hl (by decide) rfl (fun ls hl => ?_)
          refine lv_iinc (v := x2_4 + 1) (lv' := [(2, .int (x2_4 + 1)), (1, .int (x1_4 + (0 : Int32))), (0, .ref (ad 0))]) hx hb dX5_bare_30 hl (k := 2) rfl (congrArg (fun z => x2_4 + z) (by decide)) (by decide) rfl (fun ls hl => ?_)
          refine lv_goto (tgt := 4) hx hb dX5_bare_33 (by decide) ?_
          exact ih4 (x1_4 + (0 : Int32)) (x2_4 + 1) u1 _ _ _ hI hS (lv_sub hl [2, 1, 0] rfl) hw hK4
        · have hw := hw.2 hc
          refine lv_iconst (v := (1 : Int32)) hx hb dX5_bare_23 (by decide) ?_
          refine lv_goto (tgt := 28) hx hb dX5_bare_24 (by decide) ?_
          refine lv_iadd hx hb dX5_bare_28 ?_
          refine lv_istore_n (lv' := [(1, .int (x1_4 + (1 : Int32))), (0, .ref (ad 0)), (2, .int x2_4)]) hx hb dX5_bare_29 rfl hl (by decide) rfl (fun ls hl => ?_)
          refine lv_iinc (v := x2_4 + 1) (lv' := [(2, .int (x2_4 + 1)), (1, .int (x1_4 + (1 : Int32))), (0, .ref (ad 0))]) hx hb dX5_bare_30 hl (k := 2) rfl (congrArg (fun z => x2_4 + z) (by decide)) (by decide) rfl (fun ls hl => ?_)
          refine lv_goto (tgt := 4) hx hb dX5_bare_33 (by decide) ?_
          exact ih4 (x1_4 + (1 : Int32)) (x2_4 + 1) u1 _ _ _ hI hS (lv_sub hl [2, 1, 0] rfl) hw hK4
  refine lv_iconst (v := (0 : Int32)) hx hb dX5_bare_0 (by decide) ?_
  refine lv_istore_n (lv' := [(1, .int (0 : Int32)), (0, .ref (ad 0))]) hx hb dX5_bare_1 rfl hl (by decide) rfl (fun ls hl => ?_)
  refine lv_iconst (v := (1 : Int32)) hx hb dX5_bare_2 (by decide) ?_
  refine lv_istore_n (lv' := [(2, .int (1 : Int32)), (1, .int (0 : Int32)), (0, .ref (ad 0))]) hx hb dX5_bare_3 rfl hl (by decide) rfl (fun ls hl => ?_)
  obtain ⟨n, hw⟩ := hw
  refine L4 _ n (0 : Int32) (1 : Int32) u _ _ _ hI hS (lv_sub hl [2, 1, 0] rfl) hw (fun x1_2 x2_3 u4 H locs ls hI hS hl hw => ?_)
  refine lv_iload_n hx hb dX5_bare_36 rfl (lv_at hl 1 rfl) ?_
  exact g_iret S hr hk hg hI hS dX5_bare_37 hw
set_option maxRecDepth 100000 in
set_option maxHeartbeats 4000000 in
theorem tX5_threes (l : Launch) (D : va_G) (ad : Nat → Nat) (cI cB : ClassId)   (u : SS) (post : Int32 → SS → Prop) (hw : wX5_threes   u post) : Met l yX5_threes (Cond.code yX5_threes cX5_threes 3 (some .int) :: XT) (Rm 1) (va_Pc [.ref (ad 0)] (Pr (mI D ad cI cB) mN u)) (va_Qi post (Po (mI D ad cI cB)) (mA ad)) 0 0 (mA ad) := by
  refine g_of (A := (mA ad)) (by decide) (Nat.le_of_ble_eq_true rfl) (lv := [(0, .ref (ad 0))]) rfl ?_
  intro p e s m below meth c ls S hr hk hI hN hS hl
  have hx := S.1
  have hb := S.2.1
  have ho := S.2.2.2.1
  have hg := @mG D ad cI cB
  have L4 : ∀  (K4 : Int32 → Int32 → SS → Prop) (n : Nat) (x1_4 : Int32) (x2_4 : Int32) (u1 : SS) (H : Heap) (locs : List Loc) (ls : Array Slot), mI D ad cI cB u1 s H → va_S (mA ad) s.heap H locs → lv_has ls 3 [(0, .ref (ad 0)), (1, .int x1_4), (2, .int x2_4)] → wX5_threes_4 post K4 n x1_4 x2_4 u1 → (∀ (x1_4 : Int32) (x2_4 : Int32) (u1 : SS) (H : Heap) (locs : List Loc) (ls : Array Slot), mI D ad cI cB u1 s H → va_S (mA ad) s.heap H locs → lv_has ls 3 [(0, .ref (ad 0)), (1, .int x1_4), (2, .int x2_4)] → K4 x1_4 x2_4 u1 → W p l e (Rm 1) s m [.ref (ad 0)].toArray below meth c H locs 0 0 (MQ below (va_Qi post (Po (mI D ad cI cB)) (mA ad)) [.ref (ad 0)].toArray s 0 0 (mA ad)) (F0 m 24 ls [])) → W p l e (Rm 1) s m [.ref (ad 0)].toArray below meth c H locs 0 0 (MQ below (va_Qi post (Po (mI D ad cI cB)) (mA ad)) [.ref (ad 0)].toArray s 0 0 (mA ad)) (F0 m 4 ls []) := by
    intro K4 n
    induction n with
    | zero => intro x1_4 x2_4 u1 H locs ls hI hS hl hw hK4; exact False.elim hw
    | succ n4 ih4 =>
      intro x1_4 x2_4 u1 H locs ls hI hS hl hw hK4
      refine lv_iload_n hx hb dX5_threes_4 rfl (lv_at hl 2 rfl) ?_
      refine lv_aload_n hx hb dX5_threes_5 rfl (lv_at hl 0 rfl) ?_
      refine mg_X5_0_101 S hI dX5_threes_6 ?_
      refine lv_icmp_gt (tgt := 24) hx hb dX5_threes_9 (by decide) (fun hc => ?_) (fun hc => ?_)
      · have hw := hw.1 hc
        exact hK4 x1_4 x2_4 u1 _ _ _ hI hS (lv_sub hl [0, 1, 2] rfl) hw
      · have hw := hw.2 hc
        refine lv_iload_n hx hb dX5_threes_12 rfl (lv_at hl 1 rfl) ?_
        refine lv_iload_n hx hb dX5_threes_13 rfl (lv_at hl 2 rfl) ?_
        refine lv_iconst (v := (2 : Int32)) hx hb dX5_threes_14 (by decide) ?_
        refine lv_idiv hx hb dX5_threes_15 (by decide) ?_
        refine lv_iadd hx hb dX5_threes_16 ?_
        refine lv_istore_n (lv' := [(1, .int (x1_4 + (x2_4 / (2 : Int32)))), (0, .ref (ad 0)), (2, .int x2_4)]) hx hb dX5_threes_17 rfl hl (by decide) rfl (fun ls hl => ?_)
        refine lv_iinc (v := x2_4 + 1) (lv' := [(2, .int (x2_4 + 1)), (1, .int (x1_4 + (x2_4 / (2 : Int32)))), (0, .ref (ad 0))]) hx hb dX5_threes_18 hl (k := 2) rfl (congrArg (fun z => x2_4 + z) (by decide)) (by decide) rfl (fun ls hl => ?_)
        refine lv_goto (tgt := 4) hx hb dX5_threes_21 (by decide) ?_
        exact ih4 (x1_4 + (x2_4 / (2 : Int32))) (x2_4 + 1) u1 _ _ _ hI hS (lv_sub hl [2, 1, 0] rfl) hw hK4
  refine lv_iconst (v := (0 : Int32)) hx hb dX5_threes_0 (by decide) ?_
  refine lv_istore_n (lv' := [(1, .int (0 : Int32)), (0, .ref (ad 0))]) hx hb dX5_threes_1 rfl hl (by decide) rfl (fun ls hl => ?_)
  refine lv_iconst (v := (2 : Int32)) hx hb dX5_threes_2 (by decide) ?_
  refine lv_istore_n (lv' := [(2, .int (2 : Int32)), (1, .int (0 : Int32)), (0, .ref (ad 0))]) hx hb dX5_threes_3 rfl hl (by decide) rfl (fun ls hl => ?_)
  obtain ⟨n, hw⟩ := hw
  refine L4 _ n (0 : Int32) (2 : Int32) u _ _ _ hI hS (lv_sub hl [2, 1, 0] rfl) hw (fun x1_2 x2_3 u4 H locs ls hI hS hl hw => ?_)
  refine lv_iload_n hx hb dX5_threes_24 rfl (lv_at hl 1 rfl) ?_
  exact g_iret S hr hk hg hI hS dX5_threes_25 hw
set_option maxRecDepth 100000 in
set_option maxHeartbeats 4000000 in
theorem tX5_howMany (l : Launch) (D : va_G) (ad : Nat → Nat) (cI cB : ClassId)  (a1 : Int32) (u : SS) (post : Int32 → SS → Prop) (hw : wX5_howMany  a1 u post) : Met l yX5_howMany (Cond.code yX5_howMany cX5_howMany 2 (some .int) :: XT) (Rm 6) (va_Pc [.ref (ad 0), .int a1] (Pr (mI D ad cI cB) mN u)) (va_Qi post (Po (mI D ad cI cB)) (mA ad)) 0 0 (mA ad) := by
  refine g_of (A := (mA ad)) (by decide) (Nat.le_of_ble_eq_true rfl) (lv := [(0, .ref (ad 0)), (1, .int a1)]) rfl ?_
  intro p e s m below meth c ls S hr hk hI hN hS hl
  have hx := S.1
  have hb := S.2.1
  have ho := S.2.2.2.1
  have hg := @mG D ad cI cB
  refine lv_iload_n hx hb dX5_howMany_0 rfl (lv_at hl 1 rfl) ?_
  have hsw := hw
  by_cases hk0 : a1 = (0 : Int32)
  · refine lv_tableIn (tgt := 52) (off := 51) hx hb dX5_howMany_1 (by rw [hk0]; decide) (by rw [hk0]; decide) (by rw [hk0]; decide) (by decide) ?_
    have hw := hsw.1 hk0
    refine lv_aload_n hx hb dX5_howMany_52 rfl (lv_at hl 0 rfl) ?_
    refine mg_X5_0_101 S hI dX5_howMany_53 ?_
    exact g_iret S hr hk hg hI hS dX5_howMany_56 hw
  by_cases hk1 : a1 = (1 : Int32)
  · refine lv_tableIn (tgt := 57) (off := 56) hx hb dX5_howMany_1 (by rw [hk1]; decide) (by rw [hk1]; decide) (by rw [hk1]; decide) (by decide) ?_
    have hw := hsw.2.1 hk1
    refine lv_aload_n hx hb dX5_howMany_57 rfl (lv_at hl 0 rfl) ?_
    refine mg_X5_0_98 S hI dX5_howMany_58 ?_
    exact g_iret S hr hk hg hI hS dX5_howMany_61 hw
  by_cases hk2 : a1 = (2 : Int32)
  · refine lv_tableIn (tgt := 62) (off := 61) hx hb dX5_howMany_1 (by rw [hk2]; decide) (by rw [hk2]; decide) (by rw [hk2]; decide) (by decide) ?_
    have hw := hsw.2.2.1 hk2
    refine lv_aload_n hx hb dX5_howMany_62 rfl (lv_at hl 0 rfl) ?_
    refine g_ci hg hS (g_runV S hg hI hN hS (As := []) (rest := []) (tX5_bare l D ad cI cB   _ _ hw) cv_yX5_bare qm_X5_239 (va_recv hI.2.1 hI.1 (ci := 5) (q0 := 0) rfl rfl) ⟨Nat.le_of_ble_eq_true rfl, Nat.le_of_ble_eq_true rfl⟩ rfl hl.1 rfl (Nat.le_of_ble_eq_true rfl) dX5_howMany_63) (fun r1 u2 H locs hI hS hw => ?_)
    exact g_iret S hr hk hg hI hS dX5_howMany_66 hw
  by_cases hk3 : a1 = (3 : Int32)
  · refine lv_tableIn (tgt := 67) (off := 66) hx hb dX5_howMany_1 (by rw [hk3]; decide) (by rw [hk3]; decide) (by rw [hk3]; decide) (by decide) ?_
    have hw := hsw.2.2.2.1 hk3
    refine lv_aload_n hx hb dX5_howMany_67 rfl (lv_at hl 0 rfl) ?_
    refine g_ci hg hS (g_runV S hg hI hN hS (As := []) (rest := []) (tX5_badNow l D ad cI cB   _ _ hw) cv_yX5_badNow qm_X5_180 (va_recv hI.2.1 hI.1 (ci := 5) (q0 := 0) rfl rfl) ⟨Nat.le_of_ble_eq_true rfl, Nat.le_of_ble_eq_true rfl⟩ rfl hl.1 rfl (Nat.le_of_ble_eq_true rfl) dX5_howMany_68) (fun r3 u4 H locs hI hS hw => ?_)
    exact g_iret S hr hk hg hI hS dX5_howMany_71 hw
  by_cases hk4 : a1 = (4 : Int32)
  · refine lv_tableIn (tgt := 72) (off := 71) hx hb dX5_howMany_1 (by rw [hk4]; decide) (by rw [hk4]; decide) (by rw [hk4]; decide) (by decide) ?_
    have hw := hsw.2.2.2.2.1 hk4
    refine lv_aload_n hx hb dX5_howMany_72 rfl (lv_at hl 0 rfl) ?_
    refine g_ci hg hS (g_runV S hg hI hN hS (As := []) (rest := []) (tX5_threes l D ad cI cB   _ _ hw) cv_yX5_threes qm_X5_242 (va_recv hI.2.1 hI.1 (ci := 5) (q0 := 0) rfl rfl) ⟨Nat.le_of_ble_eq_true rfl, Nat.le_of_ble_eq_true rfl⟩ rfl hl.1 rfl (Nat.le_of_ble_eq_true rfl) dX5_howMany_73) (fun r5 u6 H locs hI hS hw => ?_)
    exact g_iret S hr hk hg hI hS dX5_howMany_76 hw
  by_cases hk5 : a1 = (5 : Int32)
  · refine lv_tableIn (tgt := 77) (off := 76) hx hb dX5_howMany_1 (by rw [hk5]; decide) (by rw [hk5]; decide) (by rw [hk5]; decide) (by decide) ?_
    have hw := hsw.2.2.2.2.2.1 hk5
    refine lv_aload_n hx hb dX5_howMany_77 rfl (lv_at hl 0 rfl) ?_
    refine mg_X5_0_104 S hI dX5_howMany_78 ?_
    exact g_iret S hr hk hg hI hS dX5_howMany_81 hw
  by_cases hk6 : a1 = (6 : Int32)
  · refine lv_tableIn (tgt := 82) (off := 81) hx hb dX5_howMany_1 (by rw [hk6]; decide) (by rw [hk6]; decide) (by rw [hk6]; decide) (by decide) ?_
    have hw := hsw.2.2.2.2.2.2.1 hk6
    refine lv_aload_n hx hb dX5_howMany_82 rfl (lv_at hl 0 rfl) ?_
    refine mg_X5_0_110 S hI dX5_howMany_83 ?_
    exact g_iret S hr hk hg hI hS dX5_howMany_86 hw
  by_cases hk7 : a1 = (7 : Int32)
  · refine lv_tableIn (tgt := 87) (off := 86) hx hb dX5_howMany_1 (by rw [hk7]; decide) (by rw [hk7]; decide) (by rw [hk7]; decide) (by decide) ?_
    have hw := hsw.2.2.2.2.2.2.2.1 hk7
    refine lv_aload_n hx hb dX5_howMany_87 rfl (lv_at hl 0 rfl) ?_
    refine mg_X5_0_69 S hI dX5_howMany_88 ?_
    exact g_iret S hr hk hg hI hS dX5_howMany_91 hw
  by_cases hk8 : a1 = (8 : Int32)
  · refine lv_tableIn (tgt := 92) (off := 91) hx hb dX5_howMany_1 (by rw [hk8]; decide) (by rw [hk8]; decide) (by rw [hk8]; decide) (by decide) ?_
    have hw := hsw.2.2.2.2.2.2.2.2.1 hk8
    refine lv_aload_n hx hb dX5_howMany_92 rfl (lv_at hl 0 rfl) ?_
    refine mg_X5_0_107 S hI dX5_howMany_93 ?_
    exact g_iret S hr hk hg hI hS dX5_howMany_96 hw
  have hw := hsw.2.2.2.2.2.2.2.2.2 hk0 hk1 hk2 hk3 hk4 hk5 hk6 hk7 hk8
  have hto : (a1).toInt < 0 ∨ 8 < (a1).toInt := by
    have t0 := lv_neT (a := 0) hk0 (by decide)
    have t1 := lv_neT (a := 1) hk1 (by decide)
    have t2 := lv_neT (a := 2) hk2 (by decide)
    have t3 := lv_neT (a := 3) hk3 (by decide)
    have t4 := lv_neT (a := 4) hk4 (by decide)
    have t5 := lv_neT (a := 5) hk5 (by decide)
    have t6 := lv_neT (a := 6) hk6 (by decide)
    have t7 := lv_neT (a := 7) hk7 (by decide)
    have t8 := lv_neT (a := 8) hk8 (by decide)
    omega
  refine lv_tableOut (tgt := 97) hx hb dX5_howMany_1 hto (by decide) ?_
  refine lv_bipush (v := (-102 : Int32)) hx hb dX5_howMany_97 (by decide) ?_
  exact g_iret S hr hk hg hI hS dX5_howMany_99 hw
set_option maxRecDepth 100000 in
set_option maxHeartbeats 4000000 in
theorem tX5_count (l : Launch) (D : va_G) (ad : Nat → Nat) (cI cB : ClassId)  (a1 : Int32) (u : SS) (post : Int32 → SS → Prop) (hw : wX5_count  a1 u post) : Met l yX5_count (Cond.code yX5_count cX5_count 2 (some .int) :: XT) (Rm 7) (va_Pc [.ref (ad 0), .int a1] (Pr (mI D ad cI cB) mN u)) (va_Qi post (Po (mI D ad cI cB)) (mA ad)) 0 0 (mA ad) := by
  refine g_of (A := (mA ad)) (by decide) (Nat.le_of_ble_eq_true rfl) (lv := [(0, .ref (ad 0)), (1, .int a1)]) rfl ?_
  intro p e s m below meth c ls S hr hk hI hN hS hl
  have hx := S.1
  have hb := S.2.1
  have ho := S.2.2.2.1
  have hg := @mG D ad cI cB
  refine lv_aload_n hx hb dX5_count_0 rfl (lv_at hl 0 rfl) ?_
  refine lv_iload_n hx hb dX5_count_1 rfl (lv_at hl 1 rfl) ?_
  refine g_ci hg hS (g_runV S hg hI hN hS (As := [.int a1]) (rest := []) (tX5_howMany l D ad cI cB  _ _ _ hw) cv_yX5_howMany qm_X5_245 (va_recv hI.2.1 hI.1 (ci := 5) (q0 := 0) rfl rfl) ⟨Nat.le_of_ble_eq_true rfl, Nat.le_of_ble_eq_true rfl⟩ rfl hl.1 rfl (Nat.le_of_ble_eq_true rfl) dX5_count_2) (fun r1 u2 H locs hI hS hw => ?_)
  exact g_iret S hr hk hg hI hS dX5_count_5 hw
set_option maxRecDepth 100000 in
set_option maxHeartbeats 4000000 in
theorem tX5_mix (l : Launch) (D : va_G) (ad : Nat → Nat) (cI cB : ClassId)  (a1 : Int64) (u : SS) (post : SS → Prop) (hw : wX5_mix  a1 u post) : Met l yX5_mix (Cond.code yX5_mix cX5_mix 3 none :: XT) (Rm 1) (va_Pc [.ref (ad 0), .long a1] (Pr (mI D ad cI cB) mN u)) (va_Qv post (Po (mI D ad cI cB)) (mA ad)) 0 0 (mA ad) := by
  refine g_of (A := (mA ad)) (by decide) (Nat.le_of_ble_eq_true rfl) (lv := [(0, .ref (ad 0)), (1, .long a1)]) rfl ?_
  intro p e s m below meth c ls S hr hk hI hN hS hl
  have hx := S.1
  have hb := S.2.1
  have ho := S.2.2.2.1
  have hg := @mG D ad cI cB
  refine lv_aload_n hx hb dX5_mix_0 rfl (lv_at hl 0 rfl) ?_
  refine lv_ldc2 (v := (31 : Int64)) hx hb ho (g_in S ql_X5_248) dX5_mix_1 ?_
  refine lv_aload_n hx hb dX5_mix_4 rfl (lv_at hl 0 rfl) ?_
  refine mg_X5_0_250 S hI dX5_mix_5 ?_
  refine lv_lmul hx hb dX5_mix_8 ?_
  refine lv_lload_n hx hb dX5_mix_9 rfl (lv_at hl 1 rfl) ?_
  refine lv_ladd hx hb dX5_mix_10 ?_
  refine mp_X5_0_250 S hI hS dX5_mix_11 (fun H locs hI hS => ?_)
  exact g_vret S hr hk hg hI hS dX5_mix_14 hw
set_option maxRecDepth 100000 in
set_option maxHeartbeats 4000000 in
theorem tX5_mixBoard (l : Launch) (D : va_G) (ad : Nat → Nat) (cI cB : ClassId)   (u : SS) (post : SS → Prop) (hw : wX5_mixBoard   u post) : Met l yX5_mixBoard (Cond.code yX5_mixBoard cX5_mixBoard 2 none :: XT) (Rm 8) (va_Pc [.ref (ad 0)] (Pr (mI D ad cI cB) mN u)) (va_Qv post (Po (mI D ad cI cB)) (mA ad)) 0 0 (mA ad) := by
  refine g_of (A := (mA ad)) (by decide) (Nat.le_of_ble_eq_true rfl) (lv := [(0, .ref (ad 0))]) rfl ?_
  intro p e s m below meth c ls S hr hk hI hN hS hl
  have hx := S.1
  have hb := S.2.1
  have ho := S.2.2.2.1
  have hg := @mG D ad cI cB
  have L2 : ∀  (K2 : Int32 → SS → Prop) (n : Nat) (x1_2 : Int32) (u1 : SS) (H : Heap) (locs : List Loc) (ls : Array Slot), mI D ad cI cB u1 s H → va_S (mA ad) s.heap H locs → lv_has ls 2 [(0, .ref (ad 0)), (1, .int x1_2)] → wX5_mixBoard_2 post K2 n x1_2 u1 → (∀ (x1_2 : Int32) (u1 : SS) (H : Heap) (locs : List Loc) (ls : Array Slot), mI D ad cI cB u1 s H → va_S (mA ad) s.heap H locs → lv_has ls 2 [(0, .ref (ad 0)), (1, .int x1_2)] → K2 x1_2 u1 → W p l e (Rm 8) s m [.ref (ad 0)].toArray below meth c H locs 0 0 (MQ below (va_Qv post (Po (mI D ad cI cB)) (mA ad)) [.ref (ad 0)].toArray s 0 0 (mA ad)) (F0 m 23 ls [])) → W p l e (Rm 8) s m [.ref (ad 0)].toArray below meth c H locs 0 0 (MQ below (va_Qv post (Po (mI D ad cI cB)) (mA ad)) [.ref (ad 0)].toArray s 0 0 (mA ad)) (F0 m 2 ls []) := by
    intro K2 n
    induction n with
    | zero => intro x1_2 u1 H locs ls hI hS hl hw hK2; exact False.elim hw
    | succ n2 ih2 =>
      intro x1_2 u1 H locs ls hI hS hl hw hK2
      refine lv_iload_n hx hb dX5_mixBoard_2 rfl (lv_at hl 1 rfl) ?_
      refine lv_iconst (v := (3 : Int32)) hx hb dX5_mixBoard_3 (by decide) ?_
      refine lv_icmp_ge (tgt := 23) hx hb dX5_mixBoard_4 (by decide) (fun hc => ?_) (fun hc => ?_)
      · have hw := hw.1 hc
        exact hK2 x1_2 u1 _ _ _ hI hS (lv_sub hl [0, 1] rfl) hw
      · have hw := hw.2 hc
        refine lv_aload_n hx hb dX5_mixBoard_7 rfl (lv_at hl 0 rfl) ?_
        refine lv_aload_n hx hb dX5_mixBoard_8 rfl (lv_at hl 0 rfl) ?_
        refine lv_iload_n hx hb dX5_mixBoard_9 rfl (lv_at hl 1 rfl) ?_
        refine g_ci hg hS (g_runV S hg hI hN hS (As := [.int x1_2]) (rest := [.ref (ad 0)]) (tX5_waysNow l D ad cI cB  _ _ _ hw) cv_yX5_waysNow qm_X5_174 (va_recv hI.2.1 hI.1 (ci := 5) (q0 := 0) rfl rfl) ⟨Nat.le_of_ble_eq_true rfl, Nat.le_of_ble_eq_true rfl⟩ rfl hl.1 rfl (Nat.le_of_ble_eq_true rfl) dX5_mixBoard_10) (fun r2 u3 H locs hI hS hw => ?_)
        refine lv_i2l (v := r2.toInt64) hx hb dX5_mixBoard_13 rfl ?_
        refine g_cv hg hS (g_runV S hg hI hN hS (As := [.long r2.toInt64]) (rest := []) (tX5_mix l D ad cI cB  _ _ _ hw) cv_yX5_mix qm_X5_253 (va_recv hI.2.1 hI.1 (ci := 5) (q0 := 0) rfl rfl) ⟨Nat.le_of_ble_eq_true rfl, Nat.le_of_ble_eq_true rfl⟩ rfl hl.1 rfl (Nat.le_of_ble_eq_true rfl) dX5_mixBoard_14) (fun u5 H locs hI hS hw => ?_)
        refine lv_iinc (v := x1_2 + 1) (lv' := [(1, .int (x1_2 + 1)), (0, .ref (ad 0))]) hx hb dX5_mixBoard_17 hl (k := 1) rfl (congrArg (fun z => x1_2 + z) (by decide)) (by decide) rfl (fun ls hl => ?_)
        refine lv_goto (tgt := 2) hx hb dX5_mixBoard_20 (by decide) ?_
        exact ih2 (x1_2 + 1) u5 _ _ _ hI hS (lv_sub hl [1, 0] rfl) hw hK2
  refine lv_iconst (v := (0 : Int32)) hx hb dX5_mixBoard_0 (by decide) ?_
  refine lv_istore_n (lv' := [(1, .int (0 : Int32)), (0, .ref (ad 0))]) hx hb dX5_mixBoard_1 rfl hl (by decide) rfl (fun ls hl => ?_)
  obtain ⟨n, hw⟩ := hw
  refine L2 _ n (0 : Int32) u _ _ _ hI hS (lv_sub hl [1, 0] rfl) hw (fun x1_6 u7 H locs ls hI hS hl hw => ?_)
  refine lv_aload_n hx hb dX5_mixBoard_23 rfl (lv_at hl 0 rfl) ?_
  refine lv_aload_n hx hb dX5_mixBoard_24 rfl (lv_at hl 0 rfl) ?_
  refine g_ci hg hS (g_runV S hg hI hN hS (As := []) (rest := [.ref (ad 0)]) (tX5_mendNow l D ad cI cB   _ _ hw) cv_yX5_mendNow qm_X5_184 (va_recv hI.2.1 hI.1 (ci := 5) (q0 := 0) rfl rfl) ⟨Nat.le_of_ble_eq_true rfl, Nat.le_of_ble_eq_true rfl⟩ rfl hl.1 rfl (Nat.le_of_ble_eq_true rfl) dX5_mixBoard_25) (fun r8 u9 H locs hI hS hw => ?_)
  refine lv_i2l (v := r8.toInt64) hx hb dX5_mixBoard_28 rfl ?_
  refine g_cv hg hS (g_runV S hg hI hN hS (As := [.long r8.toInt64]) (rest := []) (tX5_mix l D ad cI cB  _ _ _ hw) cv_yX5_mix qm_X5_253 (va_recv hI.2.1 hI.1 (ci := 5) (q0 := 0) rfl rfl) ⟨Nat.le_of_ble_eq_true rfl, Nat.le_of_ble_eq_true rfl⟩ rfl hl.1 rfl (Nat.le_of_ble_eq_true rfl) dX5_mixBoard_29) (fun u11 H locs hI hS hw => ?_)
  refine lv_aload_n hx hb dX5_mixBoard_32 rfl (lv_at hl 0 rfl) ?_
  refine lv_aload_n hx hb dX5_mixBoard_33 rfl (lv_at hl 0 rfl) ?_
  refine lv_iconst (v := (0 : Int32)) hx hb dX5_mixBoard_34 (by decide) ?_
  refine g_ci hg hS (g_runV S hg hI hN hS (As := [.int (0 : Int32)]) (rest := [.ref (ad 0)]) (tX5_winsNow l D ad cI cB  _ _ _ hw) cv_yX5_winsNow qm_X5_193 (va_recv hI.2.1 hI.1 (ci := 5) (q0 := 0) rfl rfl) ⟨Nat.le_of_ble_eq_true rfl, Nat.le_of_ble_eq_true rfl⟩ rfl hl.1 rfl (Nat.le_of_ble_eq_true rfl) dX5_mixBoard_35) (fun r12 u13 H locs hI hS hw => ?_)
  refine lv_i2l (v := r12.toInt64) hx hb dX5_mixBoard_38 rfl ?_
  refine g_cv hg hS (g_runV S hg hI hN hS (As := [.long r12.toInt64]) (rest := []) (tX5_mix l D ad cI cB  _ _ _ hw) cv_yX5_mix qm_X5_253 (va_recv hI.2.1 hI.1 (ci := 5) (q0 := 0) rfl rfl) ⟨Nat.le_of_ble_eq_true rfl, Nat.le_of_ble_eq_true rfl⟩ rfl hl.1 rfl (Nat.le_of_ble_eq_true rfl) dX5_mixBoard_39) (fun u15 H locs hI hS hw => ?_)
  refine lv_aload_n hx hb dX5_mixBoard_42 rfl (lv_at hl 0 rfl) ?_
  refine lv_aload_n hx hb dX5_mixBoard_43 rfl (lv_at hl 0 rfl) ?_
  refine lv_iconst (v := (1 : Int32)) hx hb dX5_mixBoard_44 (by decide) ?_
  refine g_ci hg hS (g_runV S hg hI hN hS (As := [.int (1 : Int32)]) (rest := [.ref (ad 0)]) (tX5_winsNow l D ad cI cB  _ _ _ hw) cv_yX5_winsNow qm_X5_193 (va_recv hI.2.1 hI.1 (ci := 5) (q0 := 0) rfl rfl) ⟨Nat.le_of_ble_eq_true rfl, Nat.le_of_ble_eq_true rfl⟩ rfl hl.1 rfl (Nat.le_of_ble_eq_true rfl) dX5_mixBoard_45) (fun r16 u17 H locs hI hS hw => ?_)
  refine lv_i2l (v := r16.toInt64) hx hb dX5_mixBoard_48 rfl ?_
  refine g_cv hg hS (g_runV S hg hI hN hS (As := [.long r16.toInt64]) (rest := []) (tX5_mix l D ad cI cB  _ _ _ hw) cv_yX5_mix qm_X5_253 (va_recv hI.2.1 hI.1 (ci := 5) (q0 := 0) rfl rfl) ⟨Nat.le_of_ble_eq_true rfl, Nat.le_of_ble_eq_true rfl⟩ rfl hl.1 rfl (Nat.le_of_ble_eq_true rfl) dX5_mixBoard_49) (fun u19 H locs hI hS hw => ?_)
  exact g_vret S hr hk hg hI hS dX5_mixBoard_52 hw
