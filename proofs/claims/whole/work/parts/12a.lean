set_option maxRecDepth 100000 in
set_option maxHeartbeats 4000000 in
theorem tX5_within (l : Launch) (D : va_G) (ad : Nat → Nat) (cI cB : ClassId)  (a0 : Int32) (a1 : Int32) (a2 : Int32) (u : SS) (post : Int32 → SS → Prop) (hw : wX5_within  a0 a1 a2 u post) : Met l yX5_within (Cond.code yX5_within cX5_within 3 (some .boolean) :: XT) (Rm 1) (va_Pc [.int a0, .int a1, .int a2] (Pr (mI D ad cI cB) mN u)) (va_Qi post (Po (mI D ad cI cB)) (mA ad)) 0 0 (mA ad) := by
  refine g_of (A := (mA ad)) (by decide) (Nat.le_of_ble_eq_true rfl) (lv := [(0, .int a0), (1, .int a1), (2, .int a2)]) rfl ?_
  intro p e s m below meth c ls S hr hk hI hN hS hl
  have hx := S.1
  have hb := S.2.1
  have ho := S.2.2.2.1
  have hg := @mG D ad cI cB
  refine lv_iload_n hx hb dX5_within_0 rfl (lv_at hl 0 rfl) ?_
  refine lv_iload_n hx hb dX5_within_1 rfl (lv_at hl 1 rfl) ?_
  refine lv_icmp_lt (tgt := 14) hx hb dX5_within_2 (by decide) (fun hc => ?_) (fun hc => ?_)
  · have hw := hw.1 hc
    refine lv_iconst (v := (0 : Int32)) hx hb dX5_within_14 (by decide) ?_
    exact g_zret S hr rfl hk hg hI hS dX5_within_15 hw
  · have hw := hw.2 hc
    refine lv_iload_n hx hb dX5_within_5 rfl (lv_at hl 0 rfl) ?_
    refine lv_iload_n hx hb dX5_within_6 rfl (lv_at hl 2 rfl) ?_
    refine lv_icmp_gt (tgt := 14) hx hb dX5_within_7 (by decide) (fun hc => ?_) (fun hc => ?_)
    · have hw := hw.1 hc
      refine lv_iconst (v := (0 : Int32)) hx hb dX5_within_14 (by decide) ?_
      exact g_zret S hr rfl hk hg hI hS dX5_within_15 hw
    · have hw := hw.2 hc
      refine lv_iconst (v := (1 : Int32)) hx hb dX5_within_10 (by decide) ?_
      refine lv_goto (tgt := 15) hx hb dX5_within_11 (by decide) ?_
      exact g_zret S hr rfl hk hg hI hS dX5_within_15 hw
set_option maxRecDepth 100000 in
set_option maxHeartbeats 4000000 in
theorem tX5_letter (l : Launch) (D : va_G) (ad : Nat → Nat) (cI cB : ClassId)  (a1 : Int32) (u : SS) (post : Int32 → SS → Prop) (hw : wX5_letter  a1 u post) : Met l yX5_letter (Cond.code yX5_letter cX5_letter 2 (some .int) :: XT) (Rm 2) (va_Pc [.ref (ad 0), .int a1] (Pr (mI D ad cI cB) mN u)) (va_Qi post (Po (mI D ad cI cB)) (mA ad)) 0 0 (mA ad) := by
  refine g_of (A := (mA ad)) (by decide) (Nat.le_of_ble_eq_true rfl) (lv := [(0, .ref (ad 0)), (1, .int a1)]) rfl ?_
  intro p e s m below meth c ls S hr hk hI hN hS hl
  have hx := S.1
  have hb := S.2.1
  have ho := S.2.2.2.1
  have hg := @mG D ad cI cB
  refine lv_iload_n hx hb dX5_letter_0 rfl (lv_at hl 1 rfl) ?_
  refine lv_bipush (v := (32 : Int32)) hx hb dX5_letter_1 (by decide) ?_
  refine lv_bipush (v := (126 : Int32)) hx hb dX5_letter_3 (by decide) ?_
  refine g_ci hg hS (g_runS S hg hI hN hS (As := [.int a1, .int (32 : Int32), .int (126 : Int32)]) (rest := []) (tX5_within l D ad cI cB  _ _ _ _ _ hw) cs_yX5_within qm_X5_65 ⟨Nat.le_of_ble_eq_true rfl, Nat.le_of_ble_eq_true rfl⟩ rfl hl.1 rfl (Nat.le_of_ble_eq_true rfl) dX5_letter_5) (fun r1 u2 H locs hI hS hw => ?_)
  refine lv_if_ne (tgt := 14) hx hb dX5_letter_8 (by decide) (fun hc => ?_) (fun hc => ?_)
  · have hw := hw.1 hc
    refine lv_aload_n hx hb dX5_letter_14 rfl (lv_at hl 0 rfl) ?_
    refine mg_X5_0_69 S hI dX5_letter_15 ?_
    refine lv_bipush (v := (26 : Int32)) hx hb dX5_letter_18 (by decide) ?_
    refine lv_icmp_ne (tgt := 26) hx hb dX5_letter_20 (by decide) (fun hc => ?_) (fun hc => ?_)
    · have hw := hw.1 hc
      refine lv_aload_n hx hb dX5_letter_26 rfl (lv_at hl 0 rfl) ?_
      refine mg_X5_0_25 S hI dX5_letter_27 ?_
      refine lv_aload_n hx hb dX5_letter_30 rfl (lv_at hl 0 rfl) ?_
      refine mg_X5_0_69 S hI dX5_letter_31 ?_
      refine lv_iload_n hx hb dX5_letter_34 rfl (lv_at hl 1 rfl) ?_
      refine lv_i2b (v := a1.toInt8.toInt32) hx hb dX5_letter_35 rfl ?_
      obtain ⟨hv, hw⟩ := hw
      refine mst_5 S hI hS hv dX5_letter_36 (fun H locs hI hS => ?_)
      refine lv_aload_n hx hb dX5_letter_37 rfl (lv_at hl 0 rfl) ?_
      refine lv_dup hx hb dX5_letter_38 rfl ?_
      refine mg_X5_0_69 S hI dX5_letter_39 ?_
      refine lv_iconst (v := (1 : Int32)) hx hb dX5_letter_42 (by decide) ?_
      refine lv_iadd hx hb dX5_letter_43 ?_
      refine mp_X5_0_69 S hI hS dX5_letter_44 (fun H locs hI hS => ?_)
      refine lv_aload_n hx hb dX5_letter_47 rfl (lv_at hl 0 rfl) ?_
      refine mg_X5_0_69 S hI dX5_letter_48 ?_
      exact g_iret S hr hk hg hI hS dX5_letter_51 hw
    · have hw := hw.2 hc
      refine lv_bipush (v := (-104 : Int32)) hx hb dX5_letter_23 (by decide) ?_
      exact g_iret S hr hk hg hI hS dX5_letter_25 hw
  · have hw := hw.2 hc
    refine lv_bipush (v := (-102 : Int32)) hx hb dX5_letter_11 (by decide) ?_
    exact g_iret S hr hk hg hI hS dX5_letter_13 hw
set_option maxRecDepth 100000 in
set_option maxHeartbeats 4000000 in
theorem tX5_blank (l : Launch) (D : va_G) (ad : Nat → Nat) (cI cB : ClassId)   (u : SS) (post : Int32 → SS → Prop) (hw : wX5_blank   u post) : Met l yX5_blank (Cond.code yX5_blank cX5_blank 2 (some .int) :: XT) (Rm 1) (va_Pc [.ref (ad 0)] (Pr (mI D ad cI cB) mN u)) (va_Qi post (Po (mI D ad cI cB)) (mA ad)) 0 0 (mA ad) := by
  refine g_of (A := (mA ad)) (by decide) (Nat.le_of_ble_eq_true rfl) (lv := [(0, .ref (ad 0))]) rfl ?_
  intro p e s m below meth c ls S hr hk hI hN hS hl
  have hx := S.1
  have hb := S.2.1
  have ho := S.2.2.2.1
  have hg := @mG D ad cI cB
  refine lv_aload_n hx hb dX5_blank_0 rfl (lv_at hl 0 rfl) ?_
  refine mg_X5_0_69 S hI dX5_blank_1 ?_
  refine lv_istore_n (lv' := [(1, .int (u.1 5)), (0, .ref (ad 0))]) hx hb dX5_blank_4 rfl hl (by decide) rfl (fun ls hl => ?_)
  refine lv_aload_n hx hb dX5_blank_5 rfl (lv_at hl 1 rfl) ?_
  refine lv_iconst (v := (0 : Int32)) hx hb dX5_blank_6 (by decide) ?_
  refine mp_X5_0_69 S hI hS dX5_blank_7 (fun H locs hI hS => ?_)
  refine lv_iload_n hx hb dX5_blank_10 rfl (lv_at hl 0 rfl) ?_
  exact g_iret S hr hk hg hI hS dX5_blank_11 hw
set_option maxRecDepth 100000 in
set_option maxHeartbeats 4000000 in
theorem tX5_at (l : Launch) (D : va_G) (ad : Nat → Nat) (cI cB : ClassId)  (a1 : Int32) (u : SS) (post : Int32 → SS → Prop) (hw : wX5_at  a1 u post) : Met l yX5_at (Cond.code yX5_at cX5_at 2 (some .int) :: XT) (Rm 1) (va_Pc [.ref (ad 0), .int a1] (Pr (mI D ad cI cB) mN u)) (va_Qi post (Po (mI D ad cI cB)) (mA ad)) 0 0 (mA ad) := by
  refine g_of (A := (mA ad)) (by decide) (Nat.le_of_ble_eq_true rfl) (lv := [(0, .ref (ad 0)), (1, .int a1)]) rfl ?_
  intro p e s m below meth c ls S hr hk hI hN hS hl
  have hx := S.1
  have hb := S.2.1
  have ho := S.2.2.2.1
  have hg := @mG D ad cI cB
  refine lv_iload_n hx hb dX5_at_0 rfl (lv_at hl 1 rfl) ?_
  refine lv_aload_n hx hb dX5_at_1 rfl (lv_at hl 0 rfl) ?_
  refine mg_X5_0_69 S hI dX5_at_2 ?_
  refine lv_icmp_ge (tgt := 17) hx hb dX5_at_5 (by decide) (fun hc => ?_) (fun hc => ?_)
  · have hw := hw.1 hc
    refine lv_iconst (v := (0 : Int32)) hx hb dX5_at_17 (by decide) ?_
    exact g_iret S hr hk hg hI hS dX5_at_18 hw
  · have hw := hw.2 hc
    refine lv_aload_n hx hb dX5_at_8 rfl (lv_at hl 0 rfl) ?_
    refine mg_X5_0_25 S hI dX5_at_9 ?_
    refine lv_iload_n hx hb dX5_at_12 rfl (lv_at hl 1 rfl) ?_
    obtain ⟨hv, hw⟩ := hw
    refine mld_5 S hI hv dX5_at_13 ?_
    refine lv_goto (tgt := 18) hx hb dX5_at_14 (by decide) ?_
    exact g_iret S hr hk hg hI hS dX5_at_18 hw
set_option maxRecDepth 100000 in
set_option maxHeartbeats 4000000 in
theorem tX5_kindBy (l : Launch) (D : va_G) (ad : Nat → Nat) (cI cB : ClassId)  (a0 : Int32) (u : SS) (post : Int32 → SS → Prop) (hw : wX5_kindBy  a0 u post) : Met l yX5_kindBy (Cond.code yX5_kindBy cX5_kindBy 1 (some .int) :: XT) (Rm 1) (va_Pc [.int a0] (Pr (mI D ad cI cB) mN u)) (va_Qi post (Po (mI D ad cI cB)) (mA ad)) 0 0 (mA ad) := by
  refine g_of (A := (mA ad)) (by decide) (Nat.le_of_ble_eq_true rfl) (lv := [(0, .int a0)]) rfl ?_
  intro p e s m below meth c ls S hr hk hI hN hS hl
  have hx := S.1
  have hb := S.2.1
  have ho := S.2.2.2.1
  have hg := @mG D ad cI cB
  refine lv_iload_n hx hb dX5_kindBy_0 rfl (lv_at hl 0 rfl) ?_
  have hsw := hw
  by_cases hk102 : a0 = (102 : Int32)
  · refine lv_tableIn (tgt := 76) (off := 75) hx hb dX5_kindBy_1 (by rw [hk102]; decide) (by rw [hk102]; decide) (by rw [hk102]; decide) (by decide) ?_
    have hw := hsw.1 hk102
    refine lv_iconst (v := (2 : Int32)) hx hb dX5_kindBy_76 (by decide) ?_
    exact g_iret S hr hk hg hI hS dX5_kindBy_77 hw
  by_cases hk108 : a0 = (108 : Int32)
  · refine lv_tableIn (tgt := 74) (off := 73) hx hb dX5_kindBy_1 (by rw [hk108]; decide) (by rw [hk108]; decide) (by rw [hk108]; decide) (by decide) ?_
    have hw := hsw.2.1 hk108
    refine lv_iconst (v := (1 : Int32)) hx hb dX5_kindBy_74 (by decide) ?_
    exact g_iret S hr hk hg hI hS dX5_kindBy_75 hw
  by_cases hk110 : a0 = (110 : Int32)
  · refine lv_tableIn (tgt := 72) (off := 71) hx hb dX5_kindBy_1 (by rw [hk110]; decide) (by rw [hk110]; decide) (by rw [hk110]; decide) (by decide) ?_
    have hw := hsw.2.2.1 hk110
    refine lv_iconst (v := (0 : Int32)) hx hb dX5_kindBy_72 (by decide) ?_
    exact g_iret S hr hk hg hI hS dX5_kindBy_73 hw
  by_cases hk111 : a0 = (111 : Int32)
  · refine lv_tableIn (tgt := 80) (off := 79) hx hb dX5_kindBy_1 (by rw [hk111]; decide) (by rw [hk111]; decide) (by rw [hk111]; decide) (by decide) ?_
    have hw := hsw.2.2.2.1 hk111
    refine lv_iconst (v := (4 : Int32)) hx hb dX5_kindBy_80 (by decide) ?_
    exact g_iret S hr hk hg hI hS dX5_kindBy_81 hw
  by_cases hk115 : a0 = (115 : Int32)
  · refine lv_tableIn (tgt := 78) (off := 77) hx hb dX5_kindBy_1 (by rw [hk115]; decide) (by rw [hk115]; decide) (by rw [hk115]; decide) (by decide) ?_
    have hw := hsw.2.2.2.2.1 hk115
    refine lv_iconst (v := (3 : Int32)) hx hb dX5_kindBy_78 (by decide) ?_
    exact g_iret S hr hk hg hI hS dX5_kindBy_79 hw
  have hw := hsw.2.2.2.2.2 hk102 hk108 hk110 hk111 hk115
  by_cases hk103 : a0 = (103 : Int32)
  · refine lv_tableIn (tgt := 82) (off := 81) hx hb dX5_kindBy_1 (by rw [hk103]; decide) (by rw [hk103]; decide) (by rw [hk103]; decide) (by decide) ?_
    refine lv_iconst (v := (-1 : Int32)) hx hb dX5_kindBy_82 (by decide) ?_
    exact g_iret S hr hk hg hI hS dX5_kindBy_83 hw
  by_cases hk104 : a0 = (104 : Int32)
  · refine lv_tableIn (tgt := 82) (off := 81) hx hb dX5_kindBy_1 (by rw [hk104]; decide) (by rw [hk104]; decide) (by rw [hk104]; decide) (by decide) ?_
    refine lv_iconst (v := (-1 : Int32)) hx hb dX5_kindBy_82 (by decide) ?_
    exact g_iret S hr hk hg hI hS dX5_kindBy_83 hw
  by_cases hk105 : a0 = (105 : Int32)
  · refine lv_tableIn (tgt := 82) (off := 81) hx hb dX5_kindBy_1 (by rw [hk105]; decide) (by rw [hk105]; decide) (by rw [hk105]; decide) (by decide) ?_
    refine lv_iconst (v := (-1 : Int32)) hx hb dX5_kindBy_82 (by decide) ?_
    exact g_iret S hr hk hg hI hS dX5_kindBy_83 hw
  by_cases hk106 : a0 = (106 : Int32)
  · refine lv_tableIn (tgt := 82) (off := 81) hx hb dX5_kindBy_1 (by rw [hk106]; decide) (by rw [hk106]; decide) (by rw [hk106]; decide) (by decide) ?_
    refine lv_iconst (v := (-1 : Int32)) hx hb dX5_kindBy_82 (by decide) ?_
    exact g_iret S hr hk hg hI hS dX5_kindBy_83 hw
  by_cases hk107 : a0 = (107 : Int32)
  · refine lv_tableIn (tgt := 82) (off := 81) hx hb dX5_kindBy_1 (by rw [hk107]; decide) (by rw [hk107]; decide) (by rw [hk107]; decide) (by decide) ?_
    refine lv_iconst (v := (-1 : Int32)) hx hb dX5_kindBy_82 (by decide) ?_
    exact g_iret S hr hk hg hI hS dX5_kindBy_83 hw
  by_cases hk109 : a0 = (109 : Int32)
  · refine lv_tableIn (tgt := 82) (off := 81) hx hb dX5_kindBy_1 (by rw [hk109]; decide) (by rw [hk109]; decide) (by rw [hk109]; decide) (by decide) ?_
    refine lv_iconst (v := (-1 : Int32)) hx hb dX5_kindBy_82 (by decide) ?_
    exact g_iret S hr hk hg hI hS dX5_kindBy_83 hw
  by_cases hk112 : a0 = (112 : Int32)
  · refine lv_tableIn (tgt := 82) (off := 81) hx hb dX5_kindBy_1 (by rw [hk112]; decide) (by rw [hk112]; decide) (by rw [hk112]; decide) (by decide) ?_
    refine lv_iconst (v := (-1 : Int32)) hx hb dX5_kindBy_82 (by decide) ?_
    exact g_iret S hr hk hg hI hS dX5_kindBy_83 hw
  by_cases hk113 : a0 = (113 : Int32)
  · refine lv_tableIn (tgt := 82) (off := 81) hx hb dX5_kindBy_1 (by rw [hk113]; decide) (by rw [hk113]; decide) (by rw [hk113]; decide) (by decide) ?_
    refine lv_iconst (v := (-1 : Int32)) hx hb dX5_kindBy_82 (by decide) ?_
    exact g_iret S hr hk hg hI hS dX5_kindBy_83 hw
  by_cases hk114 : a0 = (114 : Int32)
  · refine lv_tableIn (tgt := 82) (off := 81) hx hb dX5_kindBy_1 (by rw [hk114]; decide) (by rw [hk114]; decide) (by rw [hk114]; decide) (by decide) ?_
    refine lv_iconst (v := (-1 : Int32)) hx hb dX5_kindBy_82 (by decide) ?_
    exact g_iret S hr hk hg hI hS dX5_kindBy_83 hw
  have hto : (a0).toInt < 102 ∨ 115 < (a0).toInt := by
    have t0 := lv_neT (a := 102) hk102 (by decide)
    have t1 := lv_neT (a := 103) hk103 (by decide)
    have t2 := lv_neT (a := 104) hk104 (by decide)
    have t3 := lv_neT (a := 105) hk105 (by decide)
    have t4 := lv_neT (a := 106) hk106 (by decide)
    have t5 := lv_neT (a := 107) hk107 (by decide)
    have t6 := lv_neT (a := 108) hk108 (by decide)
    have t7 := lv_neT (a := 109) hk109 (by decide)
    have t8 := lv_neT (a := 110) hk110 (by decide)
    have t9 := lv_neT (a := 111) hk111 (by decide)
    have t10 := lv_neT (a := 112) hk112 (by decide)
    have t11 := lv_neT (a := 113) hk113 (by decide)
    have t12 := lv_neT (a := 114) hk114 (by decide)
    have t13 := lv_neT (a := 115) hk115 (by decide)
    omega
  refine lv_tableOut (tgt := 82) hx hb dX5_kindBy_1 hto (by decide) ?_
  refine lv_iconst (v := (-1 : Int32)) hx hb dX5_kindBy_82 (by decide) ?_
  exact g_iret S hr hk hg hI hS dX5_kindBy_83 hw
set_option maxRecDepth 100000 in
set_option maxHeartbeats 4000000 in
theorem tX5_readKinds (l : Launch) (D : va_G) (ad : Nat → Nat) (cI cB : ClassId)   (u : SS) (post : Int32 → SS → Prop) (hw : wX5_readKinds   u post) : Met l yX5_readKinds (Cond.code yX5_readKinds cX5_readKinds 2 (some .int) :: XT) (Rm 2) (va_Pc [.ref (ad 0)] (Pr (mI D ad cI cB) mN u)) (va_Qi post (Po (mI D ad cI cB)) (mA ad)) 0 0 (mA ad) := by
  refine g_of (A := (mA ad)) (by decide) (Nat.le_of_ble_eq_true rfl) (lv := [(0, .ref (ad 0))]) rfl ?_
  intro p e s m below meth c ls S hr hk hI hN hS hl
  have hx := S.1
  have hb := S.2.1
  have ho := S.2.2.2.1
  have hg := @mG D ad cI cB
  have L2 : ∀  (K2 : Int32 → SS → Prop) (n : Nat) (x1_2 : Int32) (u1 : SS) (H : Heap) (locs : List Loc) (ls : Array Slot), mI D ad cI cB u1 s H → va_S (mA ad) s.heap H locs → lv_has ls 2 [(0, .ref (ad 0)), (1, .int x1_2)] → wX5_readKinds_2 post K2 n x1_2 u1 → (∀ (x1_2 : Int32) (u1 : SS) (H : Heap) (locs : List Loc) (ls : Array Slot), mI D ad cI cB u1 s H → va_S (mA ad) s.heap H locs → lv_has ls 2 [(0, .ref (ad 0)), (1, .int x1_2)] → K2 x1_2 u1 → W p l e (Rm 2) s m [.ref (ad 0)].toArray below meth c H locs 0 0 (MQ below (va_Qi post (Po (mI D ad cI cB)) (mA ad)) [.ref (ad 0)].toArray s 0 0 (mA ad)) (F0 m 39 ls [])) → W p l e (Rm 2) s m [.ref (ad 0)].toArray below meth c H locs 0 0 (MQ below (va_Qi post (Po (mI D ad cI cB)) (mA ad)) [.ref (ad 0)].toArray s 0 0 (mA ad)) (F0 m 2 ls []) := by
    intro K2 n
    induction n with
    | zero => intro x1_2 u1 H locs ls hI hS hl hw hK2; exact False.elim hw
    | succ n2 ih2 =>
      intro x1_2 u1 H locs ls hI hS hl hw hK2
      refine lv_aload_n hx hb dX5_readKinds_2 rfl (lv_at hl 0 rfl) ?_
      refine mg_X5_0_73 S hI dX5_readKinds_3 ?_
      refine lv_bipush (v := (10 : Int32)) hx hb dX5_readKinds_6 (by decide) ?_
      refine lv_icmp_ge (tgt := 39) hx hb dX5_readKinds_8 (by decide) (fun hc => ?_) (fun hc => ?_)
      · have hw := hw.1 hc
        exact hK2 x1_2 u1 _ _ _ hI hS (lv_sub hl [0, 1] rfl) hw
      · have hw := hw.2 hc
        refine lv_aload_n hx hb dX5_readKinds_11 rfl (lv_at hl 0 rfl) ?_
        refine lv_iload_n hx hb dX5_readKinds_12 rfl (lv_at hl 1 rfl) ?_
        refine g_ci hg hS (g_runV S hg hI hN hS (As := [.int x1_2]) (rest := []) (tX5_at l D ad cI cB  _ _ _ hw) cv_yX5_at qm_X5_76 (va_recv hI.2.1 hI.1 (ci := 5) (q0 := 0) rfl rfl) ⟨Nat.le_of_ble_eq_true rfl, Nat.le_of_ble_eq_true rfl⟩ rfl hl.1 rfl (Nat.le_of_ble_eq_true rfl) dX5_readKinds_13) (fun r2 u3 H locs hI hS hw => ?_)
        refine g_ci hg hS (g_runS S hg hI hN hS (As := [.int r2]) (rest := []) (tX5_kindBy l D ad cI cB  _ _ _ hw) cs_yX5_kindBy qm_X5_80 ⟨Nat.le_of_ble_eq_true rfl, Nat.le_of_ble_eq_true rfl⟩ rfl hl.1 rfl (Nat.le_of_ble_eq_true rfl) dX5_readKinds_16) (fun r4 u5 H locs hI hS hw => ?_)
        refine lv_iconst (v := (-1 : Int32)) hx hb dX5_readKinds_19 (by decide) ?_
        refine lv_icmp_eq (tgt := 39) hx hb dX5_readKinds_20 (by decide) (fun hc => ?_) (fun hc => ?_)
        · have hw := hw.1 hc
          exact hK2 x1_2 u5 _ _ _ hI hS (lv_sub hl [0, 1] rfl) hw
        · have hw := hw.2 hc
          refine lv_aload_n hx hb dX5_readKinds_23 rfl (lv_at hl 0 rfl) ?_
          refine lv_dup hx hb dX5_readKinds_24 rfl ?_
          refine mg_X5_0_73 S hI dX5_readKinds_25 ?_
          refine lv_iconst (v := (1 : Int32)) hx hb dX5_readKinds_28 (by decide) ?_
          refine lv_iadd hx hb dX5_readKinds_29 ?_
          refine mp_X5_0_73 S hI hS dX5_readKinds_30 (fun H locs hI hS => ?_)
          refine lv_iinc (v := x1_2 + 1) (lv' := [(1, .int (x1_2 + 1)), (0, .ref (ad 0))]) hx hb dX5_readKinds_33 hl (k := 1) rfl (congrArg (fun z => x1_2 + z) (by decide)) (by decide) rfl (fun ls hl => ?_)
          refine lv_goto (tgt := 2) hx hb dX5_readKinds_36 (by decide) ?_
          exact ih2 (x1_2 + 1) (sI u5 7 ((u5.1 7) + (1 : Int32))) _ _ _ hI hS (lv_sub hl [1, 0] rfl) hw hK2
  refine lv_iconst (v := (2 : Int32)) hx hb dX5_readKinds_0 (by decide) ?_
  refine lv_istore_n (lv' := [(1, .int (2 : Int32)), (0, .ref (ad 0))]) hx hb dX5_readKinds_1 rfl hl (by decide) rfl (fun ls hl => ?_)
  obtain ⟨n, hw⟩ := hw
  refine L2 _ n (2 : Int32) u _ _ _ hI hS (lv_sub hl [1, 0] rfl) hw (fun x1_6 u7 H locs ls hI hS hl hw => ?_)
  refine lv_iload_n hx hb dX5_readKinds_39 rfl (lv_at hl 1 rfl) ?_
  exact g_iret S hr hk hg hI hS dX5_readKinds_40 hw
set_option maxRecDepth 100000 in
set_option maxHeartbeats 4000000 in
theorem tX5_readSigns (l : Launch) (D : va_G) (ad : Nat → Nat) (cI cB : ClassId)  (a1 : Int32) (a2 : Int32) (u : SS) (post : Int32 → SS → Prop) (hw : wX5_readSigns  a1 a2 u post) : Met l yX5_readSigns (Cond.code yX5_readSigns cX5_readSigns 4 (some .int) :: XT) (Rm 2) (va_Pc [.ref (ad 0), .int a1, .int a2] (Pr (mI D ad cI cB) mN u)) (va_Qi post (Po (mI D ad cI cB)) (mA ad)) 0 0 (mA ad) := by
  refine g_of (A := (mA ad)) (by decide) (Nat.le_of_ble_eq_true rfl) (lv := [(0, .ref (ad 0)), (1, .int a1), (2, .int a2)]) rfl ?_
  intro p e s m below meth c ls S hr hk hI hN hS hl
  have hx := S.1
  have hb := S.2.1
  have ho := S.2.2.2.1
  have hg := @mG D ad cI cB
  have L2 : ∀ (x1_2 : Int32) (x2_2 : Int32) (K2 : Int32 → SS → Prop) (n : Nat) (x3_2 : Int32) (u1 : SS) (H : Heap) (locs : List Loc) (ls : Array Slot), mI D ad cI cB u1 s H → va_S (mA ad) s.heap H locs → lv_has ls 4 [(0, .ref (ad 0)), (1, .int x1_2), (2, .int x2_2), (3, .int x3_2)] → wX5_readSigns_2 post x1_2 x2_2 K2 n x3_2 u1 → (∀ (x3_2 : Int32) (u1 : SS) (H : Heap) (locs : List Loc) (ls : Array Slot), mI D ad cI cB u1 s H → va_S (mA ad) s.heap H locs → lv_has ls 4 [(0, .ref (ad 0)), (1, .int x1_2), (2, .int x2_2), (3, .int x3_2)] → K2 x3_2 u1 → W p l e (Rm 2) s m [.ref (ad 0), .int a1, .int a2].toArray below meth c H locs 0 0 (MQ below (va_Qi post (Po (mI D ad cI cB)) (mA ad)) [.ref (ad 0), .int a1, .int a2].toArray s 0 0 (mA ad)) (F0 m 46 ls [])) → W p l e (Rm 2) s m [.ref (ad 0), .int a1, .int a2].toArray below meth c H locs 0 0 (MQ below (va_Qi post (Po (mI D ad cI cB)) (mA ad)) [.ref (ad 0), .int a1, .int a2].toArray s 0 0 (mA ad)) (F0 m 2 ls []) := by
    intro x1_2 x2_2 K2 n
    induction n with
    | zero => intro x3_2 u1 H locs ls hI hS hl hw hK2; exact False.elim hw
    | succ n2 ih2 =>
      intro x3_2 u1 H locs ls hI hS hl hw hK2
      refine lv_iload_n hx hb dX5_readSigns_2 rfl (lv_at hl 3 rfl) ?_
      refine lv_iload_n hx hb dX5_readSigns_3 rfl (lv_at hl 1 rfl) ?_
      refine lv_aload_n hx hb dX5_readSigns_4 rfl (lv_at hl 0 rfl) ?_
      refine mg_X5_0_73 S hI dX5_readSigns_5 ?_
      refine lv_iadd hx hb dX5_readSigns_8 ?_
      refine lv_icmp_ge (tgt := 46) hx hb dX5_readSigns_9 (by decide) (fun hc => ?_) (fun hc => ?_)
      · have hw := hw.1 hc
        exact hK2 x3_2 u1 _ _ _ hI hS (lv_sub hl [0, 1, 2, 3] rfl) hw
      · have hw := hw.2 hc
        refine lv_aload_n hx hb dX5_readSigns_12 rfl (lv_at hl 0 rfl) ?_
        refine lv_iload_n hx hb dX5_readSigns_13 rfl (lv_at hl 3 rfl) ?_
        refine g_ci hg hS (g_runV S hg hI hN hS (As := [.int x3_2]) (rest := []) (tX5_at l D ad cI cB  _ _ _ hw) cv_yX5_at qm_X5_76 (va_recv hI.2.1 hI.1 (ci := 5) (q0 := 0) rfl rfl) ⟨Nat.le_of_ble_eq_true rfl, Nat.le_of_ble_eq_true rfl⟩ rfl hl.1 rfl (Nat.le_of_ble_eq_true rfl) dX5_readSigns_14) (fun r2 u3 H locs hI hS hw => ?_)
        refine lv_bipush (v := (46 : Int32)) hx hb dX5_readSigns_17 (by decide) ?_
        refine lv_icmp_eq (tgt := 40) hx hb dX5_readSigns_19 (by decide) (fun hc => ?_) (fun hc => ?_)
        · have hw := hw.1 hc
          refine lv_iinc (v := x3_2 + 1) (lv' := [(3, .int (x3_2 + 1)), (0, .ref (ad 0)), (1, .int x1_2), (2, .int x2_2)]) hx hb dX5_readSigns_40 hl (k := 3) rfl (congrArg (fun z => x3_2 + z) (by decide)) (by decide) rfl (fun ls hl => ?_)
          refine lv_goto (tgt := 2) hx hb dX5_readSigns_43 (by decide) ?_
          exact ih2 (x3_2 + 1) u3 _ _ _ hI hS (lv_sub hl [1, 2, 3, 0] rfl) hw hK2
        · have hw := hw.2 hc
          refine lv_aload_n hx hb dX5_readSigns_22 rfl (lv_at hl 0 rfl) ?_
          refine lv_iload_n hx hb dX5_readSigns_23 rfl (lv_at hl 3 rfl) ?_
          refine g_ci hg hS (g_runV S hg hI hN hS (As := [.int x3_2]) (rest := []) (tX5_at l D ad cI cB  _ _ _ hw) cv_yX5_at qm_X5_76 (va_recv hI.2.1 hI.1 (ci := 5) (q0 := 0) rfl rfl) ⟨Nat.le_of_ble_eq_true rfl, Nat.le_of_ble_eq_true rfl⟩ rfl hl.1 rfl (Nat.le_of_ble_eq_true rfl) dX5_readSigns_24) (fun r4 u5 H locs hI hS hw => ?_)
          refine lv_bipush (v := (97 : Int32)) hx hb dX5_readSigns_27 (by decide) ?_
          refine lv_isub hx hb dX5_readSigns_29 ?_
          refine lv_iconst (v := (0 : Int32)) hx hb dX5_readSigns_30 (by decide) ?_
          refine lv_iload_n hx hb dX5_readSigns_31 rfl (lv_at hl 2 rfl) ?_
          refine lv_iconst (v := (1 : Int32)) hx hb dX5_readSigns_32 (by decide) ?_
          refine lv_isub hx hb dX5_readSigns_33 ?_
          refine g_ci hg hS (g_runS S hg hI hN hS (As := [.int (r4 - (97 : Int32)), .int (0 : Int32), .int (x2_2 - (1 : Int32))]) (rest := []) (tX5_within l D ad cI cB  _ _ _ _ _ hw) cs_yX5_within qm_X5_65 ⟨Nat.le_of_ble_eq_true rfl, Nat.le_of_ble_eq_true rfl⟩ rfl hl.1 rfl (Nat.le_of_ble_eq_true rfl) dX5_readSigns_34) (fun r6 u7 H locs hI hS hw => ?_)
          refine lv_if_eq (tgt := 46) hx hb dX5_readSigns_37 (by decide) (fun hc => ?_) (fun hc => ?_)
          · have hw := hw.1 hc
            exact hK2 x3_2 u7 _ _ _ hI hS (lv_sub hl [0, 1, 2, 3] rfl) hw
          · have hw := hw.2 hc
            refine lv_iinc (v := x3_2 + 1) (lv' := [(3, .int (x3_2 + 1)), (0, .ref (ad 0)), (1, .int x1_2), (2, .int x2_2)]) hx hb dX5_readSigns_40 hl (k := 3) rfl (congrArg (fun z => x3_2 + z) (by decide)) (by decide) rfl (fun ls hl => ?_)
            refine lv_goto (tgt := 2) hx hb dX5_readSigns_43 (by decide) ?_
            exact ih2 (x3_2 + 1) u7 _ _ _ hI hS (lv_sub hl [1, 2, 3, 0] rfl) hw hK2
  refine lv_iload_n hx hb dX5_readSigns_0 rfl (lv_at hl 1 rfl) ?_
  refine lv_istore_n (lv' := [(3, .int a1), (0, .ref (ad 0)), (1, .int a1), (2, .int a2)]) hx hb dX5_readSigns_1 rfl hl (by decide) rfl (fun ls hl => ?_)
  obtain ⟨n, hw⟩ := hw
  refine L2 a1 a2 _ n a1 u _ _ _ hI hS (lv_sub hl [1, 2, 3, 0] rfl) hw (fun x3_8 u9 H locs ls hI hS hl hw => ?_)
  refine lv_aload_n hx hb dX5_readSigns_46 rfl (lv_at hl 0 rfl) ?_
  refine lv_iload_n hx hb dX5_readSigns_47 rfl (lv_at hl 3 rfl) ?_
  refine lv_iload_n hx hb dX5_readSigns_48 rfl (lv_at hl 1 rfl) ?_
  refine lv_aload_n hx hb dX5_readSigns_49 rfl (lv_at hl 0 rfl) ?_
  refine mg_X5_0_73 S hI dX5_readSigns_50 ?_
  refine lv_iadd hx hb dX5_readSigns_53 ?_
  refine lv_icmp_ne (tgt := 69) hx hb dX5_readSigns_54 (by decide) (fun hc => ?_) (fun hc => ?_)
  · have hw := hw.1 hc
    refine lv_iconst (v := (0 : Int32)) hx hb dX5_readSigns_69 (by decide) ?_
    refine mp_X5_0_83 rfl rfl S hI hS dX5_readSigns_70 (fun H locs hI hS => ?_)
    refine lv_iload_n hx hb dX5_readSigns_73 rfl (lv_at hl 3 rfl) ?_
    exact g_iret S hr hk hg hI hS dX5_readSigns_74 hw
  · have hw := hw.2 hc
    refine lv_iload_n hx hb dX5_readSigns_57 rfl (lv_at hl 3 rfl) ?_
    refine lv_aload_n hx hb dX5_readSigns_58 rfl (lv_at hl 0 rfl) ?_
    refine mg_X5_0_69 S hI dX5_readSigns_59 ?_
    refine lv_icmp_ne (tgt := 69) hx hb dX5_readSigns_62 (by decide) (fun hc => ?_) (fun hc => ?_)
    · have hw := hw.1 hc
      refine lv_iconst (v := (0 : Int32)) hx hb dX5_readSigns_69 (by decide) ?_
      refine mp_X5_0_83 rfl rfl S hI hS dX5_readSigns_70 (fun H locs hI hS => ?_)
      refine lv_iload_n hx hb dX5_readSigns_73 rfl (lv_at hl 3 rfl) ?_
      exact g_iret S hr hk hg hI hS dX5_readSigns_74 hw
    · have hw := hw.2 hc
      refine lv_iconst (v := (1 : Int32)) hx hb dX5_readSigns_65 (by decide) ?_
      refine lv_goto (tgt := 70) hx hb dX5_readSigns_66 (by decide) ?_
      refine mp_X5_0_83 rfl rfl S hI hS dX5_readSigns_70 (fun H locs hI hS => ?_)
      refine lv_iload_n hx hb dX5_readSigns_73 rfl (lv_at hl 3 rfl) ?_
      exact g_iret S hr hk hg hI hS dX5_readSigns_74 hw
set_option maxRecDepth 100000 in
set_option maxHeartbeats 4000000 in
theorem tX5_read (l : Launch) (D : va_G) (ad : Nat → Nat) (cI cB : ClassId)   (u : SS) (post : Int32 → SS → Prop) (hw : wX5_read   u post) : Met l yX5_read (Cond.code yX5_read cX5_read 3 (some .int) :: XT) (Rm 3) (va_Pc [.ref (ad 0)] (Pr (mI D ad cI cB) mN u)) (va_Qi post (Po (mI D ad cI cB)) (mA ad)) 0 0 (mA ad) := by
  refine g_of (A := (mA ad)) (by decide) (Nat.le_of_ble_eq_true rfl) (lv := [(0, .ref (ad 0))]) rfl ?_
  intro p e s m below meth c ls S hr hk hI hN hS hl
  have hx := S.1
  have hb := S.2.1
  have ho := S.2.2.2.1
  have hg := @mG D ad cI cB
  refine lv_aload_n hx hb dX5_read_0 rfl (lv_at hl 0 rfl) ?_
  refine lv_iconst (v := (0 : Int32)) hx hb dX5_read_1 (by decide) ?_
  refine mp_X5_0_83 rfl rfl S hI hS dX5_read_2 (fun H locs hI hS => ?_)
  refine lv_aload_n hx hb dX5_read_5 rfl (lv_at hl 0 rfl) ?_
  refine lv_iconst (v := (0 : Int32)) hx hb dX5_read_6 (by decide) ?_
  refine mp_X5_0_73 S hI hS dX5_read_7 (fun H locs hI hS => ?_)
  refine lv_aload_n hx hb dX5_read_10 rfl (lv_at hl 0 rfl) ?_
  refine lv_iconst (v := (0 : Int32)) hx hb dX5_read_11 (by decide) ?_
  refine g_ci hg hS (g_runV S hg hI hN hS (As := [.int (0 : Int32)]) (rest := []) (tX5_at l D ad cI cB  _ _ _ hw) cv_yX5_at qm_X5_76 (va_recv hI.2.1 hI.1 (ci := 5) (q0 := 0) rfl rfl) ⟨Nat.le_of_ble_eq_true rfl, Nat.le_of_ble_eq_true rfl⟩ rfl hl.1 rfl (Nat.le_of_ble_eq_true rfl) dX5_read_12) (fun r1 u2 H locs hI hS hw => ?_)
  refine lv_bipush (v := (48 : Int32)) hx hb dX5_read_15 (by decide) ?_
  refine lv_isub hx hb dX5_read_17 ?_
  refine lv_istore_n (lv' := [(1, .int (r1 - (48 : Int32))), (0, .ref (ad 0))]) hx hb dX5_read_18 rfl hl (by decide) rfl (fun ls hl => ?_)
  refine lv_iload_n hx hb dX5_read_19 rfl (lv_at hl 0 rfl) ?_
  refine lv_iconst (v := (2 : Int32)) hx hb dX5_read_20 (by decide) ?_
  refine lv_iconst (v := (3 : Int32)) hx hb dX5_read_21 (by decide) ?_
  refine g_ci hg hS (g_runS S hg hI hN hS (As := [.int (r1 - (48 : Int32)), .int (2 : Int32), .int (3 : Int32)]) (rest := []) (tX5_within l D ad cI cB  _ _ _ _ _ hw) cs_yX5_within qm_X5_65 ⟨Nat.le_of_ble_eq_true rfl, Nat.le_of_ble_eq_true rfl⟩ rfl hl.1 rfl (Nat.le_of_ble_eq_true rfl) dX5_read_22) (fun r3 u4 H locs hI hS hw => ?_)
  refine lv_if_ne (tgt := 30) hx hb dX5_read_25 (by decide) (fun hc => ?_) (fun hc => ?_)
  · have hw := hw.1 hc
    refine lv_aload_n hx hb dX5_read_30 rfl (lv_at hl 1 rfl) ?_
    refine lv_iconst (v := (1 : Int32)) hx hb dX5_read_31 (by decide) ?_
    refine g_ci hg hS (g_runV S hg hI hN hS (As := [.int (1 : Int32)]) (rest := []) (tX5_at l D ad cI cB  _ _ _ hw) cv_yX5_at qm_X5_76 (va_recv hI.2.1 hI.1 (ci := 5) (q0 := 0) rfl rfl) ⟨Nat.le_of_ble_eq_true rfl, Nat.le_of_ble_eq_true rfl⟩ rfl hl.1 rfl (Nat.le_of_ble_eq_true rfl) dX5_read_32) (fun r5 u6 H locs hI hS hw => ?_)
    refine lv_bipush (v := (59 : Int32)) hx hb dX5_read_35 (by decide) ?_
    refine lv_icmp_eq (tgt := 42) hx hb dX5_read_37 (by decide) (fun hc => ?_) (fun hc => ?_)
    · have hw := hw.1 hc
      refine lv_aload_n hx hb dX5_read_42 rfl (lv_at hl 1 rfl) ?_
      refine g_ci hg hS (g_runV S hg hI hN hS (As := []) (rest := []) (tX5_readKinds l D ad cI cB   _ _ hw) cv_yX5_readKinds qm_X5_87 (va_recv hI.2.1 hI.1 (ci := 5) (q0 := 0) rfl rfl) ⟨Nat.le_of_ble_eq_true rfl, Nat.le_of_ble_eq_true rfl⟩ rfl hl.1 rfl (Nat.le_of_ble_eq_true rfl) dX5_read_43) (fun r7 u8 H locs hI hS hw => ?_)
      refine lv_istore_n (lv' := [(2, .int r7), (1, .int (r1 - (48 : Int32))), (0, .ref (ad 0))]) hx hb dX5_read_46 rfl hl (by decide) rfl (fun ls hl => ?_)
      refine lv_aload_n hx hb dX5_read_47 rfl (lv_at hl 2 rfl) ?_
      refine mg_X5_0_73 S hI dX5_read_48 ?_
      refine lv_iconst (v := (4 : Int32)) hx hb dX5_read_51 (by decide) ?_
      refine lv_icmp_lt (tgt := 65) hx hb dX5_read_52 (by decide) (fun hc => ?_) (fun hc => ?_)
      · have hw := hw.1 hc
        refine lv_iload_n hx hb dX5_read_65 rfl (lv_at hl 0 rfl) ?_
        exact g_iret S hr hk hg hI hS dX5_read_66 hw
      · have hw := hw.2 hc
        refine lv_aload_n hx hb dX5_read_55 rfl (lv_at hl 2 rfl) ?_
        refine lv_iload_n hx hb dX5_read_56 rfl (lv_at hl 0 rfl) ?_
        refine g_ci hg hS (g_runV S hg hI hN hS (As := [.int r7]) (rest := []) (tX5_at l D ad cI cB  _ _ _ hw) cv_yX5_at qm_X5_76 (va_recv hI.2.1 hI.1 (ci := 5) (q0 := 0) rfl rfl) ⟨Nat.le_of_ble_eq_true rfl, Nat.le_of_ble_eq_true rfl⟩ rfl hl.1 rfl (Nat.le_of_ble_eq_true rfl) dX5_read_57) (fun r9 u10 H locs hI hS hw => ?_)
        refine lv_bipush (v := (59 : Int32)) hx hb dX5_read_60 (by decide) ?_
        refine lv_icmp_eq (tgt := 67) hx hb dX5_read_62 (by decide) (fun hc => ?_) (fun hc => ?_)
        · have hw := hw.1 hc
          refine lv_aload_n hx hb dX5_read_67 rfl (lv_at hl 2 rfl) ?_
          refine lv_iload_n hx hb dX5_read_68 rfl (lv_at hl 0 rfl) ?_
          refine lv_iconst (v := (1 : Int32)) hx hb dX5_read_69 (by decide) ?_
          refine lv_iadd hx hb dX5_read_70 ?_
          refine lv_iload_n hx hb dX5_read_71 rfl (lv_at hl 1 rfl) ?_
          refine g_ci hg hS (g_runV S hg hI hN hS (As := [.int (r7 + (1 : Int32)), .int (r1 - (48 : Int32))]) (rest := []) (tX5_readSigns l D ad cI cB  _ _ _ _ hw) cv_yX5_readSigns qm_X5_91 (va_recv hI.2.1 hI.1 (ci := 5) (q0 := 0) rfl rfl) ⟨Nat.le_of_ble_eq_true rfl, Nat.le_of_ble_eq_true rfl⟩ rfl hl.1 rfl (Nat.le_of_ble_eq_true rfl) dX5_read_72) (fun r11 u12 H locs hI hS hw => ?_)
          exact g_iret S hr hk hg hI hS dX5_read_75 hw
        · have hw := hw.2 hc
          refine lv_iload_n hx hb dX5_read_65 rfl (lv_at hl 0 rfl) ?_
          exact g_iret S hr hk hg hI hS dX5_read_66 hw
    · have hw := hw.2 hc
      refine lv_iconst (v := (1 : Int32)) hx hb dX5_read_40 (by decide) ?_
      exact g_iret S hr hk hg hI hS dX5_read_41 hw
  · have hw := hw.2 hc
    refine lv_iconst (v := (0 : Int32)) hx hb dX5_read_28 (by decide) ?_
    exact g_iret S hr hk hg hI hS dX5_read_29 hw
set_option maxRecDepth 100000 in
set_option maxHeartbeats 4000000 in
theorem tX5_fault (l : Launch) (D : va_G) (ad : Nat → Nat) (cI cB : ClassId)   (u : SS) (post : Int32 → SS → Prop) (hw : wX5_fault   u post) : Met l yX5_fault (Cond.code yX5_fault cX5_fault 1 (some .int) :: XT) (Rm 4) (va_Pc [.ref (ad 0)] (Pr (mI D ad cI cB) mN u)) (va_Qi post (Po (mI D ad cI cB)) (mA ad)) 0 0 (mA ad) := by
  refine g_of (A := (mA ad)) (by decide) (Nat.le_of_ble_eq_true rfl) (lv := [(0, .ref (ad 0))]) rfl ?_
  intro p e s m below meth c ls S hr hk hI hN hS hl
  have hx := S.1
  have hb := S.2.1
  have ho := S.2.2.2.1
  have hg := @mG D ad cI cB
  refine lv_aload_n hx hb dX5_fault_0 rfl (lv_at hl 0 rfl) ?_
  refine g_ci hg hS (g_runV S hg hI hN hS (As := []) (rest := []) (tX5_read l D ad cI cB   _ _ hw) cv_yX5_read qm_X5_95 (va_recv hI.2.1 hI.1 (ci := 5) (q0 := 0) rfl rfl) ⟨Nat.le_of_ble_eq_true rfl, Nat.le_of_ble_eq_true rfl⟩ rfl hl.1 rfl (Nat.le_of_ble_eq_true rfl) dX5_fault_1) (fun r1 u2 H locs hI hS hw => ?_)
  exact g_iret S hr hk hg hI hS dX5_fault_4 hw
set_option maxRecDepth 100000 in
set_option maxHeartbeats 4000000 in
theorem tX5_board (l : Launch) (D : va_G) (ad : Nat → Nat) (cI cB : ClassId)   (u : SS) (post : Int32 → SS → Prop) (hw : wX5_board   u post) : Met l yX5_board (Cond.code yX5_board cX5_board 3 (some .int) :: XT) (Rm 4) (va_Pc [.ref (ad 0)] (Pr (mI D ad cI cB) mN u)) (va_Qi post (Po (mI D ad cI cB)) (mA ad)) 0 0 (mA ad) := by
  refine g_of (A := (mA ad)) (by decide) (Nat.le_of_ble_eq_true rfl) (lv := [(0, .ref (ad 0))]) rfl ?_
  intro p e s m below meth c ls S hr hk hI hN hS hl
  have hx := S.1
  have hb := S.2.1
  have ho := S.2.2.2.1
  have hg := @mG D ad cI cB
  have L38 : ∀  (K38 : Int32 → SS → Prop) (n : Nat) (x1_38 : Int32) (u3 : SS) (H : Heap) (locs : List Loc) (ls : Array Slot), mI D ad cI cB u3 s H → va_S (mA ad) s.heap H locs → lv_has ls 3 [(0, .ref (ad 0)), (1, .int x1_38)] → wX5_board_38 post K38 n x1_38 u3 → (∀ (x1_38 : Int32) (u3 : SS) (H : Heap) (locs : List Loc) (ls : Array Slot), mI D ad cI cB u3 s H → va_S (mA ad) s.heap H locs → lv_has ls 3 [(0, .ref (ad 0)), (1, .int x1_38)] → K38 x1_38 u3 → W p l e (Rm 4) s m [.ref (ad 0)].toArray below meth c H locs 0 0 (MQ below (va_Qi post (Po (mI D ad cI cB)) (mA ad)) [.ref (ad 0)].toArray s 0 0 (mA ad)) (F0 m 103 ls [])) → W p l e (Rm 4) s m [.ref (ad 0)].toArray below meth c H locs 0 0 (MQ below (va_Qi post (Po (mI D ad cI cB)) (mA ad)) [.ref (ad 0)].toArray s 0 0 (mA ad)) (F0 m 38 ls []) := by
    intro K38 n
    induction n with
    | zero => intro x1_38 u3 H locs ls hI hS hl hw hK38; exact False.elim hw
    | succ n38 ih38 =>
      intro x1_38 u3 H locs ls hI hS hl hw hK38
      refine lv_iload_n hx hb dX5_board_38 rfl (lv_at hl 1 rfl) ?_
      refine lv_aload_n hx hb dX5_board_39 rfl (lv_at hl 0 rfl) ?_
      refine mg_X5_0_101 S hI dX5_board_40 ?_
      refine lv_icmp_gt (tgt := 103) hx hb dX5_board_43 (by decide) (fun hc => ?_) (fun hc => ?_)
      · have hw := hw.1 hc
        exact hK38 x1_38 u3 _ _ _ hI hS (lv_sub hl [0, 1] rfl) hw
      · have hw := hw.2 hc
        refine lv_aload_n hx hb dX5_board_46 rfl (lv_at hl 0 rfl) ?_
        refine mg_X5_0_25 S hI dX5_board_47 ?_
        refine lv_iconst (v := (2 : Int32)) hx hb dX5_board_50 (by decide) ?_
        refine lv_aload_n hx hb dX5_board_51 rfl (lv_at hl 0 rfl) ?_
        refine mg_X5_0_101 S hI dX5_board_52 ?_
        refine lv_iadd hx hb dX5_board_55 ?_
        refine lv_iload_n hx hb dX5_board_56 rfl (lv_at hl 1 rfl) ?_
        refine lv_iadd hx hb dX5_board_57 ?_
        obtain ⟨hv, hw⟩ := hw
        refine mld_5 S hI hv dX5_board_58 ?_
        refine lv_istore_n (lv' := [(2, .int (u3.2.2 5 (((2 : Int32) + (u3.1 1)) + x1_38).toNatClampNeg)), (0, .ref (ad 0)), (1, .int x1_38)]) hx hb dX5_board_59 rfl hl (by decide) rfl (fun ls hl => ?_)
        refine lv_aload_n hx hb dX5_board_60 rfl (lv_at hl 1 rfl) ?_
        refine mg_X5_0_7 S hI dX5_board_61 ?_
        refine lv_iload_n hx hb dX5_board_64 rfl (lv_at hl 2 rfl) ?_
        refine lv_aload_n hx hb dX5_board_65 rfl (lv_at hl 1 rfl) ?_
        refine mg_X5_0_25 S hI dX5_board_66 ?_
        refine lv_iconst (v := (1 : Int32)) hx hb dX5_board_69 (by decide) ?_
        refine lv_iload_n hx hb dX5_board_70 rfl (lv_at hl 2 rfl) ?_
        refine lv_iadd hx hb dX5_board_71 ?_
        obtain ⟨hv, hw⟩ := hw
        refine mld_5 S hI hv dX5_board_72 ?_
        refine g_ci hg hS (g_runS S hg hI hN hS (As := [.int (u3.2.2 5 ((1 : Int32) + x1_38).toNatClampNeg)]) (rest := [.int x1_38, .ref (ad 1)]) (tX5_kindBy l D ad cI cB  _ _ _ hw) cs_yX5_kindBy qm_X5_80 ⟨Nat.le_of_ble_eq_true rfl, Nat.le_of_ble_eq_true rfl⟩ rfl hl.1 rfl (Nat.le_of_ble_eq_true rfl) dX5_board_73) (fun r4 u5 H locs hI hS hw => ?_)
        obtain ⟨hv, hw⟩ := hw
        refine mst_0 S hI hS hv dX5_board_76 (fun H locs hI hS => ?_)
        refine lv_aload_n hx hb dX5_board_77 rfl (lv_at hl 1 rfl) ?_
        refine mg_X5_0_13 S hI dX5_board_78 ?_
        refine lv_iload_n hx hb dX5_board_81 rfl (lv_at hl 2 rfl) ?_
        refine lv_iload_n hx hb dX5_board_82 rfl (lv_at hl 0 rfl) ?_
        refine lv_bipush (v := (46 : Int32)) hx hb dX5_board_83 (by decide) ?_
        refine lv_icmp_ne (tgt := 92) hx hb dX5_board_85 (by decide) (fun hc => ?_) (fun hc => ?_)
        · have hw := hw.1 hc
          refine lv_iload_n hx hb dX5_board_92 rfl (lv_at hl 0 rfl) ?_
          refine lv_bipush (v := (97 : Int32)) hx hb dX5_board_93 (by decide) ?_
          refine lv_isub hx hb dX5_board_95 ?_
          obtain ⟨hv, hw⟩ := hw
          refine mst_1 S hI hS hv dX5_board_96 (fun H locs hI hS => ?_)
          refine lv_iinc (v := x1_38 + 1) (lv' := [(1, .int (x1_38 + 1)), (2, .int (u3.2.2 5 (((2 : Int32) + (u3.1 1)) + x1_38).toNatClampNeg)), (0, .ref (ad 0))]) hx hb dX5_board_97 hl (k := 2) rfl (congrArg (fun z => x1_38 + z) (by decide)) (by decide) rfl (fun ls hl => ?_)
          refine lv_goto (tgt := 38) hx hb dX5_board_100 (by decide) ?_
          exact ih38 (x1_38 + 1) (sA (sA u5 0 x1_38.toNatClampNeg r4) 1 x1_38.toNatClampNeg ((u3.2.2 5 (((2 : Int32) + (u3.1 1)) + x1_38).toNatClampNeg) - (97 : Int32))) _ _ _ hI hS (lv_sub hl [2, 0] rfl) hw hK38
        · have hw := hw.2 hc
          refine lv_iconst (v := (-1 : Int32)) hx hb dX5_board_88 (by decide) ?_
          refine lv_goto (tgt := 96) hx hb dX5_board_89 (by decide) ?_
          obtain ⟨hv, hw⟩ := hw
          refine mst_1 S hI hS hv dX5_board_96 (fun H locs hI hS => ?_)
          refine lv_iinc (v := x1_38 + 1) (lv' := [(1, .int (x1_38 + 1)), (2, .int (u3.2.2 5 (((2 : Int32) + (u3.1 1)) + x1_38).toNatClampNeg)), (0, .ref (ad 0))]) hx hb dX5_board_97 hl (k := 2) rfl (congrArg (fun z => x1_38 + z) (by decide)) (by decide) rfl (fun ls hl => ?_)
          refine lv_goto (tgt := 38) hx hb dX5_board_100 (by decide) ?_
          exact ih38 (x1_38 + 1) (sA (sA u5 0 x1_38.toNatClampNeg r4) 1 x1_38.toNatClampNeg (-1 : Int32)) _ _ _ hI hS (lv_sub hl [2, 0] rfl) hw hK38
  refine lv_aload_n hx hb dX5_board_0 rfl (lv_at hl 0 rfl) ?_
  refine g_ci hg hS (g_runV S hg hI hN hS (As := []) (rest := []) (tX5_read l D ad cI cB   _ _ hw) cv_yX5_read qm_X5_95 (va_recv hI.2.1 hI.1 (ci := 5) (q0 := 0) rfl rfl) ⟨Nat.le_of_ble_eq_true rfl, Nat.le_of_ble_eq_true rfl⟩ rfl hl.1 rfl (Nat.le_of_ble_eq_true rfl) dX5_board_1) (fun r1 u2 H locs hI hS hw => ?_)
  refine lv_pop hx hb dX5_board_4 rfl ?_
  refine lv_aload_n hx hb dX5_board_5 rfl (lv_at hl 0 rfl) ?_
  refine mg_X5_0_83 S hI dX5_board_6 ?_
  refine lv_if_ne (tgt := 15) hx hb dX5_board_9 (by decide) (fun hc => ?_) (fun hc => ?_)
  · have hw := hw.1 hc
    refine lv_aload_n hx hb dX5_board_15 rfl (lv_at hl 0 rfl) ?_
    refine lv_aload_n hx hb dX5_board_16 rfl (lv_at hl 0 rfl) ?_
    refine mg_X5_0_25 S hI dX5_board_17 ?_
    refine lv_iconst (v := (0 : Int32)) hx hb dX5_board_20 (by decide) ?_
    obtain ⟨hv, hw⟩ := hw
    refine mld_5 S hI hv dX5_board_21 ?_
    refine lv_bipush (v := (48 : Int32)) hx hb dX5_board_22 (by decide) ?_
    refine lv_isub hx hb dX5_board_24 ?_
    refine mp_X5_0_98 S hI hS dX5_board_25 (fun H locs hI hS => ?_)
    refine lv_aload_n hx hb dX5_board_28 rfl (lv_at hl 0 rfl) ?_
    refine lv_aload_n hx hb dX5_board_29 rfl (lv_at hl 0 rfl) ?_
    refine mg_X5_0_73 S hI dX5_board_30 ?_
    refine mp_X5_0_101 S hI hS dX5_board_33 (fun H locs hI hS => ?_)
    refine lv_iconst (v := (1 : Int32)) hx hb dX5_board_36 (by decide) ?_
    refine lv_istore_n (lv' := [(1, .int (1 : Int32)), (0, .ref (ad 0))]) hx hb dX5_board_37 rfl hl (by decide) rfl (fun ls hl => ?_)
    obtain ⟨n, hw⟩ := hw
    refine L38 _ n (1 : Int32) (sI (sI u2 2 ((u2.2.2 5 (0 : Int32).toNatClampNeg) - (48 : Int32))) 1 ((sI u2 2 ((u2.2.2 5 (0 : Int32).toNatClampNeg) - (48 : Int32))).1 7)) _ _ _ hI hS (lv_sub hl [1, 0] rfl) hw (fun x1_6 u7 H locs ls hI hS hl hw => ?_)
    refine lv_aload_n hx hb dX5_board_103 rfl (lv_at hl 0 rfl) ?_
    refine lv_iconst (v := (0 : Int32)) hx hb dX5_board_104 (by decide) ?_
    refine mp_X5_0_104 S hI hS dX5_board_105 (fun H locs hI hS => ?_)
    refine lv_aload_n hx hb dX5_board_108 rfl (lv_at hl 0 rfl) ?_
    refine lv_dup hx hb dX5_board_109 rfl ?_
    refine mg_X5_0_107 S hI dX5_board_110 ?_
    refine lv_iconst (v := (1 : Int32)) hx hb dX5_board_113 (by decide) ?_
    refine lv_iadd hx hb dX5_board_114 ?_
    refine mp_X5_0_107 S hI hS dX5_board_115 (fun H locs hI hS => ?_)
    refine lv_aload_n hx hb dX5_board_118 rfl (lv_at hl 0 rfl) ?_
    refine lv_iconst (v := (0 : Int32)) hx hb dX5_board_119 (by decide) ?_
    refine mp_X5_0_110 S hI hS dX5_board_120 (fun H locs hI hS => ?_)
    refine lv_aload_n hx hb dX5_board_123 rfl (lv_at hl 0 rfl) ?_
    refine lv_iconst (v := (0 : Int32)) hx hb dX5_board_124 (by decide) ?_
    refine mp_X5_0_69 S hI hS dX5_board_125 (fun H locs hI hS => ?_)
    refine lv_aload_n hx hb dX5_board_128 rfl (lv_at hl 0 rfl) ?_
    refine mg_X5_0_101 S hI dX5_board_129 ?_
    exact g_iret S hr hk hg hI hS dX5_board_132 hw
  · have hw := hw.2 hc
    refine lv_bipush (v := (-103 : Int32)) hx hb dX5_board_12 (by decide) ?_
    exact g_iret S hr hk hg hI hS dX5_board_14 hw
set_option maxRecDepth 100000 in
set_option maxHeartbeats 4000000 in
theorem tX5_isNumber (l : Launch) (D : va_G) (ad : Nat → Nat) (cI cB : ClassId)  (a1 : Int32) (u : SS) (post : Int32 → SS → Prop) (hw : wX5_isNumber  a1 u post) : Met l yX5_isNumber (Cond.code yX5_isNumber cX5_isNumber 2 (some .boolean) :: XT) (Rm 2) (va_Pc [.ref (ad 0), .int a1] (Pr (mI D ad cI cB) mN u)) (va_Qi post (Po (mI D ad cI cB)) (mA ad)) 0 0 (mA ad) := by
  refine g_of (A := (mA ad)) (by decide) (Nat.le_of_ble_eq_true rfl) (lv := [(0, .ref (ad 0)), (1, .int a1)]) rfl ?_
  intro p e s m below meth c ls S hr hk hI hN hS hl
  have hx := S.1
  have hb := S.2.1
  have ho := S.2.2.2.1
  have hg := @mG D ad cI cB
  refine lv_iload_n hx hb dX5_isNumber_0 rfl (lv_at hl 1 rfl) ?_
  refine lv_iconst (v := (1 : Int32)) hx hb dX5_isNumber_1 (by decide) ?_
  refine lv_aload_n hx hb dX5_isNumber_2 rfl (lv_at hl 0 rfl) ?_
  refine mg_X5_0_101 S hI dX5_isNumber_3 ?_
  refine g_ci hg hS (g_runS S hg hI hN hS (As := [.int a1, .int (1 : Int32), .int (u.1 1)]) (rest := []) (tX5_within l D ad cI cB  _ _ _ _ _ hw) cs_yX5_within qm_X5_65 ⟨Nat.le_of_ble_eq_true rfl, Nat.le_of_ble_eq_true rfl⟩ rfl hl.1 rfl (Nat.le_of_ble_eq_true rfl) dX5_isNumber_6) (fun r1 u2 H locs hI hS hw => ?_)
  obtain ⟨hv, hw⟩ := hw
  exact g_zret S hr hv hk hg hI hS dX5_isNumber_9 hw
set_option maxRecDepth 100000 in
set_option maxHeartbeats 4000000 in
theorem tX5_layNow (l : Launch) (D : va_G) (ad : Nat → Nat) (cI cB : ClassId)   (u : SS) (post : SS → Prop) (hw : wX5_layNow   u post) : Met l yX5_layNow (Cond.code yX5_layNow cX5_layNow 2 none :: XT) (Rm 1) (va_Pc [.ref (ad 0)] (Pr (mI D ad cI cB) mN u)) (va_Qv post (Po (mI D ad cI cB)) (mA ad)) 0 0 (mA ad) := by
  refine g_of (A := (mA ad)) (by decide) (Nat.le_of_ble_eq_true rfl) (lv := [(0, .ref (ad 0))]) rfl ?_
  intro p e s m below meth c ls S hr hk hI hN hS hl
  have hx := S.1
  have hb := S.2.1
  have ho := S.2.2.2.1
  have hg := @mG D ad cI cB
  have L2 : ∀  (K2 : Int32 → SS → Prop) (n : Nat) (x1_2 : Int32) (u1 : SS) (H : Heap) (locs : List Loc) (ls : Array Slot), mI D ad cI cB u1 s H → va_S (mA ad) s.heap H locs → lv_has ls 2 [(0, .ref (ad 0)), (1, .int x1_2)] → wX5_layNow_2 post K2 n x1_2 u1 → (∀ (x1_2 : Int32) (u1 : SS) (H : Heap) (locs : List Loc) (ls : Array Slot), mI D ad cI cB u1 s H → va_S (mA ad) s.heap H locs → lv_has ls 2 [(0, .ref (ad 0)), (1, .int x1_2)] → K2 x1_2 u1 → W p l e (Rm 1) s m [.ref (ad 0)].toArray below meth c H locs 0 0 (MQ below (va_Qv post (Po (mI D ad cI cB)) (mA ad)) [.ref (ad 0)].toArray s 0 0 (mA ad)) (F0 m 38 ls [])) → W p l e (Rm 1) s m [.ref (ad 0)].toArray below meth c H locs 0 0 (MQ below (va_Qv post (Po (mI D ad cI cB)) (mA ad)) [.ref (ad 0)].toArray s 0 0 (mA ad)) (F0 m 2 ls []) := by
    intro K2 n
    induction n with
    | zero => intro x1_2 u1 H locs ls hI hS hl hw hK2; exact False.elim hw
    | succ n2 ih2 =>
      intro x1_2 u1 H locs ls hI hS hl hw hK2
      refine lv_iload_n hx hb dX5_layNow_2 rfl (lv_at hl 1 rfl) ?_
      refine lv_bipush (v := (10 : Int32)) hx hb dX5_layNow_3 (by decide) ?_
      refine lv_icmp_gt (tgt := 38) hx hb dX5_layNow_5 (by decide) (fun hc => ?_) (fun hc => ?_)
      · have hw := hw.1 hc
        exact hK2 x1_2 u1 _ _ _ hI hS (lv_sub hl [0, 1] rfl) hw
      · have hw := hw.2 hc
        refine lv_aload_n hx hb dX5_layNow_8 rfl (lv_at hl 0 rfl) ?_
        refine mg_X5_0_29 S hI dX5_layNow_9 ?_
        refine lv_iload_n hx hb dX5_layNow_12 rfl (lv_at hl 1 rfl) ?_
        refine lv_iload_n hx hb dX5_layNow_13 rfl (lv_at hl 1 rfl) ?_
        refine lv_aload_n hx hb dX5_layNow_14 rfl (lv_at hl 0 rfl) ?_
        refine mg_X5_0_101 S hI dX5_layNow_15 ?_
        refine lv_icmp_gt (tgt := 30) hx hb dX5_layNow_18 (by decide) (fun hc => ?_) (fun hc => ?_)
        · have hw := hw.1 hc
          refine lv_iconst (v := (-1 : Int32)) hx hb dX5_layNow_30 (by decide) ?_
          obtain ⟨hv, hw⟩ := hw
          refine mst_6 S hI hS hv dX5_layNow_31 (fun H locs hI hS => ?_)
          refine lv_iinc (v := x1_2 + 1) (lv' := [(1, .int (x1_2 + 1)), (0, .ref (ad 0))]) hx hb dX5_layNow_32 hl (k := 1) rfl (congrArg (fun z => x1_2 + z) (by decide)) (by decide) rfl (fun ls hl => ?_)
          refine lv_goto (tgt := 2) hx hb dX5_layNow_35 (by decide) ?_
          exact ih2 (x1_2 + 1) (sA u1 6 x1_2.toNatClampNeg (-1 : Int32)) _ _ _ hI hS (lv_sub hl [1, 0] rfl) hw hK2
        · have hw := hw.2 hc
          refine lv_aload_n hx hb dX5_layNow_21 rfl (lv_at hl 0 rfl) ?_
          refine mg_X5_0_13 S hI dX5_layNow_22 ?_
          refine lv_iload_n hx hb dX5_layNow_25 rfl (lv_at hl 1 rfl) ?_
          obtain ⟨hv, hw⟩ := hw
          refine mld_1 S hI hv dX5_layNow_26 ?_
          refine lv_goto (tgt := 31) hx hb dX5_layNow_27 (by decide) ?_
          obtain ⟨hv, hw⟩ := hw
          refine mst_6 S hI hS hv dX5_layNow_31 (fun H locs hI hS => ?_)
          refine lv_iinc (v := x1_2 + 1) (lv' := [(1, .int (x1_2 + 1)), (0, .ref (ad 0))]) hx hb dX5_layNow_32 hl (k := 1) rfl (congrArg (fun z => x1_2 + z) (by decide)) (by decide) rfl (fun ls hl => ?_)
          refine lv_goto (tgt := 2) hx hb dX5_layNow_35 (by decide) ?_
          exact ih2 (x1_2 + 1) (sA u1 6 x1_2.toNatClampNeg (u1.2.2 1 x1_2.toNatClampNeg)) _ _ _ hI hS (lv_sub hl [1, 0] rfl) hw hK2
  refine lv_iconst (v := (1 : Int32)) hx hb dX5_layNow_0 (by decide) ?_
  refine lv_istore_n (lv' := [(1, .int (1 : Int32)), (0, .ref (ad 0))]) hx hb dX5_layNow_1 rfl hl (by decide) rfl (fun ls hl => ?_)
  obtain ⟨n, hw⟩ := hw
  refine L2 _ n (1 : Int32) u _ _ _ hI hS (lv_sub hl [1, 0] rfl) hw (fun x1_2 u3 H locs ls hI hS hl hw => ?_)
  exact g_vret S hr hk hg hI hS dX5_layNow_38 hw
set_option maxRecDepth 100000 in
set_option maxHeartbeats 4000000 in
theorem tX5_isPart (l : Launch) (D : va_G) (ad : Nat → Nat) (cI cB : ClassId)  (a0 : Int32) (u : SS) (post : Int32 → SS → Prop) (hw : wX5_isPart  a0 u post) : Met l yX5_isPart (Cond.code yX5_isPart cX5_isPart 1 (some .boolean) :: XT) (Rm 1) (va_Pc [.int a0] (Pr (mI D ad cI cB) mN u)) (va_Qi post (Po (mI D ad cI cB)) (mA ad)) 0 0 (mA ad) := by
  refine g_of (A := (mA ad)) (by decide) (Nat.le_of_ble_eq_true rfl) (lv := [(0, .int a0)]) rfl ?_
  intro p e s m below meth c ls S hr hk hI hN hS hl
  have hx := S.1
  have hb := S.2.1
  have ho := S.2.2.2.1
  have hg := @mG D ad cI cB
  refine lv_iload_n hx hb dX5_isPart_0 rfl (lv_at hl 0 rfl) ?_
  refine lv_iconst (v := (3 : Int32)) hx hb dX5_isPart_1 (by decide) ?_
  refine lv_icmp_eq (tgt := 14) hx hb dX5_isPart_2 (by decide) (fun hc => ?_) (fun hc => ?_)
  · have hw := hw.1 hc
    refine lv_iconst (v := (0 : Int32)) hx hb dX5_isPart_14 (by decide) ?_
    exact g_zret S hr rfl hk hg hI hS dX5_isPart_15 hw
  · have hw := hw.2 hc
    refine lv_iload_n hx hb dX5_isPart_5 rfl (lv_at hl 0 rfl) ?_
    refine lv_iconst (v := (4 : Int32)) hx hb dX5_isPart_6 (by decide) ?_
    refine lv_icmp_eq (tgt := 14) hx hb dX5_isPart_7 (by decide) (fun hc => ?_) (fun hc => ?_)
    · have hw := hw.1 hc
      refine lv_iconst (v := (0 : Int32)) hx hb dX5_isPart_14 (by decide) ?_
      exact g_zret S hr rfl hk hg hI hS dX5_isPart_15 hw
    · have hw := hw.2 hc
      refine lv_iconst (v := (1 : Int32)) hx hb dX5_isPart_10 (by decide) ?_
      refine lv_goto (tgt := 15) hx hb dX5_isPart_11 (by decide) ?_
      exact g_zret S hr rfl hk hg hI hS dX5_isPart_15 hw
set_option maxRecDepth 100000 in
set_option maxHeartbeats 4000000 in
theorem tX5_minds (l : Launch) (D : va_G) (ad : Nat → Nat) (cI cB : ClassId)  (a0 : Int32) (a1 : Int32) (u : SS) (post : Int32 → SS → Prop) (hw : wX5_minds  a0 a1 u post) : Met l yX5_minds (Cond.code yX5_minds cX5_minds 2 (some .boolean) :: XT) (Rm 1) (va_Pc [.int a0, .int a1] (Pr (mI D ad cI cB) mN u)) (va_Qi post (Po (mI D ad cI cB)) (mA ad)) 0 0 (mA ad) := by
  refine g_of (A := (mA ad)) (by decide) (Nat.le_of_ble_eq_true rfl) (lv := [(0, .int a0), (1, .int a1)]) rfl ?_
  intro p e s m below meth c ls S hr hk hI hN hS hl
  have hx := S.1
  have hb := S.2.1
  have ho := S.2.2.2.1
  have hg := @mG D ad cI cB
  refine lv_iload_n hx hb dX5_minds_0 rfl (lv_at hl 0 rfl) ?_
  refine lv_if_eq (tgt := 18) hx hb dX5_minds_1 (by decide) (fun hc => ?_) (fun hc => ?_)
  · have hw := hw.1 hc
    refine lv_iconst (v := (1 : Int32)) hx hb dX5_minds_18 (by decide) ?_
    refine lv_goto (tgt := 23) hx hb dX5_minds_19 (by decide) ?_
    exact g_zret S hr rfl hk hg hI hS dX5_minds_23 hw
  · have hw := hw.2 hc
    refine lv_iload_n hx hb dX5_minds_4 rfl (lv_at hl 0 rfl) ?_
    refine lv_iconst (v := (3 : Int32)) hx hb dX5_minds_5 (by decide) ?_
    refine lv_icmp_eq (tgt := 18) hx hb dX5_minds_6 (by decide) (fun hc => ?_) (fun hc => ?_)
    · have hw := hw.1 hc
      refine lv_iconst (v := (1 : Int32)) hx hb dX5_minds_18 (by decide) ?_
      refine lv_goto (tgt := 23) hx hb dX5_minds_19 (by decide) ?_
      exact g_zret S hr rfl hk hg hI hS dX5_minds_23 hw
    · have hw := hw.2 hc
      refine lv_iload_n hx hb dX5_minds_9 rfl (lv_at hl 0 rfl) ?_
      refine lv_iconst (v := (1 : Int32)) hx hb dX5_minds_10 (by decide) ?_
      refine lv_icmp_ne (tgt := 22) hx hb dX5_minds_11 (by decide) (fun hc => ?_) (fun hc => ?_)
      · have hw := hw.1 hc
        refine lv_iconst (v := (0 : Int32)) hx hb dX5_minds_22 (by decide) ?_
        exact g_zret S hr rfl hk hg hI hS dX5_minds_23 hw
      · have hw := hw.2 hc
        refine lv_iload_n hx hb dX5_minds_14 rfl (lv_at hl 1 rfl) ?_
        refine lv_if_eq (tgt := 22) hx hb dX5_minds_15 (by decide) (fun hc => ?_) (fun hc => ?_)
        · have hw := hw.1 hc
          refine lv_iconst (v := (0 : Int32)) hx hb dX5_minds_22 (by decide) ?_
          exact g_zret S hr rfl hk hg hI hS dX5_minds_23 hw
        · have hw := hw.2 hc
          refine lv_iconst (v := (1 : Int32)) hx hb dX5_minds_18 (by decide) ?_
          refine lv_goto (tgt := 23) hx hb dX5_minds_19 (by decide) ?_
          exact g_zret S hr rfl hk hg hI hS dX5_minds_23 hw
set_option maxRecDepth 100000 in
set_option maxHeartbeats 4000000 in
theorem tX5_isBad (l : Launch) (D : va_G) (ad : Nat → Nat) (cI cB : ClassId)  (a1 : Int32) (a2 : Int32) (u : SS) (post : Int32 → SS → Prop) (hw : wX5_isBad  a1 a2 u post) : Met l yX5_isBad (Cond.code yX5_isBad cX5_isBad 5 (some .boolean) :: XT) (Rm 2) (va_Pc [.ref (ad 0), .int a1, .int a2] (Pr (mI D ad cI cB) mN u)) (va_Qi post (Po (mI D ad cI cB)) (mA ad)) 0 0 (mA ad) := by
  refine g_of (A := (mA ad)) (by decide) (Nat.le_of_ble_eq_true rfl) (lv := [(0, .ref (ad 0)), (1, .int a1), (2, .int a2)]) rfl ?_
  intro p e s m below meth c ls S hr hk hI hN hS hl
  have hx := S.1
  have hb := S.2.1
  have ho := S.2.2.2.1
  have hg := @mG D ad cI cB
  refine lv_iload_n hx hb dX5_isBad_0 rfl (lv_at hl 1 rfl) ?_
  refine lv_iload_n hx hb dX5_isBad_1 rfl (lv_at hl 2 rfl) ?_
  refine lv_iadd hx hb dX5_isBad_2 ?_
  refine lv_istore_n (lv' := [(3, .int (a1 + a2)), (0, .ref (ad 0)), (1, .int a1), (2, .int a2)]) hx hb dX5_isBad_3 rfl hl (by decide) rfl (fun ls hl => ?_)
  refine lv_aload_n hx hb dX5_isBad_4 rfl (lv_at hl 1 rfl) ?_
  refine mg_X5_0_29 S hI dX5_isBad_5 ?_
  refine lv_iload_n hx hb dX5_isBad_8 rfl (lv_at hl 2 rfl) ?_
  obtain ⟨hv, hw⟩ := hw
  refine mld_6 S hI hv dX5_isBad_9 ?_
  refine lv_iconst (v := (-1 : Int32)) hx hb dX5_isBad_10 (by decide) ?_
  refine lv_icmp_eq (tgt := 48) hx hb dX5_isBad_11 (by decide) (fun hc => ?_) (fun hc => ?_)
  · have hw := hw.1 hc
    refine lv_iconst (v := (0 : Int32)) hx hb dX5_isBad_48 (by decide) ?_
    refine lv_istore (lv' := [(4, .int (0 : Int32)), (3, .int (a1 + a2)), (0, .ref (ad 0)), (1, .int a1), (2, .int a2)]) hx hb dX5_isBad_49 hl (by decide) rfl (fun ls hl => ?_)
    refine lv_iload hx hb dX5_isBad_51 (lv_at hl 0 rfl) ?_
    refine lv_if_eq (tgt := 106) hx hb dX5_isBad_53 (by decide) (fun hc => ?_) (fun hc => ?_)
    rotate_left
    · exact absurd (by decide) hc
    refine lv_iconst (v := (0 : Int32)) hx hb dX5_isBad_106 (by decide) ?_
    exact g_zret S hr rfl hk hg hI hS dX5_isBad_107 hw
  · have hw := hw.2 hc
    refine lv_aload_n hx hb dX5_isBad_14 rfl (lv_at hl 1 rfl) ?_
    refine mg_X5_0_29 S hI dX5_isBad_15 ?_
    refine lv_iload_n hx hb dX5_isBad_18 rfl (lv_at hl 2 rfl) ?_
    obtain ⟨hv, hw⟩ := hw
    refine mld_6 S hI hv dX5_isBad_19 ?_
    refine lv_aload_n hx hb dX5_isBad_20 rfl (lv_at hl 1 rfl) ?_
    refine mg_X5_0_29 S hI dX5_isBad_21 ?_
    refine lv_iload_n hx hb dX5_isBad_24 rfl (lv_at hl 3 rfl) ?_
    obtain ⟨hv, hw⟩ := hw
    refine mld_6 S hI hv dX5_isBad_25 ?_
    refine lv_icmp_ne (tgt := 48) hx hb dX5_isBad_26 (by decide) (fun hc => ?_) (fun hc => ?_)
    · have hw := hw.1 hc
      refine lv_iconst (v := (0 : Int32)) hx hb dX5_isBad_48 (by decide) ?_
      refine lv_istore (lv' := [(4, .int (0 : Int32)), (3, .int (a1 + a2)), (0, .ref (ad 0)), (1, .int a1), (2, .int a2)]) hx hb dX5_isBad_49 hl (by decide) rfl (fun ls hl => ?_)
      refine lv_iload hx hb dX5_isBad_51 (lv_at hl 0 rfl) ?_
      refine lv_if_eq (tgt := 106) hx hb dX5_isBad_53 (by decide) (fun hc => ?_) (fun hc => ?_)
      rotate_left
      · exact absurd (by decide) hc
      refine lv_iconst (v := (0 : Int32)) hx hb dX5_isBad_106 (by decide) ?_
      exact g_zret S hr rfl hk hg hI hS dX5_isBad_107 hw
    · have hw := hw.2 hc
      refine lv_aload_n hx hb dX5_isBad_29 rfl (lv_at hl 1 rfl) ?_
      refine mg_X5_0_29 S hI dX5_isBad_30 ?_
      refine lv_iload_n hx hb dX5_isBad_33 rfl (lv_at hl 2 rfl) ?_
      obtain ⟨hv, hw⟩ := hw
      refine mld_6 S hI hv dX5_isBad_34 ?_
      refine lv_aload_n hx hb dX5_isBad_35 rfl (lv_at hl 1 rfl) ?_
      refine mg_X5_0_29 S hI dX5_isBad_36 ?_
      refine lv_iload_n hx hb dX5_isBad_39 rfl (lv_at hl 0 rfl) ?_
      obtain ⟨hv, hw⟩ := hw
      refine mld_6 S hI hv dX5_isBad_40 ?_
      refine lv_icmp_ne (tgt := 48) hx hb dX5_isBad_41 (by decide) (fun hc => ?_) (fun hc => ?_)
      · have hw := hw.1 hc
        refine lv_iconst (v := (0 : Int32)) hx hb dX5_isBad_48 (by decide) ?_
        refine lv_istore (lv' := [(4, .int (0 : Int32)), (3, .int (a1 + a2)), (0, .ref (ad 0)), (1, .int a1), (2, .int a2)]) hx hb dX5_isBad_49 hl (by decide) rfl (fun ls hl => ?_)
        refine lv_iload hx hb dX5_isBad_51 (lv_at hl 0 rfl) ?_
        refine lv_if_eq (tgt := 106) hx hb dX5_isBad_53 (by decide) (fun hc => ?_) (fun hc => ?_)
        rotate_left
        · exact absurd (by decide) hc
        refine lv_iconst (v := (0 : Int32)) hx hb dX5_isBad_106 (by decide) ?_
        exact g_zret S hr rfl hk hg hI hS dX5_isBad_107 hw
      · have hw := hw.2 hc
        refine lv_iconst (v := (1 : Int32)) hx hb dX5_isBad_44 (by decide) ?_
        refine lv_goto (tgt := 49) hx hb dX5_isBad_45 (by decide) ?_
        refine lv_istore (lv' := [(4, .int (1 : Int32)), (3, .int (a1 + a2)), (0, .ref (ad 0)), (1, .int a1), (2, .int a2)]) hx hb dX5_isBad_49 hl (by decide) rfl (fun ls hl => ?_)
        refine lv_iload hx hb dX5_isBad_51 (lv_at hl 0 rfl) ?_
        refine lv_if_eq (tgt := 106) hx hb dX5_isBad_53 (by decide) (fun hc => ?_) (fun hc => ?_)
        · exact absurd hc (by decide)
        refine lv_aload_n hx hb dX5_isBad_56 rfl (lv_at hl 2 rfl) ?_
        refine mg_X5_0_7 S hI dX5_isBad_57 ?_
        refine lv_iload_n hx hb dX5_isBad_60 rfl (lv_at hl 3 rfl) ?_
        obtain ⟨hv, hw⟩ := hw
        refine mld_0 S hI hv dX5_isBad_61 ?_
        refine g_ci hg hS (g_runS S hg hI hN hS (As := [.int (u.2.2 0 a1.toNatClampNeg)]) (rest := []) (tX5_isPart l D ad cI cB  _ _ _ hw) cs_yX5_isPart qm_X5_113 ⟨Nat.le_of_ble_eq_true rfl, Nat.le_of_ble_eq_true rfl⟩ rfl hl.1 rfl (Nat.le_of_ble_eq_true rfl) dX5_isBad_62) (fun r1 u2 H locs hI hS hw => ?_)
        refine lv_if_eq (tgt := 106) hx hb dX5_isBad_65 (by decide) (fun hc => ?_) (fun hc => ?_)
        · have hw := hw.1 hc
          refine lv_iconst (v := (0 : Int32)) hx hb dX5_isBad_106 (by decide) ?_
          exact g_zret S hr rfl hk hg hI hS dX5_isBad_107 hw
        · have hw := hw.2 hc
          refine lv_aload_n hx hb dX5_isBad_68 rfl (lv_at hl 2 rfl) ?_
          refine mg_X5_0_7 S hI dX5_isBad_69 ?_
          refine lv_iload_n hx hb dX5_isBad_72 rfl (lv_at hl 4 rfl) ?_
          obtain ⟨hv, hw⟩ := hw
          refine mld_0 S hI hv dX5_isBad_73 ?_
          refine g_ci hg hS (g_runS S hg hI hN hS (As := [.int (u2.2.2 0 a2.toNatClampNeg)]) (rest := []) (tX5_isPart l D ad cI cB  _ _ _ hw) cs_yX5_isPart qm_X5_113 ⟨Nat.le_of_ble_eq_true rfl, Nat.le_of_ble_eq_true rfl⟩ rfl hl.1 rfl (Nat.le_of_ble_eq_true rfl) dX5_isBad_74) (fun r3 u4 H locs hI hS hw => ?_)
          refine lv_if_eq (tgt := 106) hx hb dX5_isBad_77 (by decide) (fun hc => ?_) (fun hc => ?_)
          · have hw := hw.1 hc
            refine lv_iconst (v := (0 : Int32)) hx hb dX5_isBad_106 (by decide) ?_
            exact g_zret S hr rfl hk hg hI hS dX5_isBad_107 hw
          · have hw := hw.2 hc
            refine lv_aload_n hx hb dX5_isBad_80 rfl (lv_at hl 2 rfl) ?_
            refine mg_X5_0_7 S hI dX5_isBad_81 ?_
            refine lv_iload_n hx hb dX5_isBad_84 rfl (lv_at hl 1 rfl) ?_
            obtain ⟨hv, hw⟩ := hw
            refine mld_0 S hI hv dX5_isBad_85 ?_
            refine lv_iload_n hx hb dX5_isBad_86 rfl (lv_at hl 3 rfl) ?_
            refine lv_iload_n hx hb dX5_isBad_87 rfl (lv_at hl 4 rfl) ?_
            refine lv_icmp_eq (tgt := 95) hx hb dX5_isBad_88 (by decide) (fun hc => ?_) (fun hc => ?_)
            · have hw := hw.1 hc
              refine lv_iconst (v := (0 : Int32)) hx hb dX5_isBad_95 (by decide) ?_
              refine g_ci hg hS (g_runS S hg hI hN hS (As := [.int (u4.2.2 0 (a1 + a2).toNatClampNeg), .int (0 : Int32)]) (rest := []) (tX5_minds l D ad cI cB  _ _ _ _ hw) cs_yX5_minds qm_X5_117 ⟨Nat.le_of_ble_eq_true rfl, Nat.le_of_ble_eq_true rfl⟩ rfl hl.1 rfl (Nat.le_of_ble_eq_true rfl) dX5_isBad_96) (fun r5 u6 H locs hI hS hw => ?_)
              refine lv_if_eq (tgt := 106) hx hb dX5_isBad_99 (by decide) (fun hc => ?_) (fun hc => ?_)
              · have hw := hw.1 hc
                refine lv_iconst (v := (0 : Int32)) hx hb dX5_isBad_106 (by decide) ?_
                exact g_zret S hr rfl hk hg hI hS dX5_isBad_107 hw
              · have hw := hw.2 hc
                refine lv_iconst (v := (1 : Int32)) hx hb dX5_isBad_102 (by decide) ?_
                refine lv_goto (tgt := 107) hx hb dX5_isBad_103 (by decide) ?_
                exact g_zret S hr rfl hk hg hI hS dX5_isBad_107 hw
            · have hw := hw.2 hc
              refine lv_iconst (v := (1 : Int32)) hx hb dX5_isBad_91 (by decide) ?_
              refine lv_goto (tgt := 96) hx hb dX5_isBad_92 (by decide) ?_
              refine g_ci hg hS (g_runS S hg hI hN hS (As := [.int (u4.2.2 0 (a1 + a2).toNatClampNeg), .int (1 : Int32)]) (rest := []) (tX5_minds l D ad cI cB  _ _ _ _ hw) cs_yX5_minds qm_X5_117 ⟨Nat.le_of_ble_eq_true rfl, Nat.le_of_ble_eq_true rfl⟩ rfl hl.1 rfl (Nat.le_of_ble_eq_true rfl) dX5_isBad_96) (fun r7 u8 H locs hI hS hw => ?_)
              refine lv_if_eq (tgt := 106) hx hb dX5_isBad_99 (by decide) (fun hc => ?_) (fun hc => ?_)
              · have hw := hw.1 hc
                refine lv_iconst (v := (0 : Int32)) hx hb dX5_isBad_106 (by decide) ?_
                exact g_zret S hr rfl hk hg hI hS dX5_isBad_107 hw
              · have hw := hw.2 hc
                refine lv_iconst (v := (1 : Int32)) hx hb dX5_isBad_102 (by decide) ?_
                refine lv_goto (tgt := 107) hx hb dX5_isBad_103 (by decide) ?_
                exact g_zret S hr rfl hk hg hI hS dX5_isBad_107 hw
set_option maxRecDepth 100000 in
set_option maxHeartbeats 4000000 in
theorem tX5_badWith (l : Launch) (D : va_G) (ad : Nat → Nat) (cI cB : ClassId)  (a1 : Int32) (u : SS) (post : Int32 → SS → Prop) (hw : wX5_badWith  a1 u post) : Met l yX5_badWith (Cond.code yX5_badWith cX5_badWith 4 (some .int) :: XT) (Rm 3) (va_Pc [.ref (ad 0), .int a1] (Pr (mI D ad cI cB) mN u)) (va_Qi post (Po (mI D ad cI cB)) (mA ad)) 0 0 (mA ad) := by
  refine g_of (A := (mA ad)) (by decide) (Nat.le_of_ble_eq_true rfl) (lv := [(0, .ref (ad 0)), (1, .int a1)]) rfl ?_
  intro p e s m below meth c ls S hr hk hI hN hS hl
  have hx := S.1
  have hb := S.2.1
  have ho := S.2.2.2.1
  have hg := @mG D ad cI cB
  have L4 : ∀ (x1_4 : Int32) (K4 : Int32 → Int32 → SS → Prop) (n : Nat) (x2_4 : Int32) (x3_4 : Int32) (u1 : SS) (H : Heap) (locs : List Loc) (ls : Array Slot), mI D ad cI cB u1 s H → va_S (mA ad) s.heap H locs → lv_has ls 4 [(0, .ref (ad 0)), (1, .int x1_4), (2, .int x2_4), (3, .int x3_4)] → wX5_badWith_4 post x1_4 K4 n x2_4 x3_4 u1 → (∀ (x2_4 : Int32) (x3_4 : Int32) (u1 : SS) (H : Heap) (locs : List Loc) (ls : Array Slot), mI D ad cI cB u1 s H → va_S (mA ad) s.heap H locs → lv_has ls 4 [(0, .ref (ad 0)), (1, .int x1_4), (2, .int x2_4), (3, .int x3_4)] → K4 x2_4 x3_4 u1 → W p l e (Rm 3) s m [.ref (ad 0), .int a1].toArray below meth c H locs 0 0 (MQ below (va_Qi post (Po (mI D ad cI cB)) (mA ad)) [.ref (ad 0), .int a1].toArray s 0 0 (mA ad)) (F0 m 36 ls [])) → W p l e (Rm 3) s m [.ref (ad 0), .int a1].toArray below meth c H locs 0 0 (MQ below (va_Qi post (Po (mI D ad cI cB)) (mA ad)) [.ref (ad 0), .int a1].toArray s 0 0 (mA ad)) (F0 m 4 ls []) := by
    intro x1_4 K4 n
    induction n with
    | zero => intro x2_4 x3_4 u1 H locs ls hI hS hl hw hK4; exact False.elim hw
    | succ n4 ih4 =>
      intro x2_4 x3_4 u1 H locs ls hI hS hl hw hK4
      refine lv_iload_n hx hb dX5_badWith_4 rfl (lv_at hl 3 rfl) ?_
      refine lv_iload_n hx hb dX5_badWith_5 rfl (lv_at hl 1 rfl) ?_
      refine lv_iload_n hx hb dX5_badWith_6 rfl (lv_at hl 3 rfl) ?_
      refine lv_isub hx hb dX5_badWith_7 ?_
      refine lv_icmp_gt (tgt := 36) hx hb dX5_badWith_8 (by decide) (fun hc => ?_) (fun hc => ?_)
      · have hw := hw.1 hc
        exact hK4 x2_4 x3_4 u1 _ _ _ hI hS (lv_sub hl [0, 1, 2, 3] rfl) hw
      · have hw := hw.2 hc
        refine lv_iload_n hx hb dX5_badWith_11 rfl (lv_at hl 2 rfl) ?_
        refine lv_aload_n hx hb dX5_badWith_12 rfl (lv_at hl 0 rfl) ?_
        refine lv_iload_n hx hb dX5_badWith_13 rfl (lv_at hl 3 rfl) ?_
        refine lv_iload_n hx hb dX5_badWith_14 rfl (lv_at hl 1 rfl) ?_
        refine lv_iload_n hx hb dX5_badWith_15 rfl (lv_at hl 3 rfl) ?_
        refine lv_isub hx hb dX5_badWith_16 ?_
        refine g_ci hg hS (g_runV S hg hI hN hS (As := [.int x3_4, .int (x1_4 - x3_4)]) (rest := [.int x2_4]) (tX5_isBad l D ad cI cB  _ _ _ _ hw) cv_yX5_isBad qm_X5_121 (va_recv hI.2.1 hI.1 (ci := 5) (q0 := 0) rfl rfl) ⟨Nat.le_of_ble_eq_true rfl, Nat.le_of_ble_eq_true rfl⟩ rfl hl.1 rfl (Nat.le_of_ble_eq_true rfl) dX5_badWith_17) (fun r2 u3 H locs hI hS hw => ?_)
        refine lv_if_eq (tgt := 27) hx hb dX5_badWith_20 (by decide) (fun hc => ?_) (fun hc => ?_)
        · have hw := hw.1 hc
          refine lv_iconst (v := (0 : Int32)) hx hb dX5_badWith_27 (by decide) ?_
          refine lv_iadd hx hb dX5_badWith_28 ?_
          refine lv_istore_n (lv' := [(2, .int (x2_4 + (0 : Int32))), (0, .ref (ad 0)), (1, .int x1_4), (3, .int x3_4)]) hx hb dX5_badWith_29 rfl hl (by decide) rfl (fun ls hl => ?_)
          refine lv_iinc (v := x3_4 + 1) (lv' := [(3, .int (x3_4 + 1)), (2, .int (x2_4 + (0 : Int32))), (0, .ref (ad 0)), (1, .int x1_4)]) hx hb dX5_badWith_30 hl (k := 3) rfl (congrArg (fun z => x3_4 + z) (by decide)) (by decide) rfl (fun ls hl => ?_)
          refine lv_goto (tgt := 4) hx hb dX5_badWith_33 (by decide) ?_
          exact ih4 (x2_4 + (0 : Int32)) (x3_4 + 1) u3 _ _ _ hI hS (lv_sub hl [2, 3, 1, 0] rfl) hw hK4
        · have hw := hw.2 hc
          refine lv_iconst (v := (1 : Int32)) hx hb dX5_badWith_23 (by decide) ?_
          refine lv_goto (tgt := 28) hx hb dX5_badWith_24 (by decide) ?_
          refine lv_iadd hx hb dX5_badWith_28 ?_
          refine lv_istore_n (lv' := [(2, .int (x2_4 + (1 : Int32))), (0, .ref (ad 0)), (1, .int x1_4), (3, .int x3_4)]) hx hb dX5_badWith_29 rfl hl (by decide) rfl (fun ls hl => ?_)
          refine lv_iinc (v := x3_4 + 1) (lv' := [(3, .int (x3_4 + 1)), (2, .int (x2_4 + (1 : Int32))), (0, .ref (ad 0)), (1, .int x1_4)]) hx hb dX5_badWith_30 hl (k := 3) rfl (congrArg (fun z => x3_4 + z) (by decide)) (by decide) rfl (fun ls hl => ?_)
          refine lv_goto (tgt := 4) hx hb dX5_badWith_33 (by decide) ?_
          exact ih4 (x2_4 + (1 : Int32)) (x3_4 + 1) u3 _ _ _ hI hS (lv_sub hl [2, 3, 1, 0] rfl) hw hK4
  refine lv_iconst (v := (0 : Int32)) hx hb dX5_badWith_0 (by decide) ?_
  refine lv_istore_n (lv' := [(2, .int (0 : Int32)), (0, .ref (ad 0)), (1, .int a1)]) hx hb dX5_badWith_1 rfl hl (by decide) rfl (fun ls hl => ?_)
  refine lv_iconst (v := (1 : Int32)) hx hb dX5_badWith_2 (by decide) ?_
  refine lv_istore_n (lv' := [(3, .int (1 : Int32)), (2, .int (0 : Int32)), (0, .ref (ad 0)), (1, .int a1)]) hx hb dX5_badWith_3 rfl hl (by decide) rfl (fun ls hl => ?_)
  obtain ⟨n, hw⟩ := hw
  refine L4 a1 _ n (0 : Int32) (1 : Int32) u _ _ _ hI hS (lv_sub hl [2, 3, 1, 0] rfl) hw (fun x2_4 x3_5 u6 H locs ls hI hS hl hw => ?_)
  refine lv_iload_n hx hb dX5_badWith_36 rfl (lv_at hl 2 rfl) ?_
  exact g_iret S hr hk hg hI hS dX5_badWith_37 hw
