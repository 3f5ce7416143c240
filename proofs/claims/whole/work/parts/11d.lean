set_option maxRecDepth 100000 in
set_option maxHeartbeats 4000000 in
theorem tX4_greatestCommonDivisor (l : Launch) (D : va_G) (ad : Nat → Nat) (cI : ClassId) (rk ks kv : Nat)  (a0 : Int32) (a1 : Int32) (u : SS) (post : Int32 → SS → Prop) (hw : wX4_greatestCommonDivisor  a0 a1 u post) : Met l yX4_greatestCommonDivisor (Cond.code yX4_greatestCommonDivisor cX4_greatestCommonDivisor 6 (some .int) :: XT) (Rm 1) (va_Pc [.int a0, .int a1] (Pr (xI D ad cI) (xN ad rk ks kv) u)) (va_Qi post (Po (xI D ad cI)) (xA ad)) 0 0 (xA ad) := by
  refine g_of (A := (xA ad)) (by decide) (Nat.le_of_ble_eq_true rfl) (lv := [(0, .int a0), (1, .int a1)]) rfl ?_
  intro p e s m below meth c ls S hr hk hI hN hS hl
  have hx := S.1
  have hb := S.2.1
  have ho := S.2.2.2.1
  have hg := @xG D ad cI rk ks kv
  have L7 : ∀ (x0_7 : Int32) (x1_7 : Int32) (K7 : Int32 → Int32 → Int32 → SS → Prop) (n : Nat) (x2_7 : Int32) (x3_7 : Int32) (x4_7 : Int32) (u1 : SS) (H : Heap) (locs : List Loc) (ls : Array Slot), xI D ad cI u1 s H → va_S (xA ad) s.heap H locs → lv_has ls 6 [(0, .int x0_7), (1, .int x1_7), (2, .int x2_7), (3, .int x3_7), (4, .int x4_7)] → wX4_greatestCommonDivisor_7 post x0_7 x1_7 K7 n x2_7 x3_7 x4_7 u1 → (∀ (x2_7 : Int32) (x3_7 : Int32) (x4_7 : Int32) (u1 : SS) (H : Heap) (locs : List Loc) (ls : Array Slot), xI D ad cI u1 s H → va_S (xA ad) s.heap H locs → lv_has ls 6 [(0, .int x0_7), (1, .int x1_7), (2, .int x2_7), (3, .int x3_7), (4, .int x4_7)] → K7 x2_7 x3_7 x4_7 u1 → W p l e (Rm 1) s m [.int a0, .int a1].toArray below meth c H locs 0 0 (MQ below (va_Qi post (Po (xI D ad cI)) (xA ad)) [.int a0, .int a1].toArray s 0 0 (xA ad)) (F0 m 34 ls [])) → W p l e (Rm 1) s m [.int a0, .int a1].toArray below meth c H locs 0 0 (MQ below (va_Qi post (Po (xI D ad cI)) (xA ad)) [.int a0, .int a1].toArray s 0 0 (xA ad)) (F0 m 7 ls []) := by
    intro x0_7 x1_7 K7 n
    induction n with
    | zero => intro x2_7 x3_7 x4_7 u1 H locs ls hI hS hl hw hK7; exact False.elim hw
    | succ n7 ih7 =>
      intro x2_7 x3_7 x4_7 u1 H locs ls hI hS hl hw hK7
      refine lv_iload hx hb dX4_greatestCommonDivisor_7 (lv_at hl 4 rfl) ?_
      refine lv_bipush (v := (64 : Int32)) hx hb dX4_greatestCommonDivisor_9 (by decide) ?_
      refine lv_icmp_ge (tgt := 34) hx hb dX4_greatestCommonDivisor_11 (by decide) (fun hc => ?_) (fun hc => ?_)
      · have hw := hw.1 hc
        exact hK7 x2_7 x3_7 x4_7 u1 _ _ _ hI hS (lv_sub hl [0, 1, 2, 3, 4] rfl) hw
      · have hw := hw.2 hc
        refine lv_iload_n hx hb dX4_greatestCommonDivisor_14 rfl (lv_at hl 3 rfl) ?_
        refine lv_if_le (tgt := 34) hx hb dX4_greatestCommonDivisor_15 (by decide) (fun hc => ?_) (fun hc => ?_)
        · have hw := hw.1 hc
          exact hK7 x2_7 x3_7 x4_7 u1 _ _ _ hI hS (lv_sub hl [0, 1, 2, 3, 4] rfl) hw
        · have hw := hw.2 hc
          refine lv_iload_n hx hb dX4_greatestCommonDivisor_18 rfl (lv_at hl 2 rfl) ?_
          refine lv_iload_n hx hb dX4_greatestCommonDivisor_19 rfl (lv_at hl 3 rfl) ?_
          obtain ⟨hv, hw⟩ := hw
          refine lv_irem hx hb dX4_greatestCommonDivisor_20 hv ?_
          refine lv_istore (lv' := [(5, .int (x2_7 - x2_7 / x3_7 * x3_7)), (0, .int x0_7), (1, .int x1_7), (2, .int x2_7), (3, .int x3_7), (4, .int x4_7)]) hx hb dX4_greatestCommonDivisor_21 hl (by decide) rfl (fun ls hl => ?_)
          refine lv_iload_n hx hb dX4_greatestCommonDivisor_23 rfl (lv_at hl 4 rfl) ?_
          refine lv_istore_n (lv' := [(2, .int x3_7), (5, .int (x2_7 - x2_7 / x3_7 * x3_7)), (0, .int x0_7), (1, .int x1_7), (3, .int x3_7), (4, .int x4_7)]) hx hb dX4_greatestCommonDivisor_24 rfl hl (by decide) rfl (fun ls hl => ?_)
          refine lv_iload hx hb dX4_greatestCommonDivisor_25 (lv_at hl 1 rfl) ?_
          refine lv_istore_n (lv' := [(3, .int (x2_7 - x2_7 / x3_7 * x3_7)), (2, .int x3_7), (5, .int (x2_7 - x2_7 / x3_7 * x3_7)), (0, .int x0_7), (1, .int x1_7), (4, .int x4_7)]) hx hb dX4_greatestCommonDivisor_27 rfl hl (by decide) rfl (fun ls hl => ?_)
          refine lv_iinc (v := x4_7 + 1) (lv' := [(4, .int (x4_7 + 1)), (3, .int (x2_7 - x2_7 / x3_7 * x3_7)), (2, .int x3_7), (5, .int (x2_7 - x2_7 / x3_7 * x3_7)), (0, .int x0_7), (1, .int x1_7)]) hx hb dX4_greatestCommonDivisor_28 hl (k := 5) rfl (congrArg (fun z => x4_7 + z) (by decide)) (by decide) rfl (fun ls hl => ?_)
          refine lv_goto (tgt := 7) hx hb dX4_greatestCommonDivisor_31 (by decide) ?_
          exact ih7 x3_7 (x2_7 - x2_7 / x3_7 * x3_7) (x4_7 + 1) u1 _ _ _ hI hS (lv_sub hl [4, 5, 2, 1, 0] rfl) hw hK7
  refine lv_iload_n hx hb dX4_greatestCommonDivisor_0 rfl (lv_at hl 0 rfl) ?_
  refine lv_istore_n (lv' := [(2, .int a0), (0, .int a0), (1, .int a1)]) hx hb dX4_greatestCommonDivisor_1 rfl hl (by decide) rfl (fun ls hl => ?_)
  refine lv_iload_n hx hb dX4_greatestCommonDivisor_2 rfl (lv_at hl 2 rfl) ?_
  refine lv_istore_n (lv' := [(3, .int a1), (2, .int a0), (0, .int a0), (1, .int a1)]) hx hb dX4_greatestCommonDivisor_3 rfl hl (by decide) rfl (fun ls hl => ?_)
  refine lv_iconst (v := (0 : Int32)) hx hb dX4_greatestCommonDivisor_4 (by decide) ?_
  refine lv_istore (lv' := [(4, .int (0 : Int32)), (3, .int a1), (2, .int a0), (0, .int a0), (1, .int a1)]) hx hb dX4_greatestCommonDivisor_5 hl (by decide) rfl (fun ls hl => ?_)
  obtain ⟨n, hw⟩ := hw
  refine L7 a0 a1 _ n a0 a1 (0 : Int32) u _ _ _ hI hS (lv_sub hl [3, 4, 2, 1, 0] rfl) hw (fun x2_2 x3_3 x4_4 u5 H locs ls hI hS hl hw => ?_)
  refine lv_iload_n hx hb dX4_greatestCommonDivisor_34 rfl (lv_at hl 2 rfl) ?_
  exact g_iret S hr hk hg hI hS dX4_greatestCommonDivisor_35 hw
set_option maxRecDepth 100000 in
set_option maxHeartbeats 4000000 in
theorem tX4_odds (l : Launch) (D : va_G) (ad : Nat → Nat) (cI : ClassId) (rk ks kv : Nat)  (a1 : Int32) (a2 : Int32) (a3 : Int32) (u : SS) (post : Int32 → SS → Prop) (hw : wX4_odds  a1 a2 a3 u post) : Met l yX4_odds (Cond.code yX4_odds cX4_odds 6 (some .int) :: XT) (Rm 27) (va_Pc [.ref (ad 0), .int a1, .int a2, .int a3] (Pr (xI D ad cI) (xN ad rk ks kv) u)) (va_Qi post (Po (xI D ad cI)) (xA ad)) 0 0 (xA ad) := by
  refine g_of (A := (xA ad)) (by decide) (Nat.le_of_ble_eq_true rfl) (lv := [(0, .ref (ad 0)), (1, .int a1), (2, .int a2), (3, .int a3)]) rfl ?_
  intro p e s m below meth c ls S hr hk hI hN hS hl
  have hx := S.1
  have hb := S.2.1
  have ho := S.2.2.2.1
  have hg := @xG D ad cI rk ks kv
  refine lv_aload_n hx hb dX4_odds_0 rfl (lv_at hl 0 rfl) ?_
  refine xg_X4_0_19 S hI dX4_odds_1 ?_
  refine lv_iload_n hx hb dX4_odds_4 rfl (lv_at hl 1 rfl) ?_
  refine g_ci hg hS (g_runVN S hg hI hN hS (As := [.int a1]) (rest := []) (tX0_hasNumber l D ad cI rk ks kv  _ _ _ hw) cv_yX0_hasNumber (nm_X4_81 hN) (va_recv hI.2.1 hI.1 (ci := 0) (q0 := 2) rfl rfl) ⟨Nat.le_of_ble_eq_true rfl, Nat.le_of_ble_eq_true rfl⟩ rfl hl.1 rfl (Nat.le_of_ble_eq_true rfl) dX4_odds_5) (fun r1 u2 H locs hI hS hw => ?_)
  refine lv_if_ne (tgt := 14) hx hb dX4_odds_8 (by decide) (fun hc => ?_) (fun hc => ?_)
  · have hw := hw.1 hc
    refine lv_aload_n hx hb dX4_odds_14 rfl (lv_at hl 0 rfl) ?_
    refine xg_X4_0_19 S hI dX4_odds_15 ?_
    refine lv_iload_n hx hb dX4_odds_18 rfl (lv_at hl 2 rfl) ?_
    refine g_ci hg hS (g_runVN S hg hI hN hS (As := [.int a2]) (rest := []) (tX0_hasColour l D ad cI rk ks kv  _ _ _ hw) cv_yX0_hasColour (nm_X4_122 hN) (va_recv hI.2.1 hI.1 (ci := 0) (q0 := 2) rfl rfl) ⟨Nat.le_of_ble_eq_true rfl, Nat.le_of_ble_eq_true rfl⟩ rfl hl.1 rfl (Nat.le_of_ble_eq_true rfl) dX4_odds_19) (fun r3 u4 H locs hI hS hw => ?_)
    refine lv_if_eq (tgt := 34) hx hb dX4_odds_22 (by decide) (fun hc => ?_) (fun hc => ?_)
    · have hw := hw.1 hc
      refine lv_bipush (v := (-102 : Int32)) hx hb dX4_odds_34 (by decide) ?_
      exact g_iret S hr hk hg hI hS dX4_odds_36 hw
    · have hw := hw.2 hc
      refine lv_iload_n hx hb dX4_odds_25 rfl (lv_at hl 3 rfl) ?_
      refine lv_if_lt (tgt := 34) hx hb dX4_odds_26 (by decide) (fun hc => ?_) (fun hc => ?_)
      · have hw := hw.1 hc
        refine lv_bipush (v := (-102 : Int32)) hx hb dX4_odds_34 (by decide) ?_
        exact g_iret S hr hk hg hI hS dX4_odds_36 hw
      · have hw := hw.2 hc
        refine lv_iload_n hx hb dX4_odds_29 rfl (lv_at hl 3 rfl) ?_
        refine lv_iconst (v := (1 : Int32)) hx hb dX4_odds_30 (by decide) ?_
        refine lv_icmp_le (tgt := 37) hx hb dX4_odds_31 (by decide) (fun hc => ?_) (fun hc => ?_)
        · have hw := hw.1 hc
          refine lv_aload_n hx hb dX4_odds_37 rfl (lv_at hl 0 rfl) ?_
          refine xg_X4_0_35 S hI dX4_odds_38 ?_
          refine g_cv hg hS (g_runVN S hg hI hN hS (As := []) (rest := []) (tX1_refresh l D ad cI rk ks kv   _ _ hw) cv_yX1_refresh (nm_X4_96 hN) (va_recv hI.2.1 hI.1 (ci := 1) (q0 := 4) rfl rfl) ⟨Nat.le_of_ble_eq_true rfl, Nat.le_of_ble_eq_true rfl⟩ rfl hl.1 rfl (Nat.le_of_ble_eq_true rfl) dX4_odds_41) (fun u6 H locs hI hS hw => ?_)
          refine lv_aload_n hx hb dX4_odds_44 rfl (lv_at hl 0 rfl) ?_
          refine xg_X4_0_35 S hI dX4_odds_45 ?_
          refine lv_iload_n hx hb dX4_odds_48 rfl (lv_at hl 1 rfl) ?_
          refine lv_iload_n hx hb dX4_odds_49 rfl (lv_at hl 2 rfl) ?_
          refine g_ci hg hS (g_runVN S hg hI hN hS (As := [.int a1, .int a2]) (rest := []) (tX1_waysWith l D ad cI rk ks kv  _ _ _ _ hw) cv_yX1_waysWith (nm_X4_155 hN) (va_recv hI.2.1 hI.1 (ci := 1) (q0 := 4) rfl rfl) ⟨Nat.le_of_ble_eq_true rfl, Nat.le_of_ble_eq_true rfl⟩ rfl hl.1 rfl (Nat.le_of_ble_eq_true rfl) dX4_odds_50) (fun r7 u8 H locs hI hS hw => ?_)
          refine lv_istore (lv' := [(4, .int r7), (0, .ref (ad 0)), (1, .int a1), (2, .int a2), (3, .int a3)]) hx hb dX4_odds_53 hl (by decide) rfl (fun ls hl => ?_)
          refine lv_aload_n hx hb dX4_odds_55 rfl (lv_at hl 1 rfl) ?_
          refine xg_X4_0_35 S hI dX4_odds_56 ?_
          refine xg_X4_4_115 S hN hI dX4_odds_59 ?_
          refine lv_iload hx hb dX4_odds_62 (lv_at hl 0 rfl) ?_
          refine g_ci hg hS (g_runS S hg hI hN hS (As := [.int (u8.1 7), .int r7]) (rest := []) (tX4_greatestCommonDivisor l D ad cI rk ks kv  _ _ _ _ hw) cs_yX4_greatestCommonDivisor qm_X4_158 ⟨Nat.le_of_ble_eq_true rfl, Nat.le_of_ble_eq_true rfl⟩ rfl hl.1 rfl (Nat.le_of_ble_eq_true rfl) dX4_odds_64) (fun r9 u10 H locs hI hS hw => ?_)
          refine lv_istore (lv' := [(5, .int r9), (4, .int r7), (0, .ref (ad 0)), (1, .int a1), (2, .int a2), (3, .int a3)]) hx hb dX4_odds_67 hl (by decide) rfl (fun ls hl => ?_)
          refine lv_iload hx hb dX4_odds_69 (lv_at hl 1 rfl) ?_
          refine lv_if_eq (tgt := 79) hx hb dX4_odds_71 (by decide) (fun hc => ?_) (fun hc => ?_)
          · have hw := hw.1 hc
            refine lv_iload_n hx hb dX4_odds_79 rfl (lv_at hl 5 rfl) ?_
            refine lv_if_ne (tgt := 87) hx hb dX4_odds_80 (by decide) (fun hc => ?_) (fun hc => ?_)
            · have hw := hw.1 hc
              refine lv_iconst (v := (1 : Int32)) hx hb dX4_odds_87 (by decide) ?_
              exact g_iret S hr hk hg hI hS dX4_odds_88 hw
            · have hw := hw.2 hc
              refine lv_iconst (v := (0 : Int32)) hx hb dX4_odds_83 (by decide) ?_
              refine lv_goto (tgt := 88) hx hb dX4_odds_84 (by decide) ?_
              exact g_iret S hr hk hg hI hS dX4_odds_88 hw
          · have hw := hw.2 hc
            refine lv_iload hx hb dX4_odds_74 (lv_at hl 0 rfl) ?_
            refine lv_if_ne (tgt := 89) hx hb dX4_odds_76 (by decide) (fun hc => ?_) (fun hc => ?_)
            · have hw := hw.1 hc
              refine lv_iload_n hx hb dX4_odds_89 rfl (lv_at hl 5 rfl) ?_
              refine lv_if_ne (tgt := 101) hx hb dX4_odds_90 (by decide) (fun hc => ?_) (fun hc => ?_)
              · have hw := hw.1 hc
                refine lv_aload_n hx hb dX4_odds_101 rfl (lv_at hl 2 rfl) ?_
                refine xg_X4_0_35 S hI dX4_odds_102 ?_
                refine xg_X4_4_115 S hN hI dX4_odds_105 ?_
                refine lv_iload hx hb dX4_odds_108 (lv_at hl 0 rfl) ?_
                obtain ⟨hv, hw⟩ := hw
                refine lv_idiv hx hb dX4_odds_110 hv ?_
                exact g_iret S hr hk hg hI hS dX4_odds_111 hw
              · have hw := hw.2 hc
                refine lv_iload hx hb dX4_odds_93 (lv_at hl 1 rfl) ?_
                refine lv_iload hx hb dX4_odds_95 (lv_at hl 0 rfl) ?_
                obtain ⟨hv, hw⟩ := hw
                refine lv_idiv hx hb dX4_odds_97 hv ?_
                refine lv_goto (tgt := 111) hx hb dX4_odds_98 (by decide) ?_
                exact g_iret S hr hk hg hI hS dX4_odds_111 hw
            · have hw := hw.2 hc
              refine lv_iload_n hx hb dX4_odds_79 rfl (lv_at hl 5 rfl) ?_
              refine lv_if_ne (tgt := 87) hx hb dX4_odds_80 (by decide) (fun hc => ?_) (fun hc => ?_)
              · have hw := hw.1 hc
                refine lv_iconst (v := (1 : Int32)) hx hb dX4_odds_87 (by decide) ?_
                exact g_iret S hr hk hg hI hS dX4_odds_88 hw
              · have hw := hw.2 hc
                refine lv_iconst (v := (0 : Int32)) hx hb dX4_odds_83 (by decide) ?_
                refine lv_goto (tgt := 88) hx hb dX4_odds_84 (by decide) ?_
                exact g_iret S hr hk hg hI hS dX4_odds_88 hw
        · have hw := hw.2 hc
          refine lv_bipush (v := (-102 : Int32)) hx hb dX4_odds_34 (by decide) ?_
          exact g_iret S hr hk hg hI hS dX4_odds_36 hw
  · have hw := hw.2 hc
    refine lv_bipush (v := (-101 : Int32)) hx hb dX4_odds_11 (by decide) ?_
    exact g_iret S hr hk hg hI hS dX4_odds_13 hw
set_option maxRecDepth 100000 in
set_option maxHeartbeats 4000000 in
theorem tX3_append (l : Launch) (D : va_G) (ad : Nat → Nat) (cI : ClassId) (rk ks kv : Nat)  (a1 : Int32) (a2 : Int32) (a3 : Int32) (u : SS) (post : SS → Prop) (hw : wX3_append  a1 a2 a3 u post) : Met l yX3_append (Cond.code yX3_append cX3_append 4 none :: XT) (Rm 2) (va_Pc [.ref (ad 3), .int a1, .int a2, .int a3] (Pr (xI D ad cI) (xN ad rk ks kv) u)) (va_Qv post (Po (xI D ad cI)) (xA ad)) 0 0 (xA ad) := by
  refine g_of (A := (xA ad)) (by decide) (Nat.le_of_ble_eq_true rfl) (lv := [(0, .ref (ad 3)), (1, .int a1), (2, .int a2), (3, .int a3)]) rfl ?_
  intro p e s m below meth c ls S hr hk hI hN hS hl
  have hx := S.1
  have hb := S.2.1
  have ho := S.2.2.2.1
  have hg := @xG D ad cI rk ks kv
  refine lv_aload_n hx hb dX3_append_0 rfl (lv_at hl 0 rfl) ?_
  refine xg_X3_3_9 S hI dX3_append_1 ?_
  refine lv_aload_n hx hb dX3_append_4 rfl (lv_at hl 0 rfl) ?_
  refine xg_X3_3_21 S hI dX3_append_5 ?_
  refine lv_iload_n hx hb dX3_append_8 rfl (lv_at hl 1 rfl) ?_
  refine x_putN (j := 3) S hI hN hS hl.1 (by decide) (nm_X3_25 hN) ⟨Nat.le_of_ble_eq_true rfl, Nat.le_of_ble_eq_true rfl⟩ (Nat.le_of_ble_eq_true rfl) dX3_append_9 (fun H locs hI hS => ?_)
  refine lv_aload_n hx hb dX3_append_12 rfl (lv_at hl 0 rfl) ?_
  refine xg_X3_3_15 S hI dX3_append_13 ?_
  refine lv_aload_n hx hb dX3_append_16 rfl (lv_at hl 0 rfl) ?_
  refine xg_X3_3_21 S hI dX3_append_17 ?_
  refine lv_iload_n hx hb dX3_append_20 rfl (lv_at hl 2 rfl) ?_
  refine x_putN (j := 4) S hI hN hS hl.1 (by decide) (nm_X3_25 hN) ⟨Nat.le_of_ble_eq_true rfl, Nat.le_of_ble_eq_true rfl⟩ (Nat.le_of_ble_eq_true rfl) dX3_append_21 (fun H locs hI hS => ?_)
  refine lv_aload_n hx hb dX3_append_24 rfl (lv_at hl 0 rfl) ?_
  refine xg_X3_3_18 S hI dX3_append_25 ?_
  refine lv_aload_n hx hb dX3_append_28 rfl (lv_at hl 0 rfl) ?_
  refine xg_X3_3_21 S hI dX3_append_29 ?_
  refine lv_iload_n hx hb dX3_append_32 rfl (lv_at hl 3 rfl) ?_
  refine lv_if_eq (tgt := 40) hx hb dX3_append_33 (by decide) (fun hc => ?_) (fun hc => ?_)
  · have hw := hw.1 hc
    refine lv_iconst (v := (0 : Int32)) hx hb dX3_append_40 (by decide) ?_
    refine x_putN (j := 5) S hI hN hS hl.1 (by decide) (nm_X3_25 hN) ⟨Nat.le_of_ble_eq_true rfl, Nat.le_of_ble_eq_true rfl⟩ (Nat.le_of_ble_eq_true rfl) dX3_append_41 (fun H locs hI hS => ?_)
    refine lv_aload_n hx hb dX3_append_44 rfl (lv_at hl 0 rfl) ?_
    refine lv_dup hx hb dX3_append_45 rfl ?_
    refine xg_X3_3_21 S hI dX3_append_46 ?_
    refine lv_iconst (v := (1 : Int32)) hx hb dX3_append_49 (by decide) ?_
    refine lv_iadd hx hb dX3_append_50 ?_
    refine xp_X3_3_21 S hI hS dX3_append_51 (fun H locs hI hS => ?_)
    exact g_vret S hr hk hg hI hS dX3_append_54 hw
  · have hw := hw.2 hc
    refine lv_iconst (v := (1 : Int32)) hx hb dX3_append_36 (by decide) ?_
    refine lv_goto (tgt := 41) hx hb dX3_append_37 (by decide) ?_
    refine x_putN (j := 5) S hI hN hS hl.1 (by decide) (nm_X3_25 hN) ⟨Nat.le_of_ble_eq_true rfl, Nat.le_of_ble_eq_true rfl⟩ (Nat.le_of_ble_eq_true rfl) dX3_append_41 (fun H locs hI hS => ?_)
    refine lv_aload_n hx hb dX3_append_44 rfl (lv_at hl 0 rfl) ?_
    refine lv_dup hx hb dX3_append_45 rfl ?_
    refine xg_X3_3_21 S hI dX3_append_46 ?_
    refine lv_iconst (v := (1 : Int32)) hx hb dX3_append_49 (by decide) ?_
    refine lv_iadd hx hb dX3_append_50 ?_
    refine xp_X3_3_21 S hI hS dX3_append_51 (fun H locs hI hS => ?_)
    exact g_vret S hr hk hg hI hS dX3_append_54 hw
set_option maxRecDepth 100000 in
set_option maxHeartbeats 4000000 in
theorem tX4_see (l : Launch) (D : va_G) (ad : Nat → Nat) (cI : ClassId) (rk ks kv : Nat)  (a1 : Int32) (a2 : Int32) (a3 : Int32) (u : SS) (post : Int32 → SS → Prop) (hw : wX4_see  a1 a2 a3 u post) : Met l yX4_see (Cond.code yX4_see cX4_see 4 (some .int) :: XT) (Rm 3) (va_Pc [.ref (ad 0), .int a1, .int a2, .int a3] (Pr (xI D ad cI) (xN ad rk ks kv) u)) (va_Qi post (Po (xI D ad cI)) (xA ad)) 0 0 (xA ad) := by
  refine g_of (A := (xA ad)) (by decide) (Nat.le_of_ble_eq_true rfl) (lv := [(0, .ref (ad 0)), (1, .int a1), (2, .int a2), (3, .int a3)]) rfl ?_
  intro p e s m below meth c ls S hr hk hI hN hS hl
  have hx := S.1
  have hb := S.2.1
  have ho := S.2.2.2.1
  have hg := @xG D ad cI rk ks kv
  refine lv_aload_n hx hb dX4_see_0 rfl (lv_at hl 0 rfl) ?_
  refine xg_X4_0_19 S hI dX4_see_1 ?_
  refine lv_iload_n hx hb dX4_see_4 rfl (lv_at hl 1 rfl) ?_
  refine g_ci hg hS (g_runVN S hg hI hN hS (As := [.int a1]) (rest := []) (tX0_hasNumber l D ad cI rk ks kv  _ _ _ hw) cv_yX0_hasNumber (nm_X4_81 hN) (va_recv hI.2.1 hI.1 (ci := 0) (q0 := 2) rfl rfl) ⟨Nat.le_of_ble_eq_true rfl, Nat.le_of_ble_eq_true rfl⟩ rfl hl.1 rfl (Nat.le_of_ble_eq_true rfl) dX4_see_5) (fun r1 u2 H locs hI hS hw => ?_)
  refine lv_if_ne (tgt := 14) hx hb dX4_see_8 (by decide) (fun hc => ?_) (fun hc => ?_)
  · have hw := hw.1 hc
    refine lv_iload_n hx hb dX4_see_14 rfl (lv_at hl 2 rfl) ?_
    refine lv_if_lt (tgt := 23) hx hb dX4_see_15 (by decide) (fun hc => ?_) (fun hc => ?_)
    · have hw := hw.1 hc
      refine lv_bipush (v := (-102 : Int32)) hx hb dX4_see_23 (by decide) ?_
      exact g_iret S hr hk hg hI hS dX4_see_25 hw
    · have hw := hw.2 hc
      refine lv_iload_n hx hb dX4_see_18 rfl (lv_at hl 2 rfl) ?_
      refine lv_iconst (v := (3 : Int32)) hx hb dX4_see_19 (by decide) ?_
      refine lv_icmp_lt (tgt := 26) hx hb dX4_see_20 (by decide) (fun hc => ?_) (fun hc => ?_)
      · have hw := hw.1 hc
        refine lv_aload_n hx hb dX4_see_26 rfl (lv_at hl 0 rfl) ?_
        refine xg_X4_0_26 S hI dX4_see_27 ?_
        refine xg_X4_3_72 S hN hI dX4_see_30 ?_
        refine lv_bipush (v := (6 : Int32)) hx hb dX4_see_33 (by decide) ?_
        refine lv_icmp_lt (tgt := 41) hx hb dX4_see_35 (by decide) (fun hc => ?_) (fun hc => ?_)
        · have hw := hw.1 hc
          refine lv_aload_n hx hb dX4_see_41 rfl (lv_at hl 0 rfl) ?_
          refine xg_X4_0_26 S hI dX4_see_42 ?_
          refine lv_iload_n hx hb dX4_see_45 rfl (lv_at hl 1 rfl) ?_
          refine lv_iload_n hx hb dX4_see_46 rfl (lv_at hl 2 rfl) ?_
          refine lv_iload_n hx hb dX4_see_47 rfl (lv_at hl 3 rfl) ?_
          refine g_cv hg hS (g_runVN S hg hI hN hS (As := [.int a1, .int a2, .int a3]) (rest := []) (tX3_append l D ad cI rk ks kv  _ _ _ _ _ hw) cv_yX3_append (nm_X4_161 hN) (va_recv hI.2.1 hI.1 (ci := 3) (q0 := 3) rfl rfl) ⟨Nat.le_of_ble_eq_true rfl, Nat.le_of_ble_eq_true rfl⟩ rfl hl.1 rfl (Nat.le_of_ble_eq_true rfl) dX4_see_48) (fun u4 H locs hI hS hw => ?_)
          refine lv_aload_n hx hb dX4_see_51 rfl (lv_at hl 0 rfl) ?_
          refine xg_X4_0_26 S hI dX4_see_52 ?_
          refine xg_X4_3_72 S hN hI dX4_see_55 ?_
          exact g_iret S hr hk hg hI hS dX4_see_58 hw
        · have hw := hw.2 hc
          refine lv_bipush (v := (-104 : Int32)) hx hb dX4_see_38 (by decide) ?_
          exact g_iret S hr hk hg hI hS dX4_see_40 hw
      · have hw := hw.2 hc
        refine lv_bipush (v := (-102 : Int32)) hx hb dX4_see_23 (by decide) ?_
        exact g_iret S hr hk hg hI hS dX4_see_25 hw
  · have hw := hw.2 hc
    refine lv_bipush (v := (-101 : Int32)) hx hb dX4_see_11 (by decide) ?_
    exact g_iret S hr hk hg hI hS dX4_see_13 hw
set_option maxRecDepth 100000 in
set_option maxHeartbeats 4000000 in
theorem tX4_forget (l : Launch) (D : va_G) (ad : Nat → Nat) (cI : ClassId) (rk ks kv : Nat)   (u : SS) (post : Int32 → SS → Prop) (hw : wX4_forget   u post) : Met l yX4_forget (Cond.code yX4_forget cX4_forget 2 (some .int) :: XT) (Rm 1) (va_Pc [.ref (ad 0)] (Pr (xI D ad cI) (xN ad rk ks kv) u)) (va_Qi post (Po (xI D ad cI)) (xA ad)) 0 0 (xA ad) := by
  refine g_of (A := (xA ad)) (by decide) (Nat.le_of_ble_eq_true rfl) (lv := [(0, .ref (ad 0))]) rfl ?_
  intro p e s m below meth c ls S hr hk hI hN hS hl
  have hx := S.1
  have hb := S.2.1
  have ho := S.2.2.2.1
  have hg := @xG D ad cI rk ks kv
  refine lv_aload_n hx hb dX4_forget_0 rfl (lv_at hl 0 rfl) ?_
  refine xg_X4_0_26 S hI dX4_forget_1 ?_
  refine xg_X4_3_72 S hN hI dX4_forget_4 ?_
  refine lv_istore_n (lv' := [(1, .int (u.1 6)), (0, .ref (ad 0))]) hx hb dX4_forget_7 rfl hl (by decide) rfl (fun ls hl => ?_)
  refine lv_aload_n hx hb dX4_forget_8 rfl (lv_at hl 1 rfl) ?_
  refine xg_X4_0_26 S hI dX4_forget_9 ?_
  refine lv_iconst (v := (0 : Int32)) hx hb dX4_forget_12 (by decide) ?_
  refine xp_X4_3_72 S hN hI hS dX4_forget_13 (fun H locs hI hS => ?_)
  refine lv_iload_n hx hb dX4_forget_16 rfl (lv_at hl 0 rfl) ?_
  exact g_iret S hr hk hg hI hS dX4_forget_17 hw
set_option maxRecDepth 100000 in
set_option maxHeartbeats 4000000 in
theorem tX1_paintBareBySeed (l : Launch) (D : va_G) (ad : Nat → Nat) (cI : ClassId) (rk ks kv : Nat)  (a1 : Int32) (u : SS) (post : Int32 → SS → Prop) (hw : wX1_paintBareBySeed  a1 u post) : Met l yX1_paintBareBySeed (Cond.code yX1_paintBareBySeed cX1_paintBareBySeed 4 (some .int) :: XT) (Rm 3) (va_Pc [.ref (ad 4), .int a1] (Pr (xI D ad cI) (xN ad rk ks kv) u)) (va_Qi post (Po (xI D ad cI)) (xA ad)) 0 0 (xA ad) := by
  refine g_of (A := (xA ad)) (by decide) (Nat.le_of_ble_eq_true rfl) (lv := [(0, .ref (ad 4)), (1, .int a1)]) rfl ?_
  intro p e s m below meth c ls S hr hk hI hN hS hl
  have hx := S.1
  have hb := S.2.1
  have ho := S.2.2.2.1
  have hg := @xG D ad cI rk ks kv
  have L18 : ∀ (x1_18 : Int32) (K18 : Int32 → Int32 → SS → Prop) (n : Nat) (x2_18 : Int32) (x3_18 : Int32) (u1 : SS) (H : Heap) (locs : List Loc) (ls : Array Slot), xI D ad cI u1 s H → va_S (xA ad) s.heap H locs → lv_has ls 4 [(0, .ref (ad 4)), (1, .int x1_18), (2, .int x2_18), (3, .int x3_18)] → wX1_paintBareBySeed_18 post x1_18 K18 n x2_18 x3_18 u1 → (∀ (x2_18 : Int32) (x3_18 : Int32) (u1 : SS) (H : Heap) (locs : List Loc) (ls : Array Slot), xI D ad cI u1 s H → va_S (xA ad) s.heap H locs → lv_has ls 4 [(0, .ref (ad 4)), (1, .int x1_18), (2, .int x2_18), (3, .int x3_18)] → K18 x2_18 x3_18 u1 → W p l e (Rm 3) s m [.ref (ad 4), .int a1].toArray below meth c H locs 0 0 (MQ below (va_Qi post (Po (xI D ad cI)) (xA ad)) [.ref (ad 4), .int a1].toArray s 0 0 (xA ad)) (F0 m 88 ls [])) → W p l e (Rm 3) s m [.ref (ad 4), .int a1].toArray below meth c H locs 0 0 (MQ below (va_Qi post (Po (xI D ad cI)) (xA ad)) [.ref (ad 4), .int a1].toArray s 0 0 (xA ad)) (F0 m 18 ls []) := by
    intro x1_18 K18 n
    induction n with
    | zero => intro x2_18 x3_18 u1 H locs ls hI hS hl hw hK18; exact False.elim hw
    | succ n18 ih18 =>
      intro x2_18 x3_18 u1 H locs ls hI hS hl hw hK18
      refine lv_iload_n hx hb dX1_paintBareBySeed_18 rfl (lv_at hl 3 rfl) ?_
      refine lv_aload_n hx hb dX1_paintBareBySeed_19 rfl (lv_at hl 0 rfl) ?_
      refine xg_X1_4_35 S hI dX1_paintBareBySeed_20 ?_
      refine xg_X1_2_59 S hN hI dX1_paintBareBySeed_23 ?_
      refine lv_icmp_gt (tgt := 88) hx hb dX1_paintBareBySeed_26 (by decide) (fun hc => ?_) (fun hc => ?_)
      · have hw := hw.1 hc
        exact hK18 x2_18 x3_18 u1 _ _ _ hI hS (lv_sub hl [0, 1, 2, 3] rfl) hw
      · have hw := hw.2 hc
        refine lv_aload_n hx hb dX1_paintBareBySeed_29 rfl (lv_at hl 0 rfl) ?_
        refine xg_X1_4_35 S hI dX1_paintBareBySeed_30 ?_
        refine lv_iload_n hx hb dX1_paintBareBySeed_33 rfl (lv_at hl 3 rfl) ?_
        refine g_ci hg hS (g_runVN S hg hI hN hS (As := [.int x3_18]) (rest := []) (tX0_isBare l D ad cI rk ks kv  _ _ _ hw) cv_yX0_isBare (nm_X1_84 hN) (va_recv hI.2.1 hI.1 (ci := 0) (q0 := 2) rfl rfl) ⟨Nat.le_of_ble_eq_true rfl, Nat.le_of_ble_eq_true rfl⟩ rfl hl.1 rfl (Nat.le_of_ble_eq_true rfl) dX1_paintBareBySeed_34) (fun r2 u3 H locs hI hS hw => ?_)
        refine lv_if_eq (tgt := 82) hx hb dX1_paintBareBySeed_37 (by decide) (fun hc => ?_) (fun hc => ?_)
        · have hw := hw.1 hc
          refine lv_iinc (v := x3_18 + 1) (lv' := [(3, .int (x3_18 + 1)), (0, .ref (ad 4)), (1, .int x1_18), (2, .int x2_18)]) hx hb dX1_paintBareBySeed_82 hl (k := 3) rfl (congrArg (fun z => x3_18 + z) (by decide)) (by decide) rfl (fun ls hl => ?_)
          refine lv_goto (tgt := 18) hx hb dX1_paintBareBySeed_85 (by decide) ?_
          exact ih18 x2_18 (x3_18 + 1) u3 _ _ _ hI hS (lv_sub hl [1, 2, 3, 0] rfl) hw hK18
        · have hw := hw.2 hc
          refine lv_aload_n hx hb dX1_paintBareBySeed_40 rfl (lv_at hl 0 rfl) ?_
          refine xg_X1_4_35 S hI dX1_paintBareBySeed_41 ?_
          refine xg_X1_2_62 S hN hI dX1_paintBareBySeed_44 ?_
          refine lv_if_le (tgt := 82) hx hb dX1_paintBareBySeed_47 (by decide) (fun hc => ?_) (fun hc => ?_)
          · have hw := hw.1 hc
            refine lv_iinc (v := x3_18 + 1) (lv' := [(3, .int (x3_18 + 1)), (0, .ref (ad 4)), (1, .int x1_18), (2, .int x2_18)]) hx hb dX1_paintBareBySeed_82 hl (k := 3) rfl (congrArg (fun z => x3_18 + z) (by decide)) (by decide) rfl (fun ls hl => ?_)
            refine lv_goto (tgt := 18) hx hb dX1_paintBareBySeed_85 (by decide) ?_
            exact ih18 x2_18 (x3_18 + 1) u3 _ _ _ hI hS (lv_sub hl [1, 2, 3, 0] rfl) hw hK18
          · have hw := hw.2 hc
            refine lv_ldc (v := (1103515245 : Int32)) hx hb ho (g_in S qk_X1_109) dX1_paintBareBySeed_50 ?_
            refine lv_iload_n hx hb dX1_paintBareBySeed_52 rfl (lv_at hl 2 rfl) ?_
            refine lv_imul hx hb dX1_paintBareBySeed_53 ?_
            refine lv_sipush (v := (12345 : Int32)) hx hb dX1_paintBareBySeed_54 (by decide) ?_
            refine lv_iadd hx hb dX1_paintBareBySeed_57 ?_
            refine lv_ldc (v := (2147483647 : Int32)) hx hb ho (g_in S qk_X1_110) dX1_paintBareBySeed_58 ?_
            refine lv_iand hx hb dX1_paintBareBySeed_60 ?_
            refine lv_istore_n (lv' := [(2, .int ((((1103515245 : Int32) * x2_18) + (12345 : Int32)) &&& (2147483647 : Int32))), (0, .ref (ad 4)), (1, .int x1_18), (3, .int x3_18)]) hx hb dX1_paintBareBySeed_61 rfl hl (by decide) rfl (fun ls hl => ?_)
            refine lv_aload_n hx hb dX1_paintBareBySeed_62 rfl (lv_at hl 1 rfl) ?_
            refine xg_X1_4_9 S hI dX1_paintBareBySeed_63 ?_
            refine lv_iload_n hx hb dX1_paintBareBySeed_66 rfl (lv_at hl 3 rfl) ?_
            refine lv_iload_n hx hb dX1_paintBareBySeed_67 rfl (lv_at hl 0 rfl) ?_
            refine lv_ldc (v := (65536 : Int32)) hx hb ho (g_in S qk_X1_111) dX1_paintBareBySeed_68 ?_
            refine lv_idiv hx hb dX1_paintBareBySeed_70 (by decide) ?_
            refine lv_aload_n hx hb dX1_paintBareBySeed_71 rfl (lv_at hl 1 rfl) ?_
            refine xg_X1_4_35 S hI dX1_paintBareBySeed_72 ?_
            refine xg_X1_2_62 S hN hI dX1_paintBareBySeed_75 ?_
            obtain ⟨hv, hw⟩ := hw
            refine lv_irem hx hb dX1_paintBareBySeed_78 hv ?_
            refine x_putN (j := 6) S hI hN hS hl.1 (by decide) (nm_X1_39 hN) ⟨Nat.le_of_ble_eq_true rfl, Nat.le_of_ble_eq_true rfl⟩ (Nat.le_of_ble_eq_true rfl) dX1_paintBareBySeed_79 (fun H locs hI hS => ?_)
            refine lv_iinc (v := x3_18 + 1) (lv' := [(3, .int (x3_18 + 1)), (2, .int ((((1103515245 : Int32) * x2_18) + (12345 : Int32)) &&& (2147483647 : Int32))), (0, .ref (ad 4)), (1, .int x1_18)]) hx hb dX1_paintBareBySeed_82 hl (k := 3) rfl (congrArg (fun z => x3_18 + z) (by decide)) (by decide) rfl (fun ls hl => ?_)
            refine lv_goto (tgt := 18) hx hb dX1_paintBareBySeed_85 (by decide) ?_
            exact ih18 ((((1103515245 : Int32) * x2_18) + (12345 : Int32)) &&& (2147483647 : Int32)) (x3_18 + 1) (xput u3 6 x3_18 ((((((1103515245 : Int32) * x2_18) + (12345 : Int32)) &&& (2147483647 : Int32)) / (65536 : Int32)) - (((((1103515245 : Int32) * x2_18) + (12345 : Int32)) &&& (2147483647 : Int32)) / (65536 : Int32)) / (u3.1 4) * (u3.1 4))) _ _ _ hI hS (lv_sub hl [2, 3, 1, 0] rfl) hw hK18
  refine lv_aload_n hx hb dX1_paintBareBySeed_0 rfl (lv_at hl 0 rfl) ?_
  refine xg_X1_4_35 S hI dX1_paintBareBySeed_1 ?_
  refine xg_X1_2_53 S hN hI dX1_paintBareBySeed_4 ?_
  refine lv_aload_n hx hb dX1_paintBareBySeed_7 rfl (lv_at hl 0 rfl) ?_
  refine xg_X1_4_9 S hI dX1_paintBareBySeed_8 ?_
  refine x_cpyN (jf := 2) (jt := 6) S hI hN hS hl.1 (by decide) (by decide) (by decide) (nm_X1_99 hN) ⟨Nat.le_of_ble_eq_true rfl, Nat.le_of_ble_eq_true rfl⟩ (Nat.le_of_ble_eq_true rfl) dX1_paintBareBySeed_11 (fun H locs hI hS => ?_)
  refine lv_iload_n hx hb dX1_paintBareBySeed_14 rfl (lv_at hl 1 rfl) ?_
  refine lv_istore_n (lv' := [(2, .int a1), (0, .ref (ad 4)), (1, .int a1)]) hx hb dX1_paintBareBySeed_15 rfl hl (by decide) rfl (fun ls hl => ?_)
  refine lv_iconst (v := (1 : Int32)) hx hb dX1_paintBareBySeed_16 (by decide) ?_
  refine lv_istore_n (lv' := [(3, .int (1 : Int32)), (2, .int a1), (0, .ref (ad 4)), (1, .int a1)]) hx hb dX1_paintBareBySeed_17 rfl hl (by decide) rfl (fun ls hl => ?_)
  obtain ⟨n, hw⟩ := hw
  refine L18 a1 _ n a1 (1 : Int32) (xcpy u 2 6) _ _ _ hI hS (lv_sub hl [2, 3, 1, 0] rfl) hw (fun x2_4 x3_5 u6 H locs ls hI hS hl hw => ?_)
  refine lv_iload_n hx hb dX1_paintBareBySeed_88 rfl (lv_at hl 2 rfl) ?_
  exact g_iret S hr hk hg hI hS dX1_paintBareBySeed_89 hw
set_option maxRecDepth 100000 in
set_option maxHeartbeats 4000000 in
theorem tX4_paintings (l : Launch) (D : va_G) (ad : Nat → Nat) (cI : ClassId) (rk ks kv : Nat)  (a1 : Int32) (a2 : Int32) (a3 : Int32) (u : SS) (post : Int32 → SS → Prop) (hw : wX4_paintings  a1 a2 a3 u post) : Met l yX4_paintings (Cond.code yX4_paintings cX4_paintings 9 (some .int) :: XT) (Rm 5) (va_Pc [.ref (ad 0), .int a1, .int a2, .int a3] (Pr (xI D ad cI) (xN ad rk ks kv) u)) (va_Qi post (Po (xI D ad cI)) (xA ad)) 0 0 (xA ad) := by
  refine g_of (A := (xA ad)) (by decide) (Nat.le_of_ble_eq_true rfl) (lv := [(0, .ref (ad 0)), (1, .int a1), (2, .int a2), (3, .int a3)]) rfl ?_
  intro p e s m below meth c ls S hr hk hI hN hS hl
  have hx := S.1
  have hb := S.2.1
  have ho := S.2.2.2.1
  have hg := @xG D ad cI rk ks kv
  have L52 : ∀ (x1_52 : Int32) (x2_52 : Int32) (x3_52 : Int32) (K52 : Int32 → Int32 → Int32 → Int32 → SS → Prop) (n : Nat) (x4_52 : Int32) (x5_52 : Int32) (x6_52 : Int32) (x7_52 : Int32) (u3 : SS) (H : Heap) (locs : List Loc) (ls : Array Slot), xI D ad cI u3 s H → va_S (xA ad) s.heap H locs → lv_has ls 9 [(0, .ref (ad 0)), (1, .int x1_52), (2, .int x2_52), (3, .int x3_52), (4, .int x4_52), (5, .int x5_52), (6, .int x6_52), (7, .int x7_52)] → wX4_paintings_52 post x1_52 x2_52 x3_52 K52 n x4_52 x5_52 x6_52 x7_52 u3 → (∀ (x4_52 : Int32) (x5_52 : Int32) (x6_52 : Int32) (x7_52 : Int32) (u3 : SS) (H : Heap) (locs : List Loc) (ls : Array Slot), xI D ad cI u3 s H → va_S (xA ad) s.heap H locs → lv_has ls 9 [(0, .ref (ad 0)), (1, .int x1_52), (2, .int x2_52), (3, .int x3_52), (4, .int x4_52), (5, .int x5_52), (6, .int x6_52), (7, .int x7_52)] → K52 x4_52 x5_52 x6_52 x7_52 u3 → W p l e (Rm 5) s m [.ref (ad 0), .int a1, .int a2, .int a3].toArray below meth c H locs 0 0 (MQ below (va_Qi post (Po (xI D ad cI)) (xA ad)) [.ref (ad 0), .int a1, .int a2, .int a3].toArray s 0 0 (xA ad)) (F0 m 113 ls [])) → W p l e (Rm 5) s m [.ref (ad 0), .int a1, .int a2, .int a3].toArray below meth c H locs 0 0 (MQ below (va_Qi post (Po (xI D ad cI)) (xA ad)) [.ref (ad 0), .int a1, .int a2, .int a3].toArray s 0 0 (xA ad)) (F0 m 52 ls []) := by
    intro x1_52 x2_52 x3_52 K52 n
    induction n with
    | zero => intro x4_52 x5_52 x6_52 x7_52 u3 H locs ls hI hS hl hw hK52; exact False.elim hw
    | succ n52 ih52 =>
      intro x4_52 x5_52 x6_52 x7_52 u3 H locs ls hI hS hl hw hK52
      refine lv_iload hx hb dX4_paintings_52 (lv_at hl 7 rfl) ?_
      refine lv_iload_n hx hb dX4_paintings_54 rfl (lv_at hl 1 rfl) ?_
      refine lv_icmp_ge (tgt := 113) hx hb dX4_paintings_55 (by decide) (fun hc => ?_) (fun hc => ?_)
      · have hw := hw.1 hc
        exact hK52 x4_52 x5_52 x6_52 x7_52 u3 _ _ _ hI hS (lv_sub hl [0, 1, 2, 3, 4, 5, 6, 7] rfl) hw
      · have hw := hw.2 hc
        refine lv_aload_n hx hb dX4_paintings_58 rfl (lv_at hl 0 rfl) ?_
        refine xg_X4_0_35 S hI dX4_paintings_59 ?_
        refine lv_iload hx hb dX4_paintings_62 (lv_at hl 4 rfl) ?_
        refine g_ci hg hS (g_runVN S hg hI hN hS (As := [.int x4_52]) (rest := []) (tX1_paintBareBySeed l D ad cI rk ks kv  _ _ _ hw) cv_yX1_paintBareBySeed (nm_X4_164 hN) (va_recv hI.2.1 hI.1 (ci := 1) (q0 := 4) rfl rfl) ⟨Nat.le_of_ble_eq_true rfl, Nat.le_of_ble_eq_true rfl⟩ rfl hl.1 rfl (Nat.le_of_ble_eq_true rfl) dX4_paintings_64) (fun r4 u5 H locs hI hS hw => ?_)
        refine lv_istore (lv' := [(4, .int r4), (0, .ref (ad 0)), (1, .int x1_52), (2, .int x2_52), (3, .int x3_52), (5, .int x5_52), (6, .int x6_52), (7, .int x7_52)]) hx hb dX4_paintings_67 hl (by decide) rfl (fun ls hl => ?_)
        refine lv_aload_n hx hb dX4_paintings_69 rfl (lv_at hl 1 rfl) ?_
        refine xg_X4_0_19 S hI dX4_paintings_70 ?_
        refine lv_aload_n hx hb dX4_paintings_73 rfl (lv_at hl 1 rfl) ?_
        refine xg_X4_0_35 S hI dX4_paintings_74 ?_
        refine xg_X4_4_167 S hN hI dX4_paintings_77 ?_
        refine g_ci hg hS (g_runVN S hg hI hN hS (As := [.ref (ad 13)]) (rest := []) (tX0_badThrees l D ad cI rk ks kv 6 (by decide)  _ _ hw) cv_yX0_badThrees (nm_X4_132 hN) (va_recv hI.2.1 hI.1 (ci := 0) (q0 := 2) rfl rfl) ⟨Nat.le_of_ble_eq_true rfl, Nat.le_of_ble_eq_true rfl⟩ rfl hl.1 rfl (Nat.le_of_ble_eq_true rfl) dX4_paintings_80) (fun r6 u7 H locs hI hS hw => ?_)
        refine lv_istore (lv' := [(8, .int r6), (4, .int r4), (0, .ref (ad 0)), (1, .int x1_52), (2, .int x2_52), (3, .int x3_52), (5, .int x5_52), (6, .int x6_52), (7, .int x7_52)]) hx hb dX4_paintings_83 hl (by decide) rfl (fun ls hl => ?_)
        refine lv_iload hx hb dX4_paintings_85 (lv_at hl 7 rfl) ?_
        refine lv_iload hx hb dX4_paintings_87 (lv_at hl 0 rfl) ?_
        refine lv_iadd hx hb dX4_paintings_89 ?_
        refine lv_istore (lv' := [(6, .int (x6_52 + r6)), (8, .int r6), (4, .int r4), (0, .ref (ad 0)), (1, .int x1_52), (2, .int x2_52), (3, .int x3_52), (5, .int x5_52), (7, .int x7_52)]) hx hb dX4_paintings_90 hl (by decide) rfl (fun ls hl => ?_)
        refine lv_iload hx hb dX4_paintings_92 (lv_at hl 7 rfl) ?_
        refine lv_iload hx hb dX4_paintings_94 (lv_at hl 1 rfl) ?_
        refine lv_if_ne (tgt := 103) hx hb dX4_paintings_96 (by decide) (fun hc => ?_) (fun hc => ?_)
        · have hw := hw.1 hc
          refine lv_iconst (v := (0 : Int32)) hx hb dX4_paintings_103 (by decide) ?_
          refine lv_iadd hx hb dX4_paintings_104 ?_
          refine lv_istore (lv' := [(5, .int (x5_52 + (0 : Int32))), (6, .int (x6_52 + r6)), (8, .int r6), (4, .int r4), (0, .ref (ad 0)), (1, .int x1_52), (2, .int x2_52), (3, .int x3_52), (7, .int x7_52)]) hx hb dX4_paintings_105 hl (by decide) rfl (fun ls hl => ?_)
          refine lv_iinc (v := x7_52 + 1) (lv' := [(7, .int (x7_52 + 1)), (5, .int (x5_52 + (0 : Int32))), (6, .int (x6_52 + r6)), (8, .int r6), (4, .int r4), (0, .ref (ad 0)), (1, .int x1_52), (2, .int x2_52), (3, .int x3_52)]) hx hb dX4_paintings_107 hl (k := 8) rfl (congrArg (fun z => x7_52 + z) (by decide)) (by decide) rfl (fun ls hl => ?_)
          refine lv_goto (tgt := 52) hx hb dX4_paintings_110 (by decide) ?_
          exact ih52 r4 (x5_52 + (0 : Int32)) (x6_52 + r6) (x7_52 + 1) u7 _ _ _ hI hS (lv_sub hl [5, 6, 7, 8, 4, 1, 2, 0] rfl) hw hK52
        · have hw := hw.2 hc
          refine lv_iconst (v := (1 : Int32)) hx hb dX4_paintings_99 (by decide) ?_
          refine lv_goto (tgt := 104) hx hb dX4_paintings_100 (by decide) ?_
          refine lv_iadd hx hb dX4_paintings_104 ?_
          refine lv_istore (lv' := [(5, .int (x5_52 + (1 : Int32))), (6, .int (x6_52 + r6)), (8, .int r6), (4, .int r4), (0, .ref (ad 0)), (1, .int x1_52), (2, .int x2_52), (3, .int x3_52), (7, .int x7_52)]) hx hb dX4_paintings_105 hl (by decide) rfl (fun ls hl => ?_)
          refine lv_iinc (v := x7_52 + 1) (lv' := [(7, .int (x7_52 + 1)), (5, .int (x5_52 + (1 : Int32))), (6, .int (x6_52 + r6)), (8, .int r6), (4, .int r4), (0, .ref (ad 0)), (1, .int x1_52), (2, .int x2_52), (3, .int x3_52)]) hx hb dX4_paintings_107 hl (k := 8) rfl (congrArg (fun z => x7_52 + z) (by decide)) (by decide) rfl (fun ls hl => ?_)
          refine lv_goto (tgt := 52) hx hb dX4_paintings_110 (by decide) ?_
          exact ih52 r4 (x5_52 + (1 : Int32)) (x6_52 + r6) (x7_52 + 1) u7 _ _ _ hI hS (lv_sub hl [5, 6, 7, 8, 4, 1, 2, 0] rfl) hw hK52
  refine lv_iload_n hx hb dX4_paintings_0 rfl (lv_at hl 1 rfl) ?_
  refine lv_iconst (v := (1 : Int32)) hx hb dX4_paintings_1 (by decide) ?_
  refine lv_icmp_lt (tgt := 24) hx hb dX4_paintings_2 (by decide) (fun hc => ?_) (fun hc => ?_)
  · have hw := hw.1 hc
    refine lv_bipush (v := (-102 : Int32)) hx hb dX4_paintings_24 (by decide) ?_
    exact g_iret S hr hk hg hI hS dX4_paintings_26 hw
  · have hw := hw.2 hc
    refine lv_iload_n hx hb dX4_paintings_5 rfl (lv_at hl 1 rfl) ?_
    refine lv_bipush (v := (40 : Int32)) hx hb dX4_paintings_6 (by decide) ?_
    refine lv_icmp_gt (tgt := 24) hx hb dX4_paintings_8 (by decide) (fun hc => ?_) (fun hc => ?_)
    · have hw := hw.1 hc
      refine lv_bipush (v := (-102 : Int32)) hx hb dX4_paintings_24 (by decide) ?_
      exact g_iret S hr hk hg hI hS dX4_paintings_26 hw
    · have hw := hw.2 hc
      refine lv_iload_n hx hb dX4_paintings_11 rfl (lv_at hl 2 rfl) ?_
      refine lv_if_lt (tgt := 24) hx hb dX4_paintings_12 (by decide) (fun hc => ?_) (fun hc => ?_)
      · have hw := hw.1 hc
        refine lv_bipush (v := (-102 : Int32)) hx hb dX4_paintings_24 (by decide) ?_
        exact g_iret S hr hk hg hI hS dX4_paintings_26 hw
      · have hw := hw.2 hc
        refine lv_iload_n hx hb dX4_paintings_15 rfl (lv_at hl 3 rfl) ?_
        refine lv_if_lt (tgt := 24) hx hb dX4_paintings_16 (by decide) (fun hc => ?_) (fun hc => ?_)
        · have hw := hw.1 hc
          refine lv_bipush (v := (-102 : Int32)) hx hb dX4_paintings_24 (by decide) ?_
          exact g_iret S hr hk hg hI hS dX4_paintings_26 hw
        · have hw := hw.2 hc
          refine lv_iload_n hx hb dX4_paintings_19 rfl (lv_at hl 3 rfl) ?_
          refine lv_iconst (v := (2 : Int32)) hx hb dX4_paintings_20 (by decide) ?_
          refine lv_icmp_le (tgt := 27) hx hb dX4_paintings_21 (by decide) (fun hc => ?_) (fun hc => ?_)
          · have hw := hw.1 hc
            refine lv_aload_n hx hb dX4_paintings_27 rfl (lv_at hl 0 rfl) ?_
            refine xg_X4_0_19 S hI dX4_paintings_28 ?_
            refine g_ci hg hS (g_runVN S hg hI hN hS (As := []) (rest := []) (tX0_isThere l D ad cI rk ks kv   _ _ hw) cv_yX0_isThere (nm_X4_140 hN) (va_recv hI.2.1 hI.1 (ci := 0) (q0 := 2) rfl rfl) ⟨Nat.le_of_ble_eq_true rfl, Nat.le_of_ble_eq_true rfl⟩ rfl hl.1 rfl (Nat.le_of_ble_eq_true rfl) dX4_paintings_31) (fun r1 u2 H locs hI hS hw => ?_)
            refine lv_if_ne (tgt := 40) hx hb dX4_paintings_34 (by decide) (fun hc => ?_) (fun hc => ?_)
            · have hw := hw.1 hc
              refine lv_iload_n hx hb dX4_paintings_40 rfl (lv_at hl 2 rfl) ?_
              refine lv_istore (lv' := [(4, .int a2), (0, .ref (ad 0)), (1, .int a1), (2, .int a2), (3, .int a3)]) hx hb dX4_paintings_41 hl (by decide) rfl (fun ls hl => ?_)
              refine lv_iconst (v := (0 : Int32)) hx hb dX4_paintings_43 (by decide) ?_
              refine lv_istore (lv' := [(5, .int (0 : Int32)), (4, .int a2), (0, .ref (ad 0)), (1, .int a1), (2, .int a2), (3, .int a3)]) hx hb dX4_paintings_44 hl (by decide) rfl (fun ls hl => ?_)
              refine lv_iconst (v := (0 : Int32)) hx hb dX4_paintings_46 (by decide) ?_
              refine lv_istore (lv' := [(6, .int (0 : Int32)), (5, .int (0 : Int32)), (4, .int a2), (0, .ref (ad 0)), (1, .int a1), (2, .int a2), (3, .int a3)]) hx hb dX4_paintings_47 hl (by decide) rfl (fun ls hl => ?_)
              refine lv_iconst (v := (0 : Int32)) hx hb dX4_paintings_49 (by decide) ?_
              refine lv_istore (lv' := [(7, .int (0 : Int32)), (6, .int (0 : Int32)), (5, .int (0 : Int32)), (4, .int a2), (0, .ref (ad 0)), (1, .int a1), (2, .int a2), (3, .int a3)]) hx hb dX4_paintings_50 hl (by decide) rfl (fun ls hl => ?_)
              obtain ⟨n, hw⟩ := hw
              refine L52 a1 a2 a3 _ n a2 (0 : Int32) (0 : Int32) (0 : Int32) u2 _ _ _ hI hS (lv_sub hl [4, 5, 6, 7, 3, 2, 1, 0] rfl) hw (fun x4_8 x5_9 x6_10 x7_11 u12 H locs ls hI hS hl hw => ?_)
              refine lv_iload_n hx hb dX4_paintings_113 rfl (lv_at hl 3 rfl) ?_
              refine lv_if_ne (tgt := 122) hx hb dX4_paintings_114 (by decide) (fun hc => ?_) (fun hc => ?_)
              · have hw := hw.1 hc
                refine lv_iload_n hx hb dX4_paintings_122 rfl (lv_at hl 3 rfl) ?_
                refine lv_iconst (v := (1 : Int32)) hx hb dX4_paintings_123 (by decide) ?_
                refine lv_icmp_ne (tgt := 132) hx hb dX4_paintings_124 (by decide) (fun hc => ?_) (fun hc => ?_)
                · have hw := hw.1 hc
                  refine lv_iload hx hb dX4_paintings_132 (lv_at hl 4 rfl) ?_
                  exact g_iret S hr hk hg hI hS dX4_paintings_134 hw
                · have hw := hw.2 hc
                  refine lv_iload hx hb dX4_paintings_127 (lv_at hl 6 rfl) ?_
                  refine lv_goto (tgt := 134) hx hb dX4_paintings_129 (by decide) ?_
                  exact g_iret S hr hk hg hI hS dX4_paintings_134 hw
              · have hw := hw.2 hc
                refine lv_iload hx hb dX4_paintings_117 (lv_at hl 5 rfl) ?_
                refine lv_goto (tgt := 134) hx hb dX4_paintings_119 (by decide) ?_
                exact g_iret S hr hk hg hI hS dX4_paintings_134 hw
            · have hw := hw.2 hc
              refine lv_bipush (v := (-103 : Int32)) hx hb dX4_paintings_37 (by decide) ?_
              exact g_iret S hr hk hg hI hS dX4_paintings_39 hw
          · have hw := hw.2 hc
            refine lv_bipush (v := (-102 : Int32)) hx hb dX4_paintings_24 (by decide) ?_
            exact g_iret S hr hk hg hI hS dX4_paintings_26 hw
set_option maxRecDepth 100000 in
set_option maxHeartbeats 4000000 in
theorem tX0_copyFrom_5_2 (l : Launch) (D : va_G) (ad : Nat → Nat) (cI : ClassId) (rk ks kv : Nat)   (u : SS) (post : SS → Prop) (hw : wX0_copyFrom_5_2   u post) : Met l yX0_copyFrom (Cond.code yX0_copyFrom cX0_copyFrom 2 none :: XT) (Rm 2) (va_Pc [.ref (ad 5), .ref (ad 2)] (Pr (xI D ad cI) (xN ad rk ks kv) u)) (va_Qv post (Po (xI D ad cI)) (xA ad)) 0 0 (xA ad) := by
  refine g_of (A := (xA ad)) (by decide) (Nat.le_of_ble_eq_true rfl) (lv := [(0, .ref (ad 5)), (1, .ref (ad 2))]) rfl ?_
  intro p e s m below meth c ls S hr hk hI hN hS hl
  have hx := S.1
  have hb := S.2.1
  have ho := S.2.2.2.1
  have hg := @xG D ad cI rk ks kv
  refine lv_aload_n hx hb dX0_copyFrom_0 rfl (lv_at hl 1 rfl) ?_
  refine xg_X0_2_9 S hI dX0_copyFrom_1 ?_
  refine lv_aload_n hx hb dX0_copyFrom_4 rfl (lv_at hl 0 rfl) ?_
  refine xg_X0_5_9 S hI dX0_copyFrom_5 ?_
  refine x_cpyN (jf := 1) (jt := 8) S hI hN hS hl.1 (by decide) (by decide) (by decide) (nm_X0_47 hN) ⟨Nat.le_of_ble_eq_true rfl, Nat.le_of_ble_eq_true rfl⟩ (Nat.le_of_ble_eq_true rfl) dX0_copyFrom_8 (fun H locs hI hS => ?_)
  refine lv_aload_n hx hb dX0_copyFrom_11 rfl (lv_at hl 1 rfl) ?_
  refine xg_X0_2_15 S hI dX0_copyFrom_12 ?_
  refine lv_aload_n hx hb dX0_copyFrom_15 rfl (lv_at hl 0 rfl) ?_
  refine xg_X0_5_15 S hI dX0_copyFrom_16 ?_
  refine x_cpyN (jf := 2) (jt := 9) S hI hN hS hl.1 (by decide) (by decide) (by decide) (nm_X0_47 hN) ⟨Nat.le_of_ble_eq_true rfl, Nat.le_of_ble_eq_true rfl⟩ (Nat.le_of_ble_eq_true rfl) dX0_copyFrom_19 (fun H locs hI hS => ?_)
  refine lv_aload_n hx hb dX0_copyFrom_22 rfl (lv_at hl 0 rfl) ?_
  refine lv_aload_n hx hb dX0_copyFrom_23 rfl (lv_at hl 1 rfl) ?_
  refine xg_X0_2_18 S hI dX0_copyFrom_24 ?_
  refine xp_X0_5_18 S hI hS dX0_copyFrom_27 (fun H locs hI hS => ?_)
  refine lv_aload_n hx hb dX0_copyFrom_30 rfl (lv_at hl 0 rfl) ?_
  refine lv_aload_n hx hb dX0_copyFrom_31 rfl (lv_at hl 1 rfl) ?_
  refine xg_X0_2_22 S hI dX0_copyFrom_32 ?_
  refine xp_X0_5_22 S hI hS dX0_copyFrom_35 (fun H locs hI hS => ?_)
  refine lv_aload_n hx hb dX0_copyFrom_38 rfl (lv_at hl 0 rfl) ?_
  refine lv_aload_n hx hb dX0_copyFrom_39 rfl (lv_at hl 1 rfl) ?_
  refine xg_X0_2_25 S hI dX0_copyFrom_40 ?_
  refine xp_X0_5_25 S hI hS dX0_copyFrom_43 (fun H locs hI hS => ?_)
  exact g_vret S hr hk hg hI hS dX0_copyFrom_46 hw
set_option maxRecDepth 100000 in
set_option maxHeartbeats 4000000 in
theorem tX3_copyFrom_6_3 (l : Launch) (D : va_G) (ad : Nat → Nat) (cI : ClassId) (rk ks kv : Nat)   (u : SS) (post : SS → Prop) (hw : wX3_copyFrom_6_3   u post) : Met l yX3_copyFrom (Cond.code yX3_copyFrom cX3_copyFrom 2 none :: XT) (Rm 2) (va_Pc [.ref (ad 6), .ref (ad 3)] (Pr (xI D ad cI) (xN ad rk ks kv) u)) (va_Qv post (Po (xI D ad cI)) (xA ad)) 0 0 (xA ad) := by
  refine g_of (A := (xA ad)) (by decide) (Nat.le_of_ble_eq_true rfl) (lv := [(0, .ref (ad 6)), (1, .ref (ad 3))]) rfl ?_
  intro p e s m below meth c ls S hr hk hI hN hS hl
  have hx := S.1
  have hb := S.2.1
  have ho := S.2.2.2.1
  have hg := @xG D ad cI rk ks kv
  refine lv_aload_n hx hb dX3_copyFrom_0 rfl (lv_at hl 1 rfl) ?_
  refine xg_X3_3_9 S hI dX3_copyFrom_1 ?_
  refine lv_aload_n hx hb dX3_copyFrom_4 rfl (lv_at hl 0 rfl) ?_
  refine xg_X3_6_9 S hI dX3_copyFrom_5 ?_
  refine x_cpyN (jf := 3) (jt := 10) S hI hN hS hl.1 (by decide) (by decide) (by decide) (nm_X3_29 hN) ⟨Nat.le_of_ble_eq_true rfl, Nat.le_of_ble_eq_true rfl⟩ (Nat.le_of_ble_eq_true rfl) dX3_copyFrom_8 (fun H locs hI hS => ?_)
  refine lv_aload_n hx hb dX3_copyFrom_11 rfl (lv_at hl 1 rfl) ?_
  refine xg_X3_3_15 S hI dX3_copyFrom_12 ?_
  refine lv_aload_n hx hb dX3_copyFrom_15 rfl (lv_at hl 0 rfl) ?_
  refine xg_X3_6_15 S hI dX3_copyFrom_16 ?_
  refine x_cpyN (jf := 4) (jt := 11) S hI hN hS hl.1 (by decide) (by decide) (by decide) (nm_X3_29 hN) ⟨Nat.le_of_ble_eq_true rfl, Nat.le_of_ble_eq_true rfl⟩ (Nat.le_of_ble_eq_true rfl) dX3_copyFrom_19 (fun H locs hI hS => ?_)
  refine lv_aload_n hx hb dX3_copyFrom_22 rfl (lv_at hl 1 rfl) ?_
  refine xg_X3_3_18 S hI dX3_copyFrom_23 ?_
  refine lv_aload_n hx hb dX3_copyFrom_26 rfl (lv_at hl 0 rfl) ?_
  refine xg_X3_6_18 S hI dX3_copyFrom_27 ?_
  refine x_cpyN (jf := 5) (jt := 12) S hI hN hS hl.1 (by decide) (by decide) (by decide) (nm_X3_29 hN) ⟨Nat.le_of_ble_eq_true rfl, Nat.le_of_ble_eq_true rfl⟩ (Nat.le_of_ble_eq_true rfl) dX3_copyFrom_30 (fun H locs hI hS => ?_)
  refine lv_aload_n hx hb dX3_copyFrom_33 rfl (lv_at hl 0 rfl) ?_
  refine lv_aload_n hx hb dX3_copyFrom_34 rfl (lv_at hl 1 rfl) ?_
  refine xg_X3_3_21 S hI dX3_copyFrom_35 ?_
  refine xp_X3_6_21 S hI hS dX3_copyFrom_38 (fun H locs hI hS => ?_)
  exact g_vret S hr hk hg hI hS dX3_copyFrom_41 hw
set_option maxRecDepth 100000 in
set_option maxHeartbeats 4000000 in
theorem tX4_image (l : Launch) (D : va_G) (ad : Nat → Nat) (cI : ClassId) (rk ks kv : Nat)   (u : SS) (post : Int32 → SS → Prop) (hw : wX4_image   u post) : Met l yX4_image (Cond.code yX4_image cX4_image 1 (some .int) :: XT) (Rm 3) (va_Pc [.ref (ad 0)] (Pr (xI D ad cI) (xN ad rk ks kv) u)) (va_Qi post (Po (xI D ad cI)) (xA ad)) 0 0 (xA ad) := by
  refine g_of (A := (xA ad)) (by decide) (Nat.le_of_ble_eq_true rfl) (lv := [(0, .ref (ad 0))]) rfl ?_
  intro p e s m below meth c ls S hr hk hI hN hS hl
  have hx := S.1
  have hb := S.2.1
  have ho := S.2.2.2.1
  have hg := @xG D ad cI rk ks kv
  refine lv_aload_n hx hb dX4_image_0 rfl (lv_at hl 0 rfl) ?_
  refine xg_X4_0_19 S hI dX4_image_1 ?_
  refine g_ci hg hS (g_runVN S hg hI hN hS (As := []) (rest := []) (tX0_isThere l D ad cI rk ks kv   _ _ hw) cv_yX0_isThere (nm_X4_140 hN) (va_recv hI.2.1 hI.1 (ci := 0) (q0 := 2) rfl rfl) ⟨Nat.le_of_ble_eq_true rfl, Nat.le_of_ble_eq_true rfl⟩ rfl hl.1 rfl (Nat.le_of_ble_eq_true rfl) dX4_image_4) (fun r1 u2 H locs hI hS hw => ?_)
  refine lv_if_ne (tgt := 13) hx hb dX4_image_7 (by decide) (fun hc => ?_) (fun hc => ?_)
  · have hw := hw.1 hc
    refine lv_aload_n hx hb dX4_image_13 rfl (lv_at hl 0 rfl) ?_
    refine xg_X4_0_39 S hI dX4_image_14 ?_
    refine lv_aload_n hx hb dX4_image_17 rfl (lv_at hl 0 rfl) ?_
    refine xg_X4_0_19 S hI dX4_image_18 ?_
    refine g_cv hg hS (g_runVN S hg hI hN hS (As := [.ref (ad 2)]) (rest := []) (tX0_copyFrom_5_2 l D ad cI rk ks kv   _ _ hw) cv_yX0_copyFrom (nm_X4_170 hN) (va_recv hI.2.1 hI.1 (ci := 0) (q0 := 5) rfl rfl) ⟨Nat.le_of_ble_eq_true rfl, Nat.le_of_ble_eq_true rfl⟩ rfl hl.1 rfl (Nat.le_of_ble_eq_true rfl) dX4_image_21) (fun u4 H locs hI hS hw => ?_)
    refine lv_aload_n hx hb dX4_image_24 rfl (lv_at hl 0 rfl) ?_
    refine xg_X4_0_42 S hI dX4_image_25 ?_
    refine lv_aload_n hx hb dX4_image_28 rfl (lv_at hl 0 rfl) ?_
    refine xg_X4_0_26 S hI dX4_image_29 ?_
    refine g_cv hg hS (g_runVN S hg hI hN hS (As := [.ref (ad 3)]) (rest := []) (tX3_copyFrom_6_3 l D ad cI rk ks kv   _ _ hw) cv_yX3_copyFrom (nm_X4_173 hN) (va_recv hI.2.1 hI.1 (ci := 3) (q0 := 6) rfl rfl) ⟨Nat.le_of_ble_eq_true rfl, Nat.le_of_ble_eq_true rfl⟩ rfl hl.1 rfl (Nat.le_of_ble_eq_true rfl) dX4_image_32) (fun u6 H locs hI hS hw => ?_)
    refine lv_aload_n hx hb dX4_image_35 rfl (lv_at hl 0 rfl) ?_
    refine lv_iconst (v := (1 : Int32)) hx hb dX4_image_36 (by decide) ?_
    refine xp_X4_0_45 rfl rfl S hI hS dX4_image_37 (fun H locs hI hS => ?_)
    refine lv_aload_n hx hb dX4_image_40 rfl (lv_at hl 0 rfl) ?_
    refine xg_X4_0_19 S hI dX4_image_41 ?_
    refine xg_X4_2_125 S hN hI dX4_image_44 ?_
    exact g_iret S hr hk hg hI hS dX4_image_47 hw
  · have hw := hw.2 hc
    refine lv_bipush (v := (-103 : Int32)) hx hb dX4_image_10 (by decide) ?_
    exact g_iret S hr hk hg hI hS dX4_image_12 hw
set_option maxRecDepth 100000 in
set_option maxHeartbeats 4000000 in
theorem tX0_copyFrom_2_5 (l : Launch) (D : va_G) (ad : Nat → Nat) (cI : ClassId) (rk ks kv : Nat)   (u : SS) (post : SS → Prop) (hw : wX0_copyFrom_2_5   u post) : Met l yX0_copyFrom (Cond.code yX0_copyFrom cX0_copyFrom 2 none :: XT) (Rm 2) (va_Pc [.ref (ad 2), .ref (ad 5)] (Pr (xI D ad cI) (xN ad rk ks kv) u)) (va_Qv post (Po (xI D ad cI)) (xA ad)) 0 0 (xA ad) := by
  refine g_of (A := (xA ad)) (by decide) (Nat.le_of_ble_eq_true rfl) (lv := [(0, .ref (ad 2)), (1, .ref (ad 5))]) rfl ?_
  intro p e s m below meth c ls S hr hk hI hN hS hl
  have hx := S.1
  have hb := S.2.1
  have ho := S.2.2.2.1
  have hg := @xG D ad cI rk ks kv
  refine lv_aload_n hx hb dX0_copyFrom_0 rfl (lv_at hl 1 rfl) ?_
  refine xg_X0_5_9 S hI dX0_copyFrom_1 ?_
  refine lv_aload_n hx hb dX0_copyFrom_4 rfl (lv_at hl 0 rfl) ?_
  refine xg_X0_2_9 S hI dX0_copyFrom_5 ?_
  refine x_cpyN (jf := 8) (jt := 1) S hI hN hS hl.1 (by decide) (by decide) (by decide) (nm_X0_47 hN) ⟨Nat.le_of_ble_eq_true rfl, Nat.le_of_ble_eq_true rfl⟩ (Nat.le_of_ble_eq_true rfl) dX0_copyFrom_8 (fun H locs hI hS => ?_)
  refine lv_aload_n hx hb dX0_copyFrom_11 rfl (lv_at hl 1 rfl) ?_
  refine xg_X0_5_15 S hI dX0_copyFrom_12 ?_
  refine lv_aload_n hx hb dX0_copyFrom_15 rfl (lv_at hl 0 rfl) ?_
  refine xg_X0_2_15 S hI dX0_copyFrom_16 ?_
  refine x_cpyN (jf := 9) (jt := 2) S hI hN hS hl.1 (by decide) (by decide) (by decide) (nm_X0_47 hN) ⟨Nat.le_of_ble_eq_true rfl, Nat.le_of_ble_eq_true rfl⟩ (Nat.le_of_ble_eq_true rfl) dX0_copyFrom_19 (fun H locs hI hS => ?_)
  refine lv_aload_n hx hb dX0_copyFrom_22 rfl (lv_at hl 0 rfl) ?_
  refine lv_aload_n hx hb dX0_copyFrom_23 rfl (lv_at hl 1 rfl) ?_
  refine xg_X0_5_18 S hI dX0_copyFrom_24 ?_
  refine xp_X0_2_18 S hI hS dX0_copyFrom_27 (fun H locs hI hS => ?_)
  refine lv_aload_n hx hb dX0_copyFrom_30 rfl (lv_at hl 0 rfl) ?_
  refine lv_aload_n hx hb dX0_copyFrom_31 rfl (lv_at hl 1 rfl) ?_
  refine xg_X0_5_22 S hI dX0_copyFrom_32 ?_
  refine xp_X0_2_22 S hI hS dX0_copyFrom_35 (fun H locs hI hS => ?_)
  refine lv_aload_n hx hb dX0_copyFrom_38 rfl (lv_at hl 0 rfl) ?_
  refine lv_aload_n hx hb dX0_copyFrom_39 rfl (lv_at hl 1 rfl) ?_
  refine xg_X0_5_25 S hI dX0_copyFrom_40 ?_
  refine xp_X0_2_25 S hI hS dX0_copyFrom_43 (fun H locs hI hS => ?_)
  exact g_vret S hr hk hg hI hS dX0_copyFrom_46 hw
set_option maxRecDepth 100000 in
set_option maxHeartbeats 4000000 in
theorem tX3_copyFrom_3_6 (l : Launch) (D : va_G) (ad : Nat → Nat) (cI : ClassId) (rk ks kv : Nat)   (u : SS) (post : SS → Prop) (hw : wX3_copyFrom_3_6   u post) : Met l yX3_copyFrom (Cond.code yX3_copyFrom cX3_copyFrom 2 none :: XT) (Rm 2) (va_Pc [.ref (ad 3), .ref (ad 6)] (Pr (xI D ad cI) (xN ad rk ks kv) u)) (va_Qv post (Po (xI D ad cI)) (xA ad)) 0 0 (xA ad) := by
  refine g_of (A := (xA ad)) (by decide) (Nat.le_of_ble_eq_true rfl) (lv := [(0, .ref (ad 3)), (1, .ref (ad 6))]) rfl ?_
  intro p e s m below meth c ls S hr hk hI hN hS hl
  have hx := S.1
  have hb := S.2.1
  have ho := S.2.2.2.1
  have hg := @xG D ad cI rk ks kv
  refine lv_aload_n hx hb dX3_copyFrom_0 rfl (lv_at hl 1 rfl) ?_
  refine xg_X3_6_9 S hI dX3_copyFrom_1 ?_
  refine lv_aload_n hx hb dX3_copyFrom_4 rfl (lv_at hl 0 rfl) ?_
  refine xg_X3_3_9 S hI dX3_copyFrom_5 ?_
  refine x_cpyN (jf := 10) (jt := 3) S hI hN hS hl.1 (by decide) (by decide) (by decide) (nm_X3_29 hN) ⟨Nat.le_of_ble_eq_true rfl, Nat.le_of_ble_eq_true rfl⟩ (Nat.le_of_ble_eq_true rfl) dX3_copyFrom_8 (fun H locs hI hS => ?_)
  refine lv_aload_n hx hb dX3_copyFrom_11 rfl (lv_at hl 1 rfl) ?_
  refine xg_X3_6_15 S hI dX3_copyFrom_12 ?_
  refine lv_aload_n hx hb dX3_copyFrom_15 rfl (lv_at hl 0 rfl) ?_
  refine xg_X3_3_15 S hI dX3_copyFrom_16 ?_
  refine x_cpyN (jf := 11) (jt := 4) S hI hN hS hl.1 (by decide) (by decide) (by decide) (nm_X3_29 hN) ⟨Nat.le_of_ble_eq_true rfl, Nat.le_of_ble_eq_true rfl⟩ (Nat.le_of_ble_eq_true rfl) dX3_copyFrom_19 (fun H locs hI hS => ?_)
  refine lv_aload_n hx hb dX3_copyFrom_22 rfl (lv_at hl 1 rfl) ?_
  refine xg_X3_6_18 S hI dX3_copyFrom_23 ?_
  refine lv_aload_n hx hb dX3_copyFrom_26 rfl (lv_at hl 0 rfl) ?_
  refine xg_X3_3_18 S hI dX3_copyFrom_27 ?_
  refine x_cpyN (jf := 12) (jt := 5) S hI hN hS hl.1 (by decide) (by decide) (by decide) (nm_X3_29 hN) ⟨Nat.le_of_ble_eq_true rfl, Nat.le_of_ble_eq_true rfl⟩ (Nat.le_of_ble_eq_true rfl) dX3_copyFrom_30 (fun H locs hI hS => ?_)
  refine lv_aload_n hx hb dX3_copyFrom_33 rfl (lv_at hl 0 rfl) ?_
  refine lv_aload_n hx hb dX3_copyFrom_34 rfl (lv_at hl 1 rfl) ?_
  refine xg_X3_6_21 S hI dX3_copyFrom_35 ?_
  refine xp_X3_3_21 S hI hS dX3_copyFrom_38 (fun H locs hI hS => ?_)
  exact g_vret S hr hk hg hI hS dX3_copyFrom_41 hw
set_option maxRecDepth 100000 in
set_option maxHeartbeats 4000000 in
theorem tX4_restore (l : Launch) (D : va_G) (ad : Nat → Nat) (cI : ClassId) (rk ks kv : Nat)   (u : SS) (post : Int32 → SS → Prop) (hw : wX4_restore   u post) : Met l yX4_restore (Cond.code yX4_restore cX4_restore 1 (some .int) :: XT) (Rm 3) (va_Pc [.ref (ad 0)] (Pr (xI D ad cI) (xN ad rk ks kv) u)) (va_Qi post (Po (xI D ad cI)) (xA ad)) 0 0 (xA ad) := by
  refine g_of (A := (xA ad)) (by decide) (Nat.le_of_ble_eq_true rfl) (lv := [(0, .ref (ad 0))]) rfl ?_
  intro p e s m below meth c ls S hr hk hI hN hS hl
  have hx := S.1
  have hb := S.2.1
  have ho := S.2.2.2.1
  have hg := @xG D ad cI rk ks kv
  refine lv_aload_n hx hb dX4_restore_0 rfl (lv_at hl 0 rfl) ?_
  refine xg_X4_0_45 S hI dX4_restore_1 ?_
  refine lv_if_ne (tgt := 10) hx hb dX4_restore_4 (by decide) (fun hc => ?_) (fun hc => ?_)
  · have hw := hw.1 hc
    refine lv_aload_n hx hb dX4_restore_10 rfl (lv_at hl 0 rfl) ?_
    refine xg_X4_0_19 S hI dX4_restore_11 ?_
    refine lv_aload_n hx hb dX4_restore_14 rfl (lv_at hl 0 rfl) ?_
    refine xg_X4_0_39 S hI dX4_restore_15 ?_
    refine g_cv hg hS (g_runVN S hg hI hN hS (As := [.ref (ad 5)]) (rest := []) (tX0_copyFrom_2_5 l D ad cI rk ks kv   _ _ hw) cv_yX0_copyFrom (nm_X4_170 hN) (va_recv hI.2.1 hI.1 (ci := 0) (q0 := 2) rfl rfl) ⟨Nat.le_of_ble_eq_true rfl, Nat.le_of_ble_eq_true rfl⟩ rfl hl.1 rfl (Nat.le_of_ble_eq_true rfl) dX4_restore_18) (fun u2 H locs hI hS hw => ?_)
    refine lv_aload_n hx hb dX4_restore_21 rfl (lv_at hl 0 rfl) ?_
    refine xg_X4_0_26 S hI dX4_restore_22 ?_
    refine lv_aload_n hx hb dX4_restore_25 rfl (lv_at hl 0 rfl) ?_
    refine xg_X4_0_42 S hI dX4_restore_26 ?_
    refine g_cv hg hS (g_runVN S hg hI hN hS (As := [.ref (ad 6)]) (rest := []) (tX3_copyFrom_3_6 l D ad cI rk ks kv   _ _ hw) cv_yX3_copyFrom (nm_X4_173 hN) (va_recv hI.2.1 hI.1 (ci := 3) (q0 := 3) rfl rfl) ⟨Nat.le_of_ble_eq_true rfl, Nat.le_of_ble_eq_true rfl⟩ rfl hl.1 rfl (Nat.le_of_ble_eq_true rfl) dX4_restore_29) (fun u4 H locs hI hS hw => ?_)
    refine lv_aload_n hx hb dX4_restore_32 rfl (lv_at hl 0 rfl) ?_
    refine xg_X4_0_35 S hI dX4_restore_33 ?_
    refine lv_iconst (v := (1 : Int32)) hx hb dX4_restore_36 (by decide) ?_
    refine xp_X4_4_75 rfl rfl S hN hI hS dX4_restore_37 (fun H locs hI hS => ?_)
    refine lv_aload_n hx hb dX4_restore_40 rfl (lv_at hl 0 rfl) ?_
    refine xg_X4_0_19 S hI dX4_restore_41 ?_
    refine xg_X4_2_125 S hN hI dX4_restore_44 ?_
    exact g_iret S hr hk hg hI hS dX4_restore_47 hw
  · have hw := hw.2 hc
    refine lv_bipush (v := (-103 : Int32)) hx hb dX4_restore_7 (by decide) ?_
    exact g_iret S hr hk hg hI hS dX4_restore_9 hw
set_option maxRecDepth 100000 in
set_option maxHeartbeats 4000000 in
theorem tX0_bareNumbers (l : Launch) (D : va_G) (ad : Nat → Nat) (cI : ClassId) (rk ks kv : Nat)   (u : SS) (post : Int32 → SS → Prop) (hw : wX0_bareNumbers   u post) : Met l yX0_bareNumbers (Cond.code yX0_bareNumbers cX0_bareNumbers 3 (some .int) :: XT) (Rm 3) (va_Pc [.ref (ad 2)] (Pr (xI D ad cI) (xN ad rk ks kv) u)) (va_Qi post (Po (xI D ad cI)) (xA ad)) 0 0 (xA ad) := by
  refine g_of (A := (xA ad)) (by decide) (Nat.le_of_ble_eq_true rfl) (lv := [(0, .ref (ad 2))]) rfl ?_
  intro p e s m below meth c ls S hr hk hI hN hS hl
  have hx := S.1
  have hb := S.2.1
  have ho := S.2.2.2.1
  have hg := @xG D ad cI rk ks kv
  have L4 : ∀  (K4 : Int32 → Int32 → SS → Prop) (n : Nat) (x1_4 : Int32) (x2_4 : Int32) (u1 : SS) (H : Heap) (locs : List Loc) (ls : Array Slot), xI D ad cI u1 s H → va_S (xA ad) s.heap H locs → lv_has ls 3 [(0, .ref (ad 2)), (1, .int x1_4), (2, .int x2_4)] → wX0_bareNumbers_4 post K4 n x1_4 x2_4 u1 → (∀ (x1_4 : Int32) (x2_4 : Int32) (u1 : SS) (H : Heap) (locs : List Loc) (ls : Array Slot), xI D ad cI u1 s H → va_S (xA ad) s.heap H locs → lv_has ls 3 [(0, .ref (ad 2)), (1, .int x1_4), (2, .int x2_4)] → K4 x1_4 x2_4 u1 → W p l e (Rm 3) s m [.ref (ad 2)].toArray below meth c H locs 0 0 (MQ below (va_Qi post (Po (xI D ad cI)) (xA ad)) [.ref (ad 2)].toArray s 0 0 (xA ad)) (F0 m 34 ls [])) → W p l e (Rm 3) s m [.ref (ad 2)].toArray below meth c H locs 0 0 (MQ below (va_Qi post (Po (xI D ad cI)) (xA ad)) [.ref (ad 2)].toArray s 0 0 (xA ad)) (F0 m 4 ls []) := by
    intro K4 n
    induction n with
    | zero => intro x1_4 x2_4 u1 H locs ls hI hS hl hw hK4; exact False.elim hw
    | succ n4 ih4 =>
      intro x1_4 x2_4 u1 H locs ls hI hS hl hw hK4
      refine lv_iload_n hx hb dX0_bareNumbers_4 rfl (lv_at hl 2 rfl) ?_
      refine lv_aload_n hx hb dX0_bareNumbers_5 rfl (lv_at hl 0 rfl) ?_
      refine xg_X0_2_18 S hI dX0_bareNumbers_6 ?_
      refine lv_icmp_gt (tgt := 34) hx hb dX0_bareNumbers_9 (by decide) (fun hc => ?_) (fun hc => ?_)
      · have hw := hw.1 hc
        exact hK4 x1_4 x2_4 u1 _ _ _ hI hS (lv_sub hl [0, 1, 2] rfl) hw
      · have hw := hw.2 hc
        refine lv_iload_n hx hb dX0_bareNumbers_12 rfl (lv_at hl 1 rfl) ?_
        refine lv_aload_n hx hb dX0_bareNumbers_13 rfl (lv_at hl 0 rfl) ?_
        refine lv_iload_n hx hb dX0_bareNumbers_14 rfl (lv_at hl 2 rfl) ?_
        refine g_ci hg hS (g_runV S hg hI hN hS (As := [.int x2_4]) (rest := [.int x1_4]) (tX0_isBare l D ad cI rk ks kv  _ _ _ hw) cv_yX0_isBare qm_X0_55 (va_recv hI.2.1 hI.1 (ci := 0) (q0 := 2) rfl rfl) ⟨Nat.le_of_ble_eq_true rfl, Nat.le_of_ble_eq_true rfl⟩ rfl hl.1 rfl (Nat.le_of_ble_eq_true rfl) dX0_bareNumbers_15) (fun r2 u3 H locs hI hS hw => ?_)
        refine lv_if_eq (tgt := 25) hx hb dX0_bareNumbers_18 (by decide) (fun hc => ?_) (fun hc => ?_)
        · have hw := hw.1 hc
          refine lv_iconst (v := (0 : Int32)) hx hb dX0_bareNumbers_25 (by decide) ?_
          refine lv_iadd hx hb dX0_bareNumbers_26 ?_
          refine lv_istore_n (lv' := [(1, .int (x1_4 + (0 : Int32))), (0, .ref (ad 2)), (2, .int x2_4)]) hx hb dX0_bareNumbers_27 rfl hl (by decide) rfl (fun ls hl => ?_)
          refine lv_iinc (v := x2_4 + 1) (lv' := [(2, .int (x2_4 + 1)), (1, .int (x1_4 + (0 : Int32))), (0, .ref (ad 2))]) hx hb dX0_bareNumbers_28 hl (k := 2) rfl (congrArg (fun z => x2_4 + z) (by decide)) (by decide) rfl (fun ls hl => ?_)
          refine lv_goto (tgt := 4) hx hb dX0_bareNumbers_31 (by decide) ?_
          exact ih4 (x1_4 + (0 : Int32)) (x2_4 + 1) u3 _ _ _ hI hS (lv_sub hl [2, 1, 0] rfl) hw hK4
        · have hw := hw.2 hc
          refine lv_iconst (v := (1 : Int32)) hx hb dX0_bareNumbers_21 (by decide) ?_
          refine lv_goto (tgt := 26) hx hb dX0_bareNumbers_22 (by decide) ?_
          refine lv_iadd hx hb dX0_bareNumbers_26 ?_
          refine lv_istore_n (lv' := [(1, .int (x1_4 + (1 : Int32))), (0, .ref (ad 2)), (2, .int x2_4)]) hx hb dX0_bareNumbers_27 rfl hl (by decide) rfl (fun ls hl => ?_)
          refine lv_iinc (v := x2_4 + 1) (lv' := [(2, .int (x2_4 + 1)), (1, .int (x1_4 + (1 : Int32))), (0, .ref (ad 2))]) hx hb dX0_bareNumbers_28 hl (k := 2) rfl (congrArg (fun z => x2_4 + z) (by decide)) (by decide) rfl (fun ls hl => ?_)
          refine lv_goto (tgt := 4) hx hb dX0_bareNumbers_31 (by decide) ?_
          exact ih4 (x1_4 + (1 : Int32)) (x2_4 + 1) u3 _ _ _ hI hS (lv_sub hl [2, 1, 0] rfl) hw hK4
  refine lv_iconst (v := (0 : Int32)) hx hb dX0_bareNumbers_0 (by decide) ?_
  refine lv_istore_n (lv' := [(1, .int (0 : Int32)), (0, .ref (ad 2))]) hx hb dX0_bareNumbers_1 rfl hl (by decide) rfl (fun ls hl => ?_)
  refine lv_iconst (v := (1 : Int32)) hx hb dX0_bareNumbers_2 (by decide) ?_
  refine lv_istore_n (lv' := [(2, .int (1 : Int32)), (1, .int (0 : Int32)), (0, .ref (ad 2))]) hx hb dX0_bareNumbers_3 rfl hl (by decide) rfl (fun ls hl => ?_)
  obtain ⟨n, hw⟩ := hw
  refine L4 _ n (0 : Int32) (1 : Int32) u _ _ _ hI hS (lv_sub hl [2, 1, 0] rfl) hw (fun x1_4 x2_5 u6 H locs ls hI hS hl hw => ?_)
  refine lv_iload_n hx hb dX0_bareNumbers_34 rfl (lv_at hl 1 rfl) ?_
  exact g_iret S hr hk hg hI hS dX0_bareNumbers_35 hw
set_option maxRecDepth 100000 in
set_option maxHeartbeats 4000000 in
theorem tX0_threes (l : Launch) (D : va_G) (ad : Nat → Nat) (cI : ClassId) (rk ks kv : Nat)   (u : SS) (post : Int32 → SS → Prop) (hw : wX0_threes   u post) : Met l yX0_threes (Cond.code yX0_threes cX0_threes 3 (some .int) :: XT) (Rm 1) (va_Pc [.ref (ad 2)] (Pr (xI D ad cI) (xN ad rk ks kv) u)) (va_Qi post (Po (xI D ad cI)) (xA ad)) 0 0 (xA ad) := by
  refine g_of (A := (xA ad)) (by decide) (Nat.le_of_ble_eq_true rfl) (lv := [(0, .ref (ad 2))]) rfl ?_
  intro p e s m below meth c ls S hr hk hI hN hS hl
  have hx := S.1
  have hb := S.2.1
  have ho := S.2.2.2.1
  have hg := @xG D ad cI rk ks kv
  have L4 : ∀  (K4 : Int32 → Int32 → SS → Prop) (n : Nat) (x1_4 : Int32) (x2_4 : Int32) (u1 : SS) (H : Heap) (locs : List Loc) (ls : Array Slot), xI D ad cI u1 s H → va_S (xA ad) s.heap H locs → lv_has ls 3 [(0, .ref (ad 2)), (1, .int x1_4), (2, .int x2_4)] → wX0_threes_4 post K4 n x1_4 x2_4 u1 → (∀ (x1_4 : Int32) (x2_4 : Int32) (u1 : SS) (H : Heap) (locs : List Loc) (ls : Array Slot), xI D ad cI u1 s H → va_S (xA ad) s.heap H locs → lv_has ls 3 [(0, .ref (ad 2)), (1, .int x1_4), (2, .int x2_4)] → K4 x1_4 x2_4 u1 → W p l e (Rm 1) s m [.ref (ad 2)].toArray below meth c H locs 0 0 (MQ below (va_Qi post (Po (xI D ad cI)) (xA ad)) [.ref (ad 2)].toArray s 0 0 (xA ad)) (F0 m 24 ls [])) → W p l e (Rm 1) s m [.ref (ad 2)].toArray below meth c H locs 0 0 (MQ below (va_Qi post (Po (xI D ad cI)) (xA ad)) [.ref (ad 2)].toArray s 0 0 (xA ad)) (F0 m 4 ls []) := by
    intro K4 n
    induction n with
    | zero => intro x1_4 x2_4 u1 H locs ls hI hS hl hw hK4; exact False.elim hw
    | succ n4 ih4 =>
      intro x1_4 x2_4 u1 H locs ls hI hS hl hw hK4
      refine lv_iload_n hx hb dX0_threes_4 rfl (lv_at hl 2 rfl) ?_
      refine lv_aload_n hx hb dX0_threes_5 rfl (lv_at hl 0 rfl) ?_
      refine xg_X0_2_18 S hI dX0_threes_6 ?_
      refine lv_icmp_gt (tgt := 24) hx hb dX0_threes_9 (by decide) (fun hc => ?_) (fun hc => ?_)
      · have hw := hw.1 hc
        exact hK4 x1_4 x2_4 u1 _ _ _ hI hS (lv_sub hl [0, 1, 2] rfl) hw
      · have hw := hw.2 hc
        refine lv_iload_n hx hb dX0_threes_12 rfl (lv_at hl 1 rfl) ?_
        refine lv_iload_n hx hb dX0_threes_13 rfl (lv_at hl 2 rfl) ?_
        refine lv_iconst (v := (2 : Int32)) hx hb dX0_threes_14 (by decide) ?_
        refine lv_idiv hx hb dX0_threes_15 (by decide) ?_
        refine lv_iadd hx hb dX0_threes_16 ?_
        refine lv_istore_n (lv' := [(1, .int (x1_4 + (x2_4 / (2 : Int32)))), (0, .ref (ad 2)), (2, .int x2_4)]) hx hb dX0_threes_17 rfl hl (by decide) rfl (fun ls hl => ?_)
        refine lv_iinc (v := x2_4 + 1) (lv' := [(2, .int (x2_4 + 1)), (1, .int (x1_4 + (x2_4 / (2 : Int32)))), (0, .ref (ad 2))]) hx hb dX0_threes_18 hl (k := 2) rfl (congrArg (fun z => x2_4 + z) (by decide)) (by decide) rfl (fun ls hl => ?_)
        refine lv_goto (tgt := 4) hx hb dX0_threes_21 (by decide) ?_
        exact ih4 (x1_4 + (x2_4 / (2 : Int32))) (x2_4 + 1) u1 _ _ _ hI hS (lv_sub hl [2, 1, 0] rfl) hw hK4
  refine lv_iconst (v := (0 : Int32)) hx hb dX0_threes_0 (by decide) ?_
  refine lv_istore_n (lv' := [(1, .int (0 : Int32)), (0, .ref (ad 2))]) hx hb dX0_threes_1 rfl hl (by decide) rfl (fun ls hl => ?_)
  refine lv_iconst (v := (1 : Int32)) hx hb dX0_threes_2 (by decide) ?_
  refine lv_istore_n (lv' := [(2, .int (1 : Int32)), (1, .int (0 : Int32)), (0, .ref (ad 2))]) hx hb dX0_threes_3 rfl hl (by decide) rfl (fun ls hl => ?_)
  obtain ⟨n, hw⟩ := hw
  refine L4 _ n (0 : Int32) (1 : Int32) u _ _ _ hI hS (lv_sub hl [2, 1, 0] rfl) hw (fun x1_2 x2_3 u4 H locs ls hI hS hl hw => ?_)
  refine lv_iload_n hx hb dX0_threes_24 rfl (lv_at hl 1 rfl) ?_
  exact g_iret S hr hk hg hI hS dX0_threes_25 hw
set_option maxRecDepth 100000 in
set_option maxHeartbeats 4000000 in
theorem tX4_count (l : Launch) (D : va_G) (ad : Nat → Nat) (cI : ClassId) (rk ks kv : Nat)  (a1 : Int32) (u : SS) (post : Int32 → SS → Prop) (hw : wX4_count  a1 u post) : Met l yX4_count (Cond.code yX4_count cX4_count 2 (some .int) :: XT) (Rm 5) (va_Pc [.ref (ad 0), .int a1] (Pr (xI D ad cI) (xN ad rk ks kv) u)) (va_Qi post (Po (xI D ad cI)) (xA ad)) 0 0 (xA ad) := by
  refine g_of (A := (xA ad)) (by decide) (Nat.le_of_ble_eq_true rfl) (lv := [(0, .ref (ad 0)), (1, .int a1)]) rfl ?_
  intro p e s m below meth c ls S hr hk hI hN hS hl
  have hx := S.1
  have hb := S.2.1
  have ho := S.2.2.2.1
  have hg := @xG D ad cI rk ks kv
  refine lv_iload_n hx hb dX4_count_0 rfl (lv_at hl 1 rfl) ?_
  have hsw := hw
  by_cases hk0 : a1 = (0 : Int32)
  · refine lv_tableIn (tgt := 52) (off := 51) hx hb dX4_count_1 (by rw [hk0]; decide) (by rw [hk0]; decide) (by rw [hk0]; decide) (by decide) ?_
    have hw := hsw.1 hk0
    refine lv_aload_n hx hb dX4_count_52 rfl (lv_at hl 0 rfl) ?_
    refine xg_X4_0_19 S hI dX4_count_53 ?_
    refine xg_X4_2_78 S hN hI dX4_count_56 ?_
    exact g_iret S hr hk hg hI hS dX4_count_59 hw
  by_cases hk1 : a1 = (1 : Int32)
  · refine lv_tableIn (tgt := 60) (off := 59) hx hb dX4_count_1 (by rw [hk1]; decide) (by rw [hk1]; decide) (by rw [hk1]; decide) (by decide) ?_
    have hw := hsw.2.1 hk1
    refine lv_aload_n hx hb dX4_count_60 rfl (lv_at hl 0 rfl) ?_
    refine xg_X4_0_19 S hI dX4_count_61 ?_
    refine xg_X4_2_176 S hN hI dX4_count_64 ?_
    exact g_iret S hr hk hg hI hS dX4_count_67 hw
  by_cases hk2 : a1 = (2 : Int32)
  · refine lv_tableIn (tgt := 68) (off := 67) hx hb dX4_count_1 (by rw [hk2]; decide) (by rw [hk2]; decide) (by rw [hk2]; decide) (by decide) ?_
    have hw := hsw.2.2.1 hk2
    refine lv_aload_n hx hb dX4_count_68 rfl (lv_at hl 0 rfl) ?_
    refine xg_X4_0_19 S hI dX4_count_69 ?_
    refine g_ci hg hS (g_runVN S hg hI hN hS (As := []) (rest := []) (tX0_bareNumbers l D ad cI rk ks kv   _ _ hw) cv_yX0_bareNumbers (nm_X4_179 hN) (va_recv hI.2.1 hI.1 (ci := 0) (q0 := 2) rfl rfl) ⟨Nat.le_of_ble_eq_true rfl, Nat.le_of_ble_eq_true rfl⟩ rfl hl.1 rfl (Nat.le_of_ble_eq_true rfl) dX4_count_72) (fun r1 u2 H locs hI hS hw => ?_)
    exact g_iret S hr hk hg hI hS dX4_count_75 hw
  by_cases hk3 : a1 = (3 : Int32)
  · refine lv_tableIn (tgt := 76) (off := 75) hx hb dX4_count_1 (by rw [hk3]; decide) (by rw [hk3]; decide) (by rw [hk3]; decide) (by decide) ?_
    have hw := hsw.2.2.2.1 hk3
    refine lv_aload_n hx hb dX4_count_76 rfl (lv_at hl 0 rfl) ?_
    refine xg_X4_0_19 S hI dX4_count_77 ?_
    refine lv_aload_n hx hb dX4_count_80 rfl (lv_at hl 0 rfl) ?_
    refine xg_X4_0_19 S hI dX4_count_81 ?_
    refine xg_X4_2_93 S hN hI dX4_count_84 ?_
    refine g_ci hg hS (g_runVN S hg hI hN hS (As := [.ref (ad 9)]) (rest := []) (tX0_badThrees l D ad cI rk ks kv 2 (by decide)  _ _ hw) cv_yX0_badThrees (nm_X4_132 hN) (va_recv hI.2.1 hI.1 (ci := 0) (q0 := 2) rfl rfl) ⟨Nat.le_of_ble_eq_true rfl, Nat.le_of_ble_eq_true rfl⟩ rfl hl.1 rfl (Nat.le_of_ble_eq_true rfl) dX4_count_87) (fun r3 u4 H locs hI hS hw => ?_)
    exact g_iret S hr hk hg hI hS dX4_count_90 hw
  by_cases hk4 : a1 = (4 : Int32)
  · refine lv_tableIn (tgt := 91) (off := 90) hx hb dX4_count_1 (by rw [hk4]; decide) (by rw [hk4]; decide) (by rw [hk4]; decide) (by decide) ?_
    have hw := hsw.2.2.2.2.1 hk4
    refine lv_aload_n hx hb dX4_count_91 rfl (lv_at hl 0 rfl) ?_
    refine xg_X4_0_19 S hI dX4_count_92 ?_
    refine g_ci hg hS (g_runVN S hg hI hN hS (As := []) (rest := []) (tX0_threes l D ad cI rk ks kv   _ _ hw) cv_yX0_threes (nm_X4_182 hN) (va_recv hI.2.1 hI.1 (ci := 0) (q0 := 2) rfl rfl) ⟨Nat.le_of_ble_eq_true rfl, Nat.le_of_ble_eq_true rfl⟩ rfl hl.1 rfl (Nat.le_of_ble_eq_true rfl) dX4_count_95) (fun r5 u6 H locs hI hS hw => ?_)
    exact g_iret S hr hk hg hI hS dX4_count_98 hw
  by_cases hk5 : a1 = (5 : Int32)
  · refine lv_tableIn (tgt := 99) (off := 98) hx hb dX4_count_1 (by rw [hk5]; decide) (by rw [hk5]; decide) (by rw [hk5]; decide) (by decide) ?_
    have hw := hsw.2.2.2.2.2.1 hk5
    refine lv_aload_n hx hb dX4_count_99 rfl (lv_at hl 0 rfl) ?_
    refine xg_X4_0_19 S hI dX4_count_100 ?_
    refine xg_X4_2_125 S hN hI dX4_count_103 ?_
    exact g_iret S hr hk hg hI hS dX4_count_106 hw
  by_cases hk6 : a1 = (6 : Int32)
  · refine lv_tableIn (tgt := 107) (off := 106) hx hb dX4_count_1 (by rw [hk6]; decide) (by rw [hk6]; decide) (by rw [hk6]; decide) (by decide) ?_
    have hw := hsw.2.2.2.2.2.2.1 hk6
    refine lv_aload_n hx hb dX4_count_107 rfl (lv_at hl 0 rfl) ?_
    refine xg_X4_0_26 S hI dX4_count_108 ?_
    refine xg_X4_3_72 S hN hI dX4_count_111 ?_
    exact g_iret S hr hk hg hI hS dX4_count_114 hw
  by_cases hk7 : a1 = (7 : Int32)
  · refine lv_tableIn (tgt := 115) (off := 114) hx hb dX4_count_1 (by rw [hk7]; decide) (by rw [hk7]; decide) (by rw [hk7]; decide) (by decide) ?_
    have hw := hsw.2.2.2.2.2.2.2.1 hk7
    refine lv_aload_n hx hb dX4_count_115 rfl (lv_at hl 0 rfl) ?_
    refine xg_X4_0_10 S hI dX4_count_116 ?_
    refine xg_X4_1_53 S hN hI dX4_count_119 ?_
    exact g_iret S hr hk hg hI hS dX4_count_122 hw
  by_cases hk8 : a1 = (8 : Int32)
  · refine lv_tableIn (tgt := 123) (off := 122) hx hb dX4_count_1 (by rw [hk8]; decide) (by rw [hk8]; decide) (by rw [hk8]; decide) (by decide) ?_
    have hw := hsw.2.2.2.2.2.2.2.2.1 hk8
    refine lv_aload_n hx hb dX4_count_123 rfl (lv_at hl 0 rfl) ?_
    refine xg_X4_0_49 S hI dX4_count_124 ?_
    exact g_iret S hr hk hg hI hS dX4_count_127 hw
  have hw := hsw.2.2.2.2.2.2.2.2.2 hk0 hk1 hk2 hk3 hk4 hk5 hk6 hk7 hk8
  have hto : (a1).toInt < 0 ∨ 8 < (a1).toInt := by
    have t0 := lv_neT (a := 0) hk0 (by decide)
    have t1 := lv_neT (a := 1) hk1 (by decide)
    have t2 := lv_neT (a := 2) hk2 (by decide)
    have t3 := lv_neT (a := 3) hk3 (by decide)
    have t4 := lv_neT (a := 4) hk4 (by decide)
    have t5 := lv_neT (a := 5) hk5 (by decide)
    have t6 := lv_neT (a := 6) hk6 (by decide)
    have t7 := lv_neT (a := 7) hk7 (by decide)
    have t8 := lv_neT (a := 8) hk8 (by decide)
    omega
  refine lv_tableOut (tgt := 128) hx hb dX4_count_1 hto (by decide) ?_
  refine lv_bipush (v := (-102 : Int32)) hx hb dX4_count_128 (by decide) ?_
  exact g_iret S hr hk hg hI hS dX4_count_130 hw
