set_option maxRecDepth 100000 in
set_option maxHeartbeats 4000000 in
theorem tX5_turnBack (l : Launch) (D : va_G) (ad : Nat → Nat) (cI cB : ClassId)  (a1 : Int32) (u : SS) (post : Int32 → SS → Prop) (hw : wX5_turnBack  a1 u post) : Met l yX5_turnBack (Cond.code yX5_turnBack cX5_turnBack 3 (some .int) :: XT) (Rm 1) (va_Pc [.ref (ad 0), .int a1] (Pr (mI D ad cI cB) mN u)) (va_Qi post (Po (mI D ad cI cB)) (mA ad)) 0 0 (mA ad) := by
  refine g_of (A := (mA ad)) (by decide) (Nat.le_of_ble_eq_true rfl) (lv := [(0, .ref (ad 0)), (1, .int a1)]) rfl ?_
  intro p e s m below meth c ls S hr hk hI hN hS hl
  have hx := S.1
  have hb := S.2.1
  have ho := S.2.2.2.1
  have hg := @mG D ad cI cB
  have L2 : ∀ (x1_2 : Int32) (K2 : Int32 → SS → Prop) (n : Nat) (x2_2 : Int32) (u1 : SS) (H : Heap) (locs : List Loc) (ls : Array Slot), mI D ad cI cB u1 s H → va_S (mA ad) s.heap H locs → lv_has ls 3 [(0, .ref (ad 0)), (1, .int x1_2), (2, .int x2_2)] → wX5_turnBack_2 post x1_2 K2 n x2_2 u1 → (∀ (x2_2 : Int32) (u1 : SS) (H : Heap) (locs : List Loc) (ls : Array Slot), mI D ad cI cB u1 s H → va_S (mA ad) s.heap H locs → lv_has ls 3 [(0, .ref (ad 0)), (1, .int x1_2), (2, .int x2_2)] → K2 x2_2 u1 → W p l e (Rm 1) s m [.ref (ad 0), .int a1].toArray below meth c H locs 0 0 (MQ below (va_Qi post (Po (mI D ad cI cB)) (mA ad)) [.ref (ad 0), .int a1].toArray s 0 0 (mA ad)) (F0 m 49 ls [])) → W p l e (Rm 1) s m [.ref (ad 0), .int a1].toArray below meth c H locs 0 0 (MQ below (va_Qi post (Po (mI D ad cI cB)) (mA ad)) [.ref (ad 0), .int a1].toArray s 0 0 (mA ad)) (F0 m 2 ls []) := by
    intro x1_2 K2 n
    induction n with
    | zero => intro x2_2 u1 H locs ls hI hS hl hw hK2; exact False.elim hw
    | succ n2 ih2 =>
      intro x2_2 u1 H locs ls hI hS hl hw hK2
      refine lv_iload_n hx hb dX5_turnBack_2 rfl (lv_at hl 2 rfl) ?_
      refine lv_if_le (tgt := 49) hx hb dX5_turnBack_3 (by decide) (fun hc => ?_) (fun hc => ?_)
      · have hw := hw.1 hc
        exact hK2 x2_2 u1 _ _ _ hI hS (lv_sub hl [0, 1, 2] rfl) hw
      · have hw := hw.2 hc
        refine lv_aload_n hx hb dX5_turnBack_6 rfl (lv_at hl 0 rfl) ?_
        refine mg_X5_0_13 S hI dX5_turnBack_7 ?_
        refine lv_iload_n hx hb dX5_turnBack_10 rfl (lv_at hl 2 rfl) ?_
        obtain ⟨hv, hw⟩ := hw
        refine mld_1 S hI hv dX5_turnBack_11 ?_
        refine lv_iconst (v := (-1 : Int32)) hx hb dX5_turnBack_12 (by decide) ?_
        refine lv_icmp_ne (tgt := 31) hx hb dX5_turnBack_13 (by decide) (fun hc => ?_) (fun hc => ?_)
        · have hw := hw.1 hc
          refine lv_aload_n hx hb dX5_turnBack_31 rfl (lv_at hl 0 rfl) ?_
          refine mg_X5_0_29 S hI dX5_turnBack_32 ?_
          refine lv_iload_n hx hb dX5_turnBack_35 rfl (lv_at hl 2 rfl) ?_
          refine lv_aload_n hx hb dX5_turnBack_36 rfl (lv_at hl 0 rfl) ?_
          refine mg_X5_0_13 S hI dX5_turnBack_37 ?_
          refine lv_iload_n hx hb dX5_turnBack_40 rfl (lv_at hl 2 rfl) ?_
          obtain ⟨hv, hw⟩ := hw
          refine mld_1 S hI hv dX5_turnBack_41 ?_
          obtain ⟨hv, hw⟩ := hw
          refine mst_6 S hI hS hv dX5_turnBack_42 (fun H locs hI hS => ?_)
          refine lv_iinc (v := x2_2 + (-1 : Int32)) (lv' := [(2, .int (x2_2 + (-1 : Int32))), (0, .ref (ad 0)), (1, .int x1_2)]) hx hb dX5_turnBack_43 hl (k := 2) rfl (congrArg (fun z => x2_2 + z) (by decide)) (by decide) rfl (fun ls hl => ?_)
          refine lv_goto (tgt := 2) hx hb dX5_turnBack_46 (by decide) ?_
          exact ih2 (x2_2 + (-1 : Int32)) (sA u1 6 x2_2.toNatClampNeg (u1.2.2 1 x2_2.toNatClampNeg)) _ _ _ hI hS (lv_sub hl [1, 2, 0] rfl) hw hK2
        · have hw := hw.2 hc
          refine lv_aload_n hx hb dX5_turnBack_16 rfl (lv_at hl 0 rfl) ?_
          refine mg_X5_0_29 S hI dX5_turnBack_17 ?_
          refine lv_iload_n hx hb dX5_turnBack_20 rfl (lv_at hl 2 rfl) ?_
          obtain ⟨hv, hw⟩ := hw
          refine mld_6 S hI hv dX5_turnBack_21 ?_
          refine lv_aload_n hx hb dX5_turnBack_22 rfl (lv_at hl 0 rfl) ?_
          refine mg_X5_0_98 S hI dX5_turnBack_23 ?_
          refine lv_iconst (v := (1 : Int32)) hx hb dX5_turnBack_26 (by decide) ?_
          refine lv_isub hx hb dX5_turnBack_27 ?_
          refine lv_icmp_ne (tgt := 49) hx hb dX5_turnBack_28 (by decide) (fun hc => ?_) (fun hc => ?_)
          · have hw := hw.1 hc
            exact hK2 x2_2 u1 _ _ _ hI hS (lv_sub hl [0, 1, 2] rfl) hw
          · have hw := hw.2 hc
            refine lv_aload_n hx hb dX5_turnBack_31 rfl (lv_at hl 0 rfl) ?_
            refine mg_X5_0_29 S hI dX5_turnBack_32 ?_
            refine lv_iload_n hx hb dX5_turnBack_35 rfl (lv_at hl 2 rfl) ?_
            refine lv_aload_n hx hb dX5_turnBack_36 rfl (lv_at hl 0 rfl) ?_
            refine mg_X5_0_13 S hI dX5_turnBack_37 ?_
            refine lv_iload_n hx hb dX5_turnBack_40 rfl (lv_at hl 2 rfl) ?_
            obtain ⟨hv, hw⟩ := hw
            refine mld_1 S hI hv dX5_turnBack_41 ?_
            obtain ⟨hv, hw⟩ := hw
            refine mst_6 S hI hS hv dX5_turnBack_42 (fun H locs hI hS => ?_)
            refine lv_iinc (v := x2_2 + (-1 : Int32)) (lv' := [(2, .int (x2_2 + (-1 : Int32))), (0, .ref (ad 0)), (1, .int x1_2)]) hx hb dX5_turnBack_43 hl (k := 2) rfl (congrArg (fun z => x2_2 + z) (by decide)) (by decide) rfl (fun ls hl => ?_)
            refine lv_goto (tgt := 2) hx hb dX5_turnBack_46 (by decide) ?_
            exact ih2 (x2_2 + (-1 : Int32)) (sA u1 6 x2_2.toNatClampNeg (u1.2.2 1 x2_2.toNatClampNeg)) _ _ _ hI hS (lv_sub hl [1, 2, 0] rfl) hw hK2
  refine lv_iload_n hx hb dX5_turnBack_0 rfl (lv_at hl 1 rfl) ?_
  refine lv_istore_n (lv' := [(2, .int a1), (0, .ref (ad 0)), (1, .int a1)]) hx hb dX5_turnBack_1 rfl hl (by decide) rfl (fun ls hl => ?_)
  obtain ⟨n, hw⟩ := hw
  refine L2 a1 _ n a1 u _ _ _ hI hS (lv_sub hl [1, 2, 0] rfl) hw (fun x2_2 u3 H locs ls hI hS hl hw => ?_)
  refine lv_iload_n hx hb dX5_turnBack_49 rfl (lv_at hl 2 rfl) ?_
  refine lv_if_le (tgt := 63) hx hb dX5_turnBack_50 (by decide) (fun hc => ?_) (fun hc => ?_)
  · have hw := hw.1 hc
    refine lv_iload_n hx hb dX5_turnBack_63 rfl (lv_at hl 2 rfl) ?_
    exact g_iret S hr hk hg hI hS dX5_turnBack_64 hw
  · have hw := hw.2 hc
    refine lv_aload_n hx hb dX5_turnBack_53 rfl (lv_at hl 0 rfl) ?_
    refine mg_X5_0_29 S hI dX5_turnBack_54 ?_
    refine lv_iload_n hx hb dX5_turnBack_57 rfl (lv_at hl 2 rfl) ?_
    refine lv_dup2_11 hx hb dX5_turnBack_58 rfl rfl ?_
    obtain ⟨hv, hw⟩ := hw
    refine mld_6 S hI hv dX5_turnBack_59 ?_
    refine lv_iconst (v := (1 : Int32)) hx hb dX5_turnBack_60 (by decide) ?_
    refine lv_iadd hx hb dX5_turnBack_61 ?_
    obtain ⟨hv, hw⟩ := hw
    refine mst_6 S hI hS hv dX5_turnBack_62 (fun H locs hI hS => ?_)
    refine lv_iload_n hx hb dX5_turnBack_63 rfl (lv_at hl 2 rfl) ?_
    exact g_iret S hr hk hg hI hS dX5_turnBack_64 hw
set_option maxRecDepth 100000 in
set_option maxHeartbeats 4000000 in
theorem tX5_goOn (l : Launch) (D : va_G) (ad : Nat → Nat) (cI cB : ClassId)  (a1 : Int32) (a2 : Int32) (u : SS) (post : Int32 → SS → Prop) (hw : wX5_goOn  a1 a2 u post) : Met l yX5_goOn (Cond.code yX5_goOn cX5_goOn 4 (some .int) :: XT) (Rm 4) (va_Pc [.ref (ad 0), .int a1, .int a2] (Pr (mI D ad cI cB) mN u)) (va_Qi post (Po (mI D ad cI cB)) (mA ad)) 0 0 (mA ad) := by
  refine g_of (A := (mA ad)) (by decide) (Nat.le_of_ble_eq_true rfl) (lv := [(0, .ref (ad 0)), (1, .int a1), (2, .int a2)]) rfl ?_
  intro p e s m below meth c ls S hr hk hI hN hS hl
  have hx := S.1
  have hb := S.2.1
  have ho := S.2.2.2.1
  have hg := @mG D ad cI cB
  have L2 : ∀ (x1_2 : Int32) (x2_2 : Int32) (K2 : Int32 → SS → Prop) (n : Nat) (x3_2 : Int32) (u1 : SS) (H : Heap) (locs : List Loc) (ls : Array Slot), mI D ad cI cB u1 s H → va_S (mA ad) s.heap H locs → lv_has ls 4 [(0, .ref (ad 0)), (1, .int x1_2), (2, .int x2_2), (3, .int x3_2)] → wX5_goOn_2 post x1_2 x2_2 K2 n x3_2 u1 → (∀ (x3_2 : Int32) (u1 : SS) (H : Heap) (locs : List Loc) (ls : Array Slot), mI D ad cI cB u1 s H → va_S (mA ad) s.heap H locs → lv_has ls 4 [(0, .ref (ad 0)), (1, .int x1_2), (2, .int x2_2), (3, .int x3_2)] → K2 x3_2 u1 → W p l e (Rm 4) s m [.ref (ad 0), .int a1, .int a2].toArray below meth c H locs 0 0 (MQ below (va_Qi post (Po (mI D ad cI cB)) (mA ad)) [.ref (ad 0), .int a1, .int a2].toArray s 0 0 (mA ad)) (F0 m 51 ls [])) → W p l e (Rm 4) s m [.ref (ad 0), .int a1, .int a2].toArray below meth c H locs 0 0 (MQ below (va_Qi post (Po (mI D ad cI cB)) (mA ad)) [.ref (ad 0), .int a1, .int a2].toArray s 0 0 (mA ad)) (F0 m 2 ls []) := by
    intro x1_2 x2_2 K2 n
    induction n with
    | zero => intro x3_2 u1 H locs ls hI hS hl hw hK2; exact False.elim hw
    | succ n2 ih2 =>
      intro x3_2 u1 H locs ls hI hS hl hw hK2
      refine lv_iload_n hx hb dX5_goOn_2 rfl (lv_at hl 3 rfl) ?_
      refine lv_if_le (tgt := 51) hx hb dX5_goOn_3 (by decide) (fun hc => ?_) (fun hc => ?_)
      · have hw := hw.1 hc
        exact hK2 x3_2 u1 _ _ _ hI hS (lv_sub hl [0, 1, 2, 3] rfl) hw
      · have hw := hw.2 hc
        refine lv_iload_n hx hb dX5_goOn_6 rfl (lv_at hl 3 rfl) ?_
        refine lv_iload_n hx hb dX5_goOn_7 rfl (lv_at hl 2 rfl) ?_
        refine lv_icmp_gt (tgt := 51) hx hb dX5_goOn_8 (by decide) (fun hc => ?_) (fun hc => ?_)
        · have hw := hw.1 hc
          exact hK2 x3_2 u1 _ _ _ hI hS (lv_sub hl [0, 1, 2, 3] rfl) hw
        · have hw := hw.2 hc
          refine lv_aload_n hx hb dX5_goOn_11 rfl (lv_at hl 0 rfl) ?_
          refine mg_X5_0_29 S hI dX5_goOn_12 ?_
          refine lv_iload_n hx hb dX5_goOn_15 rfl (lv_at hl 3 rfl) ?_
          obtain ⟨hv, hw⟩ := hw
          refine mld_6 S hI hv dX5_goOn_16 ?_
          refine lv_iconst (v := (-1 : Int32)) hx hb dX5_goOn_17 (by decide) ?_
          refine lv_icmp_ne (tgt := 28) hx hb dX5_goOn_18 (by decide) (fun hc => ?_) (fun hc => ?_)
          · have hw := hw.1 hc
            refine lv_aload_n hx hb dX5_goOn_28 rfl (lv_at hl 0 rfl) ?_
            refine lv_iload_n hx hb dX5_goOn_29 rfl (lv_at hl 3 rfl) ?_
            refine g_ci hg hS (g_runV S hg hI hN hS (As := [.int x3_2]) (rest := []) (tX5_badWith l D ad cI cB  _ _ _ hw) cv_yX5_badWith qm_X5_125 (va_recv hI.2.1 hI.1 (ci := 5) (q0 := 0) rfl rfl) ⟨Nat.le_of_ble_eq_true rfl, Nat.le_of_ble_eq_true rfl⟩ rfl hl.1 rfl (Nat.le_of_ble_eq_true rfl) dX5_goOn_30) (fun r2 u3 H locs hI hS hw => ?_)
            refine lv_if_le (tgt := 44) hx hb dX5_goOn_33 (by decide) (fun hc => ?_) (fun hc => ?_)
            · have hw := hw.1 hc
              refine lv_iload_n hx hb dX5_goOn_44 rfl (lv_at hl 3 rfl) ?_
              refine lv_iconst (v := (1 : Int32)) hx hb dX5_goOn_45 (by decide) ?_
              refine lv_iadd hx hb dX5_goOn_46 ?_
              refine lv_istore_n (lv' := [(3, .int (x3_2 + (1 : Int32))), (0, .ref (ad 0)), (1, .int x1_2), (2, .int x2_2)]) hx hb dX5_goOn_47 rfl hl (by decide) rfl (fun ls hl => ?_)
              refine lv_goto (tgt := 2) hx hb dX5_goOn_48 (by decide) ?_
              exact ih2 (x3_2 + (1 : Int32)) u3 _ _ _ hI hS (lv_sub hl [1, 2, 3, 0] rfl) hw hK2
            · have hw := hw.2 hc
              refine lv_aload_n hx hb dX5_goOn_36 rfl (lv_at hl 0 rfl) ?_
              refine lv_iload_n hx hb dX5_goOn_37 rfl (lv_at hl 3 rfl) ?_
              refine g_ci hg hS (g_runV S hg hI hN hS (As := [.int x3_2]) (rest := []) (tX5_turnBack l D ad cI cB  _ _ _ hw) cv_yX5_turnBack qm_X5_155 (va_recv hI.2.1 hI.1 (ci := 5) (q0 := 0) rfl rfl) ⟨Nat.le_of_ble_eq_true rfl, Nat.le_of_ble_eq_true rfl⟩ rfl hl.1 rfl (Nat.le_of_ble_eq_true rfl) dX5_goOn_38) (fun r4 u5 H locs hI hS hw => ?_)
              refine lv_goto (tgt := 47) hx hb dX5_goOn_41 (by decide) ?_
              refine lv_istore_n (lv' := [(3, .int r4), (0, .ref (ad 0)), (1, .int x1_2), (2, .int x2_2)]) hx hb dX5_goOn_47 rfl hl (by decide) rfl (fun ls hl => ?_)
              refine lv_goto (tgt := 2) hx hb dX5_goOn_48 (by decide) ?_
              exact ih2 r4 u5 _ _ _ hI hS (lv_sub hl [1, 2, 3, 0] rfl) hw hK2
          · have hw := hw.2 hc
            refine lv_aload_n hx hb dX5_goOn_21 rfl (lv_at hl 0 rfl) ?_
            refine mg_X5_0_29 S hI dX5_goOn_22 ?_
            refine lv_iload_n hx hb dX5_goOn_25 rfl (lv_at hl 3 rfl) ?_
            refine lv_iconst (v := (0 : Int32)) hx hb dX5_goOn_26 (by decide) ?_
            obtain ⟨hv, hw⟩ := hw
            refine mst_6 S hI hS hv dX5_goOn_27 (fun H locs hI hS => ?_)
            refine lv_aload_n hx hb dX5_goOn_28 rfl (lv_at hl 0 rfl) ?_
            refine lv_iload_n hx hb dX5_goOn_29 rfl (lv_at hl 3 rfl) ?_
            refine g_ci hg hS (g_runV S hg hI hN hS (As := [.int x3_2]) (rest := []) (tX5_badWith l D ad cI cB  _ _ _ hw) cv_yX5_badWith qm_X5_125 (va_recv hI.2.1 hI.1 (ci := 5) (q0 := 0) rfl rfl) ⟨Nat.le_of_ble_eq_true rfl, Nat.le_of_ble_eq_true rfl⟩ rfl hl.1 rfl (Nat.le_of_ble_eq_true rfl) dX5_goOn_30) (fun r6 u7 H locs hI hS hw => ?_)
            refine lv_if_le (tgt := 44) hx hb dX5_goOn_33 (by decide) (fun hc => ?_) (fun hc => ?_)
            · have hw := hw.1 hc
              refine lv_iload_n hx hb dX5_goOn_44 rfl (lv_at hl 3 rfl) ?_
              refine lv_iconst (v := (1 : Int32)) hx hb dX5_goOn_45 (by decide) ?_
              refine lv_iadd hx hb dX5_goOn_46 ?_
              refine lv_istore_n (lv' := [(3, .int (x3_2 + (1 : Int32))), (0, .ref (ad 0)), (1, .int x1_2), (2, .int x2_2)]) hx hb dX5_goOn_47 rfl hl (by decide) rfl (fun ls hl => ?_)
              refine lv_goto (tgt := 2) hx hb dX5_goOn_48 (by decide) ?_
              exact ih2 (x3_2 + (1 : Int32)) u7 _ _ _ hI hS (lv_sub hl [1, 2, 3, 0] rfl) hw hK2
            · have hw := hw.2 hc
              refine lv_aload_n hx hb dX5_goOn_36 rfl (lv_at hl 0 rfl) ?_
              refine lv_iload_n hx hb dX5_goOn_37 rfl (lv_at hl 3 rfl) ?_
              refine g_ci hg hS (g_runV S hg hI hN hS (As := [.int x3_2]) (rest := []) (tX5_turnBack l D ad cI cB  _ _ _ hw) cv_yX5_turnBack qm_X5_155 (va_recv hI.2.1 hI.1 (ci := 5) (q0 := 0) rfl rfl) ⟨Nat.le_of_ble_eq_true rfl, Nat.le_of_ble_eq_true rfl⟩ rfl hl.1 rfl (Nat.le_of_ble_eq_true rfl) dX5_goOn_38) (fun r8 u9 H locs hI hS hw => ?_)
              refine lv_goto (tgt := 47) hx hb dX5_goOn_41 (by decide) ?_
              refine lv_istore_n (lv' := [(3, .int r8), (0, .ref (ad 0)), (1, .int x1_2), (2, .int x2_2)]) hx hb dX5_goOn_47 rfl hl (by decide) rfl (fun ls hl => ?_)
              refine lv_goto (tgt := 2) hx hb dX5_goOn_48 (by decide) ?_
              exact ih2 r8 u9 _ _ _ hI hS (lv_sub hl [1, 2, 3, 0] rfl) hw hK2
  refine lv_iload_n hx hb dX5_goOn_0 rfl (lv_at hl 1 rfl) ?_
  refine lv_istore_n (lv' := [(3, .int a1), (0, .ref (ad 0)), (1, .int a1), (2, .int a2)]) hx hb dX5_goOn_1 rfl hl (by decide) rfl (fun ls hl => ?_)
  obtain ⟨n, hw⟩ := hw
  refine L2 a1 a2 _ n a1 u _ _ _ hI hS (lv_sub hl [1, 2, 3, 0] rfl) hw (fun x3_10 u11 H locs ls hI hS hl hw => ?_)
  refine lv_iload_n hx hb dX5_goOn_51 rfl (lv_at hl 3 rfl) ?_
  exact g_iret S hr hk hg hI hS dX5_goOn_52 hw
set_option maxRecDepth 100000 in
set_option maxHeartbeats 4000000 in
theorem tX5_takeWay (l : Launch) (D : va_G) (ad : Nat → Nat) (cI cB : ClassId)  (a1 : Int32) (u : SS) (post : SS → Prop) (hw : wX5_takeWay  a1 u post) : Met l yX5_takeWay (Cond.code yX5_takeWay cX5_takeWay 3 none :: XT) (Rm 1) (va_Pc [.ref (ad 0), .int a1] (Pr (mI D ad cI cB) mN u)) (va_Qv post (Po (mI D ad cI cB)) (mA ad)) 0 0 (mA ad) := by
  refine g_of (A := (mA ad)) (by decide) (Nat.le_of_ble_eq_true rfl) (lv := [(0, .ref (ad 0)), (1, .int a1)]) rfl ?_
  intro p e s m below meth c ls S hr hk hI hN hS hl
  have hx := S.1
  have hb := S.2.1
  have ho := S.2.2.2.1
  have hg := @mG D ad cI cB
  have L2 : ∀ (x1_2 : Int32) (K2 : Int32 → SS → Prop) (n : Nat) (x2_2 : Int32) (u1 : SS) (H : Heap) (locs : List Loc) (ls : Array Slot), mI D ad cI cB u1 s H → va_S (mA ad) s.heap H locs → lv_has ls 3 [(0, .ref (ad 0)), (1, .int x1_2), (2, .int x2_2)] → wX5_takeWay_2 post x1_2 K2 n x2_2 u1 → (∀ (x2_2 : Int32) (u1 : SS) (H : Heap) (locs : List Loc) (ls : Array Slot), mI D ad cI cB u1 s H → va_S (mA ad) s.heap H locs → lv_has ls 3 [(0, .ref (ad 0)), (1, .int x1_2), (2, .int x2_2)] → K2 x2_2 u1 → W p l e (Rm 1) s m [.ref (ad 0), .int a1].toArray below meth c H locs 0 0 (MQ below (va_Qv post (Po (mI D ad cI cB)) (mA ad)) [.ref (ad 0), .int a1].toArray s 0 0 (mA ad)) (F0 m 64 ls [])) → W p l e (Rm 1) s m [.ref (ad 0), .int a1].toArray below meth c H locs 0 0 (MQ below (va_Qv post (Po (mI D ad cI cB)) (mA ad)) [.ref (ad 0), .int a1].toArray s 0 0 (mA ad)) (F0 m 2 ls []) := by
    intro x1_2 K2 n
    induction n with
    | zero => intro x2_2 u1 H locs ls hI hS hl hw hK2; exact False.elim hw
    | succ n2 ih2 =>
      intro x2_2 u1 H locs ls hI hS hl hw hK2
      refine lv_iload_n hx hb dX5_takeWay_2 rfl (lv_at hl 2 rfl) ?_
      refine lv_aload_n hx hb dX5_takeWay_3 rfl (lv_at hl 0 rfl) ?_
      refine mg_X5_0_101 S hI dX5_takeWay_4 ?_
      refine lv_icmp_gt (tgt := 64) hx hb dX5_takeWay_7 (by decide) (fun hc => ?_) (fun hc => ?_)
      · have hw := hw.1 hc
        exact hK2 x2_2 u1 _ _ _ hI hS (lv_sub hl [0, 1, 2] rfl) hw
      · have hw := hw.2 hc
        refine lv_aload_n hx hb dX5_takeWay_10 rfl (lv_at hl 0 rfl) ?_
        refine mg_X5_0_32 S hI dX5_takeWay_11 ?_
        refine lv_iconst (v := (3 : Int32)) hx hb dX5_takeWay_14 (by decide) ?_
        refine lv_iload_n hx hb dX5_takeWay_15 rfl (lv_at hl 2 rfl) ?_
        refine lv_imul hx hb dX5_takeWay_16 ?_
        refine lv_aload_n hx hb dX5_takeWay_17 rfl (lv_at hl 0 rfl) ?_
        refine mg_X5_0_29 S hI dX5_takeWay_18 ?_
        refine lv_iload_n hx hb dX5_takeWay_21 rfl (lv_at hl 2 rfl) ?_
        obtain ⟨hv, hw⟩ := hw
        refine mld_6 S hI hv dX5_takeWay_22 ?_
        refine lv_iadd hx hb dX5_takeWay_23 ?_
        refine lv_dup2_11 hx hb dX5_takeWay_24 rfl rfl ?_
        obtain ⟨hv, hw⟩ := hw
        refine mld_7 S hI hv dX5_takeWay_25 ?_
        refine lv_iconst (v := (1 : Int32)) hx hb dX5_takeWay_26 (by decide) ?_
        refine lv_iadd hx hb dX5_takeWay_27 ?_
        obtain ⟨hv, hw⟩ := hw
        refine mst_7 S hI hS hv dX5_takeWay_28 (fun H locs hI hS => ?_)
        refine lv_aload_n hx hb dX5_takeWay_29 rfl (lv_at hl 0 rfl) ?_
        refine mg_X5_0_35 S hI dX5_takeWay_30 ?_
        refine lv_iload_n hx hb dX5_takeWay_33 rfl (lv_at hl 2 rfl) ?_
        refine lv_aload_n hx hb dX5_takeWay_34 rfl (lv_at hl 0 rfl) ?_
        refine mg_X5_0_158 S hI dX5_takeWay_35 ?_
        refine lv_iload_n hx hb dX5_takeWay_38 rfl (lv_at hl 1 rfl) ?_
        refine lv_icmp_ne (tgt := 51) hx hb dX5_takeWay_39 (by decide) (fun hc => ?_) (fun hc => ?_)
        · have hw := hw.1 hc
          refine lv_aload_n hx hb dX5_takeWay_51 rfl (lv_at hl 0 rfl) ?_
          refine mg_X5_0_35 S hI dX5_takeWay_52 ?_
          refine lv_iload_n hx hb dX5_takeWay_55 rfl (lv_at hl 2 rfl) ?_
          obtain ⟨hv, hw⟩ := hw
          refine mld_8 S hI hv dX5_takeWay_56 ?_
          obtain ⟨hv, hw⟩ := hw
          refine mst_8 S hI hS hv dX5_takeWay_57 (fun H locs hI hS => ?_)
          refine lv_iinc (v := x2_2 + 1) (lv' := [(2, .int (x2_2 + 1)), (0, .ref (ad 0)), (1, .int x1_2)]) hx hb dX5_takeWay_58 hl (k := 2) rfl (congrArg (fun z => x2_2 + z) (by decide)) (by decide) rfl (fun ls hl => ?_)
          refine lv_goto (tgt := 2) hx hb dX5_takeWay_61 (by decide) ?_
          exact ih2 (x2_2 + 1) (sA (sA u1 7 (((3 : Int32) * x2_2) + (u1.2.2 6 x2_2.toNatClampNeg)).toNatClampNeg ((u1.2.2 7 (((3 : Int32) * x2_2) + (u1.2.2 6 x2_2.toNatClampNeg)).toNatClampNeg) + (1 : Int32))) 8 x2_2.toNatClampNeg ((sA u1 7 (((3 : Int32) * x2_2) + (u1.2.2 6 x2_2.toNatClampNeg)).toNatClampNeg ((u1.2.2 7 (((3 : Int32) * x2_2) + (u1.2.2 6 x2_2.toNatClampNeg)).toNatClampNeg) + (1 : Int32))).2.2 8 x2_2.toNatClampNeg)) _ _ _ hI hS (lv_sub hl [1, 2, 0] rfl) hw hK2
        · have hw := hw.2 hc
          refine lv_aload_n hx hb dX5_takeWay_42 rfl (lv_at hl 0 rfl) ?_
          refine mg_X5_0_29 S hI dX5_takeWay_43 ?_
          refine lv_iload_n hx hb dX5_takeWay_46 rfl (lv_at hl 2 rfl) ?_
          obtain ⟨hv, hw⟩ := hw
          refine mld_6 S hI hv dX5_takeWay_47 ?_
          refine lv_goto (tgt := 57) hx hb dX5_takeWay_48 (by decide) ?_
          obtain ⟨hv, hw⟩ := hw
          refine mst_8 S hI hS hv dX5_takeWay_57 (fun H locs hI hS => ?_)
          refine lv_iinc (v := x2_2 + 1) (lv' := [(2, .int (x2_2 + 1)), (0, .ref (ad 0)), (1, .int x1_2)]) hx hb dX5_takeWay_58 hl (k := 2) rfl (congrArg (fun z => x2_2 + z) (by decide)) (by decide) rfl (fun ls hl => ?_)
          refine lv_goto (tgt := 2) hx hb dX5_takeWay_61 (by decide) ?_
          exact ih2 (x2_2 + 1) (sA (sA u1 7 (((3 : Int32) * x2_2) + (u1.2.2 6 x2_2.toNatClampNeg)).toNatClampNeg ((u1.2.2 7 (((3 : Int32) * x2_2) + (u1.2.2 6 x2_2.toNatClampNeg)).toNatClampNeg) + (1 : Int32))) 8 x2_2.toNatClampNeg ((sA u1 7 (((3 : Int32) * x2_2) + (u1.2.2 6 x2_2.toNatClampNeg)).toNatClampNeg ((u1.2.2 7 (((3 : Int32) * x2_2) + (u1.2.2 6 x2_2.toNatClampNeg)).toNatClampNeg) + (1 : Int32))).2.2 6 x2_2.toNatClampNeg)) _ _ _ hI hS (lv_sub hl [1, 2, 0] rfl) hw hK2
  refine lv_iconst (v := (1 : Int32)) hx hb dX5_takeWay_0 (by decide) ?_
  refine lv_istore_n (lv' := [(2, .int (1 : Int32)), (0, .ref (ad 0)), (1, .int a1)]) hx hb dX5_takeWay_1 rfl hl (by decide) rfl (fun ls hl => ?_)
  obtain ⟨n, hw⟩ := hw
  refine L2 a1 _ n (1 : Int32) u _ _ _ hI hS (lv_sub hl [1, 2, 0] rfl) hw (fun x2_2 u3 H locs ls hI hS hl hw => ?_)
  refine lv_aload_n hx hb dX5_takeWay_64 rfl (lv_at hl 0 rfl) ?_
  refine lv_dup hx hb dX5_takeWay_65 rfl ?_
  refine mg_X5_0_158 S hI dX5_takeWay_66 ?_
  refine lv_iconst (v := (1 : Int32)) hx hb dX5_takeWay_69 (by decide) ?_
  refine lv_iadd hx hb dX5_takeWay_70 ?_
  refine mp_X5_0_158 S hI hS dX5_takeWay_71 (fun H locs hI hS => ?_)
  exact g_vret S hr hk hg hI hS dX5_takeWay_74 hw
set_option maxRecDepth 100000 in
set_option maxHeartbeats 4000000 in
theorem tX5_layWays (l : Launch) (D : va_G) (ad : Nat → Nat) (cI cB : ClassId)  (a1 : Int32) (u : SS) (post : Int32 → SS → Prop) (hw : wX5_layWays  a1 u post) : Met l yX5_layWays (Cond.code yX5_layWays cX5_layWays 3 (some .int) :: XT) (Rm 5) (va_Pc [.ref (ad 0), .int a1] (Pr (mI D ad cI cB) mN u)) (va_Qi post (Po (mI D ad cI cB)) (mA ad)) 0 0 (mA ad) := by
  refine g_of (A := (mA ad)) (by decide) (Nat.le_of_ble_eq_true rfl) (lv := [(0, .ref (ad 0)), (1, .int a1)]) rfl ?_
  intro p e s m below meth c ls S hr hk hI hN hS hl
  have hx := S.1
  have hb := S.2.1
  have ho := S.2.2.2.1
  have hg := @mG D ad cI cB
  have L2 : ∀ (x1_2 : Int32) (K2 : Int32 → SS → Prop) (n : Nat) (x2_2 : Int32) (u1 : SS) (H : Heap) (locs : List Loc) (ls : Array Slot), mI D ad cI cB u1 s H → va_S (mA ad) s.heap H locs → lv_has ls 3 [(0, .ref (ad 0)), (1, .int x1_2), (2, .int x2_2)] → wX5_layWays_2 post x1_2 K2 n x2_2 u1 → (∀ (x2_2 : Int32) (u1 : SS) (H : Heap) (locs : List Loc) (ls : Array Slot), mI D ad cI cB u1 s H → va_S (mA ad) s.heap H locs → lv_has ls 3 [(0, .ref (ad 0)), (1, .int x1_2), (2, .int x2_2)] → K2 x2_2 u1 → W p l e (Rm 5) s m [.ref (ad 0), .int a1].toArray below meth c H locs 0 0 (MQ below (va_Qi post (Po (mI D ad cI cB)) (mA ad)) [.ref (ad 0), .int a1].toArray s 0 0 (mA ad)) (F0 m 21 ls [])) → W p l e (Rm 5) s m [.ref (ad 0), .int a1].toArray below meth c H locs 0 0 (MQ below (va_Qi post (Po (mI D ad cI cB)) (mA ad)) [.ref (ad 0), .int a1].toArray s 0 0 (mA ad)) (F0 m 2 ls []) := by
    intro x1_2 K2 n
    induction n with
    | zero => intro x2_2 u1 H locs ls hI hS hl hw hK2; exact False.elim hw
    | succ n2 ih2 =>
      intro x2_2 u1 H locs ls hI hS hl hw hK2
      refine lv_iload_n hx hb dX5_layWays_2 rfl (lv_at hl 2 rfl) ?_
      refine lv_bipush (v := (33 : Int32)) hx hb dX5_layWays_3 (by decide) ?_
      refine lv_icmp_ge (tgt := 21) hx hb dX5_layWays_5 (by decide) (fun hc => ?_) (fun hc => ?_)
      · have hw := hw.1 hc
        exact hK2 x2_2 u1 _ _ _ hI hS (lv_sub hl [0, 1, 2] rfl) hw
      · have hw := hw.2 hc
        refine lv_aload_n hx hb dX5_layWays_8 rfl (lv_at hl 0 rfl) ?_
        refine mg_X5_0_32 S hI dX5_layWays_9 ?_
        refine lv_iload_n hx hb dX5_layWays_12 rfl (lv_at hl 2 rfl) ?_
        refine lv_iconst (v := (0 : Int32)) hx hb dX5_layWays_13 (by decide) ?_
        obtain ⟨hv, hw⟩ := hw
        refine mst_7 S hI hS hv dX5_layWays_14 (fun H locs hI hS => ?_)
        refine lv_iinc (v := x2_2 + 1) (lv' := [(2, .int (x2_2 + 1)), (0, .ref (ad 0)), (1, .int x1_2)]) hx hb dX5_layWays_15 hl (k := 2) rfl (congrArg (fun z => x2_2 + z) (by decide)) (by decide) rfl (fun ls hl => ?_)
        refine lv_goto (tgt := 2) hx hb dX5_layWays_18 (by decide) ?_
        exact ih2 (x2_2 + 1) (sA u1 7 x2_2.toNatClampNeg (0 : Int32)) _ _ _ hI hS (lv_sub hl [1, 2, 0] rfl) hw hK2
  have L40 : ∀ (x1_40 : Int32) (K40 : Int32 → SS → Prop) (n : Nat) (x2_40 : Int32) (u8 : SS) (H : Heap) (locs : List Loc) (ls : Array Slot), mI D ad cI cB u8 s H → va_S (mA ad) s.heap H locs → lv_has ls 3 [(0, .ref (ad 0)), (1, .int x1_40), (2, .int x2_40)] → wX5_layWays_40 post x1_40 K40 n x2_40 u8 → (∀ (x2_40 : Int32) (u8 : SS) (H : Heap) (locs : List Loc) (ls : Array Slot), mI D ad cI cB u8 s H → va_S (mA ad) s.heap H locs → lv_has ls 3 [(0, .ref (ad 0)), (1, .int x1_40), (2, .int x2_40)] → K40 x2_40 u8 → W p l e (Rm 5) s m [.ref (ad 0), .int a1].toArray below meth c H locs 0 0 (MQ below (va_Qi post (Po (mI D ad cI cB)) (mA ad)) [.ref (ad 0), .int a1].toArray s 0 0 (mA ad)) (F0 m 69 ls [])) → W p l e (Rm 5) s m [.ref (ad 0), .int a1].toArray below meth c H locs 0 0 (MQ below (va_Qi post (Po (mI D ad cI cB)) (mA ad)) [.ref (ad 0), .int a1].toArray s 0 0 (mA ad)) (F0 m 40 ls []) := by
    intro x1_40 K40 n
    induction n with
    | zero => intro x2_40 u8 H locs ls hI hS hl hw hK40; exact False.elim hw
    | succ n40 ih40 =>
      intro x2_40 u8 H locs ls hI hS hl hw hK40
      refine lv_iload_n hx hb dX5_layWays_40 rfl (lv_at hl 2 rfl) ?_
      refine lv_if_le (tgt := 69) hx hb dX5_layWays_41 (by decide) (fun hc => ?_) (fun hc => ?_)
      · have hw := hw.1 hc
        exact hK40 x2_40 u8 _ _ _ hI hS (lv_sub hl [0, 1, 2] rfl) hw
      · have hw := hw.2 hc
        refine lv_aload_n hx hb dX5_layWays_44 rfl (lv_at hl 0 rfl) ?_
        refine lv_iload_n hx hb dX5_layWays_45 rfl (lv_at hl 1 rfl) ?_
        refine g_cv hg hS (g_runV S hg hI hN hS (As := [.int x1_40]) (rest := []) (tX5_takeWay l D ad cI cB  _ _ _ hw) cv_yX5_takeWay qm_X5_164 (va_recv hI.2.1 hI.1 (ci := 5) (q0 := 0) rfl rfl) ⟨Nat.le_of_ble_eq_true rfl, Nat.le_of_ble_eq_true rfl⟩ rfl hl.1 rfl (Nat.le_of_ble_eq_true rfl) dX5_layWays_46) (fun u10 H locs hI hS hw => ?_)
        refine lv_aload_n hx hb dX5_layWays_49 rfl (lv_at hl 0 rfl) ?_
        refine lv_aload_n hx hb dX5_layWays_50 rfl (lv_at hl 0 rfl) ?_
        refine lv_aload_n hx hb dX5_layWays_51 rfl (lv_at hl 0 rfl) ?_
        refine mg_X5_0_101 S hI dX5_layWays_52 ?_
        refine g_ci hg hS (g_runV S hg hI hN hS (As := [.int (u10.1 1)]) (rest := [.ref (ad 0)]) (tX5_turnBack l D ad cI cB  _ _ _ hw) cv_yX5_turnBack qm_X5_155 (va_recv hI.2.1 hI.1 (ci := 5) (q0 := 0) rfl rfl) ⟨Nat.le_of_ble_eq_true rfl, Nat.le_of_ble_eq_true rfl⟩ rfl hl.1 rfl (Nat.le_of_ble_eq_true rfl) dX5_layWays_55) (fun r11 u12 H locs hI hS hw => ?_)
        refine lv_aload_n hx hb dX5_layWays_58 rfl (lv_at hl 0 rfl) ?_
        refine mg_X5_0_101 S hI dX5_layWays_59 ?_
        refine g_ci hg hS (g_runV S hg hI hN hS (As := [.int r11, .int (u12.1 1)]) (rest := []) (tX5_goOn l D ad cI cB  _ _ _ _ hw) cv_yX5_goOn qm_X5_161 (va_recv hI.2.1 hI.1 (ci := 5) (q0 := 0) rfl rfl) ⟨Nat.le_of_ble_eq_true rfl, Nat.le_of_ble_eq_true rfl⟩ rfl hl.1 rfl (Nat.le_of_ble_eq_true rfl) dX5_layWays_62) (fun r13 u14 H locs hI hS hw => ?_)
        refine lv_istore_n (lv' := [(2, .int r13), (0, .ref (ad 0)), (1, .int x1_40)]) hx hb dX5_layWays_65 rfl hl (by decide) rfl (fun ls hl => ?_)
        refine lv_goto (tgt := 40) hx hb dX5_layWays_66 (by decide) ?_
        exact ih40 r13 u14 _ _ _ hI hS (lv_sub hl [1, 2, 0] rfl) hw hK40
  refine lv_iconst (v := (0 : Int32)) hx hb dX5_layWays_0 (by decide) ?_
  refine lv_istore_n (lv' := [(2, .int (0 : Int32)), (0, .ref (ad 0)), (1, .int a1)]) hx hb dX5_layWays_1 rfl hl (by decide) rfl (fun ls hl => ?_)
  obtain ⟨n, hw⟩ := hw
  refine L2 a1 _ n (0 : Int32) u _ _ _ hI hS (lv_sub hl [1, 2, 0] rfl) hw (fun x2_2 u3 H locs ls hI hS hl hw => ?_)
  refine lv_aload_n hx hb dX5_layWays_21 rfl (lv_at hl 0 rfl) ?_
  refine lv_iconst (v := (0 : Int32)) hx hb dX5_layWays_22 (by decide) ?_
  refine mp_X5_0_158 S hI hS dX5_layWays_23 (fun H locs hI hS => ?_)
  refine lv_aload_n hx hb dX5_layWays_26 rfl (lv_at hl 0 rfl) ?_
  refine g_cv hg hS (g_runV S hg hI hN hS (As := []) (rest := []) (tX5_layNow l D ad cI cB   _ _ hw) cv_yX5_layNow qm_X5_128 (va_recv hI.2.1 hI.1 (ci := 5) (q0 := 0) rfl rfl) ⟨Nat.le_of_ble_eq_true rfl, Nat.le_of_ble_eq_true rfl⟩ rfl hl.1 rfl (Nat.le_of_ble_eq_true rfl) dX5_layWays_27) (fun u5 H locs hI hS hw => ?_)
  refine lv_aload_n hx hb dX5_layWays_30 rfl (lv_at hl 0 rfl) ?_
  refine lv_iconst (v := (1 : Int32)) hx hb dX5_layWays_31 (by decide) ?_
  refine lv_aload_n hx hb dX5_layWays_32 rfl (lv_at hl 0 rfl) ?_
  refine mg_X5_0_101 S hI dX5_layWays_33 ?_
  refine g_ci hg hS (g_runV S hg hI hN hS (As := [.int (1 : Int32), .int (u5.1 1)]) (rest := []) (tX5_goOn l D ad cI cB  _ _ _ _ hw) cv_yX5_goOn qm_X5_161 (va_recv hI.2.1 hI.1 (ci := 5) (q0 := 0) rfl rfl) ⟨Nat.le_of_ble_eq_true rfl, Nat.le_of_ble_eq_true rfl⟩ rfl hl.1 rfl (Nat.le_of_ble_eq_true rfl) dX5_layWays_36) (fun r6 u7 H locs hI hS hw => ?_)
  refine lv_istore_n (lv' := [(2, .int r6), (0, .ref (ad 0)), (1, .int a1)]) hx hb dX5_layWays_39 rfl hl (by decide) rfl (fun ls hl => ?_)
  obtain ⟨n, hw⟩ := hw
  refine L40 a1 _ n r6 u7 _ _ _ hI hS (lv_sub hl [1, 2, 0] rfl) hw (fun x2_15 u16 H locs ls hI hS hl hw => ?_)
  refine lv_aload_n hx hb dX5_layWays_69 rfl (lv_at hl 0 rfl) ?_
  refine mg_X5_0_158 S hI dX5_layWays_70 ?_
  exact g_iret S hr hk hg hI hS dX5_layWays_73 hw
set_option maxRecDepth 100000 in
set_option maxHeartbeats 4000000 in
theorem tX5_sureOf (l : Launch) (D : va_G) (ad : Nat → Nat) (cI cB : ClassId)  (a1 : Int32) (u : SS) (post : Int32 → SS → Prop) (hw : wX5_sureOf  a1 u post) : Met l yX5_sureOf (Cond.code yX5_sureOf cX5_sureOf 3 (some .int) :: XT) (Rm 1) (va_Pc [.ref (ad 0), .int a1] (Pr (mI D ad cI cB) mN u)) (va_Qi post (Po (mI D ad cI cB)) (mA ad)) 0 0 (mA ad) := by
  refine g_of (A := (mA ad)) (by decide) (Nat.le_of_ble_eq_true rfl) (lv := [(0, .ref (ad 0)), (1, .int a1)]) rfl ?_
  intro p e s m below meth c ls S hr hk hI hN hS hl
  have hx := S.1
  have hb := S.2.1
  have ho := S.2.2.2.1
  have hg := @mG D ad cI cB
  have L2 : ∀ (x1_2 : Int32) (K2 : Int32 → SS → Prop) (n : Nat) (x2_2 : Int32) (u1 : SS) (H : Heap) (locs : List Loc) (ls : Array Slot), mI D ad cI cB u1 s H → va_S (mA ad) s.heap H locs → lv_has ls 3 [(0, .ref (ad 0)), (1, .int x1_2), (2, .int x2_2)] → wX5_sureOf_2 post x1_2 K2 n x2_2 u1 → (∀ (x2_2 : Int32) (u1 : SS) (H : Heap) (locs : List Loc) (ls : Array Slot), mI D ad cI cB u1 s H → va_S (mA ad) s.heap H locs → lv_has ls 3 [(0, .ref (ad 0)), (1, .int x1_2), (2, .int x2_2)] → K2 x2_2 u1 → W p l e (Rm 1) s m [.ref (ad 0), .int a1].toArray below meth c H locs 0 0 (MQ below (va_Qi post (Po (mI D ad cI cB)) (mA ad)) [.ref (ad 0), .int a1].toArray s 0 0 (mA ad)) (F0 m 42 ls [])) → W p l e (Rm 1) s m [.ref (ad 0), .int a1].toArray below meth c H locs 0 0 (MQ below (va_Qi post (Po (mI D ad cI cB)) (mA ad)) [.ref (ad 0), .int a1].toArray s 0 0 (mA ad)) (F0 m 2 ls []) := by
    intro x1_2 K2 n
    induction n with
    | zero => intro x2_2 u1 H locs ls hI hS hl hw hK2; exact False.elim hw
    | succ n2 ih2 =>
      intro x2_2 u1 H locs ls hI hS hl hw hK2
      refine lv_iload_n hx hb dX5_sureOf_2 rfl (lv_at hl 2 rfl) ?_
      refine lv_aload_n hx hb dX5_sureOf_3 rfl (lv_at hl 0 rfl) ?_
      refine mg_X5_0_98 S hI dX5_sureOf_4 ?_
      refine lv_icmp_ge (tgt := 42) hx hb dX5_sureOf_7 (by decide) (fun hc => ?_) (fun hc => ?_)
      · have hw := hw.1 hc
        exact hK2 x2_2 u1 _ _ _ hI hS (lv_sub hl [0, 1, 2] rfl) hw
      · have hw := hw.2 hc
        refine lv_aload_n hx hb dX5_sureOf_10 rfl (lv_at hl 0 rfl) ?_
        refine mg_X5_0_158 S hI dX5_sureOf_11 ?_
        refine lv_if_le (tgt := 36) hx hb dX5_sureOf_14 (by decide) (fun hc => ?_) (fun hc => ?_)
        · have hw := hw.1 hc
          refine lv_iinc (v := x2_2 + 1) (lv' := [(2, .int (x2_2 + 1)), (0, .ref (ad 0)), (1, .int x1_2)]) hx hb dX5_sureOf_36 hl (k := 2) rfl (congrArg (fun z => x2_2 + z) (by decide)) (by decide) rfl (fun ls hl => ?_)
          refine lv_goto (tgt := 2) hx hb dX5_sureOf_39 (by decide) ?_
          exact ih2 (x2_2 + 1) u1 _ _ _ hI hS (lv_sub hl [1, 2, 0] rfl) hw hK2
        · have hw := hw.2 hc
          refine lv_aload_n hx hb dX5_sureOf_17 rfl (lv_at hl 0 rfl) ?_
          refine mg_X5_0_32 S hI dX5_sureOf_18 ?_
          refine lv_iconst (v := (3 : Int32)) hx hb dX5_sureOf_21 (by decide) ?_
          refine lv_iload_n hx hb dX5_sureOf_22 rfl (lv_at hl 1 rfl) ?_
          refine lv_imul hx hb dX5_sureOf_23 ?_
          refine lv_iload_n hx hb dX5_sureOf_24 rfl (lv_at hl 2 rfl) ?_
          refine lv_iadd hx hb dX5_sureOf_25 ?_
          obtain ⟨hv, hw⟩ := hw
          refine mld_7 S hI hv dX5_sureOf_26 ?_
          refine lv_aload_n hx hb dX5_sureOf_27 rfl (lv_at hl 0 rfl) ?_
          refine mg_X5_0_158 S hI dX5_sureOf_28 ?_
          refine lv_icmp_ne (tgt := 36) hx hb dX5_sureOf_31 (by decide) (fun hc => ?_) (fun hc => ?_)
          · have hw := hw.1 hc
            refine lv_iinc (v := x2_2 + 1) (lv' := [(2, .int (x2_2 + 1)), (0, .ref (ad 0)), (1, .int x1_2)]) hx hb dX5_sureOf_36 hl (k := 2) rfl (congrArg (fun z => x2_2 + z) (by decide)) (by decide) rfl (fun ls hl => ?_)
            refine lv_goto (tgt := 2) hx hb dX5_sureOf_39 (by decide) ?_
            exact ih2 (x2_2 + 1) u1 _ _ _ hI hS (lv_sub hl [1, 2, 0] rfl) hw hK2
          · have hw := hw.2 hc
            refine lv_iload_n hx hb dX5_sureOf_34 rfl (lv_at hl 2 rfl) ?_
            exact g_iret S hr hk hg hI hS dX5_sureOf_35 hw
  refine lv_iconst (v := (0 : Int32)) hx hb dX5_sureOf_0 (by decide) ?_
  refine lv_istore_n (lv' := [(2, .int (0 : Int32)), (0, .ref (ad 0)), (1, .int a1)]) hx hb dX5_sureOf_1 rfl hl (by decide) rfl (fun ls hl => ?_)
  obtain ⟨n, hw⟩ := hw
  refine L2 a1 _ n (0 : Int32) u _ _ _ hI hS (lv_sub hl [1, 2, 0] rfl) hw (fun x2_2 u3 H locs ls hI hS hl hw => ?_)
  refine lv_iconst (v := (-1 : Int32)) hx hb dX5_sureOf_42 (by decide) ?_
  exact g_iret S hr hk hg hI hS dX5_sureOf_43 hw
set_option maxRecDepth 100000 in
set_option maxHeartbeats 4000000 in
theorem tX5_could (l : Launch) (D : va_G) (ad : Nat → Nat) (cI cB : ClassId)  (a0 : Int32) (a1 : Int32) (u : SS) (post : Int32 → SS → Prop) (hw : wX5_could  a0 a1 u post) : Met l yX5_could (Cond.code yX5_could cX5_could 2 (some .boolean) :: XT) (Rm 2) (va_Pc [.int a0, .int a1] (Pr (mI D ad cI cB) mN u)) (va_Qi post (Po (mI D ad cI cB)) (mA ad)) 0 0 (mA ad) := by
  refine g_of (A := (mA ad)) (by decide) (Nat.le_of_ble_eq_true rfl) (lv := [(0, .int a0), (1, .int a1)]) rfl ?_
  intro p e s m below meth c ls S hr hk hI hN hS hl
  have hx := S.1
  have hb := S.2.1
  have ho := S.2.2.2.1
  have hg := @mG D ad cI cB
  refine lv_iload_n hx hb dX5_could_0 rfl (lv_at hl 1 rfl) ?_
  refine lv_iconst (v := (2 : Int32)) hx hb dX5_could_1 (by decide) ?_
  refine lv_icmp_ne (tgt := 12) hx hb dX5_could_2 (by decide) (fun hc => ?_) (fun hc => ?_)
  · have hw := hw.1 hc
    refine lv_iload_n hx hb dX5_could_12 rfl (lv_at hl 0 rfl) ?_
    refine lv_iload_n hx hb dX5_could_13 rfl (lv_at hl 1 rfl) ?_
    refine lv_if_ne (tgt := 21) hx hb dX5_could_14 (by decide) (fun hc => ?_) (fun hc => ?_)
    · have hw := hw.1 hc
      refine lv_iconst (v := (0 : Int32)) hx hb dX5_could_21 (by decide) ?_
      refine g_ci hg hS (g_runS S hg hI hN hS (As := [.int a0, .int (0 : Int32)]) (rest := []) (tX5_minds l D ad cI cB  _ _ _ _ hw) cs_yX5_minds qm_X5_117 ⟨Nat.le_of_ble_eq_true rfl, Nat.le_of_ble_eq_true rfl⟩ rfl hl.1 rfl (Nat.le_of_ble_eq_true rfl) dX5_could_22) (fun r1 u2 H locs hI hS hw => ?_)
      obtain ⟨hv, hw⟩ := hw
      exact g_zret S hr hv hk hg hI hS dX5_could_25 hw
    · have hw := hw.2 hc
      refine lv_iconst (v := (1 : Int32)) hx hb dX5_could_17 (by decide) ?_
      refine lv_goto (tgt := 22) hx hb dX5_could_18 (by decide) ?_
      refine g_ci hg hS (g_runS S hg hI hN hS (As := [.int a0, .int (1 : Int32)]) (rest := []) (tX5_minds l D ad cI cB  _ _ _ _ hw) cs_yX5_minds qm_X5_117 ⟨Nat.le_of_ble_eq_true rfl, Nat.le_of_ble_eq_true rfl⟩ rfl hl.1 rfl (Nat.le_of_ble_eq_true rfl) dX5_could_22) (fun r3 u4 H locs hI hS hw => ?_)
      obtain ⟨hv, hw⟩ := hw
      exact g_zret S hr hv hk hg hI hS dX5_could_25 hw
  · have hw := hw.2 hc
    refine lv_iload_n hx hb dX5_could_5 rfl (lv_at hl 0 rfl) ?_
    refine g_ci hg hS (g_runS S hg hI hN hS (As := [.int a0]) (rest := []) (tX5_isPart l D ad cI cB  _ _ _ hw) cs_yX5_isPart qm_X5_113 ⟨Nat.le_of_ble_eq_true rfl, Nat.le_of_ble_eq_true rfl⟩ rfl hl.1 rfl (Nat.le_of_ble_eq_true rfl) dX5_could_6) (fun r5 u6 H locs hI hS hw => ?_)
    refine lv_goto (tgt := 25) hx hb dX5_could_9 (by decide) ?_
    obtain ⟨hv, hw⟩ := hw
    exact g_zret S hr hv hk hg hI hS dX5_could_25 hw
set_option maxRecDepth 100000 in
set_option maxHeartbeats 4000000 in
theorem tX5_sortsOf (l : Launch) (D : va_G) (ad : Nat → Nat) (cI cB : ClassId)  (a1 : Int32) (u : SS) (post : Int32 → SS → Prop) (hw : wX5_sortsOf  a1 u post) : Met l yX5_sortsOf (Cond.code yX5_sortsOf cX5_sortsOf 6 (some .int) :: XT) (Rm 3) (va_Pc [.ref (ad 0), .int a1] (Pr (mI D ad cI cB) mN u)) (va_Qi post (Po (mI D ad cI cB)) (mA ad)) 0 0 (mA ad) := by
  refine g_of (A := (mA ad)) (by decide) (Nat.le_of_ble_eq_true rfl) (lv := [(0, .ref (ad 0)), (1, .int a1)]) rfl ?_
  intro p e s m below meth c ls S hr hk hI hN hS hl
  have hx := S.1
  have hb := S.2.1
  have ho := S.2.2.2.1
  have hg := @mG D ad cI cB
  have L15 : ∀ (x1_15 : Int32) (x2_15 : Int32) (x3_15 : Int32) (K15 : Int32 → Int32 → SS → Prop) (n : Nat) (x4_15 : Int32) (x5_15 : Int32) (u2 : SS) (H : Heap) (locs : List Loc) (ls : Array Slot), mI D ad cI cB u2 s H → va_S (mA ad) s.heap H locs → lv_has ls 6 [(0, .ref (ad 0)), (1, .int x1_15), (2, .int x2_15), (3, .int x3_15), (4, .int x4_15), (5, .int x5_15)] → wX5_sortsOf_15 post x1_15 x2_15 x3_15 K15 n x4_15 x5_15 u2 → (∀ (x4_15 : Int32) (x5_15 : Int32) (u2 : SS) (H : Heap) (locs : List Loc) (ls : Array Slot), mI D ad cI cB u2 s H → va_S (mA ad) s.heap H locs → lv_has ls 6 [(0, .ref (ad 0)), (1, .int x1_15), (2, .int x2_15), (3, .int x3_15), (4, .int x4_15), (5, .int x5_15)] → K15 x4_15 x5_15 u2 → W p l e (Rm 3) s m [.ref (ad 0), .int a1].toArray below meth c H locs 0 0 (MQ below (va_Qi post (Po (mI D ad cI cB)) (mA ad)) [.ref (ad 0), .int a1].toArray s 0 0 (mA ad)) (F0 m 83 ls [])) → W p l e (Rm 3) s m [.ref (ad 0), .int a1].toArray below meth c H locs 0 0 (MQ below (va_Qi post (Po (mI D ad cI cB)) (mA ad)) [.ref (ad 0), .int a1].toArray s 0 0 (mA ad)) (F0 m 15 ls []) := by
    intro x1_15 x2_15 x3_15 K15 n
    induction n with
    | zero => intro x4_15 x5_15 u2 H locs ls hI hS hl hw hK15; exact False.elim hw
    | succ n15 ih15 =>
      intro x4_15 x5_15 u2 H locs ls hI hS hl hw hK15
      refine lv_iload hx hb dX5_sortsOf_15 (lv_at hl 5 rfl) ?_
      refine lv_aload_n hx hb dX5_sortsOf_17 rfl (lv_at hl 0 rfl) ?_
      refine mg_X5_0_110 S hI dX5_sortsOf_18 ?_
      refine lv_icmp_ge (tgt := 83) hx hb dX5_sortsOf_21 (by decide) (fun hc => ?_) (fun hc => ?_)
      · have hw := hw.1 hc
        exact hK15 x4_15 x5_15 u2 _ _ _ hI hS (lv_sub hl [0, 1, 2, 3, 4, 5] rfl) hw
      · have hw := hw.2 hc
        refine lv_iload hx hb dX5_sortsOf_24 (lv_at hl 4 rfl) ?_
        refine lv_if_eq (tgt := 74) hx hb dX5_sortsOf_26 (by decide) (fun hc => ?_) (fun hc => ?_)
        · have hw := hw.1 hc
          refine lv_iconst (v := (0 : Int32)) hx hb dX5_sortsOf_74 (by decide) ?_
          refine lv_istore (lv' := [(4, .int (0 : Int32)), (0, .ref (ad 0)), (1, .int x1_15), (2, .int x2_15), (3, .int x3_15), (5, .int x5_15)]) hx hb dX5_sortsOf_75 hl (by decide) rfl (fun ls hl => ?_)
          refine lv_iinc (v := x5_15 + 1) (lv' := [(5, .int (x5_15 + 1)), (4, .int (0 : Int32)), (0, .ref (ad 0)), (1, .int x1_15), (2, .int x2_15), (3, .int x3_15)]) hx hb dX5_sortsOf_77 hl (k := 5) rfl (congrArg (fun z => x5_15 + z) (by decide)) (by decide) rfl (fun ls hl => ?_)
          refine lv_goto (tgt := 15) hx hb dX5_sortsOf_80 (by decide) ?_
          exact ih15 (0 : Int32) (x5_15 + 1) u2 _ _ _ hI hS (lv_sub hl [2, 3, 4, 5, 1, 0] rfl) hw hK15
        · have hw := hw.2 hc
          refine lv_aload_n hx hb dX5_sortsOf_29 rfl (lv_at hl 0 rfl) ?_
          refine mg_X5_0_16 S hI dX5_sortsOf_30 ?_
          refine lv_iload hx hb dX5_sortsOf_33 (lv_at hl 5 rfl) ?_
          obtain ⟨hv, hw⟩ := hw
          refine mld_2 S hI hv dX5_sortsOf_35 ?_
          refine lv_iload_n hx hb dX5_sortsOf_36 rfl (lv_at hl 1 rfl) ?_
          refine lv_icmp_ne (tgt := 70) hx hb dX5_sortsOf_37 (by decide) (fun hc => ?_) (fun hc => ?_)
          · have hw := hw.1 hc
            refine lv_iconst (v := (1 : Int32)) hx hb dX5_sortsOf_70 (by decide) ?_
            refine lv_goto (tgt := 75) hx hb dX5_sortsOf_71 (by decide) ?_
            refine lv_istore (lv' := [(4, .int (1 : Int32)), (0, .ref (ad 0)), (1, .int x1_15), (2, .int x2_15), (3, .int x3_15), (5, .int x5_15)]) hx hb dX5_sortsOf_75 hl (by decide) rfl (fun ls hl => ?_)
            refine lv_iinc (v := x5_15 + 1) (lv' := [(5, .int (x5_15 + 1)), (4, .int (1 : Int32)), (0, .ref (ad 0)), (1, .int x1_15), (2, .int x2_15), (3, .int x3_15)]) hx hb dX5_sortsOf_77 hl (k := 5) rfl (congrArg (fun z => x5_15 + z) (by decide)) (by decide) rfl (fun ls hl => ?_)
            refine lv_goto (tgt := 15) hx hb dX5_sortsOf_80 (by decide) ?_
            exact ih15 (1 : Int32) (x5_15 + 1) u2 _ _ _ hI hS (lv_sub hl [2, 3, 4, 5, 1, 0] rfl) hw hK15
          · have hw := hw.2 hc
            refine lv_iload_n hx hb dX5_sortsOf_40 rfl (lv_at hl 3 rfl) ?_
            refine lv_aload_n hx hb dX5_sortsOf_41 rfl (lv_at hl 0 rfl) ?_
            refine mg_X5_0_19 S hI dX5_sortsOf_42 ?_
            refine lv_iload hx hb dX5_sortsOf_45 (lv_at hl 5 rfl) ?_
            obtain ⟨hv, hw⟩ := hw
            refine mld_3 S hI hv dX5_sortsOf_47 ?_
            refine g_ci hg hS (g_runS S hg hI hN hS (As := [.int x3_15, .int (u2.2.2 3 x5_15.toNatClampNeg)]) (rest := []) (tX5_could l D ad cI cB  _ _ _ _ hw) cs_yX5_could qm_X5_203 ⟨Nat.le_of_ble_eq_true rfl, Nat.le_of_ble_eq_true rfl⟩ rfl hl.1 rfl (Nat.le_of_ble_eq_true rfl) dX5_sortsOf_48) (fun r3 u4 H locs hI hS hw => ?_)
            refine lv_aload_n hx hb dX5_sortsOf_51 rfl (lv_at hl 0 rfl) ?_
            refine mg_X5_0_22 S hI dX5_sortsOf_52 ?_
            refine lv_iload hx hb dX5_sortsOf_55 (lv_at hl 5 rfl) ?_
            obtain ⟨hv, hw⟩ := hw
            refine mld_4 S hI hv dX5_sortsOf_57 ?_
            refine lv_iconst (v := (1 : Int32)) hx hb dX5_sortsOf_58 (by decide) ?_
            refine lv_icmp_ne (tgt := 66) hx hb dX5_sortsOf_59 (by decide) (fun hc => ?_) (fun hc => ?_)
            · have hw := hw.1 hc
              refine lv_iconst (v := (0 : Int32)) hx hb dX5_sortsOf_66 (by decide) ?_
              refine lv_icmp_ne (tgt := 74) hx hb dX5_sortsOf_67 (by decide) (fun hc => ?_) (fun hc => ?_)
              · have hw := hw.1 hc
                refine lv_iconst (v := (0 : Int32)) hx hb dX5_sortsOf_74 (by decide) ?_
                refine lv_istore (lv' := [(4, .int (0 : Int32)), (0, .ref (ad 0)), (1, .int x1_15), (2, .int x2_15), (3, .int x3_15), (5, .int x5_15)]) hx hb dX5_sortsOf_75 hl (by decide) rfl (fun ls hl => ?_)
                refine lv_iinc (v := x5_15 + 1) (lv' := [(5, .int (x5_15 + 1)), (4, .int (0 : Int32)), (0, .ref (ad 0)), (1, .int x1_15), (2, .int x2_15), (3, .int x3_15)]) hx hb dX5_sortsOf_77 hl (k := 5) rfl (congrArg (fun z => x5_15 + z) (by decide)) (by decide) rfl (fun ls hl => ?_)
                refine lv_goto (tgt := 15) hx hb dX5_sortsOf_80 (by decide) ?_
                exact ih15 (0 : Int32) (x5_15 + 1) u4 _ _ _ hI hS (lv_sub hl [2, 3, 4, 5, 1, 0] rfl) hw hK15
              · have hw := hw.2 hc
                refine lv_iconst (v := (1 : Int32)) hx hb dX5_sortsOf_70 (by decide) ?_
                refine lv_goto (tgt := 75) hx hb dX5_sortsOf_71 (by decide) ?_
                refine lv_istore (lv' := [(4, .int (1 : Int32)), (0, .ref (ad 0)), (1, .int x1_15), (2, .int x2_15), (3, .int x3_15), (5, .int x5_15)]) hx hb dX5_sortsOf_75 hl (by decide) rfl (fun ls hl => ?_)
                refine lv_iinc (v := x5_15 + 1) (lv' := [(5, .int (x5_15 + 1)), (4, .int (1 : Int32)), (0, .ref (ad 0)), (1, .int x1_15), (2, .int x2_15), (3, .int x3_15)]) hx hb dX5_sortsOf_77 hl (k := 5) rfl (congrArg (fun z => x5_15 + z) (by decide)) (by decide) rfl (fun ls hl => ?_)
                refine lv_goto (tgt := 15) hx hb dX5_sortsOf_80 (by decide) ?_
                exact ih15 (1 : Int32) (x5_15 + 1) u4 _ _ _ hI hS (lv_sub hl [2, 3, 4, 5, 1, 0] rfl) hw hK15
            · have hw := hw.2 hc
              refine lv_iconst (v := (1 : Int32)) hx hb dX5_sortsOf_62 (by decide) ?_
              refine lv_goto (tgt := 67) hx hb dX5_sortsOf_63 (by decide) ?_
              refine lv_icmp_ne (tgt := 74) hx hb dX5_sortsOf_67 (by decide) (fun hc => ?_) (fun hc => ?_)
              · have hw := hw.1 hc
                refine lv_iconst (v := (0 : Int32)) hx hb dX5_sortsOf_74 (by decide) ?_
                refine lv_istore (lv' := [(4, .int (0 : Int32)), (0, .ref (ad 0)), (1, .int x1_15), (2, .int x2_15), (3, .int x3_15), (5, .int x5_15)]) hx hb dX5_sortsOf_75 hl (by decide) rfl (fun ls hl => ?_)
                refine lv_iinc (v := x5_15 + 1) (lv' := [(5, .int (x5_15 + 1)), (4, .int (0 : Int32)), (0, .ref (ad 0)), (1, .int x1_15), (2, .int x2_15), (3, .int x3_15)]) hx hb dX5_sortsOf_77 hl (k := 5) rfl (congrArg (fun z => x5_15 + z) (by decide)) (by decide) rfl (fun ls hl => ?_)
                refine lv_goto (tgt := 15) hx hb dX5_sortsOf_80 (by decide) ?_
                exact ih15 (0 : Int32) (x5_15 + 1) u4 _ _ _ hI hS (lv_sub hl [2, 3, 4, 5, 1, 0] rfl) hw hK15
              · have hw := hw.2 hc
                refine lv_iconst (v := (1 : Int32)) hx hb dX5_sortsOf_70 (by decide) ?_
                refine lv_goto (tgt := 75) hx hb dX5_sortsOf_71 (by decide) ?_
                refine lv_istore (lv' := [(4, .int (1 : Int32)), (0, .ref (ad 0)), (1, .int x1_15), (2, .int x2_15), (3, .int x3_15), (5, .int x5_15)]) hx hb dX5_sortsOf_75 hl (by decide) rfl (fun ls hl => ?_)
                refine lv_iinc (v := x5_15 + 1) (lv' := [(5, .int (x5_15 + 1)), (4, .int (1 : Int32)), (0, .ref (ad 0)), (1, .int x1_15), (2, .int x2_15), (3, .int x3_15)]) hx hb dX5_sortsOf_77 hl (k := 5) rfl (congrArg (fun z => x5_15 + z) (by decide)) (by decide) rfl (fun ls hl => ?_)
                refine lv_goto (tgt := 15) hx hb dX5_sortsOf_80 (by decide) ?_
                exact ih15 (1 : Int32) (x5_15 + 1) u4 _ _ _ hI hS (lv_sub hl [2, 3, 4, 5, 1, 0] rfl) hw hK15
  have L4 : ∀ (x1_4 : Int32) (K4 : Int32 → Int32 → SS → Prop) (n : Nat) (x2_4 : Int32) (x3_4 : Int32) (u1 : SS) (H : Heap) (locs : List Loc) (ls : Array Slot), mI D ad cI cB u1 s H → va_S (mA ad) s.heap H locs → lv_has ls 6 [(0, .ref (ad 0)), (1, .int x1_4), (2, .int x2_4), (3, .int x3_4)] → wX5_sortsOf_4 post x1_4 K4 n x2_4 x3_4 u1 → (∀ (x2_4 : Int32) (x3_4 : Int32) (u1 : SS) (H : Heap) (locs : List Loc) (ls : Array Slot), mI D ad cI cB u1 s H → va_S (mA ad) s.heap H locs → lv_has ls 6 [(0, .ref (ad 0)), (1, .int x1_4), (2, .int x2_4), (3, .int x3_4)] → K4 x2_4 x3_4 u1 → W p l e (Rm 3) s m [.ref (ad 0), .int a1].toArray below meth c H locs 0 0 (MQ below (va_Qi post (Po (mI D ad cI cB)) (mA ad)) [.ref (ad 0), .int a1].toArray s 0 0 (mA ad)) (F0 m 104 ls [])) → W p l e (Rm 3) s m [.ref (ad 0), .int a1].toArray below meth c H locs 0 0 (MQ below (va_Qi post (Po (mI D ad cI cB)) (mA ad)) [.ref (ad 0), .int a1].toArray s 0 0 (mA ad)) (F0 m 4 ls []) := by
    intro x1_4 K4 n
    induction n with
    | zero => intro x2_4 x3_4 u1 H locs ls hI hS hl hw hK4; exact False.elim hw
    | succ n4 ih4 =>
      intro x2_4 x3_4 u1 H locs ls hI hS hl hw hK4
      refine lv_iload_n hx hb dX5_sortsOf_4 rfl (lv_at hl 3 rfl) ?_
      refine lv_iconst (v := (4 : Int32)) hx hb dX5_sortsOf_5 (by decide) ?_
      refine lv_icmp_gt (tgt := 104) hx hb dX5_sortsOf_6 (by decide) (fun hc => ?_) (fun hc => ?_)
      · have hw := hw.1 hc
        exact hK4 x2_4 x3_4 u1 _ _ _ hI hS (lv_sub hl [0, 1, 2, 3] rfl) hw
      · have hw := hw.2 hc
        refine lv_iconst (v := (1 : Int32)) hx hb dX5_sortsOf_9 (by decide) ?_
        refine lv_istore (lv' := [(4, .int (1 : Int32)), (0, .ref (ad 0)), (1, .int x1_4), (2, .int x2_4), (3, .int x3_4)]) hx hb dX5_sortsOf_10 hl (by decide) rfl (fun ls hl => ?_)
        refine lv_iconst (v := (0 : Int32)) hx hb dX5_sortsOf_12 (by decide) ?_
        refine lv_istore (lv' := [(5, .int (0 : Int32)), (4, .int (1 : Int32)), (0, .ref (ad 0)), (1, .int x1_4), (2, .int x2_4), (3, .int x3_4)]) hx hb dX5_sortsOf_13 hl (by decide) rfl (fun ls hl => ?_)
        obtain ⟨n, hw⟩ := hw
        refine L15 x1_4 x2_4 x3_4 _ n (1 : Int32) (0 : Int32) u1 _ _ _ hI hS (lv_sub hl [2, 3, 4, 5, 1, 0] rfl) hw (fun x4_5 x5_6 u7 H locs ls hI hS hl hw => ?_)
        refine lv_iload_n hx hb dX5_sortsOf_83 rfl (lv_at hl 2 rfl) ?_
        refine lv_iload hx hb dX5_sortsOf_84 (lv_at hl 4 rfl) ?_
        refine lv_if_eq (tgt := 95) hx hb dX5_sortsOf_86 (by decide) (fun hc => ?_) (fun hc => ?_)
        · have hw := hw.1 hc
          refine lv_iconst (v := (0 : Int32)) hx hb dX5_sortsOf_95 (by decide) ?_
          refine lv_ior hx hb dX5_sortsOf_96 ?_
          refine lv_istore_n (lv' := [(2, .int (x2_4 ||| (0 : Int32))), (0, .ref (ad 0)), (1, .int x1_4), (3, .int x3_4), (4, .int x4_5), (5, .int x5_6)]) hx hb dX5_sortsOf_97 rfl hl (by decide) rfl (fun ls hl => ?_)
          refine lv_iinc (v := x3_4 + 1) (lv' := [(3, .int (x3_4 + 1)), (2, .int (x2_4 ||| (0 : Int32))), (0, .ref (ad 0)), (1, .int x1_4), (4, .int x4_5), (5, .int x5_6)]) hx hb dX5_sortsOf_98 hl (k := 3) rfl (congrArg (fun z => x3_4 + z) (by decide)) (by decide) rfl (fun ls hl => ?_)
          refine lv_goto (tgt := 4) hx hb dX5_sortsOf_101 (by decide) ?_
          exact ih4 (x2_4 ||| (0 : Int32)) (x3_4 + 1) u7 _ _ _ hI hS (lv_sub hl [2, 3, 1, 0] rfl) hw hK4
        · have hw := hw.2 hc
          refine lv_iconst (v := (1 : Int32)) hx hb dX5_sortsOf_89 (by decide) ?_
          refine lv_iload_n hx hb dX5_sortsOf_90 rfl (lv_at hl 3 rfl) ?_
          refine lv_ishl hx hb dX5_sortsOf_91 ?_
          refine lv_goto (tgt := 96) hx hb dX5_sortsOf_92 (by decide) ?_
          refine lv_ior hx hb dX5_sortsOf_96 ?_
          refine lv_istore_n (lv' := [(2, .int (x2_4 ||| ((1 : Int32) <<< (x3_4 &&& 31)))), (0, .ref (ad 0)), (1, .int x1_4), (3, .int x3_4), (4, .int x4_5), (5, .int x5_6)]) hx hb dX5_sortsOf_97 rfl hl (by decide) rfl (fun ls hl => ?_)
          refine lv_iinc (v := x3_4 + 1) (lv' := [(3, .int (x3_4 + 1)), (2, .int (x2_4 ||| ((1 : Int32) <<< (x3_4 &&& 31)))), (0, .ref (ad 0)), (1, .int x1_4), (4, .int x4_5), (5, .int x5_6)]) hx hb dX5_sortsOf_98 hl (k := 3) rfl (congrArg (fun z => x3_4 + z) (by decide)) (by decide) rfl (fun ls hl => ?_)
          refine lv_goto (tgt := 4) hx hb dX5_sortsOf_101 (by decide) ?_
          exact ih4 (x2_4 ||| ((1 : Int32) <<< (x3_4 &&& 31))) (x3_4 + 1) u7 _ _ _ hI hS (lv_sub hl [2, 3, 1, 0] rfl) hw hK4
  refine lv_iconst (v := (0 : Int32)) hx hb dX5_sortsOf_0 (by decide) ?_
  refine lv_istore_n (lv' := [(2, .int (0 : Int32)), (0, .ref (ad 0)), (1, .int a1)]) hx hb dX5_sortsOf_1 rfl hl (by decide) rfl (fun ls hl => ?_)
  refine lv_iconst (v := (0 : Int32)) hx hb dX5_sortsOf_2 (by decide) ?_
  refine lv_istore_n (lv' := [(3, .int (0 : Int32)), (2, .int (0 : Int32)), (0, .ref (ad 0)), (1, .int a1)]) hx hb dX5_sortsOf_3 rfl hl (by decide) rfl (fun ls hl => ?_)
  obtain ⟨n, hw⟩ := hw
  refine L4 a1 _ n (0 : Int32) (0 : Int32) u _ _ _ hI hS (lv_sub hl [2, 3, 1, 0] rfl) hw (fun x2_8 x3_9 u10 H locs ls hI hS hl hw => ?_)
  refine lv_iload_n hx hb dX5_sortsOf_104 rfl (lv_at hl 2 rfl) ?_
  exact g_iret S hr hk hg hI hS dX5_sortsOf_105 hw
set_option maxRecDepth 100000 in
set_option maxHeartbeats 4000000 in
theorem tX5_isIn (l : Launch) (D : va_G) (ad : Nat → Nat) (cI cB : ClassId)  (a0 : Int32) (a1 : Int32) (u : SS) (post : Int32 → SS → Prop) (hw : wX5_isIn  a0 a1 u post) : Met l yX5_isIn (Cond.code yX5_isIn cX5_isIn 2 (some .boolean) :: XT) (Rm 1) (va_Pc [.int a0, .int a1] (Pr (mI D ad cI cB) mN u)) (va_Qi post (Po (mI D ad cI cB)) (mA ad)) 0 0 (mA ad) := by
  refine g_of (A := (mA ad)) (by decide) (Nat.le_of_ble_eq_true rfl) (lv := [(0, .int a0), (1, .int a1)]) rfl ?_
  intro p e s m below meth c ls S hr hk hI hN hS hl
  have hx := S.1
  have hb := S.2.1
  have ho := S.2.2.2.1
  have hg := @mG D ad cI cB
  refine lv_iload_n hx hb dX5_isIn_0 rfl (lv_at hl 0 rfl) ?_
  refine lv_iload_n hx hb dX5_isIn_1 rfl (lv_at hl 1 rfl) ?_
  refine lv_ishr hx hb dX5_isIn_2 ?_
  refine lv_iconst (v := (1 : Int32)) hx hb dX5_isIn_3 (by decide) ?_
  refine lv_iand hx hb dX5_isIn_4 ?_
  refine lv_iconst (v := (1 : Int32)) hx hb dX5_isIn_5 (by decide) ?_
  refine lv_icmp_ne (tgt := 13) hx hb dX5_isIn_6 (by decide) (fun hc => ?_) (fun hc => ?_)
  · have hw := hw.1 hc
    refine lv_iconst (v := (0 : Int32)) hx hb dX5_isIn_13 (by decide) ?_
    exact g_zret S hr rfl hk hg hI hS dX5_isIn_14 hw
  · have hw := hw.2 hc
    refine lv_iconst (v := (1 : Int32)) hx hb dX5_isIn_9 (by decide) ?_
    refine lv_goto (tgt := 14) hx hb dX5_isIn_10 (by decide) ?_
    exact g_zret S hr rfl hk hg hI hS dX5_isIn_14 hw
set_option maxRecDepth 100000 in
set_option maxHeartbeats 4000000 in
theorem tX5_askOf (l : Launch) (D : va_G) (ad : Nat → Nat) (cI cB : ClassId)  (a1 : Int32) (u : SS) (post : Int32 → SS → Prop) (hw : wX5_askOf  a1 u post) : Met l yX5_askOf (Cond.code yX5_askOf cX5_askOf 9 (some .int) :: XT) (Rm 4) (va_Pc [.ref (ad 0), .int a1] (Pr (mI D ad cI cB) mN u)) (va_Qi post (Po (mI D ad cI cB)) (mA ad)) 0 0 (mA ad) := by
  refine g_of (A := (mA ad)) (by decide) (Nat.le_of_ble_eq_true rfl) (lv := [(0, .ref (ad 0)), (1, .int a1)]) rfl ?_
  intro p e s m below meth c ls S hr hk hI hN hS hl
  have hx := S.1
  have hb := S.2.1
  have ho := S.2.2.2.1
  have hg := @mG D ad cI cB
  have L34 : ∀ (x1_34 : Int32) (x2_34 : Int32) (x3_34 : Int32) (x4_34 : Int32) (x5_34 : Int32) (K34 : Int32 → Int32 → Int32 → SS → Prop) (n : Nat) (x6_34 : Int32) (x7_34 : Int32) (x8_34 : Int32) (u4 : SS) (H : Heap) (locs : List Loc) (ls : Array Slot), mI D ad cI cB u4 s H → va_S (mA ad) s.heap H locs → lv_has ls 9 [(0, .ref (ad 0)), (1, .int x1_34), (2, .int x2_34), (3, .int x3_34), (4, .int x4_34), (5, .int x5_34), (6, .int x6_34), (7, .int x7_34), (8, .int x8_34)] → wX5_askOf_34 post x1_34 x2_34 x3_34 x4_34 x5_34 K34 n x6_34 x7_34 x8_34 u4 → (∀ (x6_34 : Int32) (x7_34 : Int32) (x8_34 : Int32) (u4 : SS) (H : Heap) (locs : List Loc) (ls : Array Slot), mI D ad cI cB u4 s H → va_S (mA ad) s.heap H locs → lv_has ls 9 [(0, .ref (ad 0)), (1, .int x1_34), (2, .int x2_34), (3, .int x3_34), (4, .int x4_34), (5, .int x5_34), (6, .int x6_34), (7, .int x7_34), (8, .int x8_34)] → K34 x6_34 x7_34 x8_34 u4 → W p l e (Rm 4) s m [.ref (ad 0), .int a1].toArray below meth c H locs 0 0 (MQ below (va_Qi post (Po (mI D ad cI cB)) (mA ad)) [.ref (ad 0), .int a1].toArray s 0 0 (mA ad)) (F0 m 104 ls [])) → W p l e (Rm 4) s m [.ref (ad 0), .int a1].toArray below meth c H locs 0 0 (MQ below (va_Qi post (Po (mI D ad cI cB)) (mA ad)) [.ref (ad 0), .int a1].toArray s 0 0 (mA ad)) (F0 m 34 ls []) := by
    intro x1_34 x2_34 x3_34 x4_34 x5_34 K34 n
    induction n with
    | zero => intro x6_34 x7_34 x8_34 u4 H locs ls hI hS hl hw hK34; exact False.elim hw
    | succ n34 ih34 =>
      intro x6_34 x7_34 x8_34 u4 H locs ls hI hS hl hw hK34
      refine lv_iload hx hb dX5_askOf_34 (lv_at hl 8 rfl) ?_
      refine lv_iconst (v := (4 : Int32)) hx hb dX5_askOf_36 (by decide) ?_
      refine lv_icmp_gt (tgt := 104) hx hb dX5_askOf_37 (by decide) (fun hc => ?_) (fun hc => ?_)
      · have hw := hw.1 hc
        exact hK34 x6_34 x7_34 x8_34 u4 _ _ _ hI hS (lv_sub hl [0, 1, 2, 3, 4, 5, 6, 7, 8] rfl) hw
      · have hw := hw.2 hc
        refine lv_iload hx hb dX5_askOf_40 (lv_at hl 6 rfl) ?_
        refine lv_iload_n hx hb dX5_askOf_42 rfl (lv_at hl 2 rfl) ?_
        refine lv_iload hx hb dX5_askOf_43 (lv_at hl 8 rfl) ?_
        refine g_ci hg hS (g_runS S hg hI hN hS (As := [.int x2_34, .int x8_34]) (rest := [.int x6_34]) (tX5_isIn l D ad cI cB  _ _ _ _ hw) cs_yX5_isIn qm_X5_206 ⟨Nat.le_of_ble_eq_true rfl, Nat.le_of_ble_eq_true rfl⟩ rfl hl.1 rfl (Nat.le_of_ble_eq_true rfl) dX5_askOf_45) (fun r5 u6 H locs hI hS hw => ?_)
        refine lv_if_eq (tgt := 65) hx hb dX5_askOf_48 (by decide) (fun hc => ?_) (fun hc => ?_)
        · have hw := hw.1 hc
          refine lv_iconst (v := (0 : Int32)) hx hb dX5_askOf_65 (by decide) ?_
          refine lv_iadd hx hb dX5_askOf_66 ?_
          refine lv_istore (lv' := [(6, .int (x6_34 + (0 : Int32))), (0, .ref (ad 0)), (1, .int x1_34), (2, .int x2_34), (3, .int x3_34), (4, .int x4_34), (5, .int x5_34), (7, .int x7_34), (8, .int x8_34)]) hx hb dX5_askOf_67 hl (by decide) rfl (fun ls hl => ?_)
          refine lv_iload hx hb dX5_askOf_69 (lv_at hl 7 rfl) ?_
          refine lv_iload_n hx hb dX5_askOf_71 rfl (lv_at hl 3 rfl) ?_
          refine lv_iload hx hb dX5_askOf_72 (lv_at hl 8 rfl) ?_
          refine g_ci hg hS (g_runS S hg hI hN hS (As := [.int x2_34, .int x8_34]) (rest := [.int x7_34]) (tX5_isIn l D ad cI cB  _ _ _ _ hw) cs_yX5_isIn qm_X5_206 ⟨Nat.le_of_ble_eq_true rfl, Nat.le_of_ble_eq_true rfl⟩ rfl hl.1 rfl (Nat.le_of_ble_eq_true rfl) dX5_askOf_74) (fun r7 u8 H locs hI hS hw => ?_)
          refine lv_if_eq (tgt := 94) hx hb dX5_askOf_77 (by decide) (fun hc => ?_) (fun hc => ?_)
          · have hw := hw.1 hc
            refine lv_iconst (v := (0 : Int32)) hx hb dX5_askOf_94 (by decide) ?_
            refine lv_iadd hx hb dX5_askOf_95 ?_
            refine lv_istore (lv' := [(7, .int (x7_34 + (0 : Int32))), (6, .int (x6_34 + (0 : Int32))), (0, .ref (ad 0)), (1, .int x1_34), (2, .int x2_34), (3, .int x3_34), (4, .int x4_34), (5, .int x5_34), (8, .int x8_34)]) hx hb dX5_askOf_96 hl (by decide) rfl (fun ls hl => ?_)
            refine lv_iinc (v := x8_34 + 1) (lv' := [(8, .int (x8_34 + 1)), (7, .int (x7_34 + (0 : Int32))), (6, .int (x6_34 + (0 : Int32))), (0, .ref (ad 0)), (1, .int x1_34), (2, .int x2_34), (3, .int x3_34), (4, .int x4_34), (5, .int x5_34)]) hx hb dX5_askOf_98 hl (k := 8) rfl (congrArg (fun z => x8_34 + z) (by decide)) (by decide) rfl (fun ls hl => ?_)
            refine lv_goto (tgt := 34) hx hb dX5_askOf_101 (by decide) ?_
            exact ih34 (x6_34 + (0 : Int32)) (x7_34 + (0 : Int32)) (x8_34 + 1) u8 _ _ _ hI hS (lv_sub hl [3, 4, 5, 6, 7, 8, 2, 1, 0] rfl) hw hK34
          · have hw := hw.2 hc
            refine lv_iload hx hb dX5_askOf_80 (lv_at hl 8 rfl) ?_
            refine lv_iload hx hb dX5_askOf_82 (lv_at hl 6 rfl) ?_
            refine g_ci hg hS (g_runS S hg hI hN hS (As := [.int x8_34, .int x5_34]) (rest := [.int x7_34]) (tX5_could l D ad cI cB  _ _ _ _ hw) cs_yX5_could qm_X5_203 ⟨Nat.le_of_ble_eq_true rfl, Nat.le_of_ble_eq_true rfl⟩ rfl hl.1 rfl (Nat.le_of_ble_eq_true rfl) dX5_askOf_84) (fun r9 u10 H locs hI hS hw => ?_)
            refine lv_if_ne (tgt := 94) hx hb dX5_askOf_87 (by decide) (fun hc => ?_) (fun hc => ?_)
            · have hw := hw.1 hc
              refine lv_iconst (v := (0 : Int32)) hx hb dX5_askOf_94 (by decide) ?_
              refine lv_iadd hx hb dX5_askOf_95 ?_
              refine lv_istore (lv' := [(7, .int (x7_34 + (0 : Int32))), (6, .int (x6_34 + (0 : Int32))), (0, .ref (ad 0)), (1, .int x1_34), (2, .int x2_34), (3, .int x3_34), (4, .int x4_34), (5, .int x5_34), (8, .int x8_34)]) hx hb dX5_askOf_96 hl (by decide) rfl (fun ls hl => ?_)
              refine lv_iinc (v := x8_34 + 1) (lv' := [(8, .int (x8_34 + 1)), (7, .int (x7_34 + (0 : Int32))), (6, .int (x6_34 + (0 : Int32))), (0, .ref (ad 0)), (1, .int x1_34), (2, .int x2_34), (3, .int x3_34), (4, .int x4_34), (5, .int x5_34)]) hx hb dX5_askOf_98 hl (k := 8) rfl (congrArg (fun z => x8_34 + z) (by decide)) (by decide) rfl (fun ls hl => ?_)
              refine lv_goto (tgt := 34) hx hb dX5_askOf_101 (by decide) ?_
              exact ih34 (x6_34 + (0 : Int32)) (x7_34 + (0 : Int32)) (x8_34 + 1) u10 _ _ _ hI hS (lv_sub hl [3, 4, 5, 6, 7, 8, 2, 1, 0] rfl) hw hK34
            · have hw := hw.2 hc
              refine lv_iconst (v := (1 : Int32)) hx hb dX5_askOf_90 (by decide) ?_
              refine lv_goto (tgt := 95) hx hb dX5_askOf_91 (by decide) ?_
              refine lv_iadd hx hb dX5_askOf_95 ?_
              refine lv_istore (lv' := [(7, .int (x7_34 + (1 : Int32))), (6, .int (x6_34 + (0 : Int32))), (0, .ref (ad 0)), (1, .int x1_34), (2, .int x2_34), (3, .int x3_34), (4, .int x4_34), (5, .int x5_34), (8, .int x8_34)]) hx hb dX5_askOf_96 hl (by decide) rfl (fun ls hl => ?_)
              refine lv_iinc (v := x8_34 + 1) (lv' := [(8, .int (x8_34 + 1)), (7, .int (x7_34 + (1 : Int32))), (6, .int (x6_34 + (0 : Int32))), (0, .ref (ad 0)), (1, .int x1_34), (2, .int x2_34), (3, .int x3_34), (4, .int x4_34), (5, .int x5_34)]) hx hb dX5_askOf_98 hl (k := 8) rfl (congrArg (fun z => x8_34 + z) (by decide)) (by decide) rfl (fun ls hl => ?_)
              refine lv_goto (tgt := 34) hx hb dX5_askOf_101 (by decide) ?_
              exact ih34 (x6_34 + (0 : Int32)) (x7_34 + (1 : Int32)) (x8_34 + 1) u10 _ _ _ hI hS (lv_sub hl [3, 4, 5, 6, 7, 8, 2, 1, 0] rfl) hw hK34
        · have hw := hw.2 hc
          refine lv_iload hx hb dX5_askOf_51 (lv_at hl 8 rfl) ?_
          refine lv_iload hx hb dX5_askOf_53 (lv_at hl 5 rfl) ?_
          refine g_ci hg hS (g_runS S hg hI hN hS (As := [.int x8_34, .int x5_34]) (rest := [.int x6_34]) (tX5_could l D ad cI cB  _ _ _ _ hw) cs_yX5_could qm_X5_203 ⟨Nat.le_of_ble_eq_true rfl, Nat.le_of_ble_eq_true rfl⟩ rfl hl.1 rfl (Nat.le_of_ble_eq_true rfl) dX5_askOf_55) (fun r11 u12 H locs hI hS hw => ?_)
          refine lv_if_eq (tgt := 65) hx hb dX5_askOf_58 (by decide) (fun hc => ?_) (fun hc => ?_)
          · have hw := hw.1 hc
            refine lv_iconst (v := (0 : Int32)) hx hb dX5_askOf_65 (by decide) ?_
            refine lv_iadd hx hb dX5_askOf_66 ?_
            refine lv_istore (lv' := [(6, .int (x6_34 + (0 : Int32))), (0, .ref (ad 0)), (1, .int x1_34), (2, .int x2_34), (3, .int x3_34), (4, .int x4_34), (5, .int x5_34), (7, .int x7_34), (8, .int x8_34)]) hx hb dX5_askOf_67 hl (by decide) rfl (fun ls hl => ?_)
            refine lv_iload hx hb dX5_askOf_69 (lv_at hl 7 rfl) ?_
            refine lv_iload_n hx hb dX5_askOf_71 rfl (lv_at hl 3 rfl) ?_
            refine lv_iload hx hb dX5_askOf_72 (lv_at hl 8 rfl) ?_
            refine g_ci hg hS (g_runS S hg hI hN hS (As := [.int x2_34, .int x8_34]) (rest := [.int x7_34]) (tX5_isIn l D ad cI cB  _ _ _ _ hw) cs_yX5_isIn qm_X5_206 ⟨Nat.le_of_ble_eq_true rfl, Nat.le_of_ble_eq_true rfl⟩ rfl hl.1 rfl (Nat.le_of_ble_eq_true rfl) dX5_askOf_74) (fun r13 u14 H locs hI hS hw => ?_)
            refine lv_if_eq (tgt := 94) hx hb dX5_askOf_77 (by decide) (fun hc => ?_) (fun hc => ?_)
            · have hw := hw.1 hc
              refine lv_iconst (v := (0 : Int32)) hx hb dX5_askOf_94 (by decide) ?_
              refine lv_iadd hx hb dX5_askOf_95 ?_
              refine lv_istore (lv' := [(7, .int (x7_34 + (0 : Int32))), (6, .int (x6_34 + (0 : Int32))), (0, .ref (ad 0)), (1, .int x1_34), (2, .int x2_34), (3, .int x3_34), (4, .int x4_34), (5, .int x5_34), (8, .int x8_34)]) hx hb dX5_askOf_96 hl (by decide) rfl (fun ls hl => ?_)
              refine lv_iinc (v := x8_34 + 1) (lv' := [(8, .int (x8_34 + 1)), (7, .int (x7_34 + (0 : Int32))), (6, .int (x6_34 + (0 : Int32))), (0, .ref (ad 0)), (1, .int x1_34), (2, .int x2_34), (3, .int x3_34), (4, .int x4_34), (5, .int x5_34)]) hx hb dX5_askOf_98 hl (k := 8) rfl (congrArg (fun z => x8_34 + z) (by decide)) (by decide) rfl (fun ls hl => ?_)
              refine lv_goto (tgt := 34) hx hb dX5_askOf_101 (by decide) ?_
              exact ih34 (x6_34 + (0 : Int32)) (x7_34 + (0 : Int32)) (x8_34 + 1) u14 _ _ _ hI hS (lv_sub hl [3, 4, 5, 6, 7, 8, 2, 1, 0] rfl) hw hK34
            · have hw := hw.2 hc
              refine lv_iload hx hb dX5_askOf_80 (lv_at hl 8 rfl) ?_
              refine lv_iload hx hb dX5_askOf_82 (lv_at hl 6 rfl) ?_
              refine g_ci hg hS (g_runS S hg hI hN hS (As := [.int x8_34, .int x5_34]) (rest := [.int x7_34]) (tX5_could l D ad cI cB  _ _ _ _ hw) cs_yX5_could qm_X5_203 ⟨Nat.le_of_ble_eq_true rfl, Nat.le_of_ble_eq_true rfl⟩ rfl hl.1 rfl (Nat.le_of_ble_eq_true rfl) dX5_askOf_84) (fun r15 u16 H locs hI hS hw => ?_)
              refine lv_if_ne (tgt := 94) hx hb dX5_askOf_87 (by decide) (fun hc => ?_) (fun hc => ?_)
              · have hw := hw.1 hc
                refine lv_iconst (v := (0 : Int32)) hx hb dX5_askOf_94 (by decide) ?_
                refine lv_iadd hx hb dX5_askOf_95 ?_
                refine lv_istore (lv' := [(7, .int (x7_34 + (0 : Int32))), (6, .int (x6_34 + (0 : Int32))), (0, .ref (ad 0)), (1, .int x1_34), (2, .int x2_34), (3, .int x3_34), (4, .int x4_34), (5, .int x5_34), (8, .int x8_34)]) hx hb dX5_askOf_96 hl (by decide) rfl (fun ls hl => ?_)
                refine lv_iinc (v := x8_34 + 1) (lv' := [(8, .int (x8_34 + 1)), (7, .int (x7_34 + (0 : Int32))), (6, .int (x6_34 + (0 : Int32))), (0, .ref (ad 0)), (1, .int x1_34), (2, .int x2_34), (3, .int x3_34), (4, .int x4_34), (5, .int x5_34)]) hx hb dX5_askOf_98 hl (k := 8) rfl (congrArg (fun z => x8_34 + z) (by decide)) (by decide) rfl (fun ls hl => ?_)
                refine lv_goto (tgt := 34) hx hb dX5_askOf_101 (by decide) ?_
                exact ih34 (x6_34 + (0 : Int32)) (x7_34 + (0 : Int32)) (x8_34 + 1) u16 _ _ _ hI hS (lv_sub hl [3, 4, 5, 6, 7, 8, 2, 1, 0] rfl) hw hK34
              · have hw := hw.2 hc
                refine lv_iconst (v := (1 : Int32)) hx hb dX5_askOf_90 (by decide) ?_
                refine lv_goto (tgt := 95) hx hb dX5_askOf_91 (by decide) ?_
                refine lv_iadd hx hb dX5_askOf_95 ?_
                refine lv_istore (lv' := [(7, .int (x7_34 + (1 : Int32))), (6, .int (x6_34 + (0 : Int32))), (0, .ref (ad 0)), (1, .int x1_34), (2, .int x2_34), (3, .int x3_34), (4, .int x4_34), (5, .int x5_34), (8, .int x8_34)]) hx hb dX5_askOf_96 hl (by decide) rfl (fun ls hl => ?_)
                refine lv_iinc (v := x8_34 + 1) (lv' := [(8, .int (x8_34 + 1)), (7, .int (x7_34 + (1 : Int32))), (6, .int (x6_34 + (0 : Int32))), (0, .ref (ad 0)), (1, .int x1_34), (2, .int x2_34), (3, .int x3_34), (4, .int x4_34), (5, .int x5_34)]) hx hb dX5_askOf_98 hl (k := 8) rfl (congrArg (fun z => x8_34 + z) (by decide)) (by decide) rfl (fun ls hl => ?_)
                refine lv_goto (tgt := 34) hx hb dX5_askOf_101 (by decide) ?_
                exact ih34 (x6_34 + (0 : Int32)) (x7_34 + (1 : Int32)) (x8_34 + 1) u16 _ _ _ hI hS (lv_sub hl [3, 4, 5, 6, 7, 8, 2, 1, 0] rfl) hw hK34
          · have hw := hw.2 hc
            refine lv_iconst (v := (1 : Int32)) hx hb dX5_askOf_61 (by decide) ?_
            refine lv_goto (tgt := 66) hx hb dX5_askOf_62 (by decide) ?_
            refine lv_iadd hx hb dX5_askOf_66 ?_
            refine lv_istore (lv' := [(6, .int (x6_34 + (1 : Int32))), (0, .ref (ad 0)), (1, .int x1_34), (2, .int x2_34), (3, .int x3_34), (4, .int x4_34), (5, .int x5_34), (7, .int x7_34), (8, .int x8_34)]) hx hb dX5_askOf_67 hl (by decide) rfl (fun ls hl => ?_)
            refine lv_iload hx hb dX5_askOf_69 (lv_at hl 7 rfl) ?_
            refine lv_iload_n hx hb dX5_askOf_71 rfl (lv_at hl 3 rfl) ?_
            refine lv_iload hx hb dX5_askOf_72 (lv_at hl 8 rfl) ?_
            refine g_ci hg hS (g_runS S hg hI hN hS (As := [.int x2_34, .int x8_34]) (rest := [.int x7_34]) (tX5_isIn l D ad cI cB  _ _ _ _ hw) cs_yX5_isIn qm_X5_206 ⟨Nat.le_of_ble_eq_true rfl, Nat.le_of_ble_eq_true rfl⟩ rfl hl.1 rfl (Nat.le_of_ble_eq_true rfl) dX5_askOf_74) (fun r17 u18 H locs hI hS hw => ?_)
            refine lv_if_eq (tgt := 94) hx hb dX5_askOf_77 (by decide) (fun hc => ?_) (fun hc => ?_)
            · have hw := hw.1 hc
              refine lv_iconst (v := (0 : Int32)) hx hb dX5_askOf_94 (by decide) ?_
              refine lv_iadd hx hb dX5_askOf_95 ?_
              refine lv_istore (lv' := [(7, .int (x7_34 + (0 : Int32))), (6, .int (x6_34 + (1 : Int32))), (0, .ref (ad 0)), (1, .int x1_34), (2, .int x2_34), (3, .int x3_34), (4, .int x4_34), (5, .int x5_34), (8, .int x8_34)]) hx hb dX5_askOf_96 hl (by decide) rfl (fun ls hl => ?_)
              refine lv_iinc (v := x8_34 + 1) (lv' := [(8, .int (x8_34 + 1)), (7, .int (x7_34 + (0 : Int32))), (6, .int (x6_34 + (1 : Int32))), (0, .ref (ad 0)), (1, .int x1_34), (2, .int x2_34), (3, .int x3_34), (4, .int x4_34), (5, .int x5_34)]) hx hb dX5_askOf_98 hl (k := 8) rfl (congrArg (fun z => x8_34 + z) (by decide)) (by decide) rfl (fun ls hl => ?_)
              refine lv_goto (tgt := 34) hx hb dX5_askOf_101 (by decide) ?_
              exact ih34 (x6_34 + (1 : Int32)) (x7_34 + (0 : Int32)) (x8_34 + 1) u18 _ _ _ hI hS (lv_sub hl [3, 4, 5, 6, 7, 8, 2, 1, 0] rfl) hw hK34
            · have hw := hw.2 hc
              refine lv_iload hx hb dX5_askOf_80 (lv_at hl 8 rfl) ?_
              refine lv_iload hx hb dX5_askOf_82 (lv_at hl 6 rfl) ?_
              refine g_ci hg hS (g_runS S hg hI hN hS (As := [.int x8_34, .int x5_34]) (rest := [.int x7_34]) (tX5_could l D ad cI cB  _ _ _ _ hw) cs_yX5_could qm_X5_203 ⟨Nat.le_of_ble_eq_true rfl, Nat.le_of_ble_eq_true rfl⟩ rfl hl.1 rfl (Nat.le_of_ble_eq_true rfl) dX5_askOf_84) (fun r19 u20 H locs hI hS hw => ?_)
              refine lv_if_ne (tgt := 94) hx hb dX5_askOf_87 (by decide) (fun hc => ?_) (fun hc => ?_)
              · have hw := hw.1 hc
                refine lv_iconst (v := (0 : Int32)) hx hb dX5_askOf_94 (by decide) ?_
                refine lv_iadd hx hb dX5_askOf_95 ?_
                refine lv_istore (lv' := [(7, .int (x7_34 + (0 : Int32))), (6, .int (x6_34 + (1 : Int32))), (0, .ref (ad 0)), (1, .int x1_34), (2, .int x2_34), (3, .int x3_34), (4, .int x4_34), (5, .int x5_34), (8, .int x8_34)]) hx hb dX5_askOf_96 hl (by decide) rfl (fun ls hl => ?_)
                refine lv_iinc (v := x8_34 + 1) (lv' := [(8, .int (x8_34 + 1)), (7, .int (x7_34 + (0 : Int32))), (6, .int (x6_34 + (1 : Int32))), (0, .ref (ad 0)), (1, .int x1_34), (2, .int x2_34), (3, .int x3_34), (4, .int x4_34), (5, .int x5_34)]) hx hb dX5_askOf_98 hl (k := 8) rfl (congrArg (fun z => x8_34 + z) (by decide)) (by decide) rfl (fun ls hl => ?_)
                refine lv_goto (tgt := 34) hx hb dX5_askOf_101 (by decide) ?_
                exact ih34 (x6_34 + (1 : Int32)) (x7_34 + (0 : Int32)) (x8_34 + 1) u20 _ _ _ hI hS (lv_sub hl [3, 4, 5, 6, 7, 8, 2, 1, 0] rfl) hw hK34
              · have hw := hw.2 hc
                refine lv_iconst (v := (1 : Int32)) hx hb dX5_askOf_90 (by decide) ?_
                refine lv_goto (tgt := 95) hx hb dX5_askOf_91 (by decide) ?_
                refine lv_iadd hx hb dX5_askOf_95 ?_
                refine lv_istore (lv' := [(7, .int (x7_34 + (1 : Int32))), (6, .int (x6_34 + (1 : Int32))), (0, .ref (ad 0)), (1, .int x1_34), (2, .int x2_34), (3, .int x3_34), (4, .int x4_34), (5, .int x5_34), (8, .int x8_34)]) hx hb dX5_askOf_96 hl (by decide) rfl (fun ls hl => ?_)
                refine lv_iinc (v := x8_34 + 1) (lv' := [(8, .int (x8_34 + 1)), (7, .int (x7_34 + (1 : Int32))), (6, .int (x6_34 + (1 : Int32))), (0, .ref (ad 0)), (1, .int x1_34), (2, .int x2_34), (3, .int x3_34), (4, .int x4_34), (5, .int x5_34)]) hx hb dX5_askOf_98 hl (k := 8) rfl (congrArg (fun z => x8_34 + z) (by decide)) (by decide) rfl (fun ls hl => ?_)
                refine lv_goto (tgt := 34) hx hb dX5_askOf_101 (by decide) ?_
                exact ih34 (x6_34 + (1 : Int32)) (x7_34 + (1 : Int32)) (x8_34 + 1) u20 _ _ _ hI hS (lv_sub hl [3, 4, 5, 6, 7, 8, 2, 1, 0] rfl) hw hK34
  have L15 : ∀ (x1_15 : Int32) (x2_15 : Int32) (K15 : Int32 → Int32 → Int32 → SS → Prop) (n : Nat) (x3_15 : Int32) (x4_15 : Int32) (x5_15 : Int32) (u3 : SS) (H : Heap) (locs : List Loc) (ls : Array Slot), mI D ad cI cB u3 s H → va_S (mA ad) s.heap H locs → lv_has ls 9 [(0, .ref (ad 0)), (1, .int x1_15), (2, .int x2_15), (3, .int x3_15), (4, .int x4_15), (5, .int x5_15)] → wX5_askOf_15 post x1_15 x2_15 K15 n x3_15 x4_15 x5_15 u3 → (∀ (x3_15 : Int32) (x4_15 : Int32) (x5_15 : Int32) (u3 : SS) (H : Heap) (locs : List Loc) (ls : Array Slot), mI D ad cI cB u3 s H → va_S (mA ad) s.heap H locs → lv_has ls 9 [(0, .ref (ad 0)), (1, .int x1_15), (2, .int x2_15), (3, .int x3_15), (4, .int x4_15), (5, .int x5_15)] → K15 x3_15 x4_15 x5_15 u3 → W p l e (Rm 4) s m [.ref (ad 0), .int a1].toArray below meth c H locs 0 0 (MQ below (va_Qi post (Po (mI D ad cI cB)) (mA ad)) [.ref (ad 0), .int a1].toArray s 0 0 (mA ad)) (F0 m 156 ls [])) → W p l e (Rm 4) s m [.ref (ad 0), .int a1].toArray below meth c H locs 0 0 (MQ below (va_Qi post (Po (mI D ad cI cB)) (mA ad)) [.ref (ad 0), .int a1].toArray s 0 0 (mA ad)) (F0 m 15 ls []) := by
    intro x1_15 x2_15 K15 n
    induction n with
    | zero => intro x3_15 x4_15 x5_15 u3 H locs ls hI hS hl hw hK15; exact False.elim hw
    | succ n15 ih15 =>
      intro x3_15 x4_15 x5_15 u3 H locs ls hI hS hl hw hK15
      refine lv_iload hx hb dX5_askOf_15 (lv_at hl 5 rfl) ?_
      refine lv_iconst (v := (3 : Int32)) hx hb dX5_askOf_17 (by decide) ?_
      refine lv_icmp_ge (tgt := 156) hx hb dX5_askOf_18 (by decide) (fun hc => ?_) (fun hc => ?_)
      · have hw := hw.1 hc
        exact hK15 x3_15 x4_15 x5_15 u3 _ _ _ hI hS (lv_sub hl [0, 1, 2, 3, 4, 5] rfl) hw
      · have hw := hw.2 hc
        refine lv_iload_n hx hb dX5_askOf_21 rfl (lv_at hl 2 rfl) ?_
        refine lv_if_eq (tgt := 156) hx hb dX5_askOf_22 (by decide) (fun hc => ?_) (fun hc => ?_)
        · have hw := hw.1 hc
          exact hK15 x3_15 x4_15 x5_15 u3 _ _ _ hI hS (lv_sub hl [0, 1, 2, 3, 4, 5] rfl) hw
        · have hw := hw.2 hc
          refine lv_iconst (v := (0 : Int32)) hx hb dX5_askOf_25 (by decide) ?_
          refine lv_istore (lv' := [(6, .int (0 : Int32)), (0, .ref (ad 0)), (1, .int x1_15), (2, .int x2_15), (3, .int x3_15), (4, .int x4_15), (5, .int x5_15)]) hx hb dX5_askOf_26 hl (by decide) rfl (fun ls hl => ?_)
          refine lv_iconst (v := (0 : Int32)) hx hb dX5_askOf_28 (by decide) ?_
          refine lv_istore (lv' := [(7, .int (0 : Int32)), (6, .int (0 : Int32)), (0, .ref (ad 0)), (1, .int x1_15), (2, .int x2_15), (3, .int x3_15), (4, .int x4_15), (5, .int x5_15)]) hx hb dX5_askOf_29 hl (by decide) rfl (fun ls hl => ?_)
          refine lv_iconst (v := (0 : Int32)) hx hb dX5_askOf_31 (by decide) ?_
          refine lv_istore (lv' := [(8, .int (0 : Int32)), (7, .int (0 : Int32)), (6, .int (0 : Int32)), (0, .ref (ad 0)), (1, .int x1_15), (2, .int x2_15), (3, .int x3_15), (4, .int x4_15), (5, .int x5_15)]) hx hb dX5_askOf_32 hl (by decide) rfl (fun ls hl => ?_)
          obtain ⟨n, hw⟩ := hw
          refine L34 x1_15 x2_15 x3_15 x4_15 x5_15 _ n (0 : Int32) (0 : Int32) (0 : Int32) u3 _ _ _ hI hS (lv_sub hl [3, 4, 5, 6, 7, 8, 2, 1, 0] rfl) hw (fun x6_21 x7_22 x8_23 u24 H locs ls hI hS hl hw => ?_)
          refine lv_iload hx hb dX5_askOf_104 (lv_at hl 6 rfl) ?_
          refine lv_iload hx hb dX5_askOf_106 (lv_at hl 7 rfl) ?_
          refine lv_icmp_le (tgt := 116) hx hb dX5_askOf_108 (by decide) (fun hc => ?_) (fun hc => ?_)
          · have hw := hw.1 hc
            refine lv_iload hx hb dX5_askOf_116 (lv_at hl 7 rfl) ?_
            refine lv_istore (lv' := [(8, .int x7_22), (0, .ref (ad 0)), (1, .int x1_15), (2, .int x2_15), (3, .int x3_15), (4, .int x4_15), (5, .int x5_15), (6, .int x6_21), (7, .int x7_22)]) hx hb dX5_askOf_118 hl (by decide) rfl (fun ls hl => ?_)
            refine lv_iload hx hb dX5_askOf_120 (lv_at hl 0 rfl) ?_
            refine lv_iload hx hb dX5_askOf_122 (lv_at hl 5 rfl) ?_
            refine lv_icmp_ge (tgt := 132) hx hb dX5_askOf_124 (by decide) (fun hc => ?_) (fun hc => ?_)
            · have hw := hw.1 hc
              refine lv_iload_n hx hb dX5_askOf_132 rfl (lv_at hl 4 rfl) ?_
              refine lv_istore_n (lv' := [(3, .int x3_15), (8, .int x7_22), (0, .ref (ad 0)), (1, .int x1_15), (2, .int x2_15), (4, .int x4_15), (5, .int x5_15), (6, .int x6_21), (7, .int x7_22)]) hx hb dX5_askOf_133 rfl hl (by decide) rfl (fun ls hl => ?_)
              refine lv_iload hx hb dX5_askOf_134 (lv_at hl 1 rfl) ?_
              refine lv_iload hx hb dX5_askOf_136 (lv_at hl 5 rfl) ?_
              refine lv_icmp_ge (tgt := 146) hx hb dX5_askOf_138 (by decide) (fun hc => ?_) (fun hc => ?_)
              · have hw := hw.1 hc
                refine lv_iload hx hb dX5_askOf_146 (lv_at hl 5 rfl) ?_
                refine lv_istore (lv' := [(4, .int x4_15), (3, .int x3_15), (8, .int x7_22), (0, .ref (ad 0)), (1, .int x1_15), (2, .int x2_15), (5, .int x5_15), (6, .int x6_21), (7, .int x7_22)]) hx hb dX5_askOf_148 hl (by decide) rfl (fun ls hl => ?_)
                refine lv_iinc (v := x5_15 + 1) (lv' := [(5, .int (x5_15 + 1)), (4, .int x4_15), (3, .int x3_15), (8, .int x7_22), (0, .ref (ad 0)), (1, .int x1_15), (2, .int x2_15), (6, .int x6_21), (7, .int x7_22)]) hx hb dX5_askOf_150 hl (k := 6) rfl (congrArg (fun z => x5_15 + z) (by decide)) (by decide) rfl (fun ls hl => ?_)
                refine lv_goto (tgt := 15) hx hb dX5_askOf_153 (by decide) ?_
                exact ih15 x3_15 x4_15 (x5_15 + 1) u24 _ _ _ hI hS (lv_sub hl [4, 5, 6, 2, 1, 0] rfl) hw hK15
              · have hw := hw.2 hc
                refine lv_iload hx hb dX5_askOf_141 (lv_at hl 1 rfl) ?_
                refine lv_goto (tgt := 148) hx hb dX5_askOf_143 (by decide) ?_
                refine lv_istore (lv' := [(4, .int x7_22), (3, .int x3_15), (8, .int x7_22), (0, .ref (ad 0)), (1, .int x1_15), (2, .int x2_15), (5, .int x5_15), (6, .int x6_21), (7, .int x7_22)]) hx hb dX5_askOf_148 hl (by decide) rfl (fun ls hl => ?_)
                refine lv_iinc (v := x5_15 + 1) (lv' := [(5, .int (x5_15 + 1)), (4, .int x7_22), (3, .int x3_15), (8, .int x7_22), (0, .ref (ad 0)), (1, .int x1_15), (2, .int x2_15), (6, .int x6_21), (7, .int x7_22)]) hx hb dX5_askOf_150 hl (k := 6) rfl (congrArg (fun z => x5_15 + z) (by decide)) (by decide) rfl (fun ls hl => ?_)
                refine lv_goto (tgt := 15) hx hb dX5_askOf_153 (by decide) ?_
                exact ih15 x3_15 x7_22 (x5_15 + 1) u24 _ _ _ hI hS (lv_sub hl [4, 5, 6, 2, 1, 0] rfl) hw hK15
            · have hw := hw.2 hc
              refine lv_iload hx hb dX5_askOf_127 (lv_at hl 6 rfl) ?_
              refine lv_goto (tgt := 133) hx hb dX5_askOf_129 (by decide) ?_
              refine lv_istore_n (lv' := [(3, .int x5_15), (8, .int x7_22), (0, .ref (ad 0)), (1, .int x1_15), (2, .int x2_15), (4, .int x4_15), (5, .int x5_15), (6, .int x6_21), (7, .int x7_22)]) hx hb dX5_askOf_133 rfl hl (by decide) rfl (fun ls hl => ?_)
              refine lv_iload hx hb dX5_askOf_134 (lv_at hl 1 rfl) ?_
              refine lv_iload hx hb dX5_askOf_136 (lv_at hl 5 rfl) ?_
              refine lv_icmp_ge (tgt := 146) hx hb dX5_askOf_138 (by decide) (fun hc => ?_) (fun hc => ?_)
              · have hw := hw.1 hc
                refine lv_iload hx hb dX5_askOf_146 (lv_at hl 5 rfl) ?_
                refine lv_istore (lv' := [(4, .int x4_15), (3, .int x5_15), (8, .int x7_22), (0, .ref (ad 0)), (1, .int x1_15), (2, .int x2_15), (5, .int x5_15), (6, .int x6_21), (7, .int x7_22)]) hx hb dX5_askOf_148 hl (by decide) rfl (fun ls hl => ?_)
                refine lv_iinc (v := x5_15 + 1) (lv' := [(5, .int (x5_15 + 1)), (4, .int x4_15), (3, .int x5_15), (8, .int x7_22), (0, .ref (ad 0)), (1, .int x1_15), (2, .int x2_15), (6, .int x6_21), (7, .int x7_22)]) hx hb dX5_askOf_150 hl (k := 6) rfl (congrArg (fun z => x5_15 + z) (by decide)) (by decide) rfl (fun ls hl => ?_)
                refine lv_goto (tgt := 15) hx hb dX5_askOf_153 (by decide) ?_
                exact ih15 x5_15 x4_15 (x5_15 + 1) u24 _ _ _ hI hS (lv_sub hl [4, 5, 6, 2, 1, 0] rfl) hw hK15
              · have hw := hw.2 hc
                refine lv_iload hx hb dX5_askOf_141 (lv_at hl 1 rfl) ?_
                refine lv_goto (tgt := 148) hx hb dX5_askOf_143 (by decide) ?_
                refine lv_istore (lv' := [(4, .int x7_22), (3, .int x5_15), (8, .int x7_22), (0, .ref (ad 0)), (1, .int x1_15), (2, .int x2_15), (5, .int x5_15), (6, .int x6_21), (7, .int x7_22)]) hx hb dX5_askOf_148 hl (by decide) rfl (fun ls hl => ?_)
                refine lv_iinc (v := x5_15 + 1) (lv' := [(5, .int (x5_15 + 1)), (4, .int x7_22), (3, .int x5_15), (8, .int x7_22), (0, .ref (ad 0)), (1, .int x1_15), (2, .int x2_15), (6, .int x6_21), (7, .int x7_22)]) hx hb dX5_askOf_150 hl (k := 6) rfl (congrArg (fun z => x5_15 + z) (by decide)) (by decide) rfl (fun ls hl => ?_)
                refine lv_goto (tgt := 15) hx hb dX5_askOf_153 (by decide) ?_
                exact ih15 x5_15 x7_22 (x5_15 + 1) u24 _ _ _ hI hS (lv_sub hl [4, 5, 6, 2, 1, 0] rfl) hw hK15
          · have hw := hw.2 hc
            refine lv_iload hx hb dX5_askOf_111 (lv_at hl 6 rfl) ?_
            refine lv_goto (tgt := 118) hx hb dX5_askOf_113 (by decide) ?_
            refine lv_istore (lv' := [(8, .int x6_21), (0, .ref (ad 0)), (1, .int x1_15), (2, .int x2_15), (3, .int x3_15), (4, .int x4_15), (5, .int x5_15), (6, .int x6_21), (7, .int x7_22)]) hx hb dX5_askOf_118 hl (by decide) rfl (fun ls hl => ?_)
            refine lv_iload hx hb dX5_askOf_120 (lv_at hl 0 rfl) ?_
            refine lv_iload hx hb dX5_askOf_122 (lv_at hl 5 rfl) ?_
            refine lv_icmp_ge (tgt := 132) hx hb dX5_askOf_124 (by decide) (fun hc => ?_) (fun hc => ?_)
            · have hw := hw.1 hc
              refine lv_iload_n hx hb dX5_askOf_132 rfl (lv_at hl 4 rfl) ?_
              refine lv_istore_n (lv' := [(3, .int x3_15), (8, .int x6_21), (0, .ref (ad 0)), (1, .int x1_15), (2, .int x2_15), (4, .int x4_15), (5, .int x5_15), (6, .int x6_21), (7, .int x7_22)]) hx hb dX5_askOf_133 rfl hl (by decide) rfl (fun ls hl => ?_)
              refine lv_iload hx hb dX5_askOf_134 (lv_at hl 1 rfl) ?_
              refine lv_iload hx hb dX5_askOf_136 (lv_at hl 5 rfl) ?_
              refine lv_icmp_ge (tgt := 146) hx hb dX5_askOf_138 (by decide) (fun hc => ?_) (fun hc => ?_)
              · have hw := hw.1 hc
                refine lv_iload hx hb dX5_askOf_146 (lv_at hl 5 rfl) ?_
                refine lv_istore (lv' := [(4, .int x4_15), (3, .int x3_15), (8, .int x6_21), (0, .ref (ad 0)), (1, .int x1_15), (2, .int x2_15), (5, .int x5_15), (6, .int x6_21), (7, .int x7_22)]) hx hb dX5_askOf_148 hl (by decide) rfl (fun ls hl => ?_)
                refine lv_iinc (v := x5_15 + 1) (lv' := [(5, .int (x5_15 + 1)), (4, .int x4_15), (3, .int x3_15), (8, .int x6_21), (0, .ref (ad 0)), (1, .int x1_15), (2, .int x2_15), (6, .int x6_21), (7, .int x7_22)]) hx hb dX5_askOf_150 hl (k := 6) rfl (congrArg (fun z => x5_15 + z) (by decide)) (by decide) rfl (fun ls hl => ?_)
                refine lv_goto (tgt := 15) hx hb dX5_askOf_153 (by decide) ?_
                exact ih15 x3_15 x4_15 (x5_15 + 1) u24 _ _ _ hI hS (lv_sub hl [4, 5, 6, 2, 1, 0] rfl) hw hK15
              · have hw := hw.2 hc
                refine lv_iload hx hb dX5_askOf_141 (lv_at hl 1 rfl) ?_
                refine lv_goto (tgt := 148) hx hb dX5_askOf_143 (by decide) ?_
                refine lv_istore (lv' := [(4, .int x6_21), (3, .int x3_15), (8, .int x6_21), (0, .ref (ad 0)), (1, .int x1_15), (2, .int x2_15), (5, .int x5_15), (6, .int x6_21), (7, .int x7_22)]) hx hb dX5_askOf_148 hl (by decide) rfl (fun ls hl => ?_)
                refine lv_iinc (v := x5_15 + 1) (lv' := [(5, .int (x5_15 + 1)), (4, .int x6_21), (3, .int x3_15), (8, .int x6_21), (0, .ref (ad 0)), (1, .int x1_15), (2, .int x2_15), (6, .int x6_21), (7, .int x7_22)]) hx hb dX5_askOf_150 hl (k := 6) rfl (congrArg (fun z => x5_15 + z) (by decide)) (by decide) rfl (fun ls hl => ?_)
                refine lv_goto (tgt := 15) hx hb dX5_askOf_153 (by decide) ?_
                exact ih15 x3_15 x6_21 (x5_15 + 1) u24 _ _ _ hI hS (lv_sub hl [4, 5, 6, 2, 1, 0] rfl) hw hK15
            · have hw := hw.2 hc
              refine lv_iload hx hb dX5_askOf_127 (lv_at hl 6 rfl) ?_
              refine lv_goto (tgt := 133) hx hb dX5_askOf_129 (by decide) ?_
              refine lv_istore_n (lv' := [(3, .int x5_15), (8, .int x6_21), (0, .ref (ad 0)), (1, .int x1_15), (2, .int x2_15), (4, .int x4_15), (5, .int x5_15), (6, .int x6_21), (7, .int x7_22)]) hx hb dX5_askOf_133 rfl hl (by decide) rfl (fun ls hl => ?_)
              refine lv_iload hx hb dX5_askOf_134 (lv_at hl 1 rfl) ?_
              refine lv_iload hx hb dX5_askOf_136 (lv_at hl 5 rfl) ?_
              refine lv_icmp_ge (tgt := 146) hx hb dX5_askOf_138 (by decide) (fun hc => ?_) (fun hc => ?_)
              · have hw := hw.1 hc
                refine lv_iload hx hb dX5_askOf_146 (lv_at hl 5 rfl) ?_
                refine lv_istore (lv' := [(4, .int x4_15), (3, .int x5_15), (8, .int x6_21), (0, .ref (ad 0)), (1, .int x1_15), (2, .int x2_15), (5, .int x5_15), (6, .int x6_21), (7, .int x7_22)]) hx hb dX5_askOf_148 hl (by decide) rfl (fun ls hl => ?_)
                refine lv_iinc (v := x5_15 + 1) (lv' := [(5, .int (x5_15 + 1)), (4, .int x4_15), (3, .int x5_15), (8, .int x6_21), (0, .ref (ad 0)), (1, .int x1_15), (2, .int x2_15), (6, .int x6_21), (7, .int x7_22)]) hx hb dX5_askOf_150 hl (k := 6) rfl (congrArg (fun z => x5_15 + z) (by decide)) (by decide) rfl (fun ls hl => ?_)
                refine lv_goto (tgt := 15) hx hb dX5_askOf_153 (by decide) ?_
                exact ih15 x5_15 x4_15 (x5_15 + 1) u24 _ _ _ hI hS (lv_sub hl [4, 5, 6, 2, 1, 0] rfl) hw hK15
              · have hw := hw.2 hc
                refine lv_iload hx hb dX5_askOf_141 (lv_at hl 1 rfl) ?_
                refine lv_goto (tgt := 148) hx hb dX5_askOf_143 (by decide) ?_
                refine lv_istore (lv' := [(4, .int x6_21), (3, .int x5_15), (8, .int x6_21), (0, .ref (ad 0)), (1, .int x1_15), (2, .int x2_15), (5, .int x5_15), (6, .int x6_21), (7, .int x7_22)]) hx hb dX5_askOf_148 hl (by decide) rfl (fun ls hl => ?_)
                refine lv_iinc (v := x5_15 + 1) (lv' := [(5, .int (x5_15 + 1)), (4, .int x6_21), (3, .int x5_15), (8, .int x6_21), (0, .ref (ad 0)), (1, .int x1_15), (2, .int x2_15), (6, .int x6_21), (7, .int x7_22)]) hx hb dX5_askOf_150 hl (k := 6) rfl (congrArg (fun z => x5_15 + z) (by decide)) (by decide) rfl (fun ls hl => ?_)
                refine lv_goto (tgt := 15) hx hb dX5_askOf_153 (by decide) ?_
                exact ih15 x5_15 x6_21 (x5_15 + 1) u24 _ _ _ hI hS (lv_sub hl [4, 5, 6, 2, 1, 0] rfl) hw hK15
  refine lv_aload_n hx hb dX5_askOf_0 rfl (lv_at hl 0 rfl) ?_
  refine lv_iload_n hx hb dX5_askOf_1 rfl (lv_at hl 1 rfl) ?_
  refine g_ci hg hS (g_runV S hg hI hN hS (As := [.int a1]) (rest := []) (tX5_sortsOf l D ad cI cB  _ _ _ hw) cv_yX5_sortsOf qm_X5_140 (va_recv hI.2.1 hI.1 (ci := 5) (q0 := 0) rfl rfl) ⟨Nat.le_of_ble_eq_true rfl, Nat.le_of_ble_eq_true rfl⟩ rfl hl.1 rfl (Nat.le_of_ble_eq_true rfl) dX5_askOf_2) (fun r1 u2 H locs hI hS hw => ?_)
  refine lv_istore_n (lv' := [(2, .int r1), (0, .ref (ad 0)), (1, .int a1)]) hx hb dX5_askOf_5 rfl hl (by decide) rfl (fun ls hl => ?_)
  refine lv_iconst (v := (-1 : Int32)) hx hb dX5_askOf_6 (by decide) ?_
  refine lv_istore_n (lv' := [(3, .int (-1 : Int32)), (2, .int r1), (0, .ref (ad 0)), (1, .int a1)]) hx hb dX5_askOf_7 rfl hl (by decide) rfl (fun ls hl => ?_)
  refine lv_ldc (v := (268435456 : Int32)) hx hb ho (g_in S qk_X5_183) dX5_askOf_8 ?_
  refine lv_istore (lv' := [(4, .int (268435456 : Int32)), (3, .int (-1 : Int32)), (2, .int r1), (0, .ref (ad 0)), (1, .int a1)]) hx hb dX5_askOf_10 hl (by decide) rfl (fun ls hl => ?_)
  refine lv_iconst (v := (0 : Int32)) hx hb dX5_askOf_12 (by decide) ?_
  refine lv_istore (lv' := [(5, .int (0 : Int32)), (4, .int (268435456 : Int32)), (3, .int (-1 : Int32)), (2, .int r1), (0, .ref (ad 0)), (1, .int a1)]) hx hb dX5_askOf_13 hl (by decide) rfl (fun ls hl => ?_)
  obtain ⟨n, hw⟩ := hw
  refine L15 a1 r1 _ n (-1 : Int32) (268435456 : Int32) (0 : Int32) u2 _ _ _ hI hS (lv_sub hl [4, 5, 3, 2, 1, 0] rfl) hw (fun x3_25 x4_26 x5_27 u28 H locs ls hI hS hl hw => ?_)
  refine lv_iload_n hx hb dX5_askOf_156 rfl (lv_at hl 3 rfl) ?_
  exact g_iret S hr hk hg hI hS dX5_askOf_157 hw
