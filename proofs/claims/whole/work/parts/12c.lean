set_option maxRecDepth 100000 in
set_option maxHeartbeats 4000000 in
theorem tX5_badOf (l : Launch) (D : va_G) (ad : Nat → Nat) (cI cB : ClassId)  (a1 : Int32) (u : SS) (post : Int32 → SS → Prop) (hw : wX5_badOf  a1 u post) : Met l yX5_badOf (Cond.code yX5_badOf cX5_badOf 4 (some .int) :: XT) (Rm 4) (va_Pc [.ref (ad 0), .int a1] (Pr (mI D ad cI cB) mN u)) (va_Qi post (Po (mI D ad cI cB)) (mA ad)) 0 0 (mA ad) := by
  refine g_of (A := (mA ad)) (by decide) (Nat.le_of_ble_eq_true rfl) (lv := [(0, .ref (ad 0)), (1, .int a1)]) rfl ?_
  intro p e s m below meth c ls S hr hk hI hN hS hl
  have hx := S.1
  have hb := S.2.1
  have ho := S.2.2.2.1
  have hg := @mG D ad cI cB
  have L14 : ∀ (x1_14 : Int32) (K14 : Int32 → Int32 → SS → Prop) (n : Nat) (x2_14 : Int32) (x3_14 : Int32) (u5 : SS) (H : Heap) (locs : List Loc) (ls : Array Slot), mI D ad cI cB u5 s H → va_S (mA ad) s.heap H locs → lv_has ls 4 [(0, .ref (ad 0)), (1, .int x1_14), (2, .int x2_14), (3, .int x3_14)] → wX5_badOf_14 post x1_14 K14 n x2_14 x3_14 u5 → (∀ (x2_14 : Int32) (x3_14 : Int32) (u5 : SS) (H : Heap) (locs : List Loc) (ls : Array Slot), mI D ad cI cB u5 s H → va_S (mA ad) s.heap H locs → lv_has ls 4 [(0, .ref (ad 0)), (1, .int x1_14), (2, .int x2_14), (3, .int x3_14)] → K14 x2_14 x3_14 u5 → W p l e (Rm 4) s m [.ref (ad 0), .int a1].toArray below meth c H locs 0 0 (MQ below (va_Qi post (Po (mI D ad cI cB)) (mA ad)) [.ref (ad 0), .int a1].toArray s 0 0 (mA ad)) (F0 m 71 ls [])) → W p l e (Rm 4) s m [.ref (ad 0), .int a1].toArray below meth c H locs 0 0 (MQ below (va_Qi post (Po (mI D ad cI cB)) (mA ad)) [.ref (ad 0), .int a1].toArray s 0 0 (mA ad)) (F0 m 14 ls []) := by
    intro x1_14 K14 n
    induction n with
    | zero => intro x2_14 x3_14 u5 H locs ls hI hS hl hw hK14; exact False.elim hw
    | succ n14 ih14 =>
      intro x2_14 x3_14 u5 H locs ls hI hS hl hw hK14
      refine lv_iload_n hx hb dX5_badOf_14 rfl (lv_at hl 3 rfl) ?_
      refine lv_aload_n hx hb dX5_badOf_15 rfl (lv_at hl 0 rfl) ?_
      refine mg_X5_0_101 S hI dX5_badOf_16 ?_
      refine lv_icmp_gt (tgt := 71) hx hb dX5_badOf_19 (by decide) (fun hc => ?_) (fun hc => ?_)
      · have hw := hw.1 hc
        exact hK14 x2_14 x3_14 u5 _ _ _ hI hS (lv_sub hl [0, 1, 2, 3] rfl) hw
      · have hw := hw.2 hc
        refine lv_iload_n hx hb dX5_badOf_22 rfl (lv_at hl 2 rfl) ?_
        refine lv_aload_n hx hb dX5_badOf_23 rfl (lv_at hl 0 rfl) ?_
        refine lv_iload_n hx hb dX5_badOf_24 rfl (lv_at hl 1 rfl) ?_
        refine lv_iload_n hx hb dX5_badOf_25 rfl (lv_at hl 3 rfl) ?_
        refine lv_iload_n hx hb dX5_badOf_26 rfl (lv_at hl 1 rfl) ?_
        refine lv_isub hx hb dX5_badOf_27 ?_
        refine lv_icmp_ge (tgt := 35) hx hb dX5_badOf_28 (by decide) (fun hc => ?_) (fun hc => ?_)
        · have hw := hw.1 hc
          refine lv_iload_n hx hb dX5_badOf_35 rfl (lv_at hl 3 rfl) ?_
          refine lv_iload_n hx hb dX5_badOf_36 rfl (lv_at hl 1 rfl) ?_
          refine lv_isub hx hb dX5_badOf_37 ?_
          refine lv_iload_n hx hb dX5_badOf_38 rfl (lv_at hl 1 rfl) ?_
          refine lv_iload_n hx hb dX5_badOf_39 rfl (lv_at hl 3 rfl) ?_
          refine lv_iload_n hx hb dX5_badOf_40 rfl (lv_at hl 1 rfl) ?_
          refine lv_isub hx hb dX5_badOf_41 ?_
          refine lv_icmp_ge (tgt := 51) hx hb dX5_badOf_42 (by decide) (fun hc => ?_) (fun hc => ?_)
          · have hw := hw.1 hc
            refine lv_iload_n hx hb dX5_badOf_51 rfl (lv_at hl 1 rfl) ?_
            refine g_ci hg hS (g_runV S hg hI hN hS (As := [.int (x3_14 - x1_14), .int x1_14]) (rest := [.int x2_14]) (tX5_isBad l D ad cI cB  _ _ _ _ hw) cv_yX5_isBad qm_X5_121 (va_recv hI.2.1 hI.1 (ci := 5) (q0 := 0) rfl rfl) ⟨Nat.le_of_ble_eq_true rfl, Nat.le_of_ble_eq_true rfl⟩ rfl hl.1 rfl (Nat.le_of_ble_eq_true rfl) dX5_badOf_52) (fun r6 u7 H locs hI hS hw => ?_)
            refine lv_if_eq (tgt := 62) hx hb dX5_badOf_55 (by decide) (fun hc => ?_) (fun hc => ?_)
            · have hw := hw.1 hc
              refine lv_iconst (v := (0 : Int32)) hx hb dX5_badOf_62 (by decide) ?_
              refine lv_iadd hx hb dX5_badOf_63 ?_
              refine lv_istore_n (lv' := [(2, .int (x2_14 + (0 : Int32))), (0, .ref (ad 0)), (1, .int x1_14), (3, .int x3_14)]) hx hb dX5_badOf_64 rfl hl (by decide) rfl (fun ls hl => ?_)
              refine lv_iinc (v := x3_14 + 1) (lv' := [(3, .int (x3_14 + 1)), (2, .int (x2_14 + (0 : Int32))), (0, .ref (ad 0)), (1, .int x1_14)]) hx hb dX5_badOf_65 hl (k := 3) rfl (congrArg (fun z => x3_14 + z) (by decide)) (by decide) rfl (fun ls hl => ?_)
              refine lv_goto (tgt := 14) hx hb dX5_badOf_68 (by decide) ?_
              exact ih14 (x2_14 + (0 : Int32)) (x3_14 + 1) u7 _ _ _ hI hS (lv_sub hl [2, 3, 1, 0] rfl) hw hK14
            · have hw := hw.2 hc
              refine lv_iconst (v := (1 : Int32)) hx hb dX5_badOf_58 (by decide) ?_
              refine lv_goto (tgt := 63) hx hb dX5_badOf_59 (by decide) ?_
              refine lv_iadd hx hb dX5_badOf_63 ?_
              refine lv_istore_n (lv' := [(2, .int (x2_14 + (1 : Int32))), (0, .ref (ad 0)), (1, .int x1_14), (3, .int x3_14)]) hx hb dX5_badOf_64 rfl hl (by decide) rfl (fun ls hl => ?_)
              refine lv_iinc (v := x3_14 + 1) (lv' := [(3, .int (x3_14 + 1)), (2, .int (x2_14 + (1 : Int32))), (0, .ref (ad 0)), (1, .int x1_14)]) hx hb dX5_badOf_65 hl (k := 3) rfl (congrArg (fun z => x3_14 + z) (by decide)) (by decide) rfl (fun ls hl => ?_)
              refine lv_goto (tgt := 14) hx hb dX5_badOf_68 (by decide) ?_
              exact ih14 (x2_14 + (1 : Int32)) (x3_14 + 1) u7 _ _ _ hI hS (lv_sub hl [2, 3, 1, 0] rfl) hw hK14
          · have hw := hw.2 hc
            refine lv_iload_n hx hb dX5_badOf_45 rfl (lv_at hl 3 rfl) ?_
            refine lv_iload_n hx hb dX5_badOf_46 rfl (lv_at hl 1 rfl) ?_
            refine lv_isub hx hb dX5_badOf_47 ?_
            refine lv_goto (tgt := 52) hx hb dX5_badOf_48 (by decide) ?_
            refine g_ci hg hS (g_runV S hg hI hN hS (As := [.int (x3_14 - x1_14), .int (x3_14 - x1_14)]) (rest := [.int x2_14]) (tX5_isBad l D ad cI cB  _ _ _ _ hw) cv_yX5_isBad qm_X5_121 (va_recv hI.2.1 hI.1 (ci := 5) (q0 := 0) rfl rfl) ⟨Nat.le_of_ble_eq_true rfl, Nat.le_of_ble_eq_true rfl⟩ rfl hl.1 rfl (Nat.le_of_ble_eq_true rfl) dX5_badOf_52) (fun r8 u9 H locs hI hS hw => ?_)
            refine lv_if_eq (tgt := 62) hx hb dX5_badOf_55 (by decide) (fun hc => ?_) (fun hc => ?_)
            · have hw := hw.1 hc
              refine lv_iconst (v := (0 : Int32)) hx hb dX5_badOf_62 (by decide) ?_
              refine lv_iadd hx hb dX5_badOf_63 ?_
              refine lv_istore_n (lv' := [(2, .int (x2_14 + (0 : Int32))), (0, .ref (ad 0)), (1, .int x1_14), (3, .int x3_14)]) hx hb dX5_badOf_64 rfl hl (by decide) rfl (fun ls hl => ?_)
              refine lv_iinc (v := x3_14 + 1) (lv' := [(3, .int (x3_14 + 1)), (2, .int (x2_14 + (0 : Int32))), (0, .ref (ad 0)), (1, .int x1_14)]) hx hb dX5_badOf_65 hl (k := 3) rfl (congrArg (fun z => x3_14 + z) (by decide)) (by decide) rfl (fun ls hl => ?_)
              refine lv_goto (tgt := 14) hx hb dX5_badOf_68 (by decide) ?_
              exact ih14 (x2_14 + (0 : Int32)) (x3_14 + 1) u9 _ _ _ hI hS (lv_sub hl [2, 3, 1, 0] rfl) hw hK14
            · have hw := hw.2 hc
              refine lv_iconst (v := (1 : Int32)) hx hb dX5_badOf_58 (by decide) ?_
              refine lv_goto (tgt := 63) hx hb dX5_badOf_59 (by decide) ?_
              refine lv_iadd hx hb dX5_badOf_63 ?_
              refine lv_istore_n (lv' := [(2, .int (x2_14 + (1 : Int32))), (0, .ref (ad 0)), (1, .int x1_14), (3, .int x3_14)]) hx hb dX5_badOf_64 rfl hl (by decide) rfl (fun ls hl => ?_)
              refine lv_iinc (v := x3_14 + 1) (lv' := [(3, .int (x3_14 + 1)), (2, .int (x2_14 + (1 : Int32))), (0, .ref (ad 0)), (1, .int x1_14)]) hx hb dX5_badOf_65 hl (k := 3) rfl (congrArg (fun z => x3_14 + z) (by decide)) (by decide) rfl (fun ls hl => ?_)
              refine lv_goto (tgt := 14) hx hb dX5_badOf_68 (by decide) ?_
              exact ih14 (x2_14 + (1 : Int32)) (x3_14 + 1) u9 _ _ _ hI hS (lv_sub hl [2, 3, 1, 0] rfl) hw hK14
        · have hw := hw.2 hc
          refine lv_iload_n hx hb dX5_badOf_31 rfl (lv_at hl 1 rfl) ?_
          refine lv_goto (tgt := 38) hx hb dX5_badOf_32 (by decide) ?_
          refine lv_iload_n hx hb dX5_badOf_38 rfl (lv_at hl 1 rfl) ?_
          refine lv_iload_n hx hb dX5_badOf_39 rfl (lv_at hl 3 rfl) ?_
          refine lv_iload_n hx hb dX5_badOf_40 rfl (lv_at hl 1 rfl) ?_
          refine lv_isub hx hb dX5_badOf_41 ?_
          refine lv_icmp_ge (tgt := 51) hx hb dX5_badOf_42 (by decide) (fun hc => ?_) (fun hc => ?_)
          · have hw := hw.1 hc
            refine lv_iload_n hx hb dX5_badOf_51 rfl (lv_at hl 1 rfl) ?_
            refine g_ci hg hS (g_runV S hg hI hN hS (As := [.int x1_14, .int x1_14]) (rest := [.int x2_14]) (tX5_isBad l D ad cI cB  _ _ _ _ hw) cv_yX5_isBad qm_X5_121 (va_recv hI.2.1 hI.1 (ci := 5) (q0 := 0) rfl rfl) ⟨Nat.le_of_ble_eq_true rfl, Nat.le_of_ble_eq_true rfl⟩ rfl hl.1 rfl (Nat.le_of_ble_eq_true rfl) dX5_badOf_52) (fun r10 u11 H locs hI hS hw => ?_)
            refine lv_if_eq (tgt := 62) hx hb dX5_badOf_55 (by decide) (fun hc => ?_) (fun hc => ?_)
            · have hw := hw.1 hc
              refine lv_iconst (v := (0 : Int32)) hx hb dX5_badOf_62 (by decide) ?_
              refine lv_iadd hx hb dX5_badOf_63 ?_
              refine lv_istore_n (lv' := [(2, .int (x2_14 + (0 : Int32))), (0, .ref (ad 0)), (1, .int x1_14), (3, .int x3_14)]) hx hb dX5_badOf_64 rfl hl (by decide) rfl (fun ls hl => ?_)
              refine lv_iinc (v := x3_14 + 1) (lv' := [(3, .int (x3_14 + 1)), (2, .int (x2_14 + (0 : Int32))), (0, .ref (ad 0)), (1, .int x1_14)]) hx hb dX5_badOf_65 hl (k := 3) rfl (congrArg (fun z => x3_14 + z) (by decide)) (by decide) rfl (fun ls hl => ?_)
              refine lv_goto (tgt := 14) hx hb dX5_badOf_68 (by decide) ?_
              exact ih14 (x2_14 + (0 : Int32)) (x3_14 + 1) u11 _ _ _ hI hS (lv_sub hl [2, 3, 1, 0] rfl) hw hK14
            · have hw := hw.2 hc
              refine lv_iconst (v := (1 : Int32)) hx hb dX5_badOf_58 (by decide) ?_
              refine lv_goto (tgt := 63) hx hb dX5_badOf_59 (by decide) ?_
              refine lv_iadd hx hb dX5_badOf_63 ?_
              refine lv_istore_n (lv' := [(2, .int (x2_14 + (1 : Int32))), (0, .ref (ad 0)), (1, .int x1_14), (3, .int x3_14)]) hx hb dX5_badOf_64 rfl hl (by decide) rfl (fun ls hl => ?_)
              refine lv_iinc (v := x3_14 + 1) (lv' := [(3, .int (x3_14 + 1)), (2, .int (x2_14 + (1 : Int32))), (0, .ref (ad 0)), (1, .int x1_14)]) hx hb dX5_badOf_65 hl (k := 3) rfl (congrArg (fun z => x3_14 + z) (by decide)) (by decide) rfl (fun ls hl => ?_)
              refine lv_goto (tgt := 14) hx hb dX5_badOf_68 (by decide) ?_
              exact ih14 (x2_14 + (1 : Int32)) (x3_14 + 1) u11 _ _ _ hI hS (lv_sub hl [2, 3, 1, 0] rfl) hw hK14
          · have hw := hw.2 hc
            refine lv_iload_n hx hb dX5_badOf_45 rfl (lv_at hl 3 rfl) ?_
            refine lv_iload_n hx hb dX5_badOf_46 rfl (lv_at hl 1 rfl) ?_
            refine lv_isub hx hb dX5_badOf_47 ?_
            refine lv_goto (tgt := 52) hx hb dX5_badOf_48 (by decide) ?_
            refine g_ci hg hS (g_runV S hg hI hN hS (As := [.int x1_14, .int (x3_14 - x1_14)]) (rest := [.int x2_14]) (tX5_isBad l D ad cI cB  _ _ _ _ hw) cv_yX5_isBad qm_X5_121 (va_recv hI.2.1 hI.1 (ci := 5) (q0 := 0) rfl rfl) ⟨Nat.le_of_ble_eq_true rfl, Nat.le_of_ble_eq_true rfl⟩ rfl hl.1 rfl (Nat.le_of_ble_eq_true rfl) dX5_badOf_52) (fun r12 u13 H locs hI hS hw => ?_)
            refine lv_if_eq (tgt := 62) hx hb dX5_badOf_55 (by decide) (fun hc => ?_) (fun hc => ?_)
            · have hw := hw.1 hc
              refine lv_iconst (v := (0 : Int32)) hx hb dX5_badOf_62 (by decide) ?_
              refine lv_iadd hx hb dX5_badOf_63 ?_
              refine lv_istore_n (lv' := [(2, .int (x2_14 + (0 : Int32))), (0, .ref (ad 0)), (1, .int x1_14), (3, .int x3_14)]) hx hb dX5_badOf_64 rfl hl (by decide) rfl (fun ls hl => ?_)
              refine lv_iinc (v := x3_14 + 1) (lv' := [(3, .int (x3_14 + 1)), (2, .int (x2_14 + (0 : Int32))), (0, .ref (ad 0)), (1, .int x1_14)]) hx hb dX5_badOf_65 hl (k := 3) rfl (congrArg (fun z => x3_14 + z) (by decide)) (by decide) rfl (fun ls hl => ?_)
              refine lv_goto (tgt := 14) hx hb dX5_badOf_68 (by decide) ?_
              exact ih14 (x2_14 + (0 : Int32)) (x3_14 + 1) u13 _ _ _ hI hS (lv_sub hl [2, 3, 1, 0] rfl) hw hK14
            · have hw := hw.2 hc
              refine lv_iconst (v := (1 : Int32)) hx hb dX5_badOf_58 (by decide) ?_
              refine lv_goto (tgt := 63) hx hb dX5_badOf_59 (by decide) ?_
              refine lv_iadd hx hb dX5_badOf_63 ?_
              refine lv_istore_n (lv' := [(2, .int (x2_14 + (1 : Int32))), (0, .ref (ad 0)), (1, .int x1_14), (3, .int x3_14)]) hx hb dX5_badOf_64 rfl hl (by decide) rfl (fun ls hl => ?_)
              refine lv_iinc (v := x3_14 + 1) (lv' := [(3, .int (x3_14 + 1)), (2, .int (x2_14 + (1 : Int32))), (0, .ref (ad 0)), (1, .int x1_14)]) hx hb dX5_badOf_65 hl (k := 3) rfl (congrArg (fun z => x3_14 + z) (by decide)) (by decide) rfl (fun ls hl => ?_)
              refine lv_goto (tgt := 14) hx hb dX5_badOf_68 (by decide) ?_
              exact ih14 (x2_14 + (1 : Int32)) (x3_14 + 1) u13 _ _ _ hI hS (lv_sub hl [2, 3, 1, 0] rfl) hw hK14
  refine lv_aload_n hx hb dX5_badOf_0 rfl (lv_at hl 0 rfl) ?_
  refine g_cv hg hS (g_runV S hg hI hN hS (As := []) (rest := []) (tX5_layNow l D ad cI cB   _ _ hw) cv_yX5_layNow qm_X5_128 (va_recv hI.2.1 hI.1 (ci := 5) (q0 := 0) rfl rfl) ⟨Nat.le_of_ble_eq_true rfl, Nat.le_of_ble_eq_true rfl⟩ rfl hl.1 rfl (Nat.le_of_ble_eq_true rfl) dX5_badOf_1) (fun u2 H locs hI hS hw => ?_)
  refine lv_aload_n hx hb dX5_badOf_4 rfl (lv_at hl 0 rfl) ?_
  refine lv_iload_n hx hb dX5_badOf_5 rfl (lv_at hl 1 rfl) ?_
  refine g_ci hg hS (g_runV S hg hI hN hS (As := [.int a1]) (rest := []) (tX5_badWith l D ad cI cB  _ _ _ hw) cv_yX5_badWith qm_X5_125 (va_recv hI.2.1 hI.1 (ci := 5) (q0 := 0) rfl rfl) ⟨Nat.le_of_ble_eq_true rfl, Nat.le_of_ble_eq_true rfl⟩ rfl hl.1 rfl (Nat.le_of_ble_eq_true rfl) dX5_badOf_6) (fun r3 u4 H locs hI hS hw => ?_)
  refine lv_istore_n (lv' := [(2, .int r3), (0, .ref (ad 0)), (1, .int a1)]) hx hb dX5_badOf_9 rfl hl (by decide) rfl (fun ls hl => ?_)
  refine lv_iload_n hx hb dX5_badOf_10 rfl (lv_at hl 2 rfl) ?_
  refine lv_iconst (v := (1 : Int32)) hx hb dX5_badOf_11 (by decide) ?_
  refine lv_iadd hx hb dX5_badOf_12 ?_
  refine lv_istore_n (lv' := [(3, .int (a1 + (1 : Int32))), (2, .int r3), (0, .ref (ad 0)), (1, .int a1)]) hx hb dX5_badOf_13 rfl hl (by decide) rfl (fun ls hl => ?_)
  obtain ⟨n, hw⟩ := hw
  refine L14 a1 _ n r3 (a1 + (1 : Int32)) u4 _ _ _ hI hS (lv_sub hl [2, 3, 1, 0] rfl) hw (fun x2_14 x3_15 u16 H locs ls hI hS hl hw => ?_)
  refine lv_iload_n hx hb dX5_badOf_71 rfl (lv_at hl 2 rfl) ?_
  exact g_iret S hr hk hg hI hS dX5_badOf_72 hw
set_option maxRecDepth 100000 in
set_option maxHeartbeats 4000000 in
theorem tX5_numberNow (l : Launch) (D : va_G) (ad : Nat → Nat) (cI cB : ClassId)  (a1 : Int32) (a2 : Int32) (u : SS) (post : Int32 → SS → Prop) (hw : wX5_numberNow  a1 a2 u post) : Met l yX5_numberNow (Cond.code yX5_numberNow cX5_numberNow 3 (some .int) :: XT) (Rm 6) (va_Pc [.ref (ad 0), .int a1, .int a2] (Pr (mI D ad cI cB) mN u)) (va_Qi post (Po (mI D ad cI cB)) (mA ad)) 0 0 (mA ad) := by
  refine g_of (A := (mA ad)) (by decide) (Nat.le_of_ble_eq_true rfl) (lv := [(0, .ref (ad 0)), (1, .int a1), (2, .int a2)]) rfl ?_
  intro p e s m below meth c ls S hr hk hI hN hS hl
  have hx := S.1
  have hb := S.2.1
  have ho := S.2.2.2.1
  have hg := @mG D ad cI cB
  refine lv_iload_n hx hb dX5_numberNow_0 rfl (lv_at hl 2 rfl) ?_
  have hsw := hw
  by_cases hk0 : a2 = (0 : Int32)
  · refine lv_tableIn (tgt := 36) (off := 35) hx hb dX5_numberNow_1 (by rw [hk0]; decide) (by rw [hk0]; decide) (by rw [hk0]; decide) (by decide) ?_
    have hw := hsw.1 hk0
    refine lv_aload_n hx hb dX5_numberNow_36 rfl (lv_at hl 0 rfl) ?_
    refine mg_X5_0_7 S hI dX5_numberNow_37 ?_
    refine lv_iload_n hx hb dX5_numberNow_40 rfl (lv_at hl 1 rfl) ?_
    obtain ⟨hv, hw⟩ := hw
    refine mld_0 S hI hv dX5_numberNow_41 ?_
    exact g_iret S hr hk hg hI hS dX5_numberNow_42 hw
  by_cases hk1 : a2 = (1 : Int32)
  · refine lv_tableIn (tgt := 43) (off := 42) hx hb dX5_numberNow_1 (by rw [hk1]; decide) (by rw [hk1]; decide) (by rw [hk1]; decide) (by decide) ?_
    have hw := hsw.2.1 hk1
    refine lv_aload_n hx hb dX5_numberNow_43 rfl (lv_at hl 0 rfl) ?_
    refine mg_X5_0_13 S hI dX5_numberNow_44 ?_
    refine lv_iload_n hx hb dX5_numberNow_47 rfl (lv_at hl 1 rfl) ?_
    obtain ⟨hv, hw⟩ := hw
    refine mld_1 S hI hv dX5_numberNow_48 ?_
    exact g_iret S hr hk hg hI hS dX5_numberNow_49 hw
  by_cases hk2 : a2 = (2 : Int32)
  · refine lv_tableIn (tgt := 50) (off := 49) hx hb dX5_numberNow_1 (by rw [hk2]; decide) (by rw [hk2]; decide) (by rw [hk2]; decide) (by decide) ?_
    have hw := hsw.2.2.1 hk2
    refine lv_aload_n hx hb dX5_numberNow_50 rfl (lv_at hl 0 rfl) ?_
    refine lv_iconst (v := (-1 : Int32)) hx hb dX5_numberNow_51 (by decide) ?_
    refine g_ci hg hS (g_runV S hg hI hN hS (As := [.int (-1 : Int32)]) (rest := []) (tX5_layWays l D ad cI cB  _ _ _ hw) cv_yX5_layWays qm_X5_134 (va_recv hI.2.1 hI.1 (ci := 5) (q0 := 0) rfl rfl) ⟨Nat.le_of_ble_eq_true rfl, Nat.le_of_ble_eq_true rfl⟩ rfl hl.1 rfl (Nat.le_of_ble_eq_true rfl) dX5_numberNow_52) (fun r1 u2 H locs hI hS hw => ?_)
    refine lv_pop hx hb dX5_numberNow_55 rfl ?_
    refine lv_aload_n hx hb dX5_numberNow_56 rfl (lv_at hl 0 rfl) ?_
    refine lv_iload_n hx hb dX5_numberNow_57 rfl (lv_at hl 1 rfl) ?_
    refine g_ci hg hS (g_runV S hg hI hN hS (As := [.int a1]) (rest := []) (tX5_sureOf l D ad cI cB  _ _ _ hw) cv_yX5_sureOf qm_X5_137 (va_recv hI.2.1 hI.1 (ci := 5) (q0 := 0) rfl rfl) ⟨Nat.le_of_ble_eq_true rfl, Nat.le_of_ble_eq_true rfl⟩ rfl hl.1 rfl (Nat.le_of_ble_eq_true rfl) dX5_numberNow_58) (fun r3 u4 H locs hI hS hw => ?_)
    exact g_iret S hr hk hg hI hS dX5_numberNow_61 hw
  by_cases hk3 : a2 = (3 : Int32)
  · refine lv_tableIn (tgt := 62) (off := 61) hx hb dX5_numberNow_1 (by rw [hk3]; decide) (by rw [hk3]; decide) (by rw [hk3]; decide) (by decide) ?_
    have hw := hsw.2.2.2.1 hk3
    refine lv_aload_n hx hb dX5_numberNow_62 rfl (lv_at hl 0 rfl) ?_
    refine lv_iload_n hx hb dX5_numberNow_63 rfl (lv_at hl 1 rfl) ?_
    refine g_ci hg hS (g_runV S hg hI hN hS (As := [.int a1]) (rest := []) (tX5_sortsOf l D ad cI cB  _ _ _ hw) cv_yX5_sortsOf qm_X5_140 (va_recv hI.2.1 hI.1 (ci := 5) (q0 := 0) rfl rfl) ⟨Nat.le_of_ble_eq_true rfl, Nat.le_of_ble_eq_true rfl⟩ rfl hl.1 rfl (Nat.le_of_ble_eq_true rfl) dX5_numberNow_64) (fun r5 u6 H locs hI hS hw => ?_)
    exact g_iret S hr hk hg hI hS dX5_numberNow_67 hw
  by_cases hk4 : a2 = (4 : Int32)
  · refine lv_tableIn (tgt := 68) (off := 67) hx hb dX5_numberNow_1 (by rw [hk4]; decide) (by rw [hk4]; decide) (by rw [hk4]; decide) (by decide) ?_
    have hw := hsw.2.2.2.2.1 hk4
    refine lv_aload_n hx hb dX5_numberNow_68 rfl (lv_at hl 0 rfl) ?_
    refine lv_iload_n hx hb dX5_numberNow_69 rfl (lv_at hl 1 rfl) ?_
    refine g_ci hg hS (g_runV S hg hI hN hS (As := [.int a1]) (rest := []) (tX5_askOf l D ad cI cB  _ _ _ hw) cv_yX5_askOf qm_X5_143 (va_recv hI.2.1 hI.1 (ci := 5) (q0 := 0) rfl rfl) ⟨Nat.le_of_ble_eq_true rfl, Nat.le_of_ble_eq_true rfl⟩ rfl hl.1 rfl (Nat.le_of_ble_eq_true rfl) dX5_numberNow_70) (fun r7 u8 H locs hI hS hw => ?_)
    exact g_iret S hr hk hg hI hS dX5_numberNow_73 hw
  have hw := hsw.2.2.2.2.2 hk0 hk1 hk2 hk3 hk4
  have hto : (a2).toInt < 0 ∨ 4 < (a2).toInt := by
    have t0 := lv_neT (a := 0) hk0 (by decide)
    have t1 := lv_neT (a := 1) hk1 (by decide)
    have t2 := lv_neT (a := 2) hk2 (by decide)
    have t3 := lv_neT (a := 3) hk3 (by decide)
    have t4 := lv_neT (a := 4) hk4 (by decide)
    omega
  refine lv_tableOut (tgt := 74) hx hb dX5_numberNow_1 hto (by decide) ?_
  refine lv_aload_n hx hb dX5_numberNow_74 rfl (lv_at hl 0 rfl) ?_
  refine lv_iload_n hx hb dX5_numberNow_75 rfl (lv_at hl 1 rfl) ?_
  refine g_ci hg hS (g_runV S hg hI hN hS (As := [.int a1]) (rest := []) (tX5_badOf l D ad cI cB  _ _ _ hw) cv_yX5_badOf qm_X5_146 (va_recv hI.2.1 hI.1 (ci := 5) (q0 := 0) rfl rfl) ⟨Nat.le_of_ble_eq_true rfl, Nat.le_of_ble_eq_true rfl⟩ rfl hl.1 rfl (Nat.le_of_ble_eq_true rfl) dX5_numberNow_76) (fun r9 u10 H locs hI hS hw => ?_)
  exact g_iret S hr hk hg hI hS dX5_numberNow_79 hw
set_option maxRecDepth 100000 in
set_option maxHeartbeats 4000000 in
theorem tX5_number (l : Launch) (D : va_G) (ad : Nat → Nat) (cI cB : ClassId)  (a1 : Int32) (a2 : Int32) (u : SS) (post : Int32 → SS → Prop) (hw : wX5_number  a1 a2 u post) : Met l yX5_number (Cond.code yX5_number cX5_number 3 (some .int) :: XT) (Rm 7) (va_Pc [.ref (ad 0), .int a1, .int a2] (Pr (mI D ad cI cB) mN u)) (va_Qi post (Po (mI D ad cI cB)) (mA ad)) 0 0 (mA ad) := by
  refine g_of (A := (mA ad)) (by decide) (Nat.le_of_ble_eq_true rfl) (lv := [(0, .ref (ad 0)), (1, .int a1), (2, .int a2)]) rfl ?_
  intro p e s m below meth c ls S hr hk hI hN hS hl
  have hx := S.1
  have hb := S.2.1
  have ho := S.2.2.2.1
  have hg := @mG D ad cI cB
  refine lv_aload_n hx hb dX5_number_0 rfl (lv_at hl 0 rfl) ?_
  refine lv_iload_n hx hb dX5_number_1 rfl (lv_at hl 1 rfl) ?_
  refine g_ci hg hS (g_runV S hg hI hN hS (As := [.int a1]) (rest := []) (tX5_isNumber l D ad cI cB  _ _ _ hw) cv_yX5_isNumber qm_X5_149 (va_recv hI.2.1 hI.1 (ci := 5) (q0 := 0) rfl rfl) ⟨Nat.le_of_ble_eq_true rfl, Nat.le_of_ble_eq_true rfl⟩ rfl hl.1 rfl (Nat.le_of_ble_eq_true rfl) dX5_number_2) (fun r1 u2 H locs hI hS hw => ?_)
  refine lv_if_ne (tgt := 13) hx hb dX5_number_5 (by decide) (fun hc => ?_) (fun hc => ?_)
  · have hw := hw.1 hc
    refine lv_iload_n hx hb dX5_number_13 rfl (lv_at hl 2 rfl) ?_
    refine lv_iconst (v := (0 : Int32)) hx hb dX5_number_14 (by decide) ?_
    refine lv_iconst (v := (5 : Int32)) hx hb dX5_number_15 (by decide) ?_
    refine g_ci hg hS (g_runS S hg hI hN hS (As := [.int a2, .int (0 : Int32), .int (5 : Int32)]) (rest := []) (tX5_within l D ad cI cB  _ _ _ _ _ hw) cs_yX5_within qm_X5_65 ⟨Nat.le_of_ble_eq_true rfl, Nat.le_of_ble_eq_true rfl⟩ rfl hl.1 rfl (Nat.le_of_ble_eq_true rfl) dX5_number_16) (fun r3 u4 H locs hI hS hw => ?_)
    refine lv_if_eq (tgt := 31) hx hb dX5_number_19 (by decide) (fun hc => ?_) (fun hc => ?_)
    · have hw := hw.1 hc
      refine lv_bipush (v := (-102 : Int32)) hx hb dX5_number_31 (by decide) ?_
      exact g_iret S hr hk hg hI hS dX5_number_33 hw
    · have hw := hw.2 hc
      refine lv_aload_n hx hb dX5_number_22 rfl (lv_at hl 0 rfl) ?_
      refine lv_iload_n hx hb dX5_number_23 rfl (lv_at hl 1 rfl) ?_
      refine lv_iload_n hx hb dX5_number_24 rfl (lv_at hl 2 rfl) ?_
      refine g_ci hg hS (g_runV S hg hI hN hS (As := [.int a1, .int a2]) (rest := []) (tX5_numberNow l D ad cI cB  _ _ _ _ hw) cv_yX5_numberNow qm_X5_152 (va_recv hI.2.1 hI.1 (ci := 5) (q0 := 0) rfl rfl) ⟨Nat.le_of_ble_eq_true rfl, Nat.le_of_ble_eq_true rfl⟩ rfl hl.1 rfl (Nat.le_of_ble_eq_true rfl) dX5_number_25) (fun r5 u6 H locs hI hS hw => ?_)
      refine lv_goto (tgt := 33) hx hb dX5_number_28 (by decide) ?_
      exact g_iret S hr hk hg hI hS dX5_number_33 hw
  · have hw := hw.2 hc
    refine lv_bipush (v := (-101 : Int32)) hx hb dX5_number_8 (by decide) ?_
    refine lv_goto (tgt := 33) hx hb dX5_number_10 (by decide) ?_
    exact g_iret S hr hk hg hI hS dX5_number_33 hw
set_option maxRecDepth 100000 in
set_option maxHeartbeats 4000000 in
theorem tX5_as (l : Launch) (D : va_G) (ad : Nat → Nat) (cI cB : ClassId)  (a1 : Int32) (a2 : Int32) (u : SS) (post : Int32 → SS → Prop) (hw : wX5_as  a1 a2 u post) : Met l yX5_as (Cond.code yX5_as cX5_as 4 (some .int) :: XT) (Rm 3) (va_Pc [.ref (ad 0), .int a1, .int a2] (Pr (mI D ad cI cB) mN u)) (va_Qi post (Po (mI D ad cI cB)) (mA ad)) 0 0 (mA ad) := by
  refine g_of (A := (mA ad)) (by decide) (Nat.le_of_ble_eq_true rfl) (lv := [(0, .ref (ad 0)), (1, .int a1), (2, .int a2)]) rfl ?_
  intro p e s m below meth c ls S hr hk hI hN hS hl
  have hx := S.1
  have hb := S.2.1
  have ho := S.2.2.2.1
  have hg := @mG D ad cI cB
  refine lv_aload_n hx hb dX5_as_0 rfl (lv_at hl 0 rfl) ?_
  refine lv_iload_n hx hb dX5_as_1 rfl (lv_at hl 1 rfl) ?_
  refine g_ci hg hS (g_runV S hg hI hN hS (As := [.int a1]) (rest := []) (tX5_isNumber l D ad cI cB  _ _ _ hw) cv_yX5_isNumber qm_X5_149 (va_recv hI.2.1 hI.1 (ci := 5) (q0 := 0) rfl rfl) ⟨Nat.le_of_ble_eq_true rfl, Nat.le_of_ble_eq_true rfl⟩ rfl hl.1 rfl (Nat.le_of_ble_eq_true rfl) dX5_as_2) (fun r1 u2 H locs hI hS hw => ?_)
  refine lv_if_ne (tgt := 11) hx hb dX5_as_5 (by decide) (fun hc => ?_) (fun hc => ?_)
  · have hw := hw.1 hc
    refine lv_iload_n hx hb dX5_as_11 rfl (lv_at hl 2 rfl) ?_
    refine lv_iconst (v := (0 : Int32)) hx hb dX5_as_12 (by decide) ?_
    refine lv_iconst (v := (4 : Int32)) hx hb dX5_as_13 (by decide) ?_
    refine g_ci hg hS (g_runS S hg hI hN hS (As := [.int a2, .int (0 : Int32), .int (4 : Int32)]) (rest := []) (tX5_within l D ad cI cB  _ _ _ _ _ hw) cs_yX5_within qm_X5_65 ⟨Nat.le_of_ble_eq_true rfl, Nat.le_of_ble_eq_true rfl⟩ rfl hl.1 rfl (Nat.le_of_ble_eq_true rfl) dX5_as_14) (fun r3 u4 H locs hI hS hw => ?_)
    refine lv_if_ne (tgt := 23) hx hb dX5_as_17 (by decide) (fun hc => ?_) (fun hc => ?_)
    · have hw := hw.1 hc
      refine lv_aload_n hx hb dX5_as_23 rfl (lv_at hl 0 rfl) ?_
      refine mg_X5_0_7 S hI dX5_as_24 ?_
      refine lv_iload_n hx hb dX5_as_27 rfl (lv_at hl 1 rfl) ?_
      obtain ⟨hv, hw⟩ := hw
      refine mld_0 S hI hv dX5_as_28 ?_
      refine lv_istore_n (lv' := [(3, .int (u4.2.2 0 a1.toNatClampNeg)), (0, .ref (ad 0)), (1, .int a1), (2, .int a2)]) hx hb dX5_as_29 rfl hl (by decide) rfl (fun ls hl => ?_)
      refine lv_iload_n hx hb dX5_as_30 rfl (lv_at hl 3 rfl) ?_
      refine lv_if_eq (tgt := 49) hx hb dX5_as_31 (by decide) (fun hc => ?_) (fun hc => ?_)
      · have hw := hw.1 hc
        refine lv_iload_n hx hb dX5_as_49 rfl (lv_at hl 2 rfl) ?_
        refine lv_goto (tgt := 54) hx hb dX5_as_50 (by decide) ?_
        exact g_iret S hr hk hg hI hS dX5_as_54 hw
      · have hw := hw.2 hc
        refine lv_iload_n hx hb dX5_as_34 rfl (lv_at hl 0 rfl) ?_
        refine lv_iload_n hx hb dX5_as_35 rfl (lv_at hl 3 rfl) ?_
        refine lv_icmp_eq (tgt := 49) hx hb dX5_as_36 (by decide) (fun hc => ?_) (fun hc => ?_)
        · have hw := hw.1 hc
          refine lv_iload_n hx hb dX5_as_49 rfl (lv_at hl 2 rfl) ?_
          refine lv_goto (tgt := 54) hx hb dX5_as_50 (by decide) ?_
          exact g_iret S hr hk hg hI hS dX5_as_54 hw
        · have hw := hw.2 hc
          refine lv_iload_n hx hb dX5_as_39 rfl (lv_at hl 3 rfl) ?_
          refine lv_iconst (v := (3 : Int32)) hx hb dX5_as_40 (by decide) ?_
          refine lv_icmp_ne (tgt := 53) hx hb dX5_as_41 (by decide) (fun hc => ?_) (fun hc => ?_)
          · have hw := hw.1 hc
            refine lv_iconst (v := (-1 : Int32)) hx hb dX5_as_53 (by decide) ?_
            exact g_iret S hr hk hg hI hS dX5_as_54 hw
          · have hw := hw.2 hc
            refine lv_iload_n hx hb dX5_as_44 rfl (lv_at hl 0 rfl) ?_
            refine lv_iconst (v := (4 : Int32)) hx hb dX5_as_45 (by decide) ?_
            refine lv_icmp_ne (tgt := 53) hx hb dX5_as_46 (by decide) (fun hc => ?_) (fun hc => ?_)
            · have hw := hw.1 hc
              refine lv_iconst (v := (-1 : Int32)) hx hb dX5_as_53 (by decide) ?_
              exact g_iret S hr hk hg hI hS dX5_as_54 hw
            · have hw := hw.2 hc
              refine lv_iload_n hx hb dX5_as_49 rfl (lv_at hl 2 rfl) ?_
              refine lv_goto (tgt := 54) hx hb dX5_as_50 (by decide) ?_
              exact g_iret S hr hk hg hI hS dX5_as_54 hw
    · have hw := hw.2 hc
      refine lv_bipush (v := (-102 : Int32)) hx hb dX5_as_20 (by decide) ?_
      exact g_iret S hr hk hg hI hS dX5_as_22 hw
  · have hw := hw.2 hc
    refine lv_bipush (v := (-101 : Int32)) hx hb dX5_as_8 (by decide) ?_
    exact g_iret S hr hk hg hI hS dX5_as_10 hw
set_option maxRecDepth 100000 in
set_option maxHeartbeats 4000000 in
theorem tX5_upNow (l : Launch) (D : va_G) (ad : Nat → Nat) (cI cB : ClassId)   (u : SS) (post : Int32 → SS → Prop) (hw : wX5_upNow   u post) : Met l yX5_upNow (Cond.code yX5_upNow cX5_upNow 3 (some .int) :: XT) (Rm 5) (va_Pc [.ref (ad 0)] (Pr (mI D ad cI cB) mN u)) (va_Qi post (Po (mI D ad cI cB)) (mA ad)) 0 0 (mA ad) := by
  refine g_of (A := (mA ad)) (by decide) (Nat.le_of_ble_eq_true rfl) (lv := [(0, .ref (ad 0))]) rfl ?_
  intro p e s m below meth c ls S hr hk hI hN hS hl
  have hx := S.1
  have hb := S.2.1
  have ho := S.2.2.2.1
  have hg := @mG D ad cI cB
  have L4 : ∀  (K4 : Int32 → Int32 → SS → Prop) (n : Nat) (x1_4 : Int32) (x2_4 : Int32) (u1 : SS) (H : Heap) (locs : List Loc) (ls : Array Slot), mI D ad cI cB u1 s H → va_S (mA ad) s.heap H locs → lv_has ls 3 [(0, .ref (ad 0)), (1, .int x1_4), (2, .int x2_4)] → wX5_upNow_4 post K4 n x1_4 x2_4 u1 → (∀ (x1_4 : Int32) (x2_4 : Int32) (u1 : SS) (H : Heap) (locs : List Loc) (ls : Array Slot), mI D ad cI cB u1 s H → va_S (mA ad) s.heap H locs → lv_has ls 3 [(0, .ref (ad 0)), (1, .int x1_4), (2, .int x2_4)] → K4 x1_4 x2_4 u1 → W p l e (Rm 5) s m [.ref (ad 0)].toArray below meth c H locs 0 0 (MQ below (va_Qi post (Po (mI D ad cI cB)) (mA ad)) [.ref (ad 0)].toArray s 0 0 (mA ad)) (F0 m 37 ls [])) → W p l e (Rm 5) s m [.ref (ad 0)].toArray below meth c H locs 0 0 (MQ below (va_Qi post (Po (mI D ad cI cB)) (mA ad)) [.ref (ad 0)].toArray s 0 0 (mA ad)) (F0 m 4 ls []) := by
    intro K4 n
    induction n with
    | zero => intro x1_4 x2_4 u1 H locs ls hI hS hl hw hK4; exact False.elim hw
    | succ n4 ih4 =>
      intro x1_4 x2_4 u1 H locs ls hI hS hl hw hK4
      refine lv_iload_n hx hb dX5_upNow_4 rfl (lv_at hl 2 rfl) ?_
      refine lv_aload_n hx hb dX5_upNow_5 rfl (lv_at hl 0 rfl) ?_
      refine mg_X5_0_101 S hI dX5_upNow_6 ?_
      refine lv_icmp_gt (tgt := 37) hx hb dX5_upNow_9 (by decide) (fun hc => ?_) (fun hc => ?_)
      · have hw := hw.1 hc
        exact hK4 x1_4 x2_4 u1 _ _ _ hI hS (lv_sub hl [0, 1, 2] rfl) hw
      · have hw := hw.2 hc
        refine lv_aload_n hx hb dX5_upNow_12 rfl (lv_at hl 0 rfl) ?_
        refine g_cv hg hS (g_runV S hg hI hN hS (As := []) (rest := []) (tX5_layNow l D ad cI cB   _ _ hw) cv_yX5_layNow qm_X5_128 (va_recv hI.2.1 hI.1 (ci := 5) (q0 := 0) rfl rfl) ⟨Nat.le_of_ble_eq_true rfl, Nat.le_of_ble_eq_true rfl⟩ rfl hl.1 rfl (Nat.le_of_ble_eq_true rfl) dX5_upNow_13) (fun u3 H locs hI hS hw => ?_)
        refine lv_aload_n hx hb dX5_upNow_16 rfl (lv_at hl 0 rfl) ?_
        refine lv_iconst (v := (1 : Int32)) hx hb dX5_upNow_17 (by decide) ?_
        refine lv_iload_n hx hb dX5_upNow_18 rfl (lv_at hl 2 rfl) ?_
        refine g_ci hg hS (g_runV S hg hI hN hS (As := [.int (1 : Int32), .int x2_4]) (rest := []) (tX5_goOn l D ad cI cB  _ _ _ _ hw) cv_yX5_goOn qm_X5_161 (va_recv hI.2.1 hI.1 (ci := 5) (q0 := 0) rfl rfl) ⟨Nat.le_of_ble_eq_true rfl, Nat.le_of_ble_eq_true rfl⟩ rfl hl.1 rfl (Nat.le_of_ble_eq_true rfl) dX5_upNow_19) (fun r4 u5 H locs hI hS hw => ?_)
        refine lv_if_le (tgt := 29) hx hb dX5_upNow_22 (by decide) (fun hc => ?_) (fun hc => ?_)
        · have hw := hw.1 hc
          refine lv_iload_n hx hb dX5_upNow_29 rfl (lv_at hl 1 rfl) ?_
          refine lv_istore_n (lv' := [(1, .int x1_4), (0, .ref (ad 0)), (2, .int x2_4)]) hx hb dX5_upNow_30 rfl hl (by decide) rfl (fun ls hl => ?_)
          refine lv_iinc (v := x2_4 + 1) (lv' := [(2, .int (x2_4 + 1)), (1, .int x1_4), (0, .ref (ad 0))]) hx hb dX5_upNow_31 hl (k := 2) rfl (congrArg (fun z => x2_4 + z) (by decide)) (by decide) rfl (fun ls hl => ?_)
          refine lv_goto (tgt := 4) hx hb dX5_upNow_34 (by decide) ?_
          exact ih4 x1_4 (x2_4 + 1) u5 _ _ _ hI hS (lv_sub hl [2, 1, 0] rfl) hw hK4
        · have hw := hw.2 hc
          refine lv_iload_n hx hb dX5_upNow_25 rfl (lv_at hl 2 rfl) ?_
          refine lv_goto (tgt := 30) hx hb dX5_upNow_26 (by decide) ?_
          refine lv_istore_n (lv' := [(1, .int x2_4), (0, .ref (ad 0)), (2, .int x2_4)]) hx hb dX5_upNow_30 rfl hl (by decide) rfl (fun ls hl => ?_)
          refine lv_iinc (v := x2_4 + 1) (lv' := [(2, .int (x2_4 + 1)), (1, .int x2_4), (0, .ref (ad 0))]) hx hb dX5_upNow_31 hl (k := 2) rfl (congrArg (fun z => x2_4 + z) (by decide)) (by decide) rfl (fun ls hl => ?_)
          refine lv_goto (tgt := 4) hx hb dX5_upNow_34 (by decide) ?_
          exact ih4 x2_4 (x2_4 + 1) u5 _ _ _ hI hS (lv_sub hl [2, 1, 0] rfl) hw hK4
  refine lv_iconst (v := (0 : Int32)) hx hb dX5_upNow_0 (by decide) ?_
  refine lv_istore_n (lv' := [(1, .int (0 : Int32)), (0, .ref (ad 0))]) hx hb dX5_upNow_1 rfl hl (by decide) rfl (fun ls hl => ?_)
  refine lv_iconst (v := (1 : Int32)) hx hb dX5_upNow_2 (by decide) ?_
  refine lv_istore_n (lv' := [(2, .int (1 : Int32)), (1, .int (0 : Int32)), (0, .ref (ad 0))]) hx hb dX5_upNow_3 rfl hl (by decide) rfl (fun ls hl => ?_)
  obtain ⟨n, hw⟩ := hw
  refine L4 _ n (0 : Int32) (1 : Int32) u _ _ _ hI hS (lv_sub hl [2, 1, 0] rfl) hw (fun x1_6 x2_7 u8 H locs ls hI hS hl hw => ?_)
  refine lv_iload_n hx hb dX5_upNow_37 rfl (lv_at hl 1 rfl) ?_
  exact g_iret S hr hk hg hI hS dX5_upNow_38 hw
set_option maxRecDepth 100000 in
set_option maxHeartbeats 4000000 in
theorem tX5_nextNow (l : Launch) (D : va_G) (ad : Nat → Nat) (cI cB : ClassId)   (u : SS) (post : Int32 → SS → Prop) (hw : wX5_nextNow   u post) : Met l yX5_nextNow (Cond.code yX5_nextNow cX5_nextNow 6 (some .int) :: XT) (Rm 6) (va_Pc [.ref (ad 0)] (Pr (mI D ad cI cB) mN u)) (va_Qi post (Po (mI D ad cI cB)) (mA ad)) 0 0 (mA ad) := by
  refine g_of (A := (mA ad)) (by decide) (Nat.le_of_ble_eq_true rfl) (lv := [(0, .ref (ad 0))]) rfl ?_
  intro p e s m below meth c ls S hr hk hI hN hS hl
  have hx := S.1
  have hb := S.2.1
  have ho := S.2.2.2.1
  have hg := @mG D ad cI cB
  have L23 : ∀ (x3_23 : Int32) (K23 : Int32 → Int32 → Int32 → SS → Prop) (n : Nat) (x1_23 : Int32) (x2_23 : Int32) (x4_23 : Int32) (u4 : SS) (H : Heap) (locs : List Loc) (ls : Array Slot), mI D ad cI cB u4 s H → va_S (mA ad) s.heap H locs → lv_has ls 6 [(0, .ref (ad 0)), (1, .int x1_23), (2, .int x2_23), (3, .int x3_23), (4, .int x4_23)] → wX5_nextNow_23 post x3_23 K23 n x1_23 x2_23 x4_23 u4 → (∀ (x1_23 : Int32) (x2_23 : Int32) (x4_23 : Int32) (u4 : SS) (H : Heap) (locs : List Loc) (ls : Array Slot), mI D ad cI cB u4 s H → va_S (mA ad) s.heap H locs → lv_has ls 6 [(0, .ref (ad 0)), (1, .int x1_23), (2, .int x2_23), (3, .int x3_23), (4, .int x4_23)] → K23 x1_23 x2_23 x4_23 u4 → W p l e (Rm 6) s m [.ref (ad 0)].toArray below meth c H locs 0 0 (MQ below (va_Qi post (Po (mI D ad cI cB)) (mA ad)) [.ref (ad 0)].toArray s 0 0 (mA ad)) (F0 m 108 ls [])) → W p l e (Rm 6) s m [.ref (ad 0)].toArray below meth c H locs 0 0 (MQ below (va_Qi post (Po (mI D ad cI cB)) (mA ad)) [.ref (ad 0)].toArray s 0 0 (mA ad)) (F0 m 23 ls []) := by
    intro x3_23 K23 n
    induction n with
    | zero => intro x1_23 x2_23 x4_23 u4 H locs ls hI hS hl hw hK23; exact False.elim hw
    | succ n23 ih23 =>
      intro x1_23 x2_23 x4_23 u4 H locs ls hI hS hl hw hK23
      refine lv_iload hx hb dX5_nextNow_23 (lv_at hl 4 rfl) ?_
      refine lv_aload_n hx hb dX5_nextNow_25 rfl (lv_at hl 0 rfl) ?_
      refine mg_X5_0_98 S hI dX5_nextNow_26 ?_
      refine lv_icmp_ge (tgt := 108) hx hb dX5_nextNow_29 (by decide) (fun hc => ?_) (fun hc => ?_)
      · have hw := hw.1 hc
        exact hK23 x1_23 x2_23 x4_23 u4 _ _ _ hI hS (lv_sub hl [0, 1, 2, 3, 4] rfl) hw
      · have hw := hw.2 hc
        refine lv_aload_n hx hb dX5_nextNow_32 rfl (lv_at hl 0 rfl) ?_
        refine mg_X5_0_13 S hI dX5_nextNow_33 ?_
        refine lv_iload_n hx hb dX5_nextNow_36 rfl (lv_at hl 3 rfl) ?_
        obtain ⟨hv, hw⟩ := hw
        refine mld_1 S hI hv dX5_nextNow_37 ?_
        refine lv_iconst (v := (-1 : Int32)) hx hb dX5_nextNow_38 (by decide) ?_
        refine lv_icmp_ne (tgt := 61) hx hb dX5_nextNow_39 (by decide) (fun hc => ?_) (fun hc => ?_)
        · have hw := hw.1 hc
          refine lv_iconst (v := (0 : Int32)) hx hb dX5_nextNow_61 (by decide) ?_
          refine lv_istore (lv' := [(5, .int (0 : Int32)), (0, .ref (ad 0)), (1, .int x1_23), (2, .int x2_23), (3, .int x3_23), (4, .int x4_23)]) hx hb dX5_nextNow_62 hl (by decide) rfl (fun ls hl => ?_)
          refine lv_iload hx hb dX5_nextNow_64 (lv_at hl 0 rfl) ?_
          refine lv_if_eq (tgt := 79) hx hb dX5_nextNow_66 (by decide) (fun hc => ?_) (fun hc => ?_)
          rotate_left
          · exact absurd (by decide) hc
          refine lv_iload_n hx hb dX5_nextNow_79 rfl (lv_at hl 2 rfl) ?_
          refine lv_istore_n (lv' := [(1, .int x1_23), (5, .int (0 : Int32)), (0, .ref (ad 0)), (2, .int x2_23), (3, .int x3_23), (4, .int x4_23)]) hx hb dX5_nextNow_80 rfl hl (by decide) rfl (fun ls hl => ?_)
          refine lv_iload hx hb dX5_nextNow_81 (lv_at hl 1 rfl) ?_
          refine lv_if_eq (tgt := 100) hx hb dX5_nextNow_83 (by decide) (fun hc => ?_) (fun hc => ?_)
          rotate_left
          · exact absurd (by decide) hc
          refine lv_iload_n hx hb dX5_nextNow_100 rfl (lv_at hl 3 rfl) ?_
          refine lv_istore_n (lv' := [(2, .int x2_23), (1, .int x1_23), (5, .int (0 : Int32)), (0, .ref (ad 0)), (3, .int x3_23), (4, .int x4_23)]) hx hb dX5_nextNow_101 rfl hl (by decide) rfl (fun ls hl => ?_)
          refine lv_iinc (v := x4_23 + 1) (lv' := [(4, .int (x4_23 + 1)), (2, .int x2_23), (1, .int x1_23), (5, .int (0 : Int32)), (0, .ref (ad 0)), (3, .int x3_23)]) hx hb dX5_nextNow_102 hl (k := 5) rfl (congrArg (fun z => x4_23 + z) (by decide)) (by decide) rfl (fun ls hl => ?_)
          refine lv_goto (tgt := 23) hx hb dX5_nextNow_105 (by decide) ?_
          exact ih23 x1_23 x2_23 (x4_23 + 1) u4 _ _ _ hI hS (lv_sub hl [4, 2, 1, 5, 0] rfl) hw hK23
        · have hw := hw.2 hc
          refine lv_aload_n hx hb dX5_nextNow_42 rfl (lv_at hl 0 rfl) ?_
          refine mg_X5_0_32 S hI dX5_nextNow_43 ?_
          refine lv_iconst (v := (3 : Int32)) hx hb dX5_nextNow_46 (by decide) ?_
          refine lv_iload_n hx hb dX5_nextNow_47 rfl (lv_at hl 3 rfl) ?_
          refine lv_imul hx hb dX5_nextNow_48 ?_
          refine lv_iload hx hb dX5_nextNow_49 (lv_at hl 4 rfl) ?_
          refine lv_iadd hx hb dX5_nextNow_51 ?_
          obtain ⟨hv, hw⟩ := hw
          refine mld_7 S hI hv dX5_nextNow_52 ?_
          refine lv_iload_n hx hb dX5_nextNow_53 rfl (lv_at hl 2 rfl) ?_
          refine lv_icmp_le (tgt := 61) hx hb dX5_nextNow_54 (by decide) (fun hc => ?_) (fun hc => ?_)
          · have hw := hw.1 hc
            refine lv_iconst (v := (0 : Int32)) hx hb dX5_nextNow_61 (by decide) ?_
            refine lv_istore (lv' := [(5, .int (0 : Int32)), (0, .ref (ad 0)), (1, .int x1_23), (2, .int x2_23), (3, .int x3_23), (4, .int x4_23)]) hx hb dX5_nextNow_62 hl (by decide) rfl (fun ls hl => ?_)
            refine lv_iload hx hb dX5_nextNow_64 (lv_at hl 0 rfl) ?_
            refine lv_if_eq (tgt := 79) hx hb dX5_nextNow_66 (by decide) (fun hc => ?_) (fun hc => ?_)
            rotate_left
            · exact absurd (by decide) hc
            refine lv_iload_n hx hb dX5_nextNow_79 rfl (lv_at hl 2 rfl) ?_
            refine lv_istore_n (lv' := [(1, .int x1_23), (5, .int (0 : Int32)), (0, .ref (ad 0)), (2, .int x2_23), (3, .int x3_23), (4, .int x4_23)]) hx hb dX5_nextNow_80 rfl hl (by decide) rfl (fun ls hl => ?_)
            refine lv_iload hx hb dX5_nextNow_81 (lv_at hl 1 rfl) ?_
            refine lv_if_eq (tgt := 100) hx hb dX5_nextNow_83 (by decide) (fun hc => ?_) (fun hc => ?_)
            rotate_left
            · exact absurd (by decide) hc
            refine lv_iload_n hx hb dX5_nextNow_100 rfl (lv_at hl 3 rfl) ?_
            refine lv_istore_n (lv' := [(2, .int x2_23), (1, .int x1_23), (5, .int (0 : Int32)), (0, .ref (ad 0)), (3, .int x3_23), (4, .int x4_23)]) hx hb dX5_nextNow_101 rfl hl (by decide) rfl (fun ls hl => ?_)
            refine lv_iinc (v := x4_23 + 1) (lv' := [(4, .int (x4_23 + 1)), (2, .int x2_23), (1, .int x1_23), (5, .int (0 : Int32)), (0, .ref (ad 0)), (3, .int x3_23)]) hx hb dX5_nextNow_102 hl (k := 5) rfl (congrArg (fun z => x4_23 + z) (by decide)) (by decide) rfl (fun ls hl => ?_)
            refine lv_goto (tgt := 23) hx hb dX5_nextNow_105 (by decide) ?_
            exact ih23 x1_23 x2_23 (x4_23 + 1) u4 _ _ _ hI hS (lv_sub hl [4, 2, 1, 5, 0] rfl) hw hK23
          · have hw := hw.2 hc
            refine lv_iconst (v := (1 : Int32)) hx hb dX5_nextNow_57 (by decide) ?_
            refine lv_goto (tgt := 62) hx hb dX5_nextNow_58 (by decide) ?_
            refine lv_istore (lv' := [(5, .int (1 : Int32)), (0, .ref (ad 0)), (1, .int x1_23), (2, .int x2_23), (3, .int x3_23), (4, .int x4_23)]) hx hb dX5_nextNow_62 hl (by decide) rfl (fun ls hl => ?_)
            refine lv_iload hx hb dX5_nextNow_64 (lv_at hl 0 rfl) ?_
            refine lv_if_eq (tgt := 79) hx hb dX5_nextNow_66 (by decide) (fun hc => ?_) (fun hc => ?_)
            · exact absurd hc (by decide)
            refine lv_bipush (v := (10 : Int32)) hx hb dX5_nextNow_69 (by decide) ?_
            refine lv_iload_n hx hb dX5_nextNow_71 rfl (lv_at hl 4 rfl) ?_
            refine lv_imul hx hb dX5_nextNow_72 ?_
            refine lv_iload hx hb dX5_nextNow_73 (lv_at hl 5 rfl) ?_
            refine lv_iadd hx hb dX5_nextNow_75 ?_
            refine lv_goto (tgt := 80) hx hb dX5_nextNow_76 (by decide) ?_
            refine lv_istore_n (lv' := [(1, .int (((10 : Int32) * x3_23) + x4_23)), (5, .int (1 : Int32)), (0, .ref (ad 0)), (2, .int x2_23), (3, .int x3_23), (4, .int x4_23)]) hx hb dX5_nextNow_80 rfl hl (by decide) rfl (fun ls hl => ?_)
            refine lv_iload hx hb dX5_nextNow_81 (lv_at hl 1 rfl) ?_
            refine lv_if_eq (tgt := 100) hx hb dX5_nextNow_83 (by decide) (fun hc => ?_) (fun hc => ?_)
            · exact absurd hc (by decide)
            refine lv_aload_n hx hb dX5_nextNow_86 rfl (lv_at hl 2 rfl) ?_
            refine mg_X5_0_32 S hI dX5_nextNow_87 ?_
            refine lv_iconst (v := (3 : Int32)) hx hb dX5_nextNow_90 (by decide) ?_
            refine lv_iload_n hx hb dX5_nextNow_91 rfl (lv_at hl 4 rfl) ?_
            refine lv_imul hx hb dX5_nextNow_92 ?_
            refine lv_iload hx hb dX5_nextNow_93 (lv_at hl 5 rfl) ?_
            refine lv_iadd hx hb dX5_nextNow_95 ?_
            obtain ⟨hv, hw⟩ := hw
            refine mld_7 S hI hv dX5_nextNow_96 ?_
            refine lv_goto (tgt := 101) hx hb dX5_nextNow_97 (by decide) ?_
            refine lv_istore_n (lv' := [(2, .int (u4.2.2 7 (((3 : Int32) * x3_23) + x4_23).toNatClampNeg)), (1, .int (((10 : Int32) * x3_23) + x4_23)), (5, .int (1 : Int32)), (0, .ref (ad 0)), (3, .int x3_23), (4, .int x4_23)]) hx hb dX5_nextNow_101 rfl hl (by decide) rfl (fun ls hl => ?_)
            refine lv_iinc (v := x4_23 + 1) (lv' := [(4, .int (x4_23 + 1)), (2, .int (u4.2.2 7 (((3 : Int32) * x3_23) + x4_23).toNatClampNeg)), (1, .int (((10 : Int32) * x3_23) + x4_23)), (5, .int (1 : Int32)), (0, .ref (ad 0)), (3, .int x3_23)]) hx hb dX5_nextNow_102 hl (k := 5) rfl (congrArg (fun z => x4_23 + z) (by decide)) (by decide) rfl (fun ls hl => ?_)
            refine lv_goto (tgt := 23) hx hb dX5_nextNow_105 (by decide) ?_
            exact ih23 (((10 : Int32) * x3_23) + x4_23) (u4.2.2 7 (((3 : Int32) * x3_23) + x4_23).toNatClampNeg) (x4_23 + 1) u4 _ _ _ hI hS (lv_sub hl [4, 2, 1, 5, 0] rfl) hw hK23
  have L12 : ∀  (K12 : Int32 → Int32 → Int32 → SS → Prop) (n : Nat) (x1_12 : Int32) (x2_12 : Int32) (x3_12 : Int32) (u3 : SS) (H : Heap) (locs : List Loc) (ls : Array Slot), mI D ad cI cB u3 s H → va_S (mA ad) s.heap H locs → lv_has ls 6 [(0, .ref (ad 0)), (1, .int x1_12), (2, .int x2_12), (3, .int x3_12)] → wX5_nextNow_12 post K12 n x1_12 x2_12 x3_12 u3 → (∀ (x1_12 : Int32) (x2_12 : Int32) (x3_12 : Int32) (u3 : SS) (H : Heap) (locs : List Loc) (ls : Array Slot), mI D ad cI cB u3 s H → va_S (mA ad) s.heap H locs → lv_has ls 6 [(0, .ref (ad 0)), (1, .int x1_12), (2, .int x2_12), (3, .int x3_12)] → K12 x1_12 x2_12 x3_12 u3 → W p l e (Rm 6) s m [.ref (ad 0)].toArray below meth c H locs 0 0 (MQ below (va_Qi post (Po (mI D ad cI cB)) (mA ad)) [.ref (ad 0)].toArray s 0 0 (mA ad)) (F0 m 114 ls [])) → W p l e (Rm 6) s m [.ref (ad 0)].toArray below meth c H locs 0 0 (MQ below (va_Qi post (Po (mI D ad cI cB)) (mA ad)) [.ref (ad 0)].toArray s 0 0 (mA ad)) (F0 m 12 ls []) := by
    intro K12 n
    induction n with
    | zero => intro x1_12 x2_12 x3_12 u3 H locs ls hI hS hl hw hK12; exact False.elim hw
    | succ n12 ih12 =>
      intro x1_12 x2_12 x3_12 u3 H locs ls hI hS hl hw hK12
      refine lv_iload_n hx hb dX5_nextNow_12 rfl (lv_at hl 3 rfl) ?_
      refine lv_aload_n hx hb dX5_nextNow_13 rfl (lv_at hl 0 rfl) ?_
      refine mg_X5_0_101 S hI dX5_nextNow_14 ?_
      refine lv_icmp_gt (tgt := 114) hx hb dX5_nextNow_17 (by decide) (fun hc => ?_) (fun hc => ?_)
      · have hw := hw.1 hc
        exact hK12 x1_12 x2_12 x3_12 u3 _ _ _ hI hS (lv_sub hl [0, 1, 2, 3] rfl) hw
      · have hw := hw.2 hc
        refine lv_iconst (v := (0 : Int32)) hx hb dX5_nextNow_20 (by decide) ?_
        refine lv_istore (lv' := [(4, .int (0 : Int32)), (0, .ref (ad 0)), (1, .int x1_12), (2, .int x2_12), (3, .int x3_12)]) hx hb dX5_nextNow_21 hl (by decide) rfl (fun ls hl => ?_)
        obtain ⟨n, hw⟩ := hw
        refine L23 x3_12 _ n x1_12 x2_12 (0 : Int32) u3 _ _ _ hI hS (lv_sub hl [1, 2, 3, 4, 0] rfl) hw (fun x1_5 x2_6 x4_7 u8 H locs ls hI hS hl hw => ?_)
        refine lv_iinc (v := x3_12 + 1) (lv' := [(3, .int (x3_12 + 1)), (0, .ref (ad 0)), (1, .int x1_5), (2, .int x2_6), (4, .int x4_7)]) hx hb dX5_nextNow_108 hl (k := 3) rfl (congrArg (fun z => x3_12 + z) (by decide)) (by decide) rfl (fun ls hl => ?_)
        refine lv_goto (tgt := 12) hx hb dX5_nextNow_111 (by decide) ?_
        exact ih12 x1_5 x2_6 (x3_12 + 1) u8 _ _ _ hI hS (lv_sub hl [1, 2, 3, 0] rfl) hw hK12
  refine lv_aload_n hx hb dX5_nextNow_0 rfl (lv_at hl 0 rfl) ?_
  refine lv_iconst (v := (-1 : Int32)) hx hb dX5_nextNow_1 (by decide) ?_
  refine g_ci hg hS (g_runV S hg hI hN hS (As := [.int (-1 : Int32)]) (rest := []) (tX5_layWays l D ad cI cB  _ _ _ hw) cv_yX5_layWays qm_X5_134 (va_recv hI.2.1 hI.1 (ci := 5) (q0 := 0) rfl rfl) ⟨Nat.le_of_ble_eq_true rfl, Nat.le_of_ble_eq_true rfl⟩ rfl hl.1 rfl (Nat.le_of_ble_eq_true rfl) dX5_nextNow_2) (fun r1 u2 H locs hI hS hw => ?_)
  refine lv_pop hx hb dX5_nextNow_5 rfl ?_
  refine lv_iconst (v := (-1 : Int32)) hx hb dX5_nextNow_6 (by decide) ?_
  refine lv_istore_n (lv' := [(1, .int (-1 : Int32)), (0, .ref (ad 0))]) hx hb dX5_nextNow_7 rfl hl (by decide) rfl (fun ls hl => ?_)
  refine lv_iconst (v := (0 : Int32)) hx hb dX5_nextNow_8 (by decide) ?_
  refine lv_istore_n (lv' := [(2, .int (0 : Int32)), (1, .int (-1 : Int32)), (0, .ref (ad 0))]) hx hb dX5_nextNow_9 rfl hl (by decide) rfl (fun ls hl => ?_)
  refine lv_iconst (v := (1 : Int32)) hx hb dX5_nextNow_10 (by decide) ?_
  refine lv_istore_n (lv' := [(3, .int (1 : Int32)), (2, .int (0 : Int32)), (1, .int (-1 : Int32)), (0, .ref (ad 0))]) hx hb dX5_nextNow_11 rfl hl (by decide) rfl (fun ls hl => ?_)
  obtain ⟨n, hw⟩ := hw
  refine L12 _ n (-1 : Int32) (0 : Int32) (1 : Int32) u2 _ _ _ hI hS (lv_sub hl [3, 2, 1, 0] rfl) hw (fun x1_9 x2_10 x3_11 u12 H locs ls hI hS hl hw => ?_)
  refine lv_iload_n hx hb dX5_nextNow_114 rfl (lv_at hl 1 rfl) ?_
  exact g_iret S hr hk hg hI hS dX5_nextNow_115 hw
set_option maxRecDepth 100000 in
set_option maxHeartbeats 4000000 in
theorem tX5_waysNow (l : Launch) (D : va_G) (ad : Nat → Nat) (cI cB : ClassId)  (a1 : Int32) (u : SS) (post : Int32 → SS → Prop) (hw : wX5_waysNow  a1 u post) : Met l yX5_waysNow (Cond.code yX5_waysNow cX5_waysNow 2 (some .int) :: XT) (Rm 7) (va_Pc [.ref (ad 0), .int a1] (Pr (mI D ad cI cB) mN u)) (va_Qi post (Po (mI D ad cI cB)) (mA ad)) 0 0 (mA ad) := by
  refine g_of (A := (mA ad)) (by decide) (Nat.le_of_ble_eq_true rfl) (lv := [(0, .ref (ad 0)), (1, .int a1)]) rfl ?_
  intro p e s m below meth c ls S hr hk hI hN hS hl
  have hx := S.1
  have hb := S.2.1
  have ho := S.2.2.2.1
  have hg := @mG D ad cI cB
  refine lv_iload_n hx hb dX5_waysNow_0 rfl (lv_at hl 1 rfl) ?_
  refine lv_if_ne (tgt := 12) hx hb dX5_waysNow_1 (by decide) (fun hc => ?_) (fun hc => ?_)
  · have hw := hw.1 hc
    refine lv_iload_n hx hb dX5_waysNow_12 rfl (lv_at hl 1 rfl) ?_
    refine lv_iconst (v := (1 : Int32)) hx hb dX5_waysNow_13 (by decide) ?_
    refine lv_icmp_ne (tgt := 24) hx hb dX5_waysNow_14 (by decide) (fun hc => ?_) (fun hc => ?_)
    · have hw := hw.1 hc
      refine lv_aload_n hx hb dX5_waysNow_24 rfl (lv_at hl 0 rfl) ?_
      refine g_ci hg hS (g_runV S hg hI hN hS (As := []) (rest := []) (tX5_upNow l D ad cI cB   _ _ hw) cv_yX5_upNow qm_X5_171 (va_recv hI.2.1 hI.1 (ci := 5) (q0 := 0) rfl rfl) ⟨Nat.le_of_ble_eq_true rfl, Nat.le_of_ble_eq_true rfl⟩ rfl hl.1 rfl (Nat.le_of_ble_eq_true rfl) dX5_waysNow_25) (fun r1 u2 H locs hI hS hw => ?_)
      exact g_iret S hr hk hg hI hS dX5_waysNow_28 hw
    · have hw := hw.2 hc
      refine lv_aload_n hx hb dX5_waysNow_17 rfl (lv_at hl 0 rfl) ?_
      refine g_ci hg hS (g_runV S hg hI hN hS (As := []) (rest := []) (tX5_nextNow l D ad cI cB   _ _ hw) cv_yX5_nextNow qm_X5_168 (va_recv hI.2.1 hI.1 (ci := 5) (q0 := 0) rfl rfl) ⟨Nat.le_of_ble_eq_true rfl, Nat.le_of_ble_eq_true rfl⟩ rfl hl.1 rfl (Nat.le_of_ble_eq_true rfl) dX5_waysNow_18) (fun r3 u4 H locs hI hS hw => ?_)
      refine lv_goto (tgt := 28) hx hb dX5_waysNow_21 (by decide) ?_
      exact g_iret S hr hk hg hI hS dX5_waysNow_28 hw
  · have hw := hw.2 hc
    refine lv_aload_n hx hb dX5_waysNow_4 rfl (lv_at hl 0 rfl) ?_
    refine lv_iconst (v := (-1 : Int32)) hx hb dX5_waysNow_5 (by decide) ?_
    refine g_ci hg hS (g_runV S hg hI hN hS (As := [.int (-1 : Int32)]) (rest := []) (tX5_layWays l D ad cI cB  _ _ _ hw) cv_yX5_layWays qm_X5_134 (va_recv hI.2.1 hI.1 (ci := 5) (q0 := 0) rfl rfl) ⟨Nat.le_of_ble_eq_true rfl, Nat.le_of_ble_eq_true rfl⟩ rfl hl.1 rfl (Nat.le_of_ble_eq_true rfl) dX5_waysNow_6) (fun r5 u6 H locs hI hS hw => ?_)
    refine lv_goto (tgt := 28) hx hb dX5_waysNow_9 (by decide) ?_
    exact g_iret S hr hk hg hI hS dX5_waysNow_28 hw
set_option maxRecDepth 100000 in
set_option maxHeartbeats 4000000 in
theorem tX5_ways (l : Launch) (D : va_G) (ad : Nat → Nat) (cI cB : ClassId)  (a1 : Int32) (u : SS) (post : Int32 → SS → Prop) (hw : wX5_ways  a1 u post) : Met l yX5_ways (Cond.code yX5_ways cX5_ways 2 (some .int) :: XT) (Rm 8) (va_Pc [.ref (ad 0), .int a1] (Pr (mI D ad cI cB) mN u)) (va_Qi post (Po (mI D ad cI cB)) (mA ad)) 0 0 (mA ad) := by
  refine g_of (A := (mA ad)) (by decide) (Nat.le_of_ble_eq_true rfl) (lv := [(0, .ref (ad 0)), (1, .int a1)]) rfl ?_
  intro p e s m below meth c ls S hr hk hI hN hS hl
  have hx := S.1
  have hb := S.2.1
  have ho := S.2.2.2.1
  have hg := @mG D ad cI cB
  refine lv_iload_n hx hb dX5_ways_0 rfl (lv_at hl 1 rfl) ?_
  refine lv_iconst (v := (0 : Int32)) hx hb dX5_ways_1 (by decide) ?_
  refine lv_iconst (v := (2 : Int32)) hx hb dX5_ways_2 (by decide) ?_
  refine g_ci hg hS (g_runS S hg hI hN hS (As := [.int a1, .int (0 : Int32), .int (2 : Int32)]) (rest := []) (tX5_within l D ad cI cB  _ _ _ _ _ hw) cs_yX5_within qm_X5_65 ⟨Nat.le_of_ble_eq_true rfl, Nat.le_of_ble_eq_true rfl⟩ rfl hl.1 rfl (Nat.le_of_ble_eq_true rfl) dX5_ways_3) (fun r1 u2 H locs hI hS hw => ?_)
  refine lv_if_ne (tgt := 12) hx hb dX5_ways_6 (by decide) (fun hc => ?_) (fun hc => ?_)
  · have hw := hw.1 hc
    refine lv_aload_n hx hb dX5_ways_12 rfl (lv_at hl 0 rfl) ?_
    refine mg_X5_0_101 S hI dX5_ways_13 ?_
    refine lv_if_ne (tgt := 24) hx hb dX5_ways_16 (by decide) (fun hc => ?_) (fun hc => ?_)
    · have hw := hw.1 hc
      refine lv_aload_n hx hb dX5_ways_24 rfl (lv_at hl 0 rfl) ?_
      refine lv_iload_n hx hb dX5_ways_25 rfl (lv_at hl 1 rfl) ?_
      refine g_ci hg hS (g_runV S hg hI hN hS (As := [.int a1]) (rest := []) (tX5_waysNow l D ad cI cB  _ _ _ hw) cv_yX5_waysNow qm_X5_174 (va_recv hI.2.1 hI.1 (ci := 5) (q0 := 0) rfl rfl) ⟨Nat.le_of_ble_eq_true rfl, Nat.le_of_ble_eq_true rfl⟩ rfl hl.1 rfl (Nat.le_of_ble_eq_true rfl) dX5_ways_26) (fun r3 u4 H locs hI hS hw => ?_)
      exact g_iret S hr hk hg hI hS dX5_ways_29 hw
    · have hw := hw.2 hc
      refine lv_bipush (v := (-103 : Int32)) hx hb dX5_ways_19 (by decide) ?_
      refine lv_goto (tgt := 29) hx hb dX5_ways_21 (by decide) ?_
      exact g_iret S hr hk hg hI hS dX5_ways_29 hw
  · have hw := hw.2 hc
    refine lv_bipush (v := (-102 : Int32)) hx hb dX5_ways_9 (by decide) ?_
    exact g_iret S hr hk hg hI hS dX5_ways_11 hw
set_option maxRecDepth 100000 in
set_option maxHeartbeats 4000000 in
theorem tX5_way (l : Launch) (D : va_G) (ad : Nat → Nat) (cI cB : ClassId)  (a1 : Int32) (a2 : Int32) (u : SS) (post : Int32 → SS → Prop) (hw : wX5_way  a1 a2 u post) : Met l yX5_way (Cond.code yX5_way cX5_way 3 (some .int) :: XT) (Rm 6) (va_Pc [.ref (ad 0), .int a1, .int a2] (Pr (mI D ad cI cB) mN u)) (va_Qi post (Po (mI D ad cI cB)) (mA ad)) 0 0 (mA ad) := by
  refine g_of (A := (mA ad)) (by decide) (Nat.le_of_ble_eq_true rfl) (lv := [(0, .ref (ad 0)), (1, .int a1), (2, .int a2)]) rfl ?_
  intro p e s m below meth c ls S hr hk hI hN hS hl
  have hx := S.1
  have hb := S.2.1
  have ho := S.2.2.2.1
  have hg := @mG D ad cI cB
  refine lv_aload_n hx hb dX5_way_0 rfl (lv_at hl 0 rfl) ?_
  refine lv_iload_n hx hb dX5_way_1 rfl (lv_at hl 2 rfl) ?_
  refine g_ci hg hS (g_runV S hg hI hN hS (As := [.int a2]) (rest := []) (tX5_isNumber l D ad cI cB  _ _ _ hw) cv_yX5_isNumber qm_X5_149 (va_recv hI.2.1 hI.1 (ci := 5) (q0 := 0) rfl rfl) ⟨Nat.le_of_ble_eq_true rfl, Nat.le_of_ble_eq_true rfl⟩ rfl hl.1 rfl (Nat.le_of_ble_eq_true rfl) dX5_way_2) (fun r1 u2 H locs hI hS hw => ?_)
  refine lv_if_eq (tgt := 21) hx hb dX5_way_5 (by decide) (fun hc => ?_) (fun hc => ?_)
  · have hw := hw.1 hc
    refine lv_bipush (v := (-101 : Int32)) hx hb dX5_way_21 (by decide) ?_
    exact g_iret S hr hk hg hI hS dX5_way_23 hw
  · have hw := hw.2 hc
    refine lv_iload_n hx hb dX5_way_8 rfl (lv_at hl 1 rfl) ?_
    refine lv_if_lt (tgt := 21) hx hb dX5_way_9 (by decide) (fun hc => ?_) (fun hc => ?_)
    · have hw := hw.1 hc
      refine lv_bipush (v := (-101 : Int32)) hx hb dX5_way_21 (by decide) ?_
      exact g_iret S hr hk hg hI hS dX5_way_23 hw
    · have hw := hw.2 hc
      refine lv_aload_n hx hb dX5_way_12 rfl (lv_at hl 0 rfl) ?_
      refine lv_iload_n hx hb dX5_way_13 rfl (lv_at hl 1 rfl) ?_
      refine g_ci hg hS (g_runV S hg hI hN hS (As := [.int a1]) (rest := []) (tX5_layWays l D ad cI cB  _ _ _ hw) cv_yX5_layWays qm_X5_134 (va_recv hI.2.1 hI.1 (ci := 5) (q0 := 0) rfl rfl) ⟨Nat.le_of_ble_eq_true rfl, Nat.le_of_ble_eq_true rfl⟩ rfl hl.1 rfl (Nat.le_of_ble_eq_true rfl) dX5_way_14) (fun r3 u4 H locs hI hS hw => ?_)
      refine lv_iload_n hx hb dX5_way_17 rfl (lv_at hl 1 rfl) ?_
      refine lv_icmp_gt (tgt := 24) hx hb dX5_way_18 (by decide) (fun hc => ?_) (fun hc => ?_)
      · have hw := hw.1 hc
        refine lv_aload_n hx hb dX5_way_24 rfl (lv_at hl 0 rfl) ?_
        refine mg_X5_0_35 S hI dX5_way_25 ?_
        refine lv_iload_n hx hb dX5_way_28 rfl (lv_at hl 2 rfl) ?_
        obtain ⟨hv, hw⟩ := hw
        refine mld_8 S hI hv dX5_way_29 ?_
        exact g_iret S hr hk hg hI hS dX5_way_30 hw
      · have hw := hw.2 hc
        refine lv_bipush (v := (-101 : Int32)) hx hb dX5_way_21 (by decide) ?_
        exact g_iret S hr hk hg hI hS dX5_way_23 hw
set_option maxRecDepth 100000 in
set_option maxHeartbeats 4000000 in
theorem tX5_isColour (l : Launch) (D : va_G) (ad : Nat → Nat) (cI cB : ClassId)  (a1 : Int32) (u : SS) (post : Int32 → SS → Prop) (hw : wX5_isColour  a1 u post) : Met l yX5_isColour (Cond.code yX5_isColour cX5_isColour 2 (some .boolean) :: XT) (Rm 2) (va_Pc [.ref (ad 0), .int a1] (Pr (mI D ad cI cB) mN u)) (va_Qi post (Po (mI D ad cI cB)) (mA ad)) 0 0 (mA ad) := by
  refine g_of (A := (mA ad)) (by decide) (Nat.le_of_ble_eq_true rfl) (lv := [(0, .ref (ad 0)), (1, .int a1)]) rfl ?_
  intro p e s m below meth c ls S hr hk hI hN hS hl
  have hx := S.1
  have hb := S.2.1
  have ho := S.2.2.2.1
  have hg := @mG D ad cI cB
  refine lv_iload_n hx hb dX5_isColour_0 rfl (lv_at hl 1 rfl) ?_
  refine lv_iconst (v := (0 : Int32)) hx hb dX5_isColour_1 (by decide) ?_
  refine lv_aload_n hx hb dX5_isColour_2 rfl (lv_at hl 0 rfl) ?_
  refine mg_X5_0_98 S hI dX5_isColour_3 ?_
  refine lv_iconst (v := (1 : Int32)) hx hb dX5_isColour_6 (by decide) ?_
  refine lv_isub hx hb dX5_isColour_7 ?_
  refine g_ci hg hS (g_runS S hg hI hN hS (As := [.int a1, .int (0 : Int32), .int ((u.1 2) - (1 : Int32))]) (rest := []) (tX5_within l D ad cI cB  _ _ _ _ _ hw) cs_yX5_within qm_X5_65 ⟨Nat.le_of_ble_eq_true rfl, Nat.le_of_ble_eq_true rfl⟩ rfl hl.1 rfl (Nat.le_of_ble_eq_true rfl) dX5_isColour_8) (fun r1 u2 H locs hI hS hw => ?_)
  obtain ⟨hv, hw⟩ := hw
  exact g_zret S hr hv hk hg hI hS dX5_isColour_11 hw
set_option maxRecDepth 100000 in
set_option maxHeartbeats 4000000 in
theorem tX5_badUpTo (l : Launch) (D : va_G) (ad : Nat → Nat) (cI cB : ClassId)  (a1 : Int32) (u : SS) (post : Int32 → SS → Prop) (hw : wX5_badUpTo  a1 u post) : Met l yX5_badUpTo (Cond.code yX5_badUpTo cX5_badUpTo 4 (some .int) :: XT) (Rm 4) (va_Pc [.ref (ad 0), .int a1] (Pr (mI D ad cI cB) mN u)) (va_Qi post (Po (mI D ad cI cB)) (mA ad)) 0 0 (mA ad) := by
  refine g_of (A := (mA ad)) (by decide) (Nat.le_of_ble_eq_true rfl) (lv := [(0, .ref (ad 0)), (1, .int a1)]) rfl ?_
  intro p e s m below meth c ls S hr hk hI hN hS hl
  have hx := S.1
  have hb := S.2.1
  have ho := S.2.2.2.1
  have hg := @mG D ad cI cB
  have L4 : ∀ (x1_4 : Int32) (K4 : Int32 → Int32 → SS → Prop) (n : Nat) (x2_4 : Int32) (x3_4 : Int32) (u1 : SS) (H : Heap) (locs : List Loc) (ls : Array Slot), mI D ad cI cB u1 s H → va_S (mA ad) s.heap H locs → lv_has ls 4 [(0, .ref (ad 0)), (1, .int x1_4), (2, .int x2_4), (3, .int x3_4)] → wX5_badUpTo_4 post x1_4 K4 n x2_4 x3_4 u1 → (∀ (x2_4 : Int32) (x3_4 : Int32) (u1 : SS) (H : Heap) (locs : List Loc) (ls : Array Slot), mI D ad cI cB u1 s H → va_S (mA ad) s.heap H locs → lv_has ls 4 [(0, .ref (ad 0)), (1, .int x1_4), (2, .int x2_4), (3, .int x3_4)] → K4 x2_4 x3_4 u1 → W p l e (Rm 4) s m [.ref (ad 0), .int a1].toArray below meth c H locs 0 0 (MQ below (va_Qi post (Po (mI D ad cI cB)) (mA ad)) [.ref (ad 0), .int a1].toArray s 0 0 (mA ad)) (F0 m 23 ls [])) → W p l e (Rm 4) s m [.ref (ad 0), .int a1].toArray below meth c H locs 0 0 (MQ below (va_Qi post (Po (mI D ad cI cB)) (mA ad)) [.ref (ad 0), .int a1].toArray s 0 0 (mA ad)) (F0 m 4 ls []) := by
    intro x1_4 K4 n
    induction n with
    | zero => intro x2_4 x3_4 u1 H locs ls hI hS hl hw hK4; exact False.elim hw
    | succ n4 ih4 =>
      intro x2_4 x3_4 u1 H locs ls hI hS hl hw hK4
      refine lv_iload_n hx hb dX5_badUpTo_4 rfl (lv_at hl 3 rfl) ?_
      refine lv_iload_n hx hb dX5_badUpTo_5 rfl (lv_at hl 1 rfl) ?_
      refine lv_icmp_gt (tgt := 23) hx hb dX5_badUpTo_6 (by decide) (fun hc => ?_) (fun hc => ?_)
      · have hw := hw.1 hc
        exact hK4 x2_4 x3_4 u1 _ _ _ hI hS (lv_sub hl [0, 1, 2, 3] rfl) hw
      · have hw := hw.2 hc
        refine lv_iload_n hx hb dX5_badUpTo_9 rfl (lv_at hl 2 rfl) ?_
        refine lv_aload_n hx hb dX5_badUpTo_10 rfl (lv_at hl 0 rfl) ?_
        refine lv_iload_n hx hb dX5_badUpTo_11 rfl (lv_at hl 3 rfl) ?_
        refine g_ci hg hS (g_runV S hg hI hN hS (As := [.int x3_4]) (rest := [.int x2_4]) (tX5_badWith l D ad cI cB  _ _ _ hw) cv_yX5_badWith qm_X5_125 (va_recv hI.2.1 hI.1 (ci := 5) (q0 := 0) rfl rfl) ⟨Nat.le_of_ble_eq_true rfl, Nat.le_of_ble_eq_true rfl⟩ rfl hl.1 rfl (Nat.le_of_ble_eq_true rfl) dX5_badUpTo_12) (fun r2 u3 H locs hI hS hw => ?_)
        refine lv_iadd hx hb dX5_badUpTo_15 ?_
        refine lv_istore_n (lv' := [(2, .int (x2_4 + r2)), (0, .ref (ad 0)), (1, .int x1_4), (3, .int x3_4)]) hx hb dX5_badUpTo_16 rfl hl (by decide) rfl (fun ls hl => ?_)
        refine lv_iinc (v := x3_4 + 1) (lv' := [(3, .int (x3_4 + 1)), (2, .int (x2_4 + r2)), (0, .ref (ad 0)), (1, .int x1_4)]) hx hb dX5_badUpTo_17 hl (k := 3) rfl (congrArg (fun z => x3_4 + z) (by decide)) (by decide) rfl (fun ls hl => ?_)
        refine lv_goto (tgt := 4) hx hb dX5_badUpTo_20 (by decide) ?_
        exact ih4 (x2_4 + r2) (x3_4 + 1) u3 _ _ _ hI hS (lv_sub hl [2, 3, 1, 0] rfl) hw hK4
  refine lv_iconst (v := (0 : Int32)) hx hb dX5_badUpTo_0 (by decide) ?_
  refine lv_istore_n (lv' := [(2, .int (0 : Int32)), (0, .ref (ad 0)), (1, .int a1)]) hx hb dX5_badUpTo_1 rfl hl (by decide) rfl (fun ls hl => ?_)
  refine lv_iconst (v := (2 : Int32)) hx hb dX5_badUpTo_2 (by decide) ?_
  refine lv_istore_n (lv' := [(3, .int (2 : Int32)), (2, .int (0 : Int32)), (0, .ref (ad 0)), (1, .int a1)]) hx hb dX5_badUpTo_3 rfl hl (by decide) rfl (fun ls hl => ?_)
  obtain ⟨n, hw⟩ := hw
  refine L4 a1 _ n (0 : Int32) (2 : Int32) u _ _ _ hI hS (lv_sub hl [2, 3, 1, 0] rfl) hw (fun x2_4 x3_5 u6 H locs ls hI hS hl hw => ?_)
  refine lv_iload_n hx hb dX5_badUpTo_23 rfl (lv_at hl 2 rfl) ?_
  exact g_iret S hr hk hg hI hS dX5_badUpTo_24 hw
set_option maxRecDepth 100000 in
set_option maxHeartbeats 4000000 in
theorem tX5_badNow (l : Launch) (D : va_G) (ad : Nat → Nat) (cI cB : ClassId)   (u : SS) (post : Int32 → SS → Prop) (hw : wX5_badNow   u post) : Met l yX5_badNow (Cond.code yX5_badNow cX5_badNow 1 (some .int) :: XT) (Rm 5) (va_Pc [.ref (ad 0)] (Pr (mI D ad cI cB) mN u)) (va_Qi post (Po (mI D ad cI cB)) (mA ad)) 0 0 (mA ad) := by
  refine g_of (A := (mA ad)) (by decide) (Nat.le_of_ble_eq_true rfl) (lv := [(0, .ref (ad 0))]) rfl ?_
  intro p e s m below meth c ls S hr hk hI hN hS hl
  have hx := S.1
  have hb := S.2.1
  have ho := S.2.2.2.1
  have hg := @mG D ad cI cB
  refine lv_aload_n hx hb dX5_badNow_0 rfl (lv_at hl 0 rfl) ?_
  refine g_cv hg hS (g_runV S hg hI hN hS (As := []) (rest := []) (tX5_layNow l D ad cI cB   _ _ hw) cv_yX5_layNow qm_X5_128 (va_recv hI.2.1 hI.1 (ci := 5) (q0 := 0) rfl rfl) ⟨Nat.le_of_ble_eq_true rfl, Nat.le_of_ble_eq_true rfl⟩ rfl hl.1 rfl (Nat.le_of_ble_eq_true rfl) dX5_badNow_1) (fun u2 H locs hI hS hw => ?_)
  refine lv_aload_n hx hb dX5_badNow_4 rfl (lv_at hl 0 rfl) ?_
  refine lv_aload_n hx hb dX5_badNow_5 rfl (lv_at hl 0 rfl) ?_
  refine mg_X5_0_101 S hI dX5_badNow_6 ?_
  refine g_ci hg hS (g_runV S hg hI hN hS (As := [.int (u2.1 1)]) (rest := []) (tX5_badUpTo l D ad cI cB  _ _ _ hw) cv_yX5_badUpTo qm_X5_131 (va_recv hI.2.1 hI.1 (ci := 5) (q0 := 0) rfl rfl) ⟨Nat.le_of_ble_eq_true rfl, Nat.le_of_ble_eq_true rfl⟩ rfl hl.1 rfl (Nat.le_of_ble_eq_true rfl) dX5_badNow_9) (fun r3 u4 H locs hI hS hw => ?_)
  exact g_iret S hr hk hg hI hS dX5_badNow_12 hw
set_option maxRecDepth 100000 in
set_option maxHeartbeats 4000000 in
theorem tX5_paint (l : Launch) (D : va_G) (ad : Nat → Nat) (cI cB : ClassId)  (a1 : Int32) (a2 : Int32) (u : SS) (post : Int32 → SS → Prop) (hw : wX5_paint  a1 a2 u post) : Met l yX5_paint (Cond.code yX5_paint cX5_paint 3 (some .int) :: XT) (Rm 6) (va_Pc [.ref (ad 0), .int a1, .int a2] (Pr (mI D ad cI cB) mN u)) (va_Qi post (Po (mI D ad cI cB)) (mA ad)) 0 0 (mA ad) := by
  refine g_of (A := (mA ad)) (by decide) (Nat.le_of_ble_eq_true rfl) (lv := [(0, .ref (ad 0)), (1, .int a1), (2, .int a2)]) rfl ?_
  intro p e s m below meth c ls S hr hk hI hN hS hl
  have hx := S.1
  have hb := S.2.1
  have ho := S.2.2.2.1
  have hg := @mG D ad cI cB
  refine lv_aload_n hx hb dX5_paint_0 rfl (lv_at hl 0 rfl) ?_
  refine lv_iload_n hx hb dX5_paint_1 rfl (lv_at hl 1 rfl) ?_
  refine g_ci hg hS (g_runV S hg hI hN hS (As := [.int a1]) (rest := []) (tX5_isNumber l D ad cI cB  _ _ _ hw) cv_yX5_isNumber qm_X5_149 (va_recv hI.2.1 hI.1 (ci := 5) (q0 := 0) rfl rfl) ⟨Nat.le_of_ble_eq_true rfl, Nat.le_of_ble_eq_true rfl⟩ rfl hl.1 rfl (Nat.le_of_ble_eq_true rfl) dX5_paint_2) (fun r1 u2 H locs hI hS hw => ?_)
  refine lv_if_ne (tgt := 11) hx hb dX5_paint_5 (by decide) (fun hc => ?_) (fun hc => ?_)
  · have hw := hw.1 hc
    refine lv_aload_n hx hb dX5_paint_11 rfl (lv_at hl 0 rfl) ?_
    refine lv_iload_n hx hb dX5_paint_12 rfl (lv_at hl 2 rfl) ?_
    refine g_ci hg hS (g_runV S hg hI hN hS (As := [.int a2]) (rest := []) (tX5_isColour l D ad cI cB  _ _ _ hw) cv_yX5_isColour qm_X5_177 (va_recv hI.2.1 hI.1 (ci := 5) (q0 := 0) rfl rfl) ⟨Nat.le_of_ble_eq_true rfl, Nat.le_of_ble_eq_true rfl⟩ rfl hl.1 rfl (Nat.le_of_ble_eq_true rfl) dX5_paint_13) (fun r3 u4 H locs hI hS hw => ?_)
    refine lv_if_ne (tgt := 22) hx hb dX5_paint_16 (by decide) (fun hc => ?_) (fun hc => ?_)
    · have hw := hw.1 hc
      refine lv_aload_n hx hb dX5_paint_22 rfl (lv_at hl 0 rfl) ?_
      refine mg_X5_0_104 S hI dX5_paint_23 ?_
      refine lv_sipush (v := (999 : Int32)) hx hb dX5_paint_26 (by decide) ?_
      refine lv_icmp_ne (tgt := 35) hx hb dX5_paint_29 (by decide) (fun hc => ?_) (fun hc => ?_)
      · have hw := hw.1 hc
        refine lv_aload_n hx hb dX5_paint_35 rfl (lv_at hl 0 rfl) ?_
        refine mg_X5_0_13 S hI dX5_paint_36 ?_
        refine lv_iload_n hx hb dX5_paint_39 rfl (lv_at hl 1 rfl) ?_
        refine lv_iload_n hx hb dX5_paint_40 rfl (lv_at hl 2 rfl) ?_
        obtain ⟨hv, hw⟩ := hw
        refine mst_1 S hI hS hv dX5_paint_41 (fun H locs hI hS => ?_)
        refine lv_aload_n hx hb dX5_paint_42 rfl (lv_at hl 0 rfl) ?_
        refine lv_dup hx hb dX5_paint_43 rfl ?_
        refine mg_X5_0_104 S hI dX5_paint_44 ?_
        refine lv_iconst (v := (1 : Int32)) hx hb dX5_paint_47 (by decide) ?_
        refine lv_iadd hx hb dX5_paint_48 ?_
        refine mp_X5_0_104 S hI hS dX5_paint_49 (fun H locs hI hS => ?_)
        refine lv_aload_n hx hb dX5_paint_52 rfl (lv_at hl 0 rfl) ?_
        refine g_ci hg hS (g_runV S hg hI hN hS (As := []) (rest := []) (tX5_badNow l D ad cI cB   _ _ hw) cv_yX5_badNow qm_X5_180 (va_recv hI.2.1 hI.1 (ci := 5) (q0 := 0) rfl rfl) ⟨Nat.le_of_ble_eq_true rfl, Nat.le_of_ble_eq_true rfl⟩ rfl hl.1 rfl (Nat.le_of_ble_eq_true rfl) dX5_paint_53) (fun r5 u6 H locs hI hS hw => ?_)
        exact g_iret S hr hk hg hI hS dX5_paint_56 hw
      · have hw := hw.2 hc
        refine lv_bipush (v := (-104 : Int32)) hx hb dX5_paint_32 (by decide) ?_
        exact g_iret S hr hk hg hI hS dX5_paint_34 hw
    · have hw := hw.2 hc
      refine lv_bipush (v := (-102 : Int32)) hx hb dX5_paint_19 (by decide) ?_
      exact g_iret S hr hk hg hI hS dX5_paint_21 hw
  · have hw := hw.2 hc
    refine lv_bipush (v := (-101 : Int32)) hx hb dX5_paint_8 (by decide) ?_
    exact g_iret S hr hk hg hI hS dX5_paint_10 hw
set_option maxRecDepth 100000 in
set_option maxHeartbeats 4000000 in
theorem tX5_wipe (l : Launch) (D : va_G) (ad : Nat → Nat) (cI cB : ClassId)  (a1 : Int32) (u : SS) (post : Int32 → SS → Prop) (hw : wX5_wipe  a1 u post) : Met l yX5_wipe (Cond.code yX5_wipe cX5_wipe 3 (some .int) :: XT) (Rm 3) (va_Pc [.ref (ad 0), .int a1] (Pr (mI D ad cI cB) mN u)) (va_Qi post (Po (mI D ad cI cB)) (mA ad)) 0 0 (mA ad) := by
  refine g_of (A := (mA ad)) (by decide) (Nat.le_of_ble_eq_true rfl) (lv := [(0, .ref (ad 0)), (1, .int a1)]) rfl ?_
  intro p e s m below meth c ls S hr hk hI hN hS hl
  have hx := S.1
  have hb := S.2.1
  have ho := S.2.2.2.1
  have hg := @mG D ad cI cB
  refine lv_aload_n hx hb dX5_wipe_0 rfl (lv_at hl 0 rfl) ?_
  refine lv_iload_n hx hb dX5_wipe_1 rfl (lv_at hl 1 rfl) ?_
  refine g_ci hg hS (g_runV S hg hI hN hS (As := [.int a1]) (rest := []) (tX5_isNumber l D ad cI cB  _ _ _ hw) cv_yX5_isNumber qm_X5_149 (va_recv hI.2.1 hI.1 (ci := 5) (q0 := 0) rfl rfl) ⟨Nat.le_of_ble_eq_true rfl, Nat.le_of_ble_eq_true rfl⟩ rfl hl.1 rfl (Nat.le_of_ble_eq_true rfl) dX5_wipe_2) (fun r1 u2 H locs hI hS hw => ?_)
  refine lv_if_ne (tgt := 11) hx hb dX5_wipe_5 (by decide) (fun hc => ?_) (fun hc => ?_)
  · have hw := hw.1 hc
    refine lv_aload_n hx hb dX5_wipe_11 rfl (lv_at hl 0 rfl) ?_
    refine mg_X5_0_13 S hI dX5_wipe_12 ?_
    refine lv_iload_n hx hb dX5_wipe_15 rfl (lv_at hl 1 rfl) ?_
    obtain ⟨hv, hw⟩ := hw
    refine mld_1 S hI hv dX5_wipe_16 ?_
    refine lv_iconst (v := (-1 : Int32)) hx hb dX5_wipe_17 (by decide) ?_
    refine lv_icmp_ne (tgt := 24) hx hb dX5_wipe_18 (by decide) (fun hc => ?_) (fun hc => ?_)
    · have hw := hw.1 hc
      refine lv_aload_n hx hb dX5_wipe_24 rfl (lv_at hl 0 rfl) ?_
      refine mg_X5_0_104 S hI dX5_wipe_25 ?_
      refine lv_sipush (v := (999 : Int32)) hx hb dX5_wipe_28 (by decide) ?_
      refine lv_icmp_ne (tgt := 37) hx hb dX5_wipe_31 (by decide) (fun hc => ?_) (fun hc => ?_)
      · have hw := hw.1 hc
        refine lv_aload_n hx hb dX5_wipe_37 rfl (lv_at hl 0 rfl) ?_
        refine mg_X5_0_13 S hI dX5_wipe_38 ?_
        refine lv_iload_n hx hb dX5_wipe_41 rfl (lv_at hl 1 rfl) ?_
        obtain ⟨hv, hw⟩ := hw
        refine mld_1 S hI hv dX5_wipe_42 ?_
        refine lv_istore_n (lv' := [(2, .int (u2.2.2 1 a1.toNatClampNeg)), (0, .ref (ad 0)), (1, .int a1)]) hx hb dX5_wipe_43 rfl hl (by decide) rfl (fun ls hl => ?_)
        refine lv_aload_n hx hb dX5_wipe_44 rfl (lv_at hl 1 rfl) ?_
        refine mg_X5_0_13 S hI dX5_wipe_45 ?_
        refine lv_iload_n hx hb dX5_wipe_48 rfl (lv_at hl 2 rfl) ?_
        refine lv_iconst (v := (-1 : Int32)) hx hb dX5_wipe_49 (by decide) ?_
        obtain ⟨hv, hw⟩ := hw
        refine mst_1 S hI hS hv dX5_wipe_50 (fun H locs hI hS => ?_)
        refine lv_aload_n hx hb dX5_wipe_51 rfl (lv_at hl 1 rfl) ?_
        refine lv_dup hx hb dX5_wipe_52 rfl ?_
        refine mg_X5_0_104 S hI dX5_wipe_53 ?_
        refine lv_iconst (v := (1 : Int32)) hx hb dX5_wipe_56 (by decide) ?_
        refine lv_iadd hx hb dX5_wipe_57 ?_
        refine mp_X5_0_104 S hI hS dX5_wipe_58 (fun H locs hI hS => ?_)
        refine lv_iload_n hx hb dX5_wipe_61 rfl (lv_at hl 0 rfl) ?_
        exact g_iret S hr hk hg hI hS dX5_wipe_62 hw
      · have hw := hw.2 hc
        refine lv_bipush (v := (-104 : Int32)) hx hb dX5_wipe_34 (by decide) ?_
        exact g_iret S hr hk hg hI hS dX5_wipe_36 hw
    · have hw := hw.2 hc
      refine lv_bipush (v := (-103 : Int32)) hx hb dX5_wipe_21 (by decide) ?_
      exact g_iret S hr hk hg hI hS dX5_wipe_23 hw
  · have hw := hw.2 hc
    refine lv_bipush (v := (-101 : Int32)) hx hb dX5_wipe_8 (by decide) ?_
    exact g_iret S hr hk hg hI hS dX5_wipe_10 hw
set_option maxRecDepth 100000 in
set_option maxHeartbeats 4000000 in
theorem tX5_be (l : Launch) (D : va_G) (ad : Nat → Nat) (cI cB : ClassId)  (a1 : Int32) (a2 : Int32) (u : SS) (post : Int32 → SS → Prop) (hw : wX5_be  a1 a2 u post) : Met l yX5_be (Cond.code yX5_be cX5_be 4 (some .int) :: XT) (Rm 3) (va_Pc [.ref (ad 0), .int a1, .int a2] (Pr (mI D ad cI cB) mN u)) (va_Qi post (Po (mI D ad cI cB)) (mA ad)) 0 0 (mA ad) := by
  refine g_of (A := (mA ad)) (by decide) (Nat.le_of_ble_eq_true rfl) (lv := [(0, .ref (ad 0)), (1, .int a1), (2, .int a2)]) rfl ?_
  intro p e s m below meth c ls S hr hk hI hN hS hl
  have hx := S.1
  have hb := S.2.1
  have ho := S.2.2.2.1
  have hg := @mG D ad cI cB
  refine lv_aload_n hx hb dX5_be_0 rfl (lv_at hl 0 rfl) ?_
  refine lv_iload_n hx hb dX5_be_1 rfl (lv_at hl 1 rfl) ?_
  refine g_ci hg hS (g_runV S hg hI hN hS (As := [.int a1]) (rest := []) (tX5_isNumber l D ad cI cB  _ _ _ hw) cv_yX5_isNumber qm_X5_149 (va_recv hI.2.1 hI.1 (ci := 5) (q0 := 0) rfl rfl) ⟨Nat.le_of_ble_eq_true rfl, Nat.le_of_ble_eq_true rfl⟩ rfl hl.1 rfl (Nat.le_of_ble_eq_true rfl) dX5_be_2) (fun r1 u2 H locs hI hS hw => ?_)
  refine lv_if_ne (tgt := 11) hx hb dX5_be_5 (by decide) (fun hc => ?_) (fun hc => ?_)
  · have hw := hw.1 hc
    refine lv_iload_n hx hb dX5_be_11 rfl (lv_at hl 2 rfl) ?_
    refine lv_iconst (v := (0 : Int32)) hx hb dX5_be_12 (by decide) ?_
    refine lv_iconst (v := (4 : Int32)) hx hb dX5_be_13 (by decide) ?_
    refine g_ci hg hS (g_runS S hg hI hN hS (As := [.int a2, .int (0 : Int32), .int (4 : Int32)]) (rest := []) (tX5_within l D ad cI cB  _ _ _ _ _ hw) cs_yX5_within qm_X5_65 ⟨Nat.le_of_ble_eq_true rfl, Nat.le_of_ble_eq_true rfl⟩ rfl hl.1 rfl (Nat.le_of_ble_eq_true rfl) dX5_be_14) (fun r3 u4 H locs hI hS hw => ?_)
    refine lv_if_ne (tgt := 23) hx hb dX5_be_17 (by decide) (fun hc => ?_) (fun hc => ?_)
    · have hw := hw.1 hc
      refine lv_aload_n hx hb dX5_be_23 rfl (lv_at hl 0 rfl) ?_
      refine mg_X5_0_7 S hI dX5_be_24 ?_
      refine lv_iload_n hx hb dX5_be_27 rfl (lv_at hl 1 rfl) ?_
      obtain ⟨hv, hw⟩ := hw
      refine mld_0 S hI hv dX5_be_28 ?_
      refine lv_istore_n (lv' := [(3, .int (u4.2.2 0 a1.toNatClampNeg)), (0, .ref (ad 0)), (1, .int a1), (2, .int a2)]) hx hb dX5_be_29 rfl hl (by decide) rfl (fun ls hl => ?_)
      refine lv_aload_n hx hb dX5_be_30 rfl (lv_at hl 1 rfl) ?_
      refine mg_X5_0_7 S hI dX5_be_31 ?_
      refine lv_iload_n hx hb dX5_be_34 rfl (lv_at hl 2 rfl) ?_
      refine lv_iload_n hx hb dX5_be_35 rfl (lv_at hl 3 rfl) ?_
      obtain ⟨hv, hw⟩ := hw
      refine mst_0 S hI hS hv dX5_be_36 (fun H locs hI hS => ?_)
      refine lv_iload_n hx hb dX5_be_37 rfl (lv_at hl 0 rfl) ?_
      exact g_iret S hr hk hg hI hS dX5_be_38 hw
    · have hw := hw.2 hc
      refine lv_bipush (v := (-102 : Int32)) hx hb dX5_be_20 (by decide) ?_
      exact g_iret S hr hk hg hI hS dX5_be_22 hw
  · have hw := hw.2 hc
    refine lv_bipush (v := (-101 : Int32)) hx hb dX5_be_8 (by decide) ?_
    exact g_iret S hr hk hg hI hS dX5_be_10 hw
