set_option maxRecDepth 100000 in
set_option maxHeartbeats 4000000 in
theorem tX5_mendNow (l : Launch) (D : va_G) (ad : Nat → Nat) (cI cB : ClassId)   (u : SS) (post : Int32 → SS → Prop) (hw : wX5_mendNow   u post) : Met l yX5_mendNow (Cond.code yX5_mendNow cX5_mendNow 5 (some .int) :: XT) (Rm 5) (va_Pc [.ref (ad 0)] (Pr (mI D ad cI cB) mN u)) (va_Qi post (Po (mI D ad cI cB)) (mA ad)) 0 0 (mA ad) := by
  refine g_of (A := (mA ad)) (by decide) (Nat.le_of_ble_eq_true rfl) (lv := [(0, .ref (ad 0))]) rfl ?_
  intro p e s m below meth c ls S hr hk hI hN hS hl
  have hx := S.1
  have hb := S.2.1
  have ho := S.2.2.2.1
  have hg := @mG D ad cI cB
  have L5 : ∀ (x1_5 : Int32) (K5 : Int32 → SS → Prop) (n : Nat) (x2_5 : Int32) (u1 : SS) (H : Heap) (locs : List Loc) (ls : Array Slot), mI D ad cI cB u1 s H → va_S (mA ad) s.heap H locs → lv_has ls 5 [(0, .ref (ad 0)), (1, .int x1_5), (2, .int x2_5)] → wX5_mendNow_5 post x1_5 K5 n x2_5 u1 → (∀ (x2_5 : Int32) (u1 : SS) (H : Heap) (locs : List Loc) (ls : Array Slot), mI D ad cI cB u1 s H → va_S (mA ad) s.heap H locs → lv_has ls 5 [(0, .ref (ad 0)), (1, .int x1_5), (2, .int x2_5)] → K5 x2_5 u1 → W p l e (Rm 5) s m [.ref (ad 0)].toArray below meth c H locs 0 0 (MQ below (va_Qi post (Po (mI D ad cI cB)) (mA ad)) [.ref (ad 0)].toArray s 0 0 (mA ad)) (F0 m 38 ls [])) → W p l e (Rm 5) s m [.ref (ad 0)].toArray below meth c H locs 0 0 (MQ below (va_Qi post (Po (mI D ad cI cB)) (mA ad)) [.ref (ad 0)].toArray s 0 0 (mA ad)) (F0 m 5 ls []) := by
    intro x1_5 K5 n
    induction n with
    | zero => intro x2_5 u1 H locs ls hI hS hl hw hK5; exact False.elim hw
    | succ n5 ih5 =>
      intro x2_5 u1 H locs ls hI hS hl hw hK5
      refine lv_iload_n hx hb dX5_mendNow_5 rfl (lv_at hl 2 rfl) ?_
      refine lv_aload_n hx hb dX5_mendNow_6 rfl (lv_at hl 0 rfl) ?_
      refine mg_X5_0_101 S hI dX5_mendNow_7 ?_
      refine lv_icmp_gt (tgt := 38) hx hb dX5_mendNow_10 (by decide) (fun hc => ?_) (fun hc => ?_)
      · have hw := hw.1 hc
        exact hK5 x2_5 u1 _ _ _ hI hS (lv_sub hl [0, 1, 2] rfl) hw
      · have hw := hw.2 hc
        refine lv_aload_n hx hb dX5_mendNow_13 rfl (lv_at hl 0 rfl) ?_
        refine mg_X5_0_38 S hI dX5_mendNow_14 ?_
        refine lv_iload_n hx hb dX5_mendNow_17 rfl (lv_at hl 2 rfl) ?_
        refine lv_aload_n hx hb dX5_mendNow_18 rfl (lv_at hl 0 rfl) ?_
        refine mg_X5_0_13 S hI dX5_mendNow_19 ?_
        refine lv_iload_n hx hb dX5_mendNow_22 rfl (lv_at hl 2 rfl) ?_
        obtain ⟨hv, hw⟩ := hw
        refine mld_1 S hI hv dX5_mendNow_23 ?_
        obtain ⟨hv, hw⟩ := hw
        refine mst_9 S hI hS hv dX5_mendNow_24 (fun H locs hI hS => ?_)
        refine lv_aload_n hx hb dX5_mendNow_25 rfl (lv_at hl 0 rfl) ?_
        refine mg_X5_0_13 S hI dX5_mendNow_26 ?_
        refine lv_iload_n hx hb dX5_mendNow_29 rfl (lv_at hl 2 rfl) ?_
        refine lv_iconst (v := (-1 : Int32)) hx hb dX5_mendNow_30 (by decide) ?_
        obtain ⟨hv, hw⟩ := hw
        refine mst_1 S hI hS hv dX5_mendNow_31 (fun H locs hI hS => ?_)
        refine lv_iinc (v := x2_5 + 1) (lv' := [(2, .int (x2_5 + 1)), (0, .ref (ad 0)), (1, .int x1_5)]) hx hb dX5_mendNow_32 hl (k := 2) rfl (congrArg (fun z => x2_5 + z) (by decide)) (by decide) rfl (fun ls hl => ?_)
        refine lv_goto (tgt := 5) hx hb dX5_mendNow_35 (by decide) ?_
        exact ih5 (x2_5 + 1) (sA (sA u1 9 x2_5.toNatClampNeg (u1.2.2 1 x2_5.toNatClampNeg)) 1 x2_5.toNatClampNeg (-1 : Int32)) _ _ _ hI hS (lv_sub hl [1, 2, 0] rfl) hw hK5
  have L61 : ∀ (x1_61 : Int32) (x2_61 : Int32) (K61 : Int32 → Int32 → SS → Prop) (n : Nat) (x3_61 : Int32) (x4_61 : Int32) (u9 : SS) (H : Heap) (locs : List Loc) (ls : Array Slot), mI D ad cI cB u9 s H → va_S (mA ad) s.heap H locs → lv_has ls 5 [(0, .ref (ad 0)), (1, .int x1_61), (2, .int x2_61), (3, .int x3_61), (4, .int x4_61)] → wX5_mendNow_61 post x1_61 x2_61 K61 n x3_61 x4_61 u9 → (∀ (x3_61 : Int32) (x4_61 : Int32) (u9 : SS) (H : Heap) (locs : List Loc) (ls : Array Slot), mI D ad cI cB u9 s H → va_S (mA ad) s.heap H locs → lv_has ls 5 [(0, .ref (ad 0)), (1, .int x1_61), (2, .int x2_61), (3, .int x3_61), (4, .int x4_61)] → K61 x3_61 x4_61 u9 → W p l e (Rm 5) s m [.ref (ad 0)].toArray below meth c H locs 0 0 (MQ below (va_Qi post (Po (mI D ad cI cB)) (mA ad)) [.ref (ad 0)].toArray s 0 0 (mA ad)) (F0 m 112 ls [])) → W p l e (Rm 5) s m [.ref (ad 0)].toArray below meth c H locs 0 0 (MQ below (va_Qi post (Po (mI D ad cI cB)) (mA ad)) [.ref (ad 0)].toArray s 0 0 (mA ad)) (F0 m 61 ls []) := by
    intro x1_61 x2_61 K61 n
    induction n with
    | zero => intro x3_61 x4_61 u9 H locs ls hI hS hl hw hK61; exact False.elim hw
    | succ n61 ih61 =>
      intro x3_61 x4_61 u9 H locs ls hI hS hl hw hK61
      refine lv_iload hx hb dX5_mendNow_61 (lv_at hl 4 rfl) ?_
      refine lv_aload_n hx hb dX5_mendNow_63 rfl (lv_at hl 0 rfl) ?_
      refine mg_X5_0_101 S hI dX5_mendNow_64 ?_
      refine lv_icmp_gt (tgt := 112) hx hb dX5_mendNow_67 (by decide) (fun hc => ?_) (fun hc => ?_)
      · have hw := hw.1 hc
        exact hK61 x3_61 x4_61 u9 _ _ _ hI hS (lv_sub hl [0, 1, 2, 3, 4] rfl) hw
      · have hw := hw.2 hc
        refine lv_iload_n hx hb dX5_mendNow_70 rfl (lv_at hl 3 rfl) ?_
        refine lv_aload_n hx hb dX5_mendNow_71 rfl (lv_at hl 0 rfl) ?_
        refine mg_X5_0_38 S hI dX5_mendNow_72 ?_
        refine lv_iload hx hb dX5_mendNow_75 (lv_at hl 4 rfl) ?_
        obtain ⟨hv, hw⟩ := hw
        refine mld_9 S hI hv dX5_mendNow_77 ?_
        refine lv_iconst (v := (-1 : Int32)) hx hb dX5_mendNow_78 (by decide) ?_
        refine lv_icmp_eq (tgt := 103) hx hb dX5_mendNow_79 (by decide) (fun hc => ?_) (fun hc => ?_)
        · have hw := hw.1 hc
          refine lv_iconst (v := (0 : Int32)) hx hb dX5_mendNow_103 (by decide) ?_
          refine lv_iadd hx hb dX5_mendNow_104 ?_
          refine lv_istore_n (lv' := [(3, .int (x3_61 + (0 : Int32))), (0, .ref (ad 0)), (1, .int x1_61), (2, .int x2_61), (4, .int x4_61)]) hx hb dX5_mendNow_105 rfl hl (by decide) rfl (fun ls hl => ?_)
          refine lv_iinc (v := x4_61 + 1) (lv' := [(4, .int (x4_61 + 1)), (3, .int (x3_61 + (0 : Int32))), (0, .ref (ad 0)), (1, .int x1_61), (2, .int x2_61)]) hx hb dX5_mendNow_106 hl (k := 4) rfl (congrArg (fun z => x4_61 + z) (by decide)) (by decide) rfl (fun ls hl => ?_)
          refine lv_goto (tgt := 61) hx hb dX5_mendNow_109 (by decide) ?_
          exact ih61 (x3_61 + (0 : Int32)) (x4_61 + 1) u9 _ _ _ hI hS (lv_sub hl [2, 3, 4, 1, 0] rfl) hw hK61
        · have hw := hw.2 hc
          refine lv_aload_n hx hb dX5_mendNow_82 rfl (lv_at hl 0 rfl) ?_
          refine mg_X5_0_38 S hI dX5_mendNow_83 ?_
          refine lv_iload hx hb dX5_mendNow_86 (lv_at hl 4 rfl) ?_
          obtain ⟨hv, hw⟩ := hw
          refine mld_9 S hI hv dX5_mendNow_88 ?_
          refine lv_aload_n hx hb dX5_mendNow_89 rfl (lv_at hl 0 rfl) ?_
          refine mg_X5_0_29 S hI dX5_mendNow_90 ?_
          refine lv_iload hx hb dX5_mendNow_93 (lv_at hl 4 rfl) ?_
          obtain ⟨hv, hw⟩ := hw
          refine mld_6 S hI hv dX5_mendNow_95 ?_
          refine lv_icmp_eq (tgt := 103) hx hb dX5_mendNow_96 (by decide) (fun hc => ?_) (fun hc => ?_)
          · have hw := hw.1 hc
            refine lv_iconst (v := (0 : Int32)) hx hb dX5_mendNow_103 (by decide) ?_
            refine lv_iadd hx hb dX5_mendNow_104 ?_
            refine lv_istore_n (lv' := [(3, .int (x3_61 + (0 : Int32))), (0, .ref (ad 0)), (1, .int x1_61), (2, .int x2_61), (4, .int x4_61)]) hx hb dX5_mendNow_105 rfl hl (by decide) rfl (fun ls hl => ?_)
            refine lv_iinc (v := x4_61 + 1) (lv' := [(4, .int (x4_61 + 1)), (3, .int (x3_61 + (0 : Int32))), (0, .ref (ad 0)), (1, .int x1_61), (2, .int x2_61)]) hx hb dX5_mendNow_106 hl (k := 4) rfl (congrArg (fun z => x4_61 + z) (by decide)) (by decide) rfl (fun ls hl => ?_)
            refine lv_goto (tgt := 61) hx hb dX5_mendNow_109 (by decide) ?_
            exact ih61 (x3_61 + (0 : Int32)) (x4_61 + 1) u9 _ _ _ hI hS (lv_sub hl [2, 3, 4, 1, 0] rfl) hw hK61
          · have hw := hw.2 hc
            refine lv_iconst (v := (1 : Int32)) hx hb dX5_mendNow_99 (by decide) ?_
            refine lv_goto (tgt := 104) hx hb dX5_mendNow_100 (by decide) ?_
            refine lv_iadd hx hb dX5_mendNow_104 ?_
            refine lv_istore_n (lv' := [(3, .int (x3_61 + (1 : Int32))), (0, .ref (ad 0)), (1, .int x1_61), (2, .int x2_61), (4, .int x4_61)]) hx hb dX5_mendNow_105 rfl hl (by decide) rfl (fun ls hl => ?_)
            refine lv_iinc (v := x4_61 + 1) (lv' := [(4, .int (x4_61 + 1)), (3, .int (x3_61 + (1 : Int32))), (0, .ref (ad 0)), (1, .int x1_61), (2, .int x2_61)]) hx hb dX5_mendNow_106 hl (k := 4) rfl (congrArg (fun z => x4_61 + z) (by decide)) (by decide) rfl (fun ls hl => ?_)
            refine lv_goto (tgt := 61) hx hb dX5_mendNow_109 (by decide) ?_
            exact ih61 (x3_61 + (1 : Int32)) (x4_61 + 1) u9 _ _ _ hI hS (lv_sub hl [2, 3, 4, 1, 0] rfl) hw hK61
  have L52 : ∀  (K52 : Int32 → Int32 → SS → Prop) (n : Nat) (x1_52 : Int32) (x2_52 : Int32) (u8 : SS) (H : Heap) (locs : List Loc) (ls : Array Slot), mI D ad cI cB u8 s H → va_S (mA ad) s.heap H locs → lv_has ls 5 [(0, .ref (ad 0)), (1, .int x1_52), (2, .int x2_52)] → wX5_mendNow_52 post K52 n x1_52 x2_52 u8 → (∀ (x1_52 : Int32) (x2_52 : Int32) (u8 : SS) (H : Heap) (locs : List Loc) (ls : Array Slot), mI D ad cI cB u8 s H → va_S (mA ad) s.heap H locs → lv_has ls 5 [(0, .ref (ad 0)), (1, .int x1_52), (2, .int x2_52)] → K52 x1_52 x2_52 u8 → W p l e (Rm 5) s m [.ref (ad 0)].toArray below meth c H locs 0 0 (MQ below (va_Qi post (Po (mI D ad cI cB)) (mA ad)) [.ref (ad 0)].toArray s 0 0 (mA ad)) (F0 m 143 ls [])) → W p l e (Rm 5) s m [.ref (ad 0)].toArray below meth c H locs 0 0 (MQ below (va_Qi post (Po (mI D ad cI cB)) (mA ad)) [.ref (ad 0)].toArray s 0 0 (mA ad)) (F0 m 52 ls []) := by
    intro K52 n
    induction n with
    | zero => intro x1_52 x2_52 u8 H locs ls hI hS hl hw hK52; exact False.elim hw
    | succ n52 ih52 =>
      intro x1_52 x2_52 u8 H locs ls hI hS hl hw hK52
      refine lv_iload_n hx hb dX5_mendNow_52 rfl (lv_at hl 2 rfl) ?_
      refine lv_if_le (tgt := 143) hx hb dX5_mendNow_53 (by decide) (fun hc => ?_) (fun hc => ?_)
      · have hw := hw.1 hc
        exact hK52 x1_52 x2_52 u8 _ _ _ hI hS (lv_sub hl [0, 1, 2] rfl) hw
      · have hw := hw.2 hc
        refine lv_iconst (v := (0 : Int32)) hx hb dX5_mendNow_56 (by decide) ?_
        refine lv_istore_n (lv' := [(3, .int (0 : Int32)), (0, .ref (ad 0)), (1, .int x1_52), (2, .int x2_52)]) hx hb dX5_mendNow_57 rfl hl (by decide) rfl (fun ls hl => ?_)
        refine lv_iconst (v := (1 : Int32)) hx hb dX5_mendNow_58 (by decide) ?_
        refine lv_istore (lv' := [(4, .int (1 : Int32)), (3, .int (0 : Int32)), (0, .ref (ad 0)), (1, .int x1_52), (2, .int x2_52)]) hx hb dX5_mendNow_59 hl (by decide) rfl (fun ls hl => ?_)
        obtain ⟨n, hw⟩ := hw
        refine L61 x1_52 x2_52 _ n (0 : Int32) (1 : Int32) u8 _ _ _ hI hS (lv_sub hl [2, 3, 4, 1, 0] rfl) hw (fun x3_10 x4_11 u12 H locs ls hI hS hl hw => ?_)
        refine lv_iload_n hx hb dX5_mendNow_112 rfl (lv_at hl 3 rfl) ?_
        refine lv_iload_n hx hb dX5_mendNow_113 rfl (lv_at hl 1 rfl) ?_
        refine lv_icmp_ge (tgt := 121) hx hb dX5_mendNow_114 (by decide) (fun hc => ?_) (fun hc => ?_)
        · have hw := hw.1 hc
          refine lv_iload_n hx hb dX5_mendNow_121 rfl (lv_at hl 1 rfl) ?_
          refine lv_istore_n (lv' := [(1, .int x1_52), (0, .ref (ad 0)), (2, .int x2_52), (3, .int x3_10), (4, .int x4_11)]) hx hb dX5_mendNow_122 rfl hl (by decide) rfl (fun ls hl => ?_)
          refine lv_aload_n hx hb dX5_mendNow_123 rfl (lv_at hl 1 rfl) ?_
          refine lv_aload_n hx hb dX5_mendNow_124 rfl (lv_at hl 1 rfl) ?_
          refine lv_aload_n hx hb dX5_mendNow_125 rfl (lv_at hl 1 rfl) ?_
          refine mg_X5_0_101 S hI dX5_mendNow_126 ?_
          refine g_ci hg hS (g_runV S hg hI hN hS (As := [.int (u12.1 1)]) (rest := [.ref (ad 0)]) (tX5_turnBack l D ad cI cB  _ _ _ hw) cv_yX5_turnBack qm_X5_155 (va_recv hI.2.1 hI.1 (ci := 5) (q0 := 0) rfl rfl) ⟨Nat.le_of_ble_eq_true rfl, Nat.le_of_ble_eq_true rfl⟩ rfl hl.1 rfl (Nat.le_of_ble_eq_true rfl) dX5_mendNow_129) (fun r13 u14 H locs hI hS hw => ?_)
          refine lv_aload_n hx hb dX5_mendNow_132 rfl (lv_at hl 1 rfl) ?_
          refine mg_X5_0_101 S hI dX5_mendNow_133 ?_
          refine g_ci hg hS (g_runV S hg hI hN hS (As := [.int r13, .int (u14.1 1)]) (rest := []) (tX5_goOn l D ad cI cB  _ _ _ _ hw) cv_yX5_goOn qm_X5_161 (va_recv hI.2.1 hI.1 (ci := 5) (q0 := 0) rfl rfl) ⟨Nat.le_of_ble_eq_true rfl, Nat.le_of_ble_eq_true rfl⟩ rfl hl.1 rfl (Nat.le_of_ble_eq_true rfl) dX5_mendNow_136) (fun r15 u16 H locs hI hS hw => ?_)
          refine lv_istore_n (lv' := [(2, .int r15), (1, .int x1_52), (0, .ref (ad 0)), (3, .int x3_10), (4, .int x4_11)]) hx hb dX5_mendNow_139 rfl hl (by decide) rfl (fun ls hl => ?_)
          refine lv_goto (tgt := 52) hx hb dX5_mendNow_140 (by decide) ?_
          exact ih52 x1_52 r15 u16 _ _ _ hI hS (lv_sub hl [2, 1, 0] rfl) hw hK52
        · have hw := hw.2 hc
          refine lv_iload_n hx hb dX5_mendNow_117 rfl (lv_at hl 3 rfl) ?_
          refine lv_goto (tgt := 122) hx hb dX5_mendNow_118 (by decide) ?_
          refine lv_istore_n (lv' := [(1, .int x3_10), (0, .ref (ad 0)), (2, .int x2_52), (3, .int x3_10), (4, .int x4_11)]) hx hb dX5_mendNow_122 rfl hl (by decide) rfl (fun ls hl => ?_)
          refine lv_aload_n hx hb dX5_mendNow_123 rfl (lv_at hl 1 rfl) ?_
          refine lv_aload_n hx hb dX5_mendNow_124 rfl (lv_at hl 1 rfl) ?_
          refine lv_aload_n hx hb dX5_mendNow_125 rfl (lv_at hl 1 rfl) ?_
          refine mg_X5_0_101 S hI dX5_mendNow_126 ?_
          refine g_ci hg hS (g_runV S hg hI hN hS (As := [.int (u12.1 1)]) (rest := [.ref (ad 0)]) (tX5_turnBack l D ad cI cB  _ _ _ hw) cv_yX5_turnBack qm_X5_155 (va_recv hI.2.1 hI.1 (ci := 5) (q0 := 0) rfl rfl) ⟨Nat.le_of_ble_eq_true rfl, Nat.le_of_ble_eq_true rfl⟩ rfl hl.1 rfl (Nat.le_of_ble_eq_true rfl) dX5_mendNow_129) (fun r17 u18 H locs hI hS hw => ?_)
          refine lv_aload_n hx hb dX5_mendNow_132 rfl (lv_at hl 1 rfl) ?_
          refine mg_X5_0_101 S hI dX5_mendNow_133 ?_
          refine g_ci hg hS (g_runV S hg hI hN hS (As := [.int r17, .int (u18.1 1)]) (rest := []) (tX5_goOn l D ad cI cB  _ _ _ _ hw) cv_yX5_goOn qm_X5_161 (va_recv hI.2.1 hI.1 (ci := 5) (q0 := 0) rfl rfl) ⟨Nat.le_of_ble_eq_true rfl, Nat.le_of_ble_eq_true rfl⟩ rfl hl.1 rfl (Nat.le_of_ble_eq_true rfl) dX5_mendNow_136) (fun r19 u20 H locs hI hS hw => ?_)
          refine lv_istore_n (lv' := [(2, .int r19), (1, .int x3_10), (0, .ref (ad 0)), (3, .int x3_10), (4, .int x4_11)]) hx hb dX5_mendNow_139 rfl hl (by decide) rfl (fun ls hl => ?_)
          refine lv_goto (tgt := 52) hx hb dX5_mendNow_140 (by decide) ?_
          exact ih52 x3_10 r19 u20 _ _ _ hI hS (lv_sub hl [2, 1, 0] rfl) hw hK52
  have L145 : ∀ (x1_145 : Int32) (x2_145 : Int32) (K145 : Int32 → SS → Prop) (n : Nat) (x3_145 : Int32) (u24 : SS) (H : Heap) (locs : List Loc) (ls : Array Slot), mI D ad cI cB u24 s H → va_S (mA ad) s.heap H locs → lv_has ls 5 [(0, .ref (ad 0)), (1, .int x1_145), (2, .int x2_145), (3, .int x3_145)] → wX5_mendNow_145 post x1_145 x2_145 K145 n x3_145 u24 → (∀ (x3_145 : Int32) (u24 : SS) (H : Heap) (locs : List Loc) (ls : Array Slot), mI D ad cI cB u24 s H → va_S (mA ad) s.heap H locs → lv_has ls 5 [(0, .ref (ad 0)), (1, .int x1_145), (2, .int x2_145), (3, .int x3_145)] → K145 x3_145 u24 → W p l e (Rm 5) s m [.ref (ad 0)].toArray below meth c H locs 0 0 (MQ below (va_Qi post (Po (mI D ad cI cB)) (mA ad)) [.ref (ad 0)].toArray s 0 0 (mA ad)) (F0 m 171 ls [])) → W p l e (Rm 5) s m [.ref (ad 0)].toArray below meth c H locs 0 0 (MQ below (va_Qi post (Po (mI D ad cI cB)) (mA ad)) [.ref (ad 0)].toArray s 0 0 (mA ad)) (F0 m 145 ls []) := by
    intro x1_145 x2_145 K145 n
    induction n with
    | zero => intro x3_145 u24 H locs ls hI hS hl hw hK145; exact False.elim hw
    | succ n145 ih145 =>
      intro x3_145 u24 H locs ls hI hS hl hw hK145
      refine lv_iload_n hx hb dX5_mendNow_145 rfl (lv_at hl 3 rfl) ?_
      refine lv_aload_n hx hb dX5_mendNow_146 rfl (lv_at hl 0 rfl) ?_
      refine mg_X5_0_101 S hI dX5_mendNow_147 ?_
      refine lv_icmp_gt (tgt := 171) hx hb dX5_mendNow_150 (by decide) (fun hc => ?_) (fun hc => ?_)
      · have hw := hw.1 hc
        exact hK145 x3_145 u24 _ _ _ hI hS (lv_sub hl [0, 1, 2, 3] rfl) hw
      · have hw := hw.2 hc
        refine lv_aload_n hx hb dX5_mendNow_153 rfl (lv_at hl 0 rfl) ?_
        refine mg_X5_0_13 S hI dX5_mendNow_154 ?_
        refine lv_iload_n hx hb dX5_mendNow_157 rfl (lv_at hl 3 rfl) ?_
        refine lv_aload_n hx hb dX5_mendNow_158 rfl (lv_at hl 0 rfl) ?_
        refine mg_X5_0_38 S hI dX5_mendNow_159 ?_
        refine lv_iload_n hx hb dX5_mendNow_162 rfl (lv_at hl 3 rfl) ?_
        obtain ⟨hv, hw⟩ := hw
        refine mld_9 S hI hv dX5_mendNow_163 ?_
        obtain ⟨hv, hw⟩ := hw
        refine mst_1 S hI hS hv dX5_mendNow_164 (fun H locs hI hS => ?_)
        refine lv_iinc (v := x3_145 + 1) (lv' := [(3, .int (x3_145 + 1)), (0, .ref (ad 0)), (1, .int x1_145), (2, .int x2_145)]) hx hb dX5_mendNow_165 hl (k := 3) rfl (congrArg (fun z => x3_145 + z) (by decide)) (by decide) rfl (fun ls hl => ?_)
        refine lv_goto (tgt := 145) hx hb dX5_mendNow_168 (by decide) ?_
        exact ih145 (x3_145 + 1) (sA u24 1 x3_145.toNatClampNeg (u24.2.2 9 x3_145.toNatClampNeg)) _ _ _ hI hS (lv_sub hl [1, 2, 3, 0] rfl) hw hK145
  refine lv_ldc (v := (268435456 : Int32)) hx hb ho (g_in S qk_X5_183) dX5_mendNow_0 ?_
  refine lv_istore_n (lv' := [(1, .int (268435456 : Int32)), (0, .ref (ad 0))]) hx hb dX5_mendNow_2 rfl hl (by decide) rfl (fun ls hl => ?_)
  refine lv_iconst (v := (1 : Int32)) hx hb dX5_mendNow_3 (by decide) ?_
  refine lv_istore_n (lv' := [(2, .int (1 : Int32)), (1, .int (268435456 : Int32)), (0, .ref (ad 0))]) hx hb dX5_mendNow_4 rfl hl (by decide) rfl (fun ls hl => ?_)
  obtain ⟨n, hw⟩ := hw
  refine L5 (268435456 : Int32) _ n (1 : Int32) u _ _ _ hI hS (lv_sub hl [2, 1, 0] rfl) hw (fun x2_2 u3 H locs ls hI hS hl hw => ?_)
  refine lv_aload_n hx hb dX5_mendNow_38 rfl (lv_at hl 0 rfl) ?_
  refine g_cv hg hS (g_runV S hg hI hN hS (As := []) (rest := []) (tX5_layNow l D ad cI cB   _ _ hw) cv_yX5_layNow qm_X5_128 (va_recv hI.2.1 hI.1 (ci := 5) (q0 := 0) rfl rfl) ⟨Nat.le_of_ble_eq_true rfl, Nat.le_of_ble_eq_true rfl⟩ rfl hl.1 rfl (Nat.le_of_ble_eq_true rfl) dX5_mendNow_39) (fun u5 H locs hI hS hw => ?_)
  refine lv_aload_n hx hb dX5_mendNow_42 rfl (lv_at hl 0 rfl) ?_
  refine lv_iconst (v := (1 : Int32)) hx hb dX5_mendNow_43 (by decide) ?_
  refine lv_aload_n hx hb dX5_mendNow_44 rfl (lv_at hl 0 rfl) ?_
  refine mg_X5_0_101 S hI dX5_mendNow_45 ?_
  refine g_ci hg hS (g_runV S hg hI hN hS (As := [.int (1 : Int32), .int (u5.1 1)]) (rest := []) (tX5_goOn l D ad cI cB  _ _ _ _ hw) cv_yX5_goOn qm_X5_161 (va_recv hI.2.1 hI.1 (ci := 5) (q0 := 0) rfl rfl) ⟨Nat.le_of_ble_eq_true rfl, Nat.le_of_ble_eq_true rfl⟩ rfl hl.1 rfl (Nat.le_of_ble_eq_true rfl) dX5_mendNow_48) (fun r6 u7 H locs hI hS hw => ?_)
  refine lv_istore_n (lv' := [(2, .int r6), (0, .ref (ad 0)), (1, .int (268435456 : Int32))]) hx hb dX5_mendNow_51 rfl hl (by decide) rfl (fun ls hl => ?_)
  obtain ⟨n, hw⟩ := hw
  refine L52 _ n (268435456 : Int32) r6 u7 _ _ _ hI hS (lv_sub hl [1, 2, 0] rfl) hw (fun x1_21 x2_22 u23 H locs ls hI hS hl hw => ?_)
  refine lv_iconst (v := (1 : Int32)) hx hb dX5_mendNow_143 (by decide) ?_
  refine lv_istore_n (lv' := [(3, .int (1 : Int32)), (0, .ref (ad 0)), (1, .int x1_21), (2, .int x2_22)]) hx hb dX5_mendNow_144 rfl hl (by decide) rfl (fun ls hl => ?_)
  obtain ⟨n, hw⟩ := hw
  refine L145 x1_21 x2_22 _ n (1 : Int32) u23 _ _ _ hI hS (lv_sub hl [1, 2, 3, 0] rfl) hw (fun x3_25 u26 H locs ls hI hS hl hw => ?_)
  refine lv_iload_n hx hb dX5_mendNow_171 rfl (lv_at hl 1 rfl) ?_
  refine lv_ldc (v := (268435456 : Int32)) hx hb ho (g_in S qk_X5_183) dX5_mendNow_172 ?_
  refine lv_icmp_ne (tgt := 181) hx hb dX5_mendNow_174 (by decide) (fun hc => ?_) (fun hc => ?_)
  · have hw := hw.1 hc
    refine lv_iload_n hx hb dX5_mendNow_181 rfl (lv_at hl 1 rfl) ?_
    exact g_iret S hr hk hg hI hS dX5_mendNow_182 hw
  · have hw := hw.2 hc
    refine lv_iconst (v := (-1 : Int32)) hx hb dX5_mendNow_177 (by decide) ?_
    refine lv_goto (tgt := 182) hx hb dX5_mendNow_178 (by decide) ?_
    exact g_iret S hr hk hg hI hS dX5_mendNow_182 hw
set_option maxRecDepth 100000 in
set_option maxHeartbeats 4000000 in
theorem tX5_mend (l : Launch) (D : va_G) (ad : Nat → Nat) (cI cB : ClassId)   (u : SS) (post : Int32 → SS → Prop) (hw : wX5_mend   u post) : Met l yX5_mend (Cond.code yX5_mend cX5_mend 1 (some .int) :: XT) (Rm 6) (va_Pc [.ref (ad 0)] (Pr (mI D ad cI cB) mN u)) (va_Qi post (Po (mI D ad cI cB)) (mA ad)) 0 0 (mA ad) := by
  refine g_of (A := (mA ad)) (by decide) (Nat.le_of_ble_eq_true rfl) (lv := [(0, .ref (ad 0))]) rfl ?_
  intro p e s m below meth c ls S hr hk hI hN hS hl
  have hx := S.1
  have hb := S.2.1
  have ho := S.2.2.2.1
  have hg := @mG D ad cI cB
  refine lv_aload_n hx hb dX5_mend_0 rfl (lv_at hl 0 rfl) ?_
  refine mg_X5_0_101 S hI dX5_mend_1 ?_
  refine lv_if_ne (tgt := 12) hx hb dX5_mend_4 (by decide) (fun hc => ?_) (fun hc => ?_)
  · have hw := hw.1 hc
    refine lv_aload_n hx hb dX5_mend_12 rfl (lv_at hl 0 rfl) ?_
    refine g_ci hg hS (g_runV S hg hI hN hS (As := []) (rest := []) (tX5_mendNow l D ad cI cB   _ _ hw) cv_yX5_mendNow qm_X5_184 (va_recv hI.2.1 hI.1 (ci := 5) (q0 := 0) rfl rfl) ⟨Nat.le_of_ble_eq_true rfl, Nat.le_of_ble_eq_true rfl⟩ rfl hl.1 rfl (Nat.le_of_ble_eq_true rfl) dX5_mend_13) (fun r1 u2 H locs hI hS hw => ?_)
    exact g_iret S hr hk hg hI hS dX5_mend_16 hw
  · have hw := hw.2 hc
    refine lv_bipush (v := (-103 : Int32)) hx hb dX5_mend_7 (by decide) ?_
    refine lv_goto (tgt := 16) hx hb dX5_mend_9 (by decide) ?_
    exact g_iret S hr hk hg hI hS dX5_mend_16 hw
set_option maxRecDepth 100000 in
set_option maxHeartbeats 4000000 in
theorem tX5_layTurns (l : Launch) (D : va_G) (ad : Nat → Nat) (cI cB : ClassId)   (u : SS) (post : Int32 → SS → Prop) (hw : wX5_layTurns   u post) : Met l yX5_layTurns (Cond.code yX5_layTurns cX5_layTurns 3 (some .int) :: XT) (Rm 1) (va_Pc [.ref (ad 0)] (Pr (mI D ad cI cB) mN u)) (va_Qi post (Po (mI D ad cI cB)) (mA ad)) 0 0 (mA ad) := by
  refine g_of (A := (mA ad)) (by decide) (Nat.le_of_ble_eq_true rfl) (lv := [(0, .ref (ad 0))]) rfl ?_
  intro p e s m below meth c ls S hr hk hI hN hS hl
  have hx := S.1
  have hb := S.2.1
  have ho := S.2.2.2.1
  have hg := @mG D ad cI cB
  have L4 : ∀  (K4 : Int32 → Int32 → SS → Prop) (n : Nat) (x1_4 : Int32) (x2_4 : Int32) (u1 : SS) (H : Heap) (locs : List Loc) (ls : Array Slot), mI D ad cI cB u1 s H → va_S (mA ad) s.heap H locs → lv_has ls 3 [(0, .ref (ad 0)), (1, .int x1_4), (2, .int x2_4)] → wX5_layTurns_4 post K4 n x1_4 x2_4 u1 → (∀ (x1_4 : Int32) (x2_4 : Int32) (u1 : SS) (H : Heap) (locs : List Loc) (ls : Array Slot), mI D ad cI cB u1 s H → va_S (mA ad) s.heap H locs → lv_has ls 3 [(0, .ref (ad 0)), (1, .int x1_4), (2, .int x2_4)] → K4 x1_4 x2_4 u1 → W p l e (Rm 1) s m [.ref (ad 0)].toArray below meth c H locs 0 0 (MQ below (va_Qi post (Po (mI D ad cI cB)) (mA ad)) [.ref (ad 0)].toArray s 0 0 (mA ad)) (F0 m 38 ls [])) → W p l e (Rm 1) s m [.ref (ad 0)].toArray below meth c H locs 0 0 (MQ below (va_Qi post (Po (mI D ad cI cB)) (mA ad)) [.ref (ad 0)].toArray s 0 0 (mA ad)) (F0 m 4 ls []) := by
    intro K4 n
    induction n with
    | zero => intro x1_4 x2_4 u1 H locs ls hI hS hl hw hK4; exact False.elim hw
    | succ n4 ih4 =>
      intro x1_4 x2_4 u1 H locs ls hI hS hl hw hK4
      refine lv_iload_n hx hb dX5_layTurns_4 rfl (lv_at hl 2 rfl) ?_
      refine lv_aload_n hx hb dX5_layTurns_5 rfl (lv_at hl 0 rfl) ?_
      refine mg_X5_0_101 S hI dX5_layTurns_6 ?_
      refine lv_icmp_gt (tgt := 38) hx hb dX5_layTurns_9 (by decide) (fun hc => ?_) (fun hc => ?_)
      · have hw := hw.1 hc
        exact hK4 x1_4 x2_4 u1 _ _ _ hI hS (lv_sub hl [0, 1, 2] rfl) hw
      · have hw := hw.2 hc
        refine lv_aload_n hx hb dX5_layTurns_12 rfl (lv_at hl 0 rfl) ?_
        refine mg_X5_0_13 S hI dX5_layTurns_13 ?_
        refine lv_iload_n hx hb dX5_layTurns_16 rfl (lv_at hl 2 rfl) ?_
        obtain ⟨hv, hw⟩ := hw
        refine mld_1 S hI hv dX5_layTurns_17 ?_
        refine lv_iconst (v := (-1 : Int32)) hx hb dX5_layTurns_18 (by decide) ?_
        refine lv_icmp_ne (tgt := 32) hx hb dX5_layTurns_19 (by decide) (fun hc => ?_) (fun hc => ?_)
        · have hw := hw.1 hc
          refine lv_iinc (v := x2_4 + 1) (lv' := [(2, .int (x2_4 + 1)), (0, .ref (ad 0)), (1, .int x1_4)]) hx hb dX5_layTurns_32 hl (k := 2) rfl (congrArg (fun z => x2_4 + z) (by decide)) (by decide) rfl (fun ls hl => ?_)
          refine lv_goto (tgt := 4) hx hb dX5_layTurns_35 (by decide) ?_
          exact ih4 x1_4 (x2_4 + 1) u1 _ _ _ hI hS (lv_sub hl [1, 2, 0] rfl) hw hK4
        · have hw := hw.2 hc
          refine lv_aload_n hx hb dX5_layTurns_22 rfl (lv_at hl 0 rfl) ?_
          refine mg_X5_0_41 S hI dX5_layTurns_23 ?_
          refine lv_iload_n hx hb dX5_layTurns_26 rfl (lv_at hl 1 rfl) ?_
          refine lv_iload_n hx hb dX5_layTurns_27 rfl (lv_at hl 2 rfl) ?_
          obtain ⟨hv, hw⟩ := hw
          refine mst_10 S hI hS hv dX5_layTurns_28 (fun H locs hI hS => ?_)
          refine lv_iinc (v := x1_4 + 1) (lv' := [(1, .int (x1_4 + 1)), (0, .ref (ad 0)), (2, .int x2_4)]) hx hb dX5_layTurns_29 hl (k := 1) rfl (congrArg (fun z => x1_4 + z) (by decide)) (by decide) rfl (fun ls hl => ?_)
          refine lv_iinc (v := x2_4 + 1) (lv' := [(2, .int (x2_4 + 1)), (1, .int (x1_4 + 1)), (0, .ref (ad 0))]) hx hb dX5_layTurns_32 hl (k := 2) rfl (congrArg (fun z => x2_4 + z) (by decide)) (by decide) rfl (fun ls hl => ?_)
          refine lv_goto (tgt := 4) hx hb dX5_layTurns_35 (by decide) ?_
          exact ih4 (x1_4 + 1) (x2_4 + 1) (sA u1 10 x1_4.toNatClampNeg x2_4) _ _ _ hI hS (lv_sub hl [2, 1, 0] rfl) hw hK4
  refine lv_iconst (v := (0 : Int32)) hx hb dX5_layTurns_0 (by decide) ?_
  refine lv_istore_n (lv' := [(1, .int (0 : Int32)), (0, .ref (ad 0))]) hx hb dX5_layTurns_1 rfl hl (by decide) rfl (fun ls hl => ?_)
  refine lv_iconst (v := (1 : Int32)) hx hb dX5_layTurns_2 (by decide) ?_
  refine lv_istore_n (lv' := [(2, .int (1 : Int32)), (1, .int (0 : Int32)), (0, .ref (ad 0))]) hx hb dX5_layTurns_3 rfl hl (by decide) rfl (fun ls hl => ?_)
  obtain ⟨n, hw⟩ := hw
  refine L4 _ n (0 : Int32) (1 : Int32) u _ _ _ hI hS (lv_sub hl [2, 1, 0] rfl) hw (fun x1_2 x2_3 u4 H locs ls hI hS hl hw => ?_)
  refine lv_iload_n hx hb dX5_layTurns_38 rfl (lv_at hl 1 rfl) ?_
  exact g_iret S hr hk hg hI hS dX5_layTurns_39 hw
set_option maxRecDepth 100000 in
set_option maxHeartbeats 4000000 in
theorem tX5_winNow (l : Launch) (D : va_G) (ad : Nat → Nat) (cI cB : ClassId)   (u : SS) (post : Int32 → SS → Prop) (hw : wX5_winNow   u post) : Met l yX5_winNow (Cond.code yX5_winNow cX5_winNow 4 (some .int) :: XT) (Rm 5) (va_Pc [.ref (ad 0)] (Pr (mI D ad cI cB) mN u)) (va_Qi post (Po (mI D ad cI cB)) (mA ad)) 0 0 (mA ad) := by
  refine g_of (A := (mA ad)) (by decide) (Nat.le_of_ble_eq_true rfl) (lv := [(0, .ref (ad 0))]) rfl ?_
  intro p e s m below meth c ls S hr hk hI hN hS hl
  have hx := S.1
  have hb := S.2.1
  have ho := S.2.2.2.1
  have hg := @mG D ad cI cB
  have L42 : ∀ (x1_42 : Int32) (K42 : Int32 → SS → Prop) (n : Nat) (x2_42 : Int32) (u7 : SS) (H : Heap) (locs : List Loc) (ls : Array Slot), mI D ad cI cB u7 s H → va_S (mA ad) s.heap H locs → lv_has ls 4 [(0, .ref (ad 0)), (1, .int x1_42), (2, .int x2_42)] → wX5_winNow_42 post x1_42 K42 n x2_42 u7 → (∀ (x2_42 : Int32) (u7 : SS) (H : Heap) (locs : List Loc) (ls : Array Slot), mI D ad cI cB u7 s H → va_S (mA ad) s.heap H locs → lv_has ls 4 [(0, .ref (ad 0)), (1, .int x1_42), (2, .int x2_42)] → K42 x2_42 u7 → W p l e (Rm 5) s m [.ref (ad 0)].toArray below meth c H locs 0 0 (MQ below (va_Qi post (Po (mI D ad cI cB)) (mA ad)) [.ref (ad 0)].toArray s 0 0 (mA ad)) (F0 m 195 ls [])) → W p l e (Rm 5) s m [.ref (ad 0)].toArray below meth c H locs 0 0 (MQ below (va_Qi post (Po (mI D ad cI cB)) (mA ad)) [.ref (ad 0)].toArray s 0 0 (mA ad)) (F0 m 42 ls []) := by
    intro x1_42 K42 n
    induction n with
    | zero => intro x2_42 u7 H locs ls hI hS hl hw hK42; exact False.elim hw
    | succ n42 ih42 =>
      intro x2_42 u7 H locs ls hI hS hl hw hK42
      refine lv_iload_n hx hb dX5_winNow_42 rfl (lv_at hl 2 rfl) ?_
      refine lv_if_lt (tgt := 195) hx hb dX5_winNow_43 (by decide) (fun hc => ?_) (fun hc => ?_)
      · have hw := hw.1 hc
        exact hK42 x2_42 u7 _ _ _ hI hS (lv_sub hl [0, 1, 2] rfl) hw
      · have hw := hw.2 hc
        refine lv_iload_n hx hb dX5_winNow_46 rfl (lv_at hl 2 rfl) ?_
        refine lv_iload_n hx hb dX5_winNow_47 rfl (lv_at hl 1 rfl) ?_
        refine lv_icmp_eq (tgt := 74) hx hb dX5_winNow_48 (by decide) (fun hc => ?_) (fun hc => ?_)
        · have hw := hw.1 hc
          refine lv_iconst (v := (1 : Int32)) hx hb dX5_winNow_74 (by decide) ?_
          refine lv_goto (tgt := 79) hx hb dX5_winNow_75 (by decide) ?_
          refine lv_istore_n (lv' := [(3, .int (1 : Int32)), (0, .ref (ad 0)), (1, .int x1_42), (2, .int x2_42)]) hx hb dX5_winNow_79 rfl hl (by decide) rfl (fun ls hl => ?_)
          refine lv_iload_n hx hb dX5_winNow_80 rfl (lv_at hl 0 rfl) ?_
          refine lv_if_ne (tgt := 142) hx hb dX5_winNow_81 (by decide) (fun hc => ?_) (fun hc => ?_)
          rotate_left
          · exact absurd hc (by decide)
          refine lv_iload_n hx hb dX5_winNow_142 rfl (lv_at hl 3 rfl) ?_
          refine lv_iload_n hx hb dX5_winNow_143 rfl (lv_at hl 2 rfl) ?_
          refine lv_icmp_ge (tgt := 159) hx hb dX5_winNow_144 (by decide) (fun hc => ?_) (fun hc => ?_)
          · have hw := hw.1 hc
            refine lv_iinc (v := x2_42 + (-1 : Int32)) (lv' := [(2, .int (x2_42 + (-1 : Int32))), (3, .int (1 : Int32)), (0, .ref (ad 0)), (1, .int x1_42)]) hx hb dX5_winNow_159 hl (k := 3) rfl (congrArg (fun z => x2_42 + z) (by decide)) (by decide) rfl (fun ls hl => ?_)
            refine lv_iload_n hx hb dX5_winNow_162 rfl (lv_at hl 0 rfl) ?_
            refine lv_if_lt (tgt := 192) hx hb dX5_winNow_163 (by decide) (fun hc => ?_) (fun hc => ?_)
            · have hw := hw.1 hc
              refine lv_goto (tgt := 42) hx hb dX5_winNow_192 (by decide) ?_
              exact ih42 (x2_42 + (-1 : Int32)) u7 _ _ _ hI hS (lv_sub hl [2, 3, 0] rfl) hw hK42
            · have hw := hw.2 hc
              refine lv_aload_n hx hb dX5_winNow_166 rfl (lv_at hl 2 rfl) ?_
              refine mg_X5_0_47 S hI dX5_winNow_167 ?_
              refine lv_iload_n hx hb dX5_winNow_170 rfl (lv_at hl 0 rfl) ?_
              refine lv_iconst (v := (1 : Int32)) hx hb dX5_winNow_171 (by decide) ?_
              refine lv_iadd hx hb dX5_winNow_172 ?_
              obtain ⟨hv, hw⟩ := hw
              refine mld_12 S hI hv dX5_winNow_173 ?_
              refine lv_iconst (v := (-1 : Int32)) hx hb dX5_winNow_174 (by decide) ?_
              refine lv_icmp_ne (tgt := 192) hx hb dX5_winNow_175 (by decide) (fun hc => ?_) (fun hc => ?_)
              · have hw := hw.1 hc
                refine lv_goto (tgt := 42) hx hb dX5_winNow_192 (by decide) ?_
                exact ih42 (x2_42 + (-1 : Int32)) u7 _ _ _ hI hS (lv_sub hl [2, 3, 0] rfl) hw hK42
              · have hw := hw.2 hc
                refine lv_aload_n hx hb dX5_winNow_178 rfl (lv_at hl 2 rfl) ?_
                refine mg_X5_0_47 S hI dX5_winNow_179 ?_
                refine lv_iload_n hx hb dX5_winNow_182 rfl (lv_at hl 0 rfl) ?_
                refine lv_aload_n hx hb dX5_winNow_183 rfl (lv_at hl 2 rfl) ?_
                refine mg_X5_0_44 S hI dX5_winNow_184 ?_
                refine lv_iload_n hx hb dX5_winNow_187 rfl (lv_at hl 0 rfl) ?_
                obtain ⟨hv, hw⟩ := hw
                refine mld_11 S hI hv dX5_winNow_188 ?_
                refine lv_iconst (v := (1 : Int32)) hx hb dX5_winNow_189 (by decide) ?_
                refine lv_isub hx hb dX5_winNow_190 ?_
                obtain ⟨hv, hw⟩ := hw
                refine mst_12 S hI hS hv dX5_winNow_191 (fun H locs hI hS => ?_)
                refine lv_goto (tgt := 42) hx hb dX5_winNow_192 (by decide) ?_
                exact ih42 (x2_42 + (-1 : Int32)) (sA u7 12 (x2_42 + (-1 : Int32)).toNatClampNeg ((u7.2.2 11 (x2_42 + (-1 : Int32)).toNatClampNeg) - (1 : Int32))) _ _ _ hI hS (lv_sub hl [2, 3, 0] rfl) hw hK42
          · have hw := hw.2 hc
            refine lv_aload_n hx hb dX5_winNow_147 rfl (lv_at hl 1 rfl) ?_
            refine mg_X5_0_29 S hI dX5_winNow_148 ?_
            refine lv_aload_n hx hb dX5_winNow_151 rfl (lv_at hl 1 rfl) ?_
            refine mg_X5_0_41 S hI dX5_winNow_152 ?_
            refine lv_iload_n hx hb dX5_winNow_155 rfl (lv_at hl 3 rfl) ?_
            obtain ⟨hv, hw⟩ := hw
            refine mld_10 S hI hv dX5_winNow_156 ?_
            refine lv_iconst (v := (-1 : Int32)) hx hb dX5_winNow_157 (by decide) ?_
            obtain ⟨hv, hw⟩ := hw
            refine mst_6 S hI hS hv dX5_winNow_158 (fun H locs hI hS => ?_)
            refine lv_iinc (v := x2_42 + (-1 : Int32)) (lv' := [(2, .int (x2_42 + (-1 : Int32))), (3, .int (1 : Int32)), (0, .ref (ad 0)), (1, .int x1_42)]) hx hb dX5_winNow_159 hl (k := 3) rfl (congrArg (fun z => x2_42 + z) (by decide)) (by decide) rfl (fun ls hl => ?_)
            refine lv_iload_n hx hb dX5_winNow_162 rfl (lv_at hl 0 rfl) ?_
            refine lv_if_lt (tgt := 192) hx hb dX5_winNow_163 (by decide) (fun hc => ?_) (fun hc => ?_)
            · have hw := hw.1 hc
              refine lv_goto (tgt := 42) hx hb dX5_winNow_192 (by decide) ?_
              exact ih42 (x2_42 + (-1 : Int32)) (sA u7 6 (u7.2.2 10 x2_42.toNatClampNeg).toNatClampNeg (-1 : Int32)) _ _ _ hI hS (lv_sub hl [2, 3, 0] rfl) hw hK42
            · have hw := hw.2 hc
              refine lv_aload_n hx hb dX5_winNow_166 rfl (lv_at hl 2 rfl) ?_
              refine mg_X5_0_47 S hI dX5_winNow_167 ?_
              refine lv_iload_n hx hb dX5_winNow_170 rfl (lv_at hl 0 rfl) ?_
              refine lv_iconst (v := (1 : Int32)) hx hb dX5_winNow_171 (by decide) ?_
              refine lv_iadd hx hb dX5_winNow_172 ?_
              obtain ⟨hv, hw⟩ := hw
              refine mld_12 S hI hv dX5_winNow_173 ?_
              refine lv_iconst (v := (-1 : Int32)) hx hb dX5_winNow_174 (by decide) ?_
              refine lv_icmp_ne (tgt := 192) hx hb dX5_winNow_175 (by decide) (fun hc => ?_) (fun hc => ?_)
              · have hw := hw.1 hc
                refine lv_goto (tgt := 42) hx hb dX5_winNow_192 (by decide) ?_
                exact ih42 (x2_42 + (-1 : Int32)) (sA u7 6 (u7.2.2 10 x2_42.toNatClampNeg).toNatClampNeg (-1 : Int32)) _ _ _ hI hS (lv_sub hl [2, 3, 0] rfl) hw hK42
              · have hw := hw.2 hc
                refine lv_aload_n hx hb dX5_winNow_178 rfl (lv_at hl 2 rfl) ?_
                refine mg_X5_0_47 S hI dX5_winNow_179 ?_
                refine lv_iload_n hx hb dX5_winNow_182 rfl (lv_at hl 0 rfl) ?_
                refine lv_aload_n hx hb dX5_winNow_183 rfl (lv_at hl 2 rfl) ?_
                refine mg_X5_0_44 S hI dX5_winNow_184 ?_
                refine lv_iload_n hx hb dX5_winNow_187 rfl (lv_at hl 0 rfl) ?_
                obtain ⟨hv, hw⟩ := hw
                refine mld_11 S hI hv dX5_winNow_188 ?_
                refine lv_iconst (v := (1 : Int32)) hx hb dX5_winNow_189 (by decide) ?_
                refine lv_isub hx hb dX5_winNow_190 ?_
                obtain ⟨hv, hw⟩ := hw
                refine mst_12 S hI hS hv dX5_winNow_191 (fun H locs hI hS => ?_)
                refine lv_goto (tgt := 42) hx hb dX5_winNow_192 (by decide) ?_
                exact ih42 (x2_42 + (-1 : Int32)) (sA (sA u7 6 (u7.2.2 10 x2_42.toNatClampNeg).toNatClampNeg (-1 : Int32)) 12 (x2_42 + (-1 : Int32)).toNatClampNeg (((sA u7 6 (u7.2.2 10 x2_42.toNatClampNeg).toNatClampNeg (-1 : Int32)).2.2 11 (x2_42 + (-1 : Int32)).toNatClampNeg) - (1 : Int32))) _ _ _ hI hS (lv_sub hl [2, 3, 0] rfl) hw hK42
        · have hw := hw.2 hc
          refine lv_aload_n hx hb dX5_winNow_51 rfl (lv_at hl 0 rfl) ?_
          refine mg_X5_0_44 S hI dX5_winNow_52 ?_
          refine lv_iload_n hx hb dX5_winNow_55 rfl (lv_at hl 2 rfl) ?_
          obtain ⟨hv, hw⟩ := hw
          refine mld_11 S hI hv dX5_winNow_56 ?_
          refine lv_aload_n hx hb dX5_winNow_57 rfl (lv_at hl 0 rfl) ?_
          refine mg_X5_0_98 S hI dX5_winNow_58 ?_
          refine lv_icmp_eq (tgt := 74) hx hb dX5_winNow_61 (by decide) (fun hc => ?_) (fun hc => ?_)
          · have hw := hw.1 hc
            refine lv_iconst (v := (1 : Int32)) hx hb dX5_winNow_74 (by decide) ?_
            refine lv_goto (tgt := 79) hx hb dX5_winNow_75 (by decide) ?_
            refine lv_istore_n (lv' := [(3, .int (1 : Int32)), (0, .ref (ad 0)), (1, .int x1_42), (2, .int x2_42)]) hx hb dX5_winNow_79 rfl hl (by decide) rfl (fun ls hl => ?_)
            refine lv_iload_n hx hb dX5_winNow_80 rfl (lv_at hl 0 rfl) ?_
            refine lv_if_ne (tgt := 142) hx hb dX5_winNow_81 (by decide) (fun hc => ?_) (fun hc => ?_)
            rotate_left
            · exact absurd hc (by decide)
            refine lv_iload_n hx hb dX5_winNow_142 rfl (lv_at hl 3 rfl) ?_
            refine lv_iload_n hx hb dX5_winNow_143 rfl (lv_at hl 2 rfl) ?_
            refine lv_icmp_ge (tgt := 159) hx hb dX5_winNow_144 (by decide) (fun hc => ?_) (fun hc => ?_)
            · have hw := hw.1 hc
              refine lv_iinc (v := x2_42 + (-1 : Int32)) (lv' := [(2, .int (x2_42 + (-1 : Int32))), (3, .int (1 : Int32)), (0, .ref (ad 0)), (1, .int x1_42)]) hx hb dX5_winNow_159 hl (k := 3) rfl (congrArg (fun z => x2_42 + z) (by decide)) (by decide) rfl (fun ls hl => ?_)
              refine lv_iload_n hx hb dX5_winNow_162 rfl (lv_at hl 0 rfl) ?_
              refine lv_if_lt (tgt := 192) hx hb dX5_winNow_163 (by decide) (fun hc => ?_) (fun hc => ?_)
              · have hw := hw.1 hc
                refine lv_goto (tgt := 42) hx hb dX5_winNow_192 (by decide) ?_
                exact ih42 (x2_42 + (-1 : Int32)) u7 _ _ _ hI hS (lv_sub hl [2, 3, 0] rfl) hw hK42
              · have hw := hw.2 hc
                refine lv_aload_n hx hb dX5_winNow_166 rfl (lv_at hl 2 rfl) ?_
                refine mg_X5_0_47 S hI dX5_winNow_167 ?_
                refine lv_iload_n hx hb dX5_winNow_170 rfl (lv_at hl 0 rfl) ?_
                refine lv_iconst (v := (1 : Int32)) hx hb dX5_winNow_171 (by decide) ?_
                refine lv_iadd hx hb dX5_winNow_172 ?_
                obtain ⟨hv, hw⟩ := hw
                refine mld_12 S hI hv dX5_winNow_173 ?_
                refine lv_iconst (v := (-1 : Int32)) hx hb dX5_winNow_174 (by decide) ?_
                refine lv_icmp_ne (tgt := 192) hx hb dX5_winNow_175 (by decide) (fun hc => ?_) (fun hc => ?_)
                · have hw := hw.1 hc
                  refine lv_goto (tgt := 42) hx hb dX5_winNow_192 (by decide) ?_
                  exact ih42 (x2_42 + (-1 : Int32)) u7 _ _ _ hI hS (lv_sub hl [2, 3, 0] rfl) hw hK42
                · have hw := hw.2 hc
                  refine lv_aload_n hx hb dX5_winNow_178 rfl (lv_at hl 2 rfl) ?_
                  refine mg_X5_0_47 S hI dX5_winNow_179 ?_
                  refine lv_iload_n hx hb dX5_winNow_182 rfl (lv_at hl 0 rfl) ?_
                  refine lv_aload_n hx hb dX5_winNow_183 rfl (lv_at hl 2 rfl) ?_
                  refine mg_X5_0_44 S hI dX5_winNow_184 ?_
                  refine lv_iload_n hx hb dX5_winNow_187 rfl (lv_at hl 0 rfl) ?_
                  obtain ⟨hv, hw⟩ := hw
                  refine mld_11 S hI hv dX5_winNow_188 ?_
                  refine lv_iconst (v := (1 : Int32)) hx hb dX5_winNow_189 (by decide) ?_
                  refine lv_isub hx hb dX5_winNow_190 ?_
                  obtain ⟨hv, hw⟩ := hw
                  refine mst_12 S hI hS hv dX5_winNow_191 (fun H locs hI hS => ?_)
                  refine lv_goto (tgt := 42) hx hb dX5_winNow_192 (by decide) ?_
                  exact ih42 (x2_42 + (-1 : Int32)) (sA u7 12 (x2_42 + (-1 : Int32)).toNatClampNeg ((u7.2.2 11 (x2_42 + (-1 : Int32)).toNatClampNeg) - (1 : Int32))) _ _ _ hI hS (lv_sub hl [2, 3, 0] rfl) hw hK42
            · have hw := hw.2 hc
              refine lv_aload_n hx hb dX5_winNow_147 rfl (lv_at hl 1 rfl) ?_
              refine mg_X5_0_29 S hI dX5_winNow_148 ?_
              refine lv_aload_n hx hb dX5_winNow_151 rfl (lv_at hl 1 rfl) ?_
              refine mg_X5_0_41 S hI dX5_winNow_152 ?_
              refine lv_iload_n hx hb dX5_winNow_155 rfl (lv_at hl 3 rfl) ?_
              obtain ⟨hv, hw⟩ := hw
              refine mld_10 S hI hv dX5_winNow_156 ?_
              refine lv_iconst (v := (-1 : Int32)) hx hb dX5_winNow_157 (by decide) ?_
              obtain ⟨hv, hw⟩ := hw
              refine mst_6 S hI hS hv dX5_winNow_158 (fun H locs hI hS => ?_)
              refine lv_iinc (v := x2_42 + (-1 : Int32)) (lv' := [(2, .int (x2_42 + (-1 : Int32))), (3, .int (1 : Int32)), (0, .ref (ad 0)), (1, .int x1_42)]) hx hb dX5_winNow_159 hl (k := 3) rfl (congrArg (fun z => x2_42 + z) (by decide)) (by decide) rfl (fun ls hl => ?_)
              refine lv_iload_n hx hb dX5_winNow_162 rfl (lv_at hl 0 rfl) ?_
              refine lv_if_lt (tgt := 192) hx hb dX5_winNow_163 (by decide) (fun hc => ?_) (fun hc => ?_)
              · have hw := hw.1 hc
                refine lv_goto (tgt := 42) hx hb dX5_winNow_192 (by decide) ?_
                exact ih42 (x2_42 + (-1 : Int32)) (sA u7 6 (u7.2.2 10 x2_42.toNatClampNeg).toNatClampNeg (-1 : Int32)) _ _ _ hI hS (lv_sub hl [2, 3, 0] rfl) hw hK42
              · have hw := hw.2 hc
                refine lv_aload_n hx hb dX5_winNow_166 rfl (lv_at hl 2 rfl) ?_
                refine mg_X5_0_47 S hI dX5_winNow_167 ?_
                refine lv_iload_n hx hb dX5_winNow_170 rfl (lv_at hl 0 rfl) ?_
                refine lv_iconst (v := (1 : Int32)) hx hb dX5_winNow_171 (by decide) ?_
                refine lv_iadd hx hb dX5_winNow_172 ?_
                obtain ⟨hv, hw⟩ := hw
                refine mld_12 S hI hv dX5_winNow_173 ?_
                refine lv_iconst (v := (-1 : Int32)) hx hb dX5_winNow_174 (by decide) ?_
                refine lv_icmp_ne (tgt := 192) hx hb dX5_winNow_175 (by decide) (fun hc => ?_) (fun hc => ?_)
                · have hw := hw.1 hc
                  refine lv_goto (tgt := 42) hx hb dX5_winNow_192 (by decide) ?_
                  exact ih42 (x2_42 + (-1 : Int32)) (sA u7 6 (u7.2.2 10 x2_42.toNatClampNeg).toNatClampNeg (-1 : Int32)) _ _ _ hI hS (lv_sub hl [2, 3, 0] rfl) hw hK42
                · have hw := hw.2 hc
                  refine lv_aload_n hx hb dX5_winNow_178 rfl (lv_at hl 2 rfl) ?_
                  refine mg_X5_0_47 S hI dX5_winNow_179 ?_
                  refine lv_iload_n hx hb dX5_winNow_182 rfl (lv_at hl 0 rfl) ?_
                  refine lv_aload_n hx hb dX5_winNow_183 rfl (lv_at hl 2 rfl) ?_
                  refine mg_X5_0_44 S hI dX5_winNow_184 ?_
                  refine lv_iload_n hx hb dX5_winNow_187 rfl (lv_at hl 0 rfl) ?_
                  obtain ⟨hv, hw⟩ := hw
                  refine mld_11 S hI hv dX5_winNow_188 ?_
                  refine lv_iconst (v := (1 : Int32)) hx hb dX5_winNow_189 (by decide) ?_
                  refine lv_isub hx hb dX5_winNow_190 ?_
                  obtain ⟨hv, hw⟩ := hw
                  refine mst_12 S hI hS hv dX5_winNow_191 (fun H locs hI hS => ?_)
                  refine lv_goto (tgt := 42) hx hb dX5_winNow_192 (by decide) ?_
                  exact ih42 (x2_42 + (-1 : Int32)) (sA (sA u7 6 (u7.2.2 10 x2_42.toNatClampNeg).toNatClampNeg (-1 : Int32)) 12 (x2_42 + (-1 : Int32)).toNatClampNeg (((sA u7 6 (u7.2.2 10 x2_42.toNatClampNeg).toNatClampNeg (-1 : Int32)).2.2 11 (x2_42 + (-1 : Int32)).toNatClampNeg) - (1 : Int32))) _ _ _ hI hS (lv_sub hl [2, 3, 0] rfl) hw hK42
          · have hw := hw.2 hc
            refine lv_aload_n hx hb dX5_winNow_64 rfl (lv_at hl 0 rfl) ?_
            refine mg_X5_0_47 S hI dX5_winNow_65 ?_
            refine lv_iload_n hx hb dX5_winNow_68 rfl (lv_at hl 2 rfl) ?_
            obtain ⟨hv, hw⟩ := hw
            refine mld_12 S hI hv dX5_winNow_69 ?_
            refine lv_iconst (v := (-1 : Int32)) hx hb dX5_winNow_70 (by decide) ?_
            refine lv_icmp_eq (tgt := 78) hx hb dX5_winNow_71 (by decide) (fun hc => ?_) (fun hc => ?_)
            · have hw := hw.1 hc
              refine lv_iconst (v := (0 : Int32)) hx hb dX5_winNow_78 (by decide) ?_
              refine lv_istore_n (lv' := [(3, .int (0 : Int32)), (0, .ref (ad 0)), (1, .int x1_42), (2, .int x2_42)]) hx hb dX5_winNow_79 rfl hl (by decide) rfl (fun ls hl => ?_)
              refine lv_iload_n hx hb dX5_winNow_80 rfl (lv_at hl 0 rfl) ?_
              refine lv_if_ne (tgt := 142) hx hb dX5_winNow_81 (by decide) (fun hc => ?_) (fun hc => ?_)
              · exact absurd (by decide) hc
              refine lv_aload_n hx hb dX5_winNow_84 rfl (lv_at hl 1 rfl) ?_
              refine mg_X5_0_29 S hI dX5_winNow_85 ?_
              refine lv_aload_n hx hb dX5_winNow_88 rfl (lv_at hl 1 rfl) ?_
              refine mg_X5_0_41 S hI dX5_winNow_89 ?_
              refine lv_iload_n hx hb dX5_winNow_92 rfl (lv_at hl 3 rfl) ?_
              obtain ⟨hv, hw⟩ := hw
              refine mld_10 S hI hv dX5_winNow_93 ?_
              refine lv_aload_n hx hb dX5_winNow_94 rfl (lv_at hl 1 rfl) ?_
              refine mg_X5_0_44 S hI dX5_winNow_95 ?_
              refine lv_iload_n hx hb dX5_winNow_98 rfl (lv_at hl 3 rfl) ?_
              obtain ⟨hv, hw⟩ := hw
              refine mld_11 S hI hv dX5_winNow_99 ?_
              obtain ⟨hv, hw⟩ := hw
              refine mst_6 S hI hS hv dX5_winNow_100 (fun H locs hI hS => ?_)
              refine lv_aload_n hx hb dX5_winNow_101 rfl (lv_at hl 1 rfl) ?_
              refine mg_X5_0_44 S hI dX5_winNow_102 ?_
              refine lv_iload_n hx hb dX5_winNow_105 rfl (lv_at hl 3 rfl) ?_
              refine lv_dup2_11 hx hb dX5_winNow_106 rfl rfl ?_
              obtain ⟨hv, hw⟩ := hw
              refine mld_11 S hI hv dX5_winNow_107 ?_
              refine lv_iconst (v := (1 : Int32)) hx hb dX5_winNow_108 (by decide) ?_
              refine lv_iadd hx hb dX5_winNow_109 ?_
              obtain ⟨hv, hw⟩ := hw
              refine mst_11 S hI hS hv dX5_winNow_110 (fun H locs hI hS => ?_)
              refine lv_aload_n hx hb dX5_winNow_111 rfl (lv_at hl 1 rfl) ?_
              refine lv_aload_n hx hb dX5_winNow_112 rfl (lv_at hl 1 rfl) ?_
              refine mg_X5_0_101 S hI dX5_winNow_113 ?_
              refine g_ci hg hS (g_runV S hg hI hN hS (As := [.int ((sA (sA u7 6 (u7.2.2 10 x2_42.toNatClampNeg).toNatClampNeg (u7.2.2 11 x2_42.toNatClampNeg)) 11 x2_42.toNatClampNeg (((sA u7 6 (u7.2.2 10 x2_42.toNatClampNeg).toNatClampNeg (u7.2.2 11 x2_42.toNatClampNeg)).2.2 11 x2_42.toNatClampNeg) + (1 : Int32))).1 1)]) (rest := []) (tX5_badUpTo l D ad cI cB  _ _ _ hw) cv_yX5_badUpTo qm_X5_131 (va_recv hI.2.1 hI.1 (ci := 5) (q0 := 0) rfl rfl) ⟨Nat.le_of_ble_eq_true rfl, Nat.le_of_ble_eq_true rfl⟩ rfl hl.1 rfl (Nat.le_of_ble_eq_true rfl) dX5_winNow_116) (fun r8 u9 H locs hI hS hw => ?_)
              refine lv_if_ne (tgt := 192) hx hb dX5_winNow_119 (by decide) (fun hc => ?_) (fun hc => ?_)
              · have hw := hw.1 hc
                refine lv_goto (tgt := 42) hx hb dX5_winNow_192 (by decide) ?_
                exact ih42 x2_42 u9 _ _ _ hI hS (lv_sub hl [1, 2, 3] rfl) hw hK42
              · have hw := hw.2 hc
                refine lv_iinc (v := x2_42 + 1) (lv' := [(2, .int (x2_42 + 1)), (3, .int (0 : Int32)), (0, .ref (ad 0)), (1, .int x1_42)]) hx hb dX5_winNow_122 hl (k := 3) rfl (congrArg (fun z => x2_42 + z) (by decide)) (by decide) rfl (fun ls hl => ?_)
                refine lv_aload_n hx hb dX5_winNow_125 rfl (lv_at hl 2 rfl) ?_
                refine mg_X5_0_44 S hI dX5_winNow_126 ?_
                refine lv_iload_n hx hb dX5_winNow_129 rfl (lv_at hl 0 rfl) ?_
                refine lv_iconst (v := (0 : Int32)) hx hb dX5_winNow_130 (by decide) ?_
                obtain ⟨hv, hw⟩ := hw
                refine mst_11 S hI hS hv dX5_winNow_131 (fun H locs hI hS => ?_)
                refine lv_aload_n hx hb dX5_winNow_132 rfl (lv_at hl 2 rfl) ?_
                refine mg_X5_0_47 S hI dX5_winNow_133 ?_
                refine lv_iload_n hx hb dX5_winNow_136 rfl (lv_at hl 0 rfl) ?_
                refine lv_iconst (v := (-1 : Int32)) hx hb dX5_winNow_137 (by decide) ?_
                obtain ⟨hv, hw⟩ := hw
                refine mst_12 S hI hS hv dX5_winNow_138 (fun H locs hI hS => ?_)
                refine lv_goto (tgt := 192) hx hb dX5_winNow_139 (by decide) ?_
                refine lv_goto (tgt := 42) hx hb dX5_winNow_192 (by decide) ?_
                exact ih42 (x2_42 + 1) (sA (sA u9 11 (x2_42 + 1).toNatClampNeg (0 : Int32)) 12 (x2_42 + 1).toNatClampNeg (-1 : Int32)) _ _ _ hI hS (lv_sub hl [2, 3, 0] rfl) hw hK42
            · have hw := hw.2 hc
              refine lv_iconst (v := (1 : Int32)) hx hb dX5_winNow_74 (by decide) ?_
              refine lv_goto (tgt := 79) hx hb dX5_winNow_75 (by decide) ?_
              refine lv_istore_n (lv' := [(3, .int (1 : Int32)), (0, .ref (ad 0)), (1, .int x1_42), (2, .int x2_42)]) hx hb dX5_winNow_79 rfl hl (by decide) rfl (fun ls hl => ?_)
              refine lv_iload_n hx hb dX5_winNow_80 rfl (lv_at hl 0 rfl) ?_
              refine lv_if_ne (tgt := 142) hx hb dX5_winNow_81 (by decide) (fun hc => ?_) (fun hc => ?_)
              rotate_left
              · exact absurd hc (by decide)
              refine lv_iload_n hx hb dX5_winNow_142 rfl (lv_at hl 3 rfl) ?_
              refine lv_iload_n hx hb dX5_winNow_143 rfl (lv_at hl 2 rfl) ?_
              refine lv_icmp_ge (tgt := 159) hx hb dX5_winNow_144 (by decide) (fun hc => ?_) (fun hc => ?_)
              · have hw := hw.1 hc
                refine lv_iinc (v := x2_42 + (-1 : Int32)) (lv' := [(2, .int (x2_42 + (-1 : Int32))), (3, .int (1 : Int32)), (0, .ref (ad 0)), (1, .int x1_42)]) hx hb dX5_winNow_159 hl (k := 3) rfl (congrArg (fun z => x2_42 + z) (by decide)) (by decide) rfl (fun ls hl => ?_)
                refine lv_iload_n hx hb dX5_winNow_162 rfl (lv_at hl 0 rfl) ?_
                refine lv_if_lt (tgt := 192) hx hb dX5_winNow_163 (by decide) (fun hc => ?_) (fun hc => ?_)
                · have hw := hw.1 hc
                  refine lv_goto (tgt := 42) hx hb dX5_winNow_192 (by decide) ?_
                  exact ih42 (x2_42 + (-1 : Int32)) u7 _ _ _ hI hS (lv_sub hl [2, 3, 0] rfl) hw hK42
                · have hw := hw.2 hc
                  refine lv_aload_n hx hb dX5_winNow_166 rfl (lv_at hl 2 rfl) ?_
                  refine mg_X5_0_47 S hI dX5_winNow_167 ?_
                  refine lv_iload_n hx hb dX5_winNow_170 rfl (lv_at hl 0 rfl) ?_
                  refine lv_iconst (v := (1 : Int32)) hx hb dX5_winNow_171 (by decide) ?_
                  refine lv_iadd hx hb dX5_winNow_172 ?_
                  obtain ⟨hv, hw⟩ := hw
                  refine mld_12 S hI hv dX5_winNow_173 ?_
                  refine lv_iconst (v := (-1 : Int32)) hx hb dX5_winNow_174 (by decide) ?_
                  refine lv_icmp_ne (tgt := 192) hx hb dX5_winNow_175 (by decide) (fun hc => ?_) (fun hc => ?_)
                  · have hw := hw.1 hc
                    refine lv_goto (tgt := 42) hx hb dX5_winNow_192 (by decide) ?_
                    exact ih42 (x2_42 + (-1 : Int32)) u7 _ _ _ hI hS (lv_sub hl [2, 3, 0] rfl) hw hK42
                  · have hw := hw.2 hc
                    refine lv_aload_n hx hb dX5_winNow_178 rfl (lv_at hl 2 rfl) ?_
                    refine mg_X5_0_47 S hI dX5_winNow_179 ?_
                    refine lv_iload_n hx hb dX5_winNow_182 rfl (lv_at hl 0 rfl) ?_
                    refine lv_aload_n hx hb dX5_winNow_183 rfl (lv_at hl 2 rfl) ?_
                    refine mg_X5_0_44 S hI dX5_winNow_184 ?_
                    refine lv_iload_n hx hb dX5_winNow_187 rfl (lv_at hl 0 rfl) ?_
                    obtain ⟨hv, hw⟩ := hw
                    refine mld_11 S hI hv dX5_winNow_188 ?_
                    refine lv_iconst (v := (1 : Int32)) hx hb dX5_winNow_189 (by decide) ?_
                    refine lv_isub hx hb dX5_winNow_190 ?_
                    obtain ⟨hv, hw⟩ := hw
                    refine mst_12 S hI hS hv dX5_winNow_191 (fun H locs hI hS => ?_)
                    refine lv_goto (tgt := 42) hx hb dX5_winNow_192 (by decide) ?_
                    exact ih42 (x2_42 + (-1 : Int32)) (sA u7 12 (x2_42 + (-1 : Int32)).toNatClampNeg ((u7.2.2 11 (x2_42 + (-1 : Int32)).toNatClampNeg) - (1 : Int32))) _ _ _ hI hS (lv_sub hl [2, 3, 0] rfl) hw hK42
              · have hw := hw.2 hc
                refine lv_aload_n hx hb dX5_winNow_147 rfl (lv_at hl 1 rfl) ?_
                refine mg_X5_0_29 S hI dX5_winNow_148 ?_
                refine lv_aload_n hx hb dX5_winNow_151 rfl (lv_at hl 1 rfl) ?_
                refine mg_X5_0_41 S hI dX5_winNow_152 ?_
                refine lv_iload_n hx hb dX5_winNow_155 rfl (lv_at hl 3 rfl) ?_
                obtain ⟨hv, hw⟩ := hw
                refine mld_10 S hI hv dX5_winNow_156 ?_
                refine lv_iconst (v := (-1 : Int32)) hx hb dX5_winNow_157 (by decide) ?_
                obtain ⟨hv, hw⟩ := hw
                refine mst_6 S hI hS hv dX5_winNow_158 (fun H locs hI hS => ?_)
                refine lv_iinc (v := x2_42 + (-1 : Int32)) (lv' := [(2, .int (x2_42 + (-1 : Int32))), (3, .int (1 : Int32)), (0, .ref (ad 0)), (1, .int x1_42)]) hx hb dX5_winNow_159 hl (k := 3) rfl (congrArg (fun z => x2_42 + z) (by decide)) (by decide) rfl (fun ls hl => ?_)
                refine lv_iload_n hx hb dX5_winNow_162 rfl (lv_at hl 0 rfl) ?_
                refine lv_if_lt (tgt := 192) hx hb dX5_winNow_163 (by decide) (fun hc => ?_) (fun hc => ?_)
                · have hw := hw.1 hc
                  refine lv_goto (tgt := 42) hx hb dX5_winNow_192 (by decide) ?_
                  exact ih42 (x2_42 + (-1 : Int32)) (sA u7 6 (u7.2.2 10 x2_42.toNatClampNeg).toNatClampNeg (-1 : Int32)) _ _ _ hI hS (lv_sub hl [2, 3, 0] rfl) hw hK42
                · have hw := hw.2 hc
                  refine lv_aload_n hx hb dX5_winNow_166 rfl (lv_at hl 2 rfl) ?_
                  refine mg_X5_0_47 S hI dX5_winNow_167 ?_
                  refine lv_iload_n hx hb dX5_winNow_170 rfl (lv_at hl 0 rfl) ?_
                  refine lv_iconst (v := (1 : Int32)) hx hb dX5_winNow_171 (by decide) ?_
                  refine lv_iadd hx hb dX5_winNow_172 ?_
                  obtain ⟨hv, hw⟩ := hw
                  refine mld_12 S hI hv dX5_winNow_173 ?_
                  refine lv_iconst (v := (-1 : Int32)) hx hb dX5_winNow_174 (by decide) ?_
                  refine lv_icmp_ne (tgt := 192) hx hb dX5_winNow_175 (by decide) (fun hc => ?_) (fun hc => ?_)
                  · have hw := hw.1 hc
                    refine lv_goto (tgt := 42) hx hb dX5_winNow_192 (by decide) ?_
                    exact ih42 (x2_42 + (-1 : Int32)) (sA u7 6 (u7.2.2 10 x2_42.toNatClampNeg).toNatClampNeg (-1 : Int32)) _ _ _ hI hS (lv_sub hl [2, 3, 0] rfl) hw hK42
                  · have hw := hw.2 hc
                    refine lv_aload_n hx hb dX5_winNow_178 rfl (lv_at hl 2 rfl) ?_
                    refine mg_X5_0_47 S hI dX5_winNow_179 ?_
                    refine lv_iload_n hx hb dX5_winNow_182 rfl (lv_at hl 0 rfl) ?_
                    refine lv_aload_n hx hb dX5_winNow_183 rfl (lv_at hl 2 rfl) ?_
                    refine mg_X5_0_44 S hI dX5_winNow_184 ?_
                    refine lv_iload_n hx hb dX5_winNow_187 rfl (lv_at hl 0 rfl) ?_
                    obtain ⟨hv, hw⟩ := hw
                    refine mld_11 S hI hv dX5_winNow_188 ?_
                    refine lv_iconst (v := (1 : Int32)) hx hb dX5_winNow_189 (by decide) ?_
                    refine lv_isub hx hb dX5_winNow_190 ?_
                    obtain ⟨hv, hw⟩ := hw
                    refine mst_12 S hI hS hv dX5_winNow_191 (fun H locs hI hS => ?_)
                    refine lv_goto (tgt := 42) hx hb dX5_winNow_192 (by decide) ?_
                    exact ih42 (x2_42 + (-1 : Int32)) (sA (sA u7 6 (u7.2.2 10 x2_42.toNatClampNeg).toNatClampNeg (-1 : Int32)) 12 (x2_42 + (-1 : Int32)).toNatClampNeg (((sA u7 6 (u7.2.2 10 x2_42.toNatClampNeg).toNatClampNeg (-1 : Int32)).2.2 11 (x2_42 + (-1 : Int32)).toNatClampNeg) - (1 : Int32))) _ _ _ hI hS (lv_sub hl [2, 3, 0] rfl) hw hK42
  refine lv_aload_n hx hb dX5_winNow_0 rfl (lv_at hl 0 rfl) ?_
  refine g_cv hg hS (g_runV S hg hI hN hS (As := []) (rest := []) (tX5_layNow l D ad cI cB   _ _ hw) cv_yX5_layNow qm_X5_128 (va_recv hI.2.1 hI.1 (ci := 5) (q0 := 0) rfl rfl) ⟨Nat.le_of_ble_eq_true rfl, Nat.le_of_ble_eq_true rfl⟩ rfl hl.1 rfl (Nat.le_of_ble_eq_true rfl) dX5_winNow_1) (fun u2 H locs hI hS hw => ?_)
  refine lv_aload_n hx hb dX5_winNow_4 rfl (lv_at hl 0 rfl) ?_
  refine g_ci hg hS (g_runV S hg hI hN hS (As := []) (rest := []) (tX5_layTurns l D ad cI cB   _ _ hw) cv_yX5_layTurns qm_X5_187 (va_recv hI.2.1 hI.1 (ci := 5) (q0 := 0) rfl rfl) ⟨Nat.le_of_ble_eq_true rfl, Nat.le_of_ble_eq_true rfl⟩ rfl hl.1 rfl (Nat.le_of_ble_eq_true rfl) dX5_winNow_5) (fun r3 u4 H locs hI hS hw => ?_)
  refine lv_istore_n (lv' := [(1, .int r3), (0, .ref (ad 0))]) hx hb dX5_winNow_8 rfl hl (by decide) rfl (fun ls hl => ?_)
  refine lv_iload_n hx hb dX5_winNow_9 rfl (lv_at hl 0 rfl) ?_
  refine lv_if_eq (tgt := 24) hx hb dX5_winNow_10 (by decide) (fun hc => ?_) (fun hc => ?_)
  · have hw := hw.1 hc
    refine lv_iconst (v := (-1 : Int32)) hx hb dX5_winNow_24 (by decide) ?_
    exact g_iret S hr hk hg hI hS dX5_winNow_25 hw
  · have hw := hw.2 hc
    refine lv_aload_n hx hb dX5_winNow_13 rfl (lv_at hl 1 rfl) ?_
    refine lv_aload_n hx hb dX5_winNow_14 rfl (lv_at hl 1 rfl) ?_
    refine mg_X5_0_101 S hI dX5_winNow_15 ?_
    refine g_ci hg hS (g_runV S hg hI hN hS (As := [.int (u4.1 1)]) (rest := []) (tX5_badUpTo l D ad cI cB  _ _ _ hw) cv_yX5_badUpTo qm_X5_131 (va_recv hI.2.1 hI.1 (ci := 5) (q0 := 0) rfl rfl) ⟨Nat.le_of_ble_eq_true rfl, Nat.le_of_ble_eq_true rfl⟩ rfl hl.1 rfl (Nat.le_of_ble_eq_true rfl) dX5_winNow_18) (fun r5 u6 H locs hI hS hw => ?_)
    refine lv_if_le (tgt := 26) hx hb dX5_winNow_21 (by decide) (fun hc => ?_) (fun hc => ?_)
    · have hw := hw.1 hc
      refine lv_iconst (v := (0 : Int32)) hx hb dX5_winNow_26 (by decide) ?_
      refine lv_istore_n (lv' := [(2, .int (0 : Int32)), (1, .int r3), (0, .ref (ad 0))]) hx hb dX5_winNow_27 rfl hl (by decide) rfl (fun ls hl => ?_)
      refine lv_aload_n hx hb dX5_winNow_28 rfl (lv_at hl 2 rfl) ?_
      refine mg_X5_0_44 S hI dX5_winNow_29 ?_
      refine lv_iconst (v := (0 : Int32)) hx hb dX5_winNow_32 (by decide) ?_
      refine lv_iconst (v := (0 : Int32)) hx hb dX5_winNow_33 (by decide) ?_
      obtain ⟨hv, hw⟩ := hw
      refine mst_11 S hI hS hv dX5_winNow_34 (fun H locs hI hS => ?_)
      refine lv_aload_n hx hb dX5_winNow_35 rfl (lv_at hl 2 rfl) ?_
      refine mg_X5_0_47 S hI dX5_winNow_36 ?_
      refine lv_iconst (v := (0 : Int32)) hx hb dX5_winNow_39 (by decide) ?_
      refine lv_iconst (v := (-1 : Int32)) hx hb dX5_winNow_40 (by decide) ?_
      obtain ⟨hv, hw⟩ := hw
      refine mst_12 S hI hS hv dX5_winNow_41 (fun H locs hI hS => ?_)
      obtain ⟨n, hw⟩ := hw
      refine L42 r3 _ n (0 : Int32) (sA (sA u6 11 (0 : Int32).toNatClampNeg (0 : Int32)) 12 (0 : Int32).toNatClampNeg (-1 : Int32)) _ _ _ hI hS (lv_sub hl [2, 1, 0] rfl) hw (fun x2_10 u11 H locs ls hI hS hl hw => ?_)
      refine lv_aload_n hx hb dX5_winNow_195 rfl (lv_at hl 0 rfl) ?_
      refine mg_X5_0_47 S hI dX5_winNow_196 ?_
      refine lv_iconst (v := (0 : Int32)) hx hb dX5_winNow_199 (by decide) ?_
      obtain ⟨hv, hw⟩ := hw
      refine mld_12 S hI hv dX5_winNow_200 ?_
      exact g_iret S hr hk hg hI hS dX5_winNow_201 hw
    · have hw := hw.2 hc
      refine lv_iconst (v := (-1 : Int32)) hx hb dX5_winNow_24 (by decide) ?_
      exact g_iret S hr hk hg hI hS dX5_winNow_25 hw
set_option maxRecDepth 100000 in
set_option maxHeartbeats 4000000 in
theorem tX5_winsNow (l : Launch) (D : va_G) (ad : Nat → Nat) (cI cB : ClassId)  (a1 : Int32) (u : SS) (post : Int32 → SS → Prop) (hw : wX5_winsNow  a1 u post) : Met l yX5_winsNow (Cond.code yX5_winsNow cX5_winsNow 3 (some .int) :: XT) (Rm 6) (va_Pc [.ref (ad 0), .int a1] (Pr (mI D ad cI cB) mN u)) (va_Qi post (Po (mI D ad cI cB)) (mA ad)) 0 0 (mA ad) := by
  refine g_of (A := (mA ad)) (by decide) (Nat.le_of_ble_eq_true rfl) (lv := [(0, .ref (ad 0)), (1, .int a1)]) rfl ?_
  intro p e s m below meth c ls S hr hk hI hN hS hl
  have hx := S.1
  have hb := S.2.1
  have ho := S.2.2.2.1
  have hg := @mG D ad cI cB
  refine lv_aload_n hx hb dX5_winsNow_0 rfl (lv_at hl 0 rfl) ?_
  refine g_ci hg hS (g_runV S hg hI hN hS (As := []) (rest := []) (tX5_winNow l D ad cI cB   _ _ hw) cv_yX5_winNow qm_X5_190 (va_recv hI.2.1 hI.1 (ci := 5) (q0 := 0) rfl rfl) ⟨Nat.le_of_ble_eq_true rfl, Nat.le_of_ble_eq_true rfl⟩ rfl hl.1 rfl (Nat.le_of_ble_eq_true rfl) dX5_winsNow_1) (fun r1 u2 H locs hI hS hw => ?_)
  refine lv_istore_n (lv' := [(2, .int r1), (0, .ref (ad 0)), (1, .int a1)]) hx hb dX5_winsNow_4 rfl hl (by decide) rfl (fun ls hl => ?_)
  refine lv_iload_n hx hb dX5_winsNow_5 rfl (lv_at hl 2 rfl) ?_
  refine lv_iconst (v := (1 : Int32)) hx hb dX5_winsNow_6 (by decide) ?_
  refine lv_icmp_ne (tgt := 14) hx hb dX5_winsNow_7 (by decide) (fun hc => ?_) (fun hc => ?_)
  · have hw := hw.1 hc
    refine lv_iload_n hx hb dX5_winsNow_14 rfl (lv_at hl 0 rfl) ?_
    refine lv_iconst (v := (-1 : Int32)) hx hb dX5_winsNow_15 (by decide) ?_
    refine lv_icmp_ne (tgt := 23) hx hb dX5_winsNow_16 (by decide) (fun hc => ?_) (fun hc => ?_)
    · have hw := hw.1 hc
      refine lv_iconst (v := (1 : Int32)) hx hb dX5_winsNow_23 (by decide) ?_
      exact g_iret S hr hk hg hI hS dX5_winsNow_24 hw
    · have hw := hw.2 hc
      refine lv_iconst (v := (0 : Int32)) hx hb dX5_winsNow_19 (by decide) ?_
      refine lv_goto (tgt := 24) hx hb dX5_winsNow_20 (by decide) ?_
      exact g_iret S hr hk hg hI hS dX5_winsNow_24 hw
  · have hw := hw.2 hc
    refine lv_iload_n hx hb dX5_winsNow_10 rfl (lv_at hl 0 rfl) ?_
    refine lv_goto (tgt := 24) hx hb dX5_winsNow_11 (by decide) ?_
    exact g_iret S hr hk hg hI hS dX5_winsNow_24 hw
set_option maxRecDepth 100000 in
set_option maxHeartbeats 4000000 in
theorem tX5_wins (l : Launch) (D : va_G) (ad : Nat → Nat) (cI cB : ClassId)  (a1 : Int32) (u : SS) (post : Int32 → SS → Prop) (hw : wX5_wins  a1 u post) : Met l yX5_wins (Cond.code yX5_wins cX5_wins 2 (some .int) :: XT) (Rm 7) (va_Pc [.ref (ad 0), .int a1] (Pr (mI D ad cI cB) mN u)) (va_Qi post (Po (mI D ad cI cB)) (mA ad)) 0 0 (mA ad) := by
  refine g_of (A := (mA ad)) (by decide) (Nat.le_of_ble_eq_true rfl) (lv := [(0, .ref (ad 0)), (1, .int a1)]) rfl ?_
  intro p e s m below meth c ls S hr hk hI hN hS hl
  have hx := S.1
  have hb := S.2.1
  have ho := S.2.2.2.1
  have hg := @mG D ad cI cB
  refine lv_iload_n hx hb dX5_wins_0 rfl (lv_at hl 1 rfl) ?_
  refine lv_iconst (v := (0 : Int32)) hx hb dX5_wins_1 (by decide) ?_
  refine lv_iconst (v := (1 : Int32)) hx hb dX5_wins_2 (by decide) ?_
  refine g_ci hg hS (g_runS S hg hI hN hS (As := [.int a1, .int (0 : Int32), .int (1 : Int32)]) (rest := []) (tX5_within l D ad cI cB  _ _ _ _ _ hw) cs_yX5_within qm_X5_65 ⟨Nat.le_of_ble_eq_true rfl, Nat.le_of_ble_eq_true rfl⟩ rfl hl.1 rfl (Nat.le_of_ble_eq_true rfl) dX5_wins_3) (fun r1 u2 H locs hI hS hw => ?_)
  refine lv_if_ne (tgt := 12) hx hb dX5_wins_6 (by decide) (fun hc => ?_) (fun hc => ?_)
  · have hw := hw.1 hc
    refine lv_aload_n hx hb dX5_wins_12 rfl (lv_at hl 0 rfl) ?_
    refine mg_X5_0_101 S hI dX5_wins_13 ?_
    refine lv_if_ne (tgt := 24) hx hb dX5_wins_16 (by decide) (fun hc => ?_) (fun hc => ?_)
    · have hw := hw.1 hc
      refine lv_aload_n hx hb dX5_wins_24 rfl (lv_at hl 0 rfl) ?_
      refine lv_iload_n hx hb dX5_wins_25 rfl (lv_at hl 1 rfl) ?_
      refine g_ci hg hS (g_runV S hg hI hN hS (As := [.int a1]) (rest := []) (tX5_winsNow l D ad cI cB  _ _ _ hw) cv_yX5_winsNow qm_X5_193 (va_recv hI.2.1 hI.1 (ci := 5) (q0 := 0) rfl rfl) ⟨Nat.le_of_ble_eq_true rfl, Nat.le_of_ble_eq_true rfl⟩ rfl hl.1 rfl (Nat.le_of_ble_eq_true rfl) dX5_wins_26) (fun r3 u4 H locs hI hS hw => ?_)
      exact g_iret S hr hk hg hI hS dX5_wins_29 hw
    · have hw := hw.2 hc
      refine lv_bipush (v := (-103 : Int32)) hx hb dX5_wins_19 (by decide) ?_
      refine lv_goto (tgt := 29) hx hb dX5_wins_21 (by decide) ?_
      exact g_iret S hr hk hg hI hS dX5_wins_29 hw
  · have hw := hw.2 hc
    refine lv_bipush (v := (-102 : Int32)) hx hb dX5_wins_9 (by decide) ?_
    exact g_iret S hr hk hg hI hS dX5_wins_11 hw
set_option maxRecDepth 100000 in
set_option maxHeartbeats 4000000 in
theorem tX5_divisor (l : Launch) (D : va_G) (ad : Nat → Nat) (cI cB : ClassId)  (a0 : Int32) (a1 : Int32) (u : SS) (post : Int32 → SS → Prop) (hw : wX5_divisor  a0 a1 u post) : Met l yX5_divisor (Cond.code yX5_divisor cX5_divisor 5 (some .int) :: XT) (Rm 1) (va_Pc [.int a0, .int a1] (Pr (mI D ad cI cB) mN u)) (va_Qi post (Po (mI D ad cI cB)) (mA ad)) 0 0 (mA ad) := by
  refine g_of (A := (mA ad)) (by decide) (Nat.le_of_ble_eq_true rfl) (lv := [(0, .int a0), (1, .int a1)]) rfl ?_
  intro p e s m below meth c ls S hr hk hI hN hS hl
  have hx := S.1
  have hb := S.2.1
  have ho := S.2.2.2.1
  have hg := @mG D ad cI cB
  have L4 : ∀ (x0_4 : Int32) (x1_4 : Int32) (K4 : Int32 → Int32 → SS → Prop) (n : Nat) (x2_4 : Int32) (x3_4 : Int32) (u1 : SS) (H : Heap) (locs : List Loc) (ls : Array Slot), mI D ad cI cB u1 s H → va_S (mA ad) s.heap H locs → lv_has ls 5 [(0, .int x0_4), (1, .int x1_4), (2, .int x2_4), (3, .int x3_4)] → wX5_divisor_4 post x0_4 x1_4 K4 n x2_4 x3_4 u1 → (∀ (x2_4 : Int32) (x3_4 : Int32) (u1 : SS) (H : Heap) (locs : List Loc) (ls : Array Slot), mI D ad cI cB u1 s H → va_S (mA ad) s.heap H locs → lv_has ls 5 [(0, .int x0_4), (1, .int x1_4), (2, .int x2_4), (3, .int x3_4)] → K4 x2_4 x3_4 u1 → W p l e (Rm 1) s m [.int a0, .int a1].toArray below meth c H locs 0 0 (MQ below (va_Qi post (Po (mI D ad cI cB)) (mA ad)) [.int a0, .int a1].toArray s 0 0 (mA ad)) (F0 m 21 ls [])) → W p l e (Rm 1) s m [.int a0, .int a1].toArray below meth c H locs 0 0 (MQ below (va_Qi post (Po (mI D ad cI cB)) (mA ad)) [.int a0, .int a1].toArray s 0 0 (mA ad)) (F0 m 4 ls []) := by
    intro x0_4 x1_4 K4 n
    induction n with
    | zero => intro x2_4 x3_4 u1 H locs ls hI hS hl hw hK4; exact False.elim hw
    | succ n4 ih4 =>
      intro x2_4 x3_4 u1 H locs ls hI hS hl hw hK4
      refine lv_iload_n hx hb dX5_divisor_4 rfl (lv_at hl 3 rfl) ?_
      refine lv_if_eq (tgt := 21) hx hb dX5_divisor_5 (by decide) (fun hc => ?_) (fun hc => ?_)
      · have hw := hw.1 hc
        exact hK4 x2_4 x3_4 u1 _ _ _ hI hS (lv_sub hl [0, 1, 2, 3] rfl) hw
      · have hw := hw.2 hc
        refine lv_iload_n hx hb dX5_divisor_8 rfl (lv_at hl 2 rfl) ?_
        refine lv_iload_n hx hb dX5_divisor_9 rfl (lv_at hl 3 rfl) ?_
        obtain ⟨hv, hw⟩ := hw
        refine lv_irem hx hb dX5_divisor_10 hv ?_
        refine lv_istore (lv' := [(4, .int (x2_4 - x2_4 / x3_4 * x3_4)), (0, .int x0_4), (1, .int x1_4), (2, .int x2_4), (3, .int x3_4)]) hx hb dX5_divisor_11 hl (by decide) rfl (fun ls hl => ?_)
        refine lv_iload_n hx hb dX5_divisor_13 rfl (lv_at hl 4 rfl) ?_
        refine lv_istore_n (lv' := [(2, .int x3_4), (4, .int (x2_4 - x2_4 / x3_4 * x3_4)), (0, .int x0_4), (1, .int x1_4), (3, .int x3_4)]) hx hb dX5_divisor_14 rfl hl (by decide) rfl (fun ls hl => ?_)
        refine lv_iload hx hb dX5_divisor_15 (lv_at hl 1 rfl) ?_
        refine lv_istore_n (lv' := [(3, .int (x2_4 - x2_4 / x3_4 * x3_4)), (2, .int x3_4), (4, .int (x2_4 - x2_4 / x3_4 * x3_4)), (0, .int x0_4), (1, .int x1_4)]) hx hb dX5_divisor_17 rfl hl (by decide) rfl (fun ls hl => ?_)
        refine lv_goto (tgt := 4) hx hb dX5_divisor_18 (by decide) ?_
        exact ih4 x3_4 (x2_4 - x2_4 / x3_4 * x3_4) u1 _ _ _ hI hS (lv_sub hl [3, 4, 1, 0] rfl) hw hK4
  refine lv_iload_n hx hb dX5_divisor_0 rfl (lv_at hl 0 rfl) ?_
  refine lv_istore_n (lv' := [(2, .int a0), (0, .int a0), (1, .int a1)]) hx hb dX5_divisor_1 rfl hl (by decide) rfl (fun ls hl => ?_)
  refine lv_iload_n hx hb dX5_divisor_2 rfl (lv_at hl 2 rfl) ?_
  refine lv_istore_n (lv' := [(3, .int a1), (2, .int a0), (0, .int a0), (1, .int a1)]) hx hb dX5_divisor_3 rfl hl (by decide) rfl (fun ls hl => ?_)
  obtain ⟨n, hw⟩ := hw
  refine L4 a0 a1 _ n a0 a1 u _ _ _ hI hS (lv_sub hl [2, 3, 1, 0] rfl) hw (fun x2_2 x3_3 u4 H locs ls hI hS hl hw => ?_)
  refine lv_iload_n hx hb dX5_divisor_21 rfl (lv_at hl 2 rfl) ?_
  exact g_iret S hr hk hg hI hS dX5_divisor_22 hw
set_option maxRecDepth 100000 in
set_option maxHeartbeats 4000000 in
theorem tX5_oddsNow (l : Launch) (D : va_G) (ad : Nat → Nat) (cI cB : ClassId)  (a1 : Int32) (a2 : Int32) (a3 : Int32) (u : SS) (post : Int32 → SS → Prop) (hw : wX5_oddsNow  a1 a2 a3 u post) : Met l yX5_oddsNow (Cond.code yX5_oddsNow cX5_oddsNow 7 (some .int) :: XT) (Rm 6) (va_Pc [.ref (ad 0), .int a1, .int a2, .int a3] (Pr (mI D ad cI cB) mN u)) (va_Qi post (Po (mI D ad cI cB)) (mA ad)) 0 0 (mA ad) := by
  refine g_of (A := (mA ad)) (by decide) (Nat.le_of_ble_eq_true rfl) (lv := [(0, .ref (ad 0)), (1, .int a1), (2, .int a2), (3, .int a3)]) rfl ?_
  intro p e s m below meth c ls S hr hk hI hN hS hl
  have hx := S.1
  have hb := S.2.1
  have ho := S.2.2.2.1
  have hg := @mG D ad cI cB
  refine lv_aload_n hx hb dX5_oddsNow_0 rfl (lv_at hl 0 rfl) ?_
  refine lv_iconst (v := (-1 : Int32)) hx hb dX5_oddsNow_1 (by decide) ?_
  refine g_ci hg hS (g_runV S hg hI hN hS (As := [.int (-1 : Int32)]) (rest := []) (tX5_layWays l D ad cI cB  _ _ _ hw) cv_yX5_layWays qm_X5_134 (va_recv hI.2.1 hI.1 (ci := 5) (q0 := 0) rfl rfl) ⟨Nat.le_of_ble_eq_true rfl, Nat.le_of_ble_eq_true rfl⟩ rfl hl.1 rfl (Nat.le_of_ble_eq_true rfl) dX5_oddsNow_2) (fun r1 u2 H locs hI hS hw => ?_)
  refine lv_istore (lv' := [(4, .int r1), (0, .ref (ad 0)), (1, .int a1), (2, .int a2), (3, .int a3)]) hx hb dX5_oddsNow_5 hl (by decide) rfl (fun ls hl => ?_)
  refine lv_aload_n hx hb dX5_oddsNow_7 rfl (lv_at hl 1 rfl) ?_
  refine mg_X5_0_32 S hI dX5_oddsNow_8 ?_
  refine lv_iconst (v := (3 : Int32)) hx hb dX5_oddsNow_11 (by decide) ?_
  refine lv_iload_n hx hb dX5_oddsNow_12 rfl (lv_at hl 2 rfl) ?_
  refine lv_imul hx hb dX5_oddsNow_13 ?_
  refine lv_iload_n hx hb dX5_oddsNow_14 rfl (lv_at hl 3 rfl) ?_
  refine lv_iadd hx hb dX5_oddsNow_15 ?_
  obtain ⟨hv, hw⟩ := hw
  refine mld_7 S hI hv dX5_oddsNow_16 ?_
  refine lv_istore (lv' := [(5, .int (u2.2.2 7 (((3 : Int32) * a1) + a2).toNatClampNeg)), (4, .int r1), (0, .ref (ad 0)), (1, .int a1), (2, .int a2), (3, .int a3)]) hx hb dX5_oddsNow_17 hl (by decide) rfl (fun ls hl => ?_)
  refine lv_iload hx hb dX5_oddsNow_19 (lv_at hl 0 rfl) ?_
  refine lv_if_ne (tgt := 26) hx hb dX5_oddsNow_21 (by decide) (fun hc => ?_) (fun hc => ?_)
  · have hw := hw.1 hc
    refine lv_iload hx hb dX5_oddsNow_26 (lv_at hl 0 rfl) ?_
    refine lv_iload hx hb dX5_oddsNow_28 (lv_at hl 1 rfl) ?_
    refine g_ci hg hS (g_runS S hg hI hN hS (As := [.int (u2.2.2 7 (((3 : Int32) * a1) + a2).toNatClampNeg), .int r1]) (rest := []) (tX5_divisor l D ad cI cB  _ _ _ _ hw) cs_yX5_divisor qm_X5_196 ⟨Nat.le_of_ble_eq_true rfl, Nat.le_of_ble_eq_true rfl⟩ rfl hl.1 rfl (Nat.le_of_ble_eq_true rfl) dX5_oddsNow_30) (fun r3 u4 H locs hI hS hw => ?_)
    refine lv_istore (lv' := [(6, .int r3), (5, .int (u2.2.2 7 (((3 : Int32) * a1) + a2).toNatClampNeg)), (4, .int r1), (0, .ref (ad 0)), (1, .int a1), (2, .int a2), (3, .int a3)]) hx hb dX5_oddsNow_33 hl (by decide) rfl (fun ls hl => ?_)
    refine lv_iload_n hx hb dX5_oddsNow_35 rfl (lv_at hl 6 rfl) ?_
    refine lv_if_ne (tgt := 47) hx hb dX5_oddsNow_36 (by decide) (fun hc => ?_) (fun hc => ?_)
    · have hw := hw.1 hc
      refine lv_iload hx hb dX5_oddsNow_47 (lv_at hl 2 rfl) ?_
      refine lv_iload hx hb dX5_oddsNow_49 (lv_at hl 0 rfl) ?_
      obtain ⟨hv, hw⟩ := hw
      refine lv_idiv hx hb dX5_oddsNow_51 hv ?_
      exact g_iret S hr hk hg hI hS dX5_oddsNow_52 hw
    · have hw := hw.2 hc
      refine lv_iload hx hb dX5_oddsNow_39 (lv_at hl 1 rfl) ?_
      refine lv_iload hx hb dX5_oddsNow_41 (lv_at hl 0 rfl) ?_
      obtain ⟨hv, hw⟩ := hw
      refine lv_idiv hx hb dX5_oddsNow_43 hv ?_
      refine lv_goto (tgt := 52) hx hb dX5_oddsNow_44 (by decide) ?_
      exact g_iret S hr hk hg hI hS dX5_oddsNow_52 hw
  · have hw := hw.2 hc
    refine lv_iload_n hx hb dX5_oddsNow_24 rfl (lv_at hl 5 rfl) ?_
    exact g_iret S hr hk hg hI hS dX5_oddsNow_25 hw
set_option maxRecDepth 100000 in
set_option maxHeartbeats 4000000 in
theorem tX5_odds (l : Launch) (D : va_G) (ad : Nat → Nat) (cI cB : ClassId)  (a1 : Int32) (a2 : Int32) (a3 : Int32) (u : SS) (post : Int32 → SS → Prop) (hw : wX5_odds  a1 a2 a3 u post) : Met l yX5_odds (Cond.code yX5_odds cX5_odds 4 (some .int) :: XT) (Rm 7) (va_Pc [.ref (ad 0), .int a1, .int a2, .int a3] (Pr (mI D ad cI cB) mN u)) (va_Qi post (Po (mI D ad cI cB)) (mA ad)) 0 0 (mA ad) := by
  refine g_of (A := (mA ad)) (by decide) (Nat.le_of_ble_eq_true rfl) (lv := [(0, .ref (ad 0)), (1, .int a1), (2, .int a2), (3, .int a3)]) rfl ?_
  intro p e s m below meth c ls S hr hk hI hN hS hl
  have hx := S.1
  have hb := S.2.1
  have ho := S.2.2.2.1
  have hg := @mG D ad cI cB
  refine lv_aload_n hx hb dX5_odds_0 rfl (lv_at hl 0 rfl) ?_
  refine lv_iload_n hx hb dX5_odds_1 rfl (lv_at hl 1 rfl) ?_
  refine g_ci hg hS (g_runV S hg hI hN hS (As := [.int a1]) (rest := []) (tX5_isNumber l D ad cI cB  _ _ _ hw) cv_yX5_isNumber qm_X5_149 (va_recv hI.2.1 hI.1 (ci := 5) (q0 := 0) rfl rfl) ⟨Nat.le_of_ble_eq_true rfl, Nat.le_of_ble_eq_true rfl⟩ rfl hl.1 rfl (Nat.le_of_ble_eq_true rfl) dX5_odds_2) (fun r1 u2 H locs hI hS hw => ?_)
  refine lv_if_ne (tgt := 11) hx hb dX5_odds_5 (by decide) (fun hc => ?_) (fun hc => ?_)
  · have hw := hw.1 hc
    refine lv_aload_n hx hb dX5_odds_11 rfl (lv_at hl 0 rfl) ?_
    refine lv_iload_n hx hb dX5_odds_12 rfl (lv_at hl 2 rfl) ?_
    refine g_ci hg hS (g_runV S hg hI hN hS (As := [.int a2]) (rest := []) (tX5_isColour l D ad cI cB  _ _ _ hw) cv_yX5_isColour qm_X5_177 (va_recv hI.2.1 hI.1 (ci := 5) (q0 := 0) rfl rfl) ⟨Nat.le_of_ble_eq_true rfl, Nat.le_of_ble_eq_true rfl⟩ rfl hl.1 rfl (Nat.le_of_ble_eq_true rfl) dX5_odds_13) (fun r3 u4 H locs hI hS hw => ?_)
    refine lv_if_eq (tgt := 38) hx hb dX5_odds_16 (by decide) (fun hc => ?_) (fun hc => ?_)
    · have hw := hw.1 hc
      refine lv_bipush (v := (-102 : Int32)) hx hb dX5_odds_38 (by decide) ?_
      exact g_iret S hr hk hg hI hS dX5_odds_40 hw
    · have hw := hw.2 hc
      refine lv_iload_n hx hb dX5_odds_19 rfl (lv_at hl 3 rfl) ?_
      refine lv_iconst (v := (0 : Int32)) hx hb dX5_odds_20 (by decide) ?_
      refine lv_iconst (v := (1 : Int32)) hx hb dX5_odds_21 (by decide) ?_
      refine g_ci hg hS (g_runS S hg hI hN hS (As := [.int a3, .int (0 : Int32), .int (1 : Int32)]) (rest := []) (tX5_within l D ad cI cB  _ _ _ _ _ hw) cs_yX5_within qm_X5_65 ⟨Nat.le_of_ble_eq_true rfl, Nat.le_of_ble_eq_true rfl⟩ rfl hl.1 rfl (Nat.le_of_ble_eq_true rfl) dX5_odds_22) (fun r5 u6 H locs hI hS hw => ?_)
      refine lv_if_eq (tgt := 38) hx hb dX5_odds_25 (by decide) (fun hc => ?_) (fun hc => ?_)
      · have hw := hw.1 hc
        refine lv_bipush (v := (-102 : Int32)) hx hb dX5_odds_38 (by decide) ?_
        exact g_iret S hr hk hg hI hS dX5_odds_40 hw
      · have hw := hw.2 hc
        refine lv_aload_n hx hb dX5_odds_28 rfl (lv_at hl 0 rfl) ?_
        refine lv_iload_n hx hb dX5_odds_29 rfl (lv_at hl 1 rfl) ?_
        refine lv_iload_n hx hb dX5_odds_30 rfl (lv_at hl 2 rfl) ?_
        refine lv_iload_n hx hb dX5_odds_31 rfl (lv_at hl 3 rfl) ?_
        refine g_ci hg hS (g_runV S hg hI hN hS (As := [.int a1, .int a2, .int a3]) (rest := []) (tX5_oddsNow l D ad cI cB  _ _ _ _ _ hw) cv_yX5_oddsNow qm_X5_199 (va_recv hI.2.1 hI.1 (ci := 5) (q0 := 0) rfl rfl) ⟨Nat.le_of_ble_eq_true rfl, Nat.le_of_ble_eq_true rfl⟩ rfl hl.1 rfl (Nat.le_of_ble_eq_true rfl) dX5_odds_32) (fun r7 u8 H locs hI hS hw => ?_)
        refine lv_goto (tgt := 40) hx hb dX5_odds_35 (by decide) ?_
        exact g_iret S hr hk hg hI hS dX5_odds_40 hw
  · have hw := hw.2 hc
    refine lv_bipush (v := (-101 : Int32)) hx hb dX5_odds_8 (by decide) ?_
    exact g_iret S hr hk hg hI hS dX5_odds_10 hw
