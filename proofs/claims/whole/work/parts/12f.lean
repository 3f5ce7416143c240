set_option maxRecDepth 100000 in
set_option maxHeartbeats 4000000 in
theorem tX5_digest (l : Launch) (D : va_G) (ad : Nat → Nat) (cI cB : ClassId)   (u : SS) (post : Int64 → SS → Prop) (hw : wX5_digest   u post) : Met l yX5_digest (Cond.code yX5_digest cX5_digest 3 (some .long) :: XT) (Rm 9) (va_Pc [.ref (ad 0)] (Pr (mI D ad cI cB) mN u)) (va_Ql post (Po (mI D ad cI cB)) (mA ad)) 0 0 (mA ad) := by
  refine g_of (A := (mA ad)) (by decide) (Nat.le_of_ble_eq_true rfl) (lv := [(0, .ref (ad 0))]) rfl ?_
  intro p e s m below meth c ls S hr hk hI hN hS hl
  have hx := S.1
  have hb := S.2.1
  have ho := S.2.2.2.1
  have hg := @mG D ad cI cB
  have L19 : ∀ (x1_19 : Int32) (K19 : Int32 → SS → Prop) (n : Nat) (x2_19 : Int32) (u2 : SS) (H : Heap) (locs : List Loc) (ls : Array Slot), mI D ad cI cB u2 s H → va_S (mA ad) s.heap H locs → lv_has ls 3 [(0, .ref (ad 0)), (1, .int x1_19), (2, .int x2_19)] → wX5_digest_19 post x1_19 K19 n x2_19 u2 → (∀ (x2_19 : Int32) (u2 : SS) (H : Heap) (locs : List Loc) (ls : Array Slot), mI D ad cI cB u2 s H → va_S (mA ad) s.heap H locs → lv_has ls 3 [(0, .ref (ad 0)), (1, .int x1_19), (2, .int x2_19)] → K19 x2_19 u2 → W p l e (Rm 9) s m [.ref (ad 0)].toArray below meth c H locs 0 0 (MQ below (va_Ql post (Po (mI D ad cI cB)) (mA ad)) [.ref (ad 0)].toArray s 0 0 (mA ad)) (F0 m 42 ls [])) → W p l e (Rm 9) s m [.ref (ad 0)].toArray below meth c H locs 0 0 (MQ below (va_Ql post (Po (mI D ad cI cB)) (mA ad)) [.ref (ad 0)].toArray s 0 0 (mA ad)) (F0 m 19 ls []) := by
    intro x1_19 K19 n
    induction n with
    | zero => intro x2_19 u2 H locs ls hI hS hl hw hK19; exact False.elim hw
    | succ n19 ih19 =>
      intro x2_19 u2 H locs ls hI hS hl hw hK19
      refine lv_iload_n hx hb dX5_digest_19 rfl (lv_at hl 2 rfl) ?_
      refine lv_bipush (v := (6 : Int32)) hx hb dX5_digest_20 (by decide) ?_
      refine lv_icmp_ge (tgt := 42) hx hb dX5_digest_22 (by decide) (fun hc => ?_) (fun hc => ?_)
      · have hw := hw.1 hc
        exact hK19 x2_19 u2 _ _ _ hI hS (lv_sub hl [0, 1, 2] rfl) hw
      · have hw := hw.2 hc
        refine lv_aload_n hx hb dX5_digest_25 rfl (lv_at hl 0 rfl) ?_
        refine lv_aload_n hx hb dX5_digest_26 rfl (lv_at hl 0 rfl) ?_
        refine lv_iload_n hx hb dX5_digest_27 rfl (lv_at hl 1 rfl) ?_
        refine lv_iload_n hx hb dX5_digest_28 rfl (lv_at hl 2 rfl) ?_
        refine g_ci hg hS (g_runV S hg hI hN hS (As := [.int x1_19, .int x2_19]) (rest := [.ref (ad 0)]) (tX5_numberNow l D ad cI cB  _ _ _ _ hw) cv_yX5_numberNow qm_X5_152 (va_recv hI.2.1 hI.1 (ci := 5) (q0 := 0) rfl rfl) ⟨Nat.le_of_ble_eq_true rfl, Nat.le_of_ble_eq_true rfl⟩ rfl hl.1 rfl (Nat.le_of_ble_eq_true rfl) dX5_digest_29) (fun r3 u4 H locs hI hS hw => ?_)
        refine lv_i2l (v := r3.toInt64) hx hb dX5_digest_32 rfl ?_
        refine g_cv hg hS (g_runV S hg hI hN hS (As := [.long r3.toInt64]) (rest := []) (tX5_mix l D ad cI cB  _ _ _ hw) cv_yX5_mix qm_X5_253 (va_recv hI.2.1 hI.1 (ci := 5) (q0 := 0) rfl rfl) ⟨Nat.le_of_ble_eq_true rfl, Nat.le_of_ble_eq_true rfl⟩ rfl hl.1 rfl (Nat.le_of_ble_eq_true rfl) dX5_digest_33) (fun u6 H locs hI hS hw => ?_)
        refine lv_iinc (v := x2_19 + 1) (lv' := [(2, .int (x2_19 + 1)), (0, .ref (ad 0)), (1, .int x1_19)]) hx hb dX5_digest_36 hl (k := 2) rfl (congrArg (fun z => x2_19 + z) (by decide)) (by decide) rfl (fun ls hl => ?_)
        refine lv_goto (tgt := 19) hx hb dX5_digest_39 (by decide) ?_
        exact ih19 (x2_19 + 1) u6 _ _ _ hI hS (lv_sub hl [1, 2, 0] rfl) hw hK19
  have L9 : ∀  (K9 : Int32 → SS → Prop) (n : Nat) (x1_9 : Int32) (u1 : SS) (H : Heap) (locs : List Loc) (ls : Array Slot), mI D ad cI cB u1 s H → va_S (mA ad) s.heap H locs → lv_has ls 3 [(0, .ref (ad 0)), (1, .int x1_9)] → wX5_digest_9 post K9 n x1_9 u1 → (∀ (x1_9 : Int32) (u1 : SS) (H : Heap) (locs : List Loc) (ls : Array Slot), mI D ad cI cB u1 s H → va_S (mA ad) s.heap H locs → lv_has ls 3 [(0, .ref (ad 0)), (1, .int x1_9)] → K9 x1_9 u1 → W p l e (Rm 9) s m [.ref (ad 0)].toArray below meth c H locs 0 0 (MQ below (va_Ql post (Po (mI D ad cI cB)) (mA ad)) [.ref (ad 0)].toArray s 0 0 (mA ad)) (F0 m 72 ls [])) → W p l e (Rm 9) s m [.ref (ad 0)].toArray below meth c H locs 0 0 (MQ below (va_Ql post (Po (mI D ad cI cB)) (mA ad)) [.ref (ad 0)].toArray s 0 0 (mA ad)) (F0 m 9 ls []) := by
    intro K9 n
    induction n with
    | zero => intro x1_9 u1 H locs ls hI hS hl hw hK9; exact False.elim hw
    | succ n9 ih9 =>
      intro x1_9 u1 H locs ls hI hS hl hw hK9
      refine lv_iload_n hx hb dX5_digest_9 rfl (lv_at hl 1 rfl) ?_
      refine lv_aload_n hx hb dX5_digest_10 rfl (lv_at hl 0 rfl) ?_
      refine mg_X5_0_101 S hI dX5_digest_11 ?_
      refine lv_icmp_gt (tgt := 72) hx hb dX5_digest_14 (by decide) (fun hc => ?_) (fun hc => ?_)
      · have hw := hw.1 hc
        exact hK9 x1_9 u1 _ _ _ hI hS (lv_sub hl [0, 1] rfl) hw
      · have hw := hw.2 hc
        refine lv_iconst (v := (0 : Int32)) hx hb dX5_digest_17 (by decide) ?_
        refine lv_istore_n (lv' := [(2, .int (0 : Int32)), (0, .ref (ad 0)), (1, .int x1_9)]) hx hb dX5_digest_18 rfl hl (by decide) rfl (fun ls hl => ?_)
        obtain ⟨n, hw⟩ := hw
        refine L19 x1_9 _ n (0 : Int32) u1 _ _ _ hI hS (lv_sub hl [1, 2, 0] rfl) hw (fun x2_7 u8 H locs ls hI hS hl hw => ?_)
        refine lv_aload_n hx hb dX5_digest_42 rfl (lv_at hl 0 rfl) ?_
        refine lv_aload_n hx hb dX5_digest_43 rfl (lv_at hl 0 rfl) ?_
        refine lv_iload_n hx hb dX5_digest_44 rfl (lv_at hl 1 rfl) ?_
        refine lv_iconst (v := (0 : Int32)) hx hb dX5_digest_45 (by decide) ?_
        refine lv_iconst (v := (0 : Int32)) hx hb dX5_digest_46 (by decide) ?_
        refine g_ci hg hS (g_runV S hg hI hN hS (As := [.int x1_9, .int (0 : Int32), .int (0 : Int32)]) (rest := [.ref (ad 0)]) (tX5_oddsNow l D ad cI cB  _ _ _ _ _ hw) cv_yX5_oddsNow qm_X5_199 (va_recv hI.2.1 hI.1 (ci := 5) (q0 := 0) rfl rfl) ⟨Nat.le_of_ble_eq_true rfl, Nat.le_of_ble_eq_true rfl⟩ rfl hl.1 rfl (Nat.le_of_ble_eq_true rfl) dX5_digest_47) (fun r9 u10 H locs hI hS hw => ?_)
        refine lv_i2l (v := r9.toInt64) hx hb dX5_digest_50 rfl ?_
        refine g_cv hg hS (g_runV S hg hI hN hS (As := [.long r9.toInt64]) (rest := []) (tX5_mix l D ad cI cB  _ _ _ hw) cv_yX5_mix qm_X5_253 (va_recv hI.2.1 hI.1 (ci := 5) (q0 := 0) rfl rfl) ⟨Nat.le_of_ble_eq_true rfl, Nat.le_of_ble_eq_true rfl⟩ rfl hl.1 rfl (Nat.le_of_ble_eq_true rfl) dX5_digest_51) (fun u12 H locs hI hS hw => ?_)
        refine lv_aload_n hx hb dX5_digest_54 rfl (lv_at hl 0 rfl) ?_
        refine lv_aload_n hx hb dX5_digest_55 rfl (lv_at hl 0 rfl) ?_
        refine lv_iload_n hx hb dX5_digest_56 rfl (lv_at hl 1 rfl) ?_
        refine lv_iconst (v := (0 : Int32)) hx hb dX5_digest_57 (by decide) ?_
        refine lv_iconst (v := (1 : Int32)) hx hb dX5_digest_58 (by decide) ?_
        refine g_ci hg hS (g_runV S hg hI hN hS (As := [.int x1_9, .int (0 : Int32), .int (1 : Int32)]) (rest := [.ref (ad 0)]) (tX5_oddsNow l D ad cI cB  _ _ _ _ _ hw) cv_yX5_oddsNow qm_X5_199 (va_recv hI.2.1 hI.1 (ci := 5) (q0 := 0) rfl rfl) ⟨Nat.le_of_ble_eq_true rfl, Nat.le_of_ble_eq_true rfl⟩ rfl hl.1 rfl (Nat.le_of_ble_eq_true rfl) dX5_digest_59) (fun r13 u14 H locs hI hS hw => ?_)
        refine lv_i2l (v := r13.toInt64) hx hb dX5_digest_62 rfl ?_
        refine g_cv hg hS (g_runV S hg hI hN hS (As := [.long r13.toInt64]) (rest := []) (tX5_mix l D ad cI cB  _ _ _ hw) cv_yX5_mix qm_X5_253 (va_recv hI.2.1 hI.1 (ci := 5) (q0 := 0) rfl rfl) ⟨Nat.le_of_ble_eq_true rfl, Nat.le_of_ble_eq_true rfl⟩ rfl hl.1 rfl (Nat.le_of_ble_eq_true rfl) dX5_digest_63) (fun u16 H locs hI hS hw => ?_)
        refine lv_iinc (v := x1_9 + 1) (lv' := [(1, .int (x1_9 + 1)), (0, .ref (ad 0)), (2, .int x2_7)]) hx hb dX5_digest_66 hl (k := 1) rfl (congrArg (fun z => x1_9 + z) (by decide)) (by decide) rfl (fun ls hl => ?_)
        refine lv_goto (tgt := 9) hx hb dX5_digest_69 (by decide) ?_
        exact ih9 (x1_9 + 1) u16 _ _ _ hI hS (lv_sub hl [1, 0] rfl) hw hK9
  have L85 : ∀  (K85 : Int32 → SS → Prop) (n : Nat) (x1_85 : Int32) (u19 : SS) (H : Heap) (locs : List Loc) (ls : Array Slot), mI D ad cI cB u19 s H → va_S (mA ad) s.heap H locs → lv_has ls 3 [(0, .ref (ad 0)), (1, .int x1_85)] → wX5_digest_85 post K85 n x1_85 u19 → (∀ (x1_85 : Int32) (u19 : SS) (H : Heap) (locs : List Loc) (ls : Array Slot), mI D ad cI cB u19 s H → va_S (mA ad) s.heap H locs → lv_has ls 3 [(0, .ref (ad 0)), (1, .int x1_85)] → K85 x1_85 u19 → W p l e (Rm 9) s m [.ref (ad 0)].toArray below meth c H locs 0 0 (MQ below (va_Ql post (Po (mI D ad cI cB)) (mA ad)) [.ref (ad 0)].toArray s 0 0 (mA ad)) (F0 m 110 ls [])) → W p l e (Rm 9) s m [.ref (ad 0)].toArray below meth c H locs 0 0 (MQ below (va_Ql post (Po (mI D ad cI cB)) (mA ad)) [.ref (ad 0)].toArray s 0 0 (mA ad)) (F0 m 85 ls []) := by
    intro K85 n
    induction n with
    | zero => intro x1_85 u19 H locs ls hI hS hl hw hK85; exact False.elim hw
    | succ n85 ih85 =>
      intro x1_85 u19 H locs ls hI hS hl hw hK85
      refine lv_iload_n hx hb dX5_digest_85 rfl (lv_at hl 1 rfl) ?_
      refine lv_aload_n hx hb dX5_digest_86 rfl (lv_at hl 0 rfl) ?_
      refine mg_X5_0_69 S hI dX5_digest_87 ?_
      refine lv_icmp_ge (tgt := 110) hx hb dX5_digest_90 (by decide) (fun hc => ?_) (fun hc => ?_)
      · have hw := hw.1 hc
        exact hK85 x1_85 u19 _ _ _ hI hS (lv_sub hl [0, 1] rfl) hw
      · have hw := hw.2 hc
        refine lv_aload_n hx hb dX5_digest_93 rfl (lv_at hl 0 rfl) ?_
        refine lv_aload_n hx hb dX5_digest_94 rfl (lv_at hl 0 rfl) ?_
        refine mg_X5_0_25 S hI dX5_digest_95 ?_
        refine lv_iload_n hx hb dX5_digest_98 rfl (lv_at hl 1 rfl) ?_
        obtain ⟨hv, hw⟩ := hw
        refine mld_5 S hI hv dX5_digest_99 ?_
        refine lv_i2l (v := (u19.2.2 5 x1_85.toNatClampNeg).toInt64) hx hb dX5_digest_100 rfl ?_
        refine g_cv hg hS (g_runV S hg hI hN hS (As := [.long ((u19.2.2 5 x1_85.toNatClampNeg).toInt64)]) (rest := []) (tX5_mix l D ad cI cB  _ _ _ hw) cv_yX5_mix qm_X5_253 (va_recv hI.2.1 hI.1 (ci := 5) (q0 := 0) rfl rfl) ⟨Nat.le_of_ble_eq_true rfl, Nat.le_of_ble_eq_true rfl⟩ rfl hl.1 rfl (Nat.le_of_ble_eq_true rfl) dX5_digest_101) (fun u21 H locs hI hS hw => ?_)
        refine lv_iinc (v := x1_85 + 1) (lv' := [(1, .int (x1_85 + 1)), (0, .ref (ad 0))]) hx hb dX5_digest_104 hl (k := 1) rfl (congrArg (fun z => x1_85 + z) (by decide)) (by decide) rfl (fun ls hl => ?_)
        refine lv_goto (tgt := 85) hx hb dX5_digest_107 (by decide) ?_
        exact ih85 (x1_85 + 1) u21 _ _ _ hI hS (lv_sub hl [1, 0] rfl) hw hK85
  have L112 : ∀  (K112 : Int32 → SS → Prop) (n : Nat) (x1_112 : Int32) (u24 : SS) (H : Heap) (locs : List Loc) (ls : Array Slot), mI D ad cI cB u24 s H → va_S (mA ad) s.heap H locs → lv_has ls 3 [(0, .ref (ad 0)), (1, .int x1_112)] → wX5_digest_112 post K112 n x1_112 u24 → (∀ (x1_112 : Int32) (u24 : SS) (H : Heap) (locs : List Loc) (ls : Array Slot), mI D ad cI cB u24 s H → va_S (mA ad) s.heap H locs → lv_has ls 3 [(0, .ref (ad 0)), (1, .int x1_112)] → K112 x1_112 u24 → W p l e (Rm 9) s m [.ref (ad 0)].toArray below meth c H locs 0 0 (MQ below (va_Ql post (Po (mI D ad cI cB)) (mA ad)) [.ref (ad 0)].toArray s 0 0 (mA ad)) (F0 m 134 ls [])) → W p l e (Rm 9) s m [.ref (ad 0)].toArray below meth c H locs 0 0 (MQ below (va_Ql post (Po (mI D ad cI cB)) (mA ad)) [.ref (ad 0)].toArray s 0 0 (mA ad)) (F0 m 112 ls []) := by
    intro K112 n
    induction n with
    | zero => intro x1_112 u24 H locs ls hI hS hl hw hK112; exact False.elim hw
    | succ n112 ih112 =>
      intro x1_112 u24 H locs ls hI hS hl hw hK112
      refine lv_iload_n hx hb dX5_digest_112 rfl (lv_at hl 1 rfl) ?_
      refine lv_bipush (v := (9 : Int32)) hx hb dX5_digest_113 (by decide) ?_
      refine lv_icmp_ge (tgt := 134) hx hb dX5_digest_115 (by decide) (fun hc => ?_) (fun hc => ?_)
      · have hw := hw.1 hc
        exact hK112 x1_112 u24 _ _ _ hI hS (lv_sub hl [0, 1] rfl) hw
      · have hw := hw.2 hc
        refine lv_aload_n hx hb dX5_digest_118 rfl (lv_at hl 0 rfl) ?_
        refine lv_aload_n hx hb dX5_digest_119 rfl (lv_at hl 0 rfl) ?_
        refine lv_iload_n hx hb dX5_digest_120 rfl (lv_at hl 1 rfl) ?_
        refine g_ci hg hS (g_runV S hg hI hN hS (As := [.int x1_112]) (rest := [.ref (ad 0)]) (tX5_howMany l D ad cI cB  _ _ _ hw) cv_yX5_howMany qm_X5_245 (va_recv hI.2.1 hI.1 (ci := 5) (q0 := 0) rfl rfl) ⟨Nat.le_of_ble_eq_true rfl, Nat.le_of_ble_eq_true rfl⟩ rfl hl.1 rfl (Nat.le_of_ble_eq_true rfl) dX5_digest_121) (fun r25 u26 H locs hI hS hw => ?_)
        refine lv_i2l (v := r25.toInt64) hx hb dX5_digest_124 rfl ?_
        refine g_cv hg hS (g_runV S hg hI hN hS (As := [.long r25.toInt64]) (rest := []) (tX5_mix l D ad cI cB  _ _ _ hw) cv_yX5_mix qm_X5_253 (va_recv hI.2.1 hI.1 (ci := 5) (q0 := 0) rfl rfl) ⟨Nat.le_of_ble_eq_true rfl, Nat.le_of_ble_eq_true rfl⟩ rfl hl.1 rfl (Nat.le_of_ble_eq_true rfl) dX5_digest_125) (fun u28 H locs hI hS hw => ?_)
        refine lv_iinc (v := x1_112 + 1) (lv' := [(1, .int (x1_112 + 1)), (0, .ref (ad 0))]) hx hb dX5_digest_128 hl (k := 1) rfl (congrArg (fun z => x1_112 + z) (by decide)) (by decide) rfl (fun ls hl => ?_)
        refine lv_goto (tgt := 112) hx hb dX5_digest_131 (by decide) ?_
        exact ih112 (x1_112 + 1) u28 _ _ _ hI hS (lv_sub hl [1, 0] rfl) hw hK112
  refine lv_aload_n hx hb dX5_digest_0 rfl (lv_at hl 0 rfl) ?_
  refine lv_ldc2 (v := (1321 : Int64)) hx hb ho (g_in S ql_X5_257) dX5_digest_1 ?_
  refine mp_X5_0_250 S hI hS dX5_digest_4 (fun H locs hI hS => ?_)
  refine lv_iconst (v := (1 : Int32)) hx hb dX5_digest_7 (by decide) ?_
  refine lv_istore_n (lv' := [(1, .int (1 : Int32)), (0, .ref (ad 0))]) hx hb dX5_digest_8 rfl hl (by decide) rfl (fun ls hl => ?_)
  obtain ⟨n, hw⟩ := hw
  refine L9 _ n (1 : Int32) (sL u 1 (1321 : Int64)) _ _ _ hI hS (lv_sub hl [1, 0] rfl) hw (fun x1_17 u18 H locs ls hI hS hl hw => ?_)
  refine lv_aload_n hx hb dX5_digest_72 rfl (lv_at hl 0 rfl) ?_
  refine mg_X5_0_101 S hI dX5_digest_73 ?_
  refine lv_if_le (tgt := 83) hx hb dX5_digest_76 (by decide) (fun hc => ?_) (fun hc => ?_)
  · have hw := hw.1 hc
    refine lv_iconst (v := (0 : Int32)) hx hb dX5_digest_83 (by decide) ?_
    refine lv_istore_n (lv' := [(1, .int (0 : Int32)), (0, .ref (ad 0))]) hx hb dX5_digest_84 rfl hl (by decide) rfl (fun ls hl => ?_)
    obtain ⟨n, hw⟩ := hw
    refine L85 _ n (0 : Int32) u18 _ _ _ hI hS (lv_sub hl [1, 0] rfl) hw (fun x1_22 u23 H locs ls hI hS hl hw => ?_)
    refine lv_iconst (v := (0 : Int32)) hx hb dX5_digest_110 (by decide) ?_
    refine lv_istore_n (lv' := [(1, .int (0 : Int32)), (0, .ref (ad 0))]) hx hb dX5_digest_111 rfl hl (by decide) rfl (fun ls hl => ?_)
    obtain ⟨n, hw⟩ := hw
    refine L112 _ n (0 : Int32) u23 _ _ _ hI hS (lv_sub hl [1, 0] rfl) hw (fun x1_29 u30 H locs ls hI hS hl hw => ?_)
    refine lv_aload_n hx hb dX5_digest_134 rfl (lv_at hl 0 rfl) ?_
    refine mg_X5_0_250 S hI dX5_digest_135 ?_
    exact g_lret S hr hk hg hI hS dX5_digest_138 hw
  · have hw := hw.2 hc
    refine lv_aload_n hx hb dX5_digest_79 rfl (lv_at hl 0 rfl) ?_
    refine g_cv hg hS (g_runV S hg hI hN hS (As := []) (rest := []) (tX5_mixBoard l D ad cI cB   _ _ hw) cv_yX5_mixBoard qm_X5_259 (va_recv hI.2.1 hI.1 (ci := 5) (q0 := 0) rfl rfl) ⟨Nat.le_of_ble_eq_true rfl, Nat.le_of_ble_eq_true rfl⟩ rfl hl.1 rfl (Nat.le_of_ble_eq_true rfl) dX5_digest_80) (fun u32 H locs hI hS hw => ?_)
    refine lv_iconst (v := (0 : Int32)) hx hb dX5_digest_83 (by decide) ?_
    refine lv_istore_n (lv' := [(1, .int (0 : Int32)), (0, .ref (ad 0))]) hx hb dX5_digest_84 rfl hl (by decide) rfl (fun ls hl => ?_)
    obtain ⟨n, hw⟩ := hw
    refine L85 _ n (0 : Int32) u32 _ _ _ hI hS (lv_sub hl [1, 0] rfl) hw (fun x1_33 u34 H locs ls hI hS hl hw => ?_)
    refine lv_iconst (v := (0 : Int32)) hx hb dX5_digest_110 (by decide) ?_
    refine lv_istore_n (lv' := [(1, .int (0 : Int32)), (0, .ref (ad 0))]) hx hb dX5_digest_111 rfl hl (by decide) rfl (fun ls hl => ?_)
    obtain ⟨n, hw⟩ := hw
    refine L112 _ n (0 : Int32) u34 _ _ _ hI hS (lv_sub hl [1, 0] rfl) hw (fun x1_35 u36 H locs ls hI hS hl hw => ?_)
    refine lv_aload_n hx hb dX5_digest_134 rfl (lv_at hl 0 rfl) ?_
    refine mg_X5_0_250 S hI dX5_digest_135 ?_
    exact g_lret S hr hk hg hI hS dX5_digest_138 hw
