set_option maxRecDepth 100000 in
set_option maxHeartbeats 4000000 in
theorem tX4_digest (l : Launch) (D : va_G) (ad : Nat → Nat) (cI : ClassId) (rk ks kv : Nat)   (u : SS) (post : Int64 → SS → Prop) (hw : wX4_digest   u post) : Met l yX4_digest (Cond.code yX4_digest cX4_digest 5 (some .long) :: XT) (Rm 28) (va_Pc [.ref (ad 0)] (Pr (xI D ad cI) (xN ad rk ks kv) u)) (va_Ql post (Po (xI D ad cI)) (xA ad)) 0 0 (xA ad) := by
  refine g_of (A := (xA ad)) (by decide) (Nat.le_of_ble_eq_true rfl) (lv := [(0, .ref (ad 0))]) rfl ?_
  intro p e s m below meth c ls S hr hk hI hN hS hl
  have hx := S.1
  have hb := S.2.1
  have ho := S.2.2.2.1
  have hg := @xG D ad cI rk ks kv
  have L20 : ∀ (x3_20 : Int32) (K20 : Int64 → Int32 → SS → Prop) (n : Nat) (x1_20 : Int64) (x4_20 : Int32) (u2 : SS) (H : Heap) (locs : List Loc) (ls : Array Slot), xI D ad cI u2 s H → va_S (xA ad) s.heap H locs → lv_has ls 5 [(0, .ref (ad 0)), (1, .long x1_20), (3, .int x3_20), (4, .int x4_20)] → wX4_digest_20 post x3_20 K20 n x1_20 x4_20 u2 → (∀ (x1_20 : Int64) (x4_20 : Int32) (u2 : SS) (H : Heap) (locs : List Loc) (ls : Array Slot), xI D ad cI u2 s H → va_S (xA ad) s.heap H locs → lv_has ls 5 [(0, .ref (ad 0)), (1, .long x1_20), (3, .int x3_20), (4, .int x4_20)] → K20 x1_20 x4_20 u2 → W p l e (Rm 28) s m [.ref (ad 0)].toArray below meth c H locs 0 0 (MQ below (va_Ql post (Po (xI D ad cI)) (xA ad)) [.ref (ad 0)].toArray s 0 0 (xA ad)) (F0 m 47 ls [])) → W p l e (Rm 28) s m [.ref (ad 0)].toArray below meth c H locs 0 0 (MQ below (va_Ql post (Po (xI D ad cI)) (xA ad)) [.ref (ad 0)].toArray s 0 0 (xA ad)) (F0 m 20 ls []) := by
    intro x3_20 K20 n
    induction n with
    | zero => intro x1_20 x4_20 u2 H locs ls hI hS hl hw hK20; exact False.elim hw
    | succ n20 ih20 =>
      intro x1_20 x4_20 u2 H locs ls hI hS hl hw hK20
      refine lv_iload hx hb dX4_digest_20 (lv_at hl 3 rfl) ?_
      refine lv_iconst (v := (5 : Int32)) hx hb dX4_digest_22 (by decide) ?_
      refine lv_icmp_gt (tgt := 47) hx hb dX4_digest_23 (by decide) (fun hc => ?_) (fun hc => ?_)
      · have hw := hw.1 hc
        exact hK20 x1_20 x4_20 u2 _ _ _ hI hS (lv_sub hl [0, 1, 2, 3] rfl) hw
      · have hw := hw.2 hc
        refine lv_ldc2 (v := (31 : Int64)) hx hb ho (g_in S ql_X4_187) dX4_digest_26 ?_
        refine lv_lload_n hx hb dX4_digest_29 rfl (lv_at hl 1 rfl) ?_
        refine lv_lmul hx hb dX4_digest_30 ?_
        refine lv_aload_n hx hb dX4_digest_31 rfl (lv_at hl 0 rfl) ?_
        refine lv_iload_n hx hb dX4_digest_32 rfl (lv_at hl 2 rfl) ?_
        refine lv_iload hx hb dX4_digest_33 (lv_at hl 3 rfl) ?_
        refine g_ci hg hS (g_runV S hg hI hN hS (As := [.int x3_20, .int x4_20]) (rest := [.long ((31 : Int64) * x1_20)]) (tX4_number l D ad cI rk ks kv  _ _ _ _ hw) cv_yX4_number qm_X4_189 (va_recv hI.2.1 hI.1 (ci := 4) (q0 := 0) rfl rfl) ⟨Nat.le_of_ble_eq_true rfl, Nat.le_of_ble_eq_true rfl⟩ rfl hl.1 rfl (Nat.le_of_ble_eq_true rfl) dX4_digest_35) (fun r3 u4 H locs hI hS hw => ?_)
        refine lv_i2l (v := r3.toInt64) hx hb dX4_digest_38 rfl ?_
        refine lv_ladd hx hb dX4_digest_39 ?_
        refine lv_lstore_n (lv' := [(1, .long (((31 : Int64) * x1_20) + r3.toInt64)), (0, .ref (ad 0)), (3, .int x3_20), (4, .int x4_20)]) hx hb dX4_digest_40 rfl hl (by decide) rfl (fun ls hl => ?_)
        refine lv_iinc (v := x4_20 + 1) (lv' := [(4, .int (x4_20 + 1)), (1, .long (((31 : Int64) * x1_20) + r3.toInt64)), (0, .ref (ad 0)), (3, .int x3_20)]) hx hb dX4_digest_41 hl (k := 3) rfl (congrArg (fun z => x4_20 + z) (by decide)) (by decide) rfl (fun ls hl => ?_)
        refine lv_goto (tgt := 20) hx hb dX4_digest_44 (by decide) ?_
        exact ih20 (((31 : Int64) * x1_20) + r3.toInt64) (x4_20 + 1) u4 _ _ _ hI hS (lv_sub hl [2, 1, 3, 0] rfl) hw hK20
  have L6 : ∀  (K6 : Int64 → Int32 → SS → Prop) (n : Nat) (x1_6 : Int64) (x3_6 : Int32) (u1 : SS) (H : Heap) (locs : List Loc) (ls : Array Slot), xI D ad cI u1 s H → va_S (xA ad) s.heap H locs → lv_has ls 5 [(0, .ref (ad 0)), (1, .long x1_6), (3, .int x3_6)] → wX4_digest_6 post K6 n x1_6 x3_6 u1 → (∀ (x1_6 : Int64) (x3_6 : Int32) (u1 : SS) (H : Heap) (locs : List Loc) (ls : Array Slot), xI D ad cI u1 s H → va_S (xA ad) s.heap H locs → lv_has ls 5 [(0, .ref (ad 0)), (1, .long x1_6), (3, .int x3_6)] → K6 x1_6 x3_6 u1 → W p l e (Rm 28) s m [.ref (ad 0)].toArray below meth c H locs 0 0 (MQ below (va_Ql post (Po (xI D ad cI)) (xA ad)) [.ref (ad 0)].toArray s 0 0 (xA ad)) (F0 m 83 ls [])) → W p l e (Rm 28) s m [.ref (ad 0)].toArray below meth c H locs 0 0 (MQ below (va_Ql post (Po (xI D ad cI)) (xA ad)) [.ref (ad 0)].toArray s 0 0 (xA ad)) (F0 m 6 ls []) := by
    intro K6 n
    induction n with
    | zero => intro x1_6 x3_6 u1 H locs ls hI hS hl hw hK6; exact False.elim hw
    | succ n6 ih6 =>
      intro x1_6 x3_6 u1 H locs ls hI hS hl hw hK6
      refine lv_iload_n hx hb dX4_digest_6 rfl (lv_at hl 2 rfl) ?_
      refine lv_aload_n hx hb dX4_digest_7 rfl (lv_at hl 0 rfl) ?_
      refine xg_X4_0_19 S hI dX4_digest_8 ?_
      refine xg_X4_2_78 S hN hI dX4_digest_11 ?_
      refine lv_icmp_gt (tgt := 83) hx hb dX4_digest_14 (by decide) (fun hc => ?_) (fun hc => ?_)
      · have hw := hw.1 hc
        exact hK6 x1_6 x3_6 u1 _ _ _ hI hS (lv_sub hl [0, 1, 2] rfl) hw
      · have hw := hw.2 hc
        refine lv_iconst (v := (0 : Int32)) hx hb dX4_digest_17 (by decide) ?_
        refine lv_istore (lv' := [(4, .int (0 : Int32)), (0, .ref (ad 0)), (1, .long x1_6), (3, .int x3_6)]) hx hb dX4_digest_18 hl (by decide) rfl (fun ls hl => ?_)
        obtain ⟨n, hw⟩ := hw
        refine L20 x3_6 _ n x1_6 (0 : Int32) u1 _ _ _ hI hS (lv_sub hl [1, 2, 3, 0] rfl) hw (fun x1_5 x4_6 u7 H locs ls hI hS hl hw => ?_)
        refine lv_ldc2 (v := (31 : Int64)) hx hb ho (g_in S ql_X4_187) dX4_digest_47 ?_
        refine lv_lload_n hx hb dX4_digest_50 rfl (lv_at hl 1 rfl) ?_
        refine lv_lmul hx hb dX4_digest_51 ?_
        refine lv_aload_n hx hb dX4_digest_52 rfl (lv_at hl 0 rfl) ?_
        refine lv_iload_n hx hb dX4_digest_53 rfl (lv_at hl 2 rfl) ?_
        refine lv_iconst (v := (0 : Int32)) hx hb dX4_digest_54 (by decide) ?_
        refine lv_iconst (v := (0 : Int32)) hx hb dX4_digest_55 (by decide) ?_
        refine g_ci hg hS (g_runV S hg hI hN hS (As := [.int x3_6, .int (0 : Int32), .int (0 : Int32)]) (rest := [.long ((31 : Int64) * x1_5)]) (tX4_odds l D ad cI rk ks kv  _ _ _ _ _ hw) cv_yX4_odds qm_X4_192 (va_recv hI.2.1 hI.1 (ci := 4) (q0 := 0) rfl rfl) ⟨Nat.le_of_ble_eq_true rfl, Nat.le_of_ble_eq_true rfl⟩ rfl hl.1 rfl (Nat.le_of_ble_eq_true rfl) dX4_digest_56) (fun r8 u9 H locs hI hS hw => ?_)
        refine lv_i2l (v := r8.toInt64) hx hb dX4_digest_59 rfl ?_
        refine lv_ladd hx hb dX4_digest_60 ?_
        refine lv_lstore_n (lv' := [(1, .long (((31 : Int64) * x1_5) + r8.toInt64)), (0, .ref (ad 0)), (3, .int x3_6), (4, .int x4_6)]) hx hb dX4_digest_61 rfl hl (by decide) rfl (fun ls hl => ?_)
        refine lv_ldc2 (v := (31 : Int64)) hx hb ho (g_in S ql_X4_187) dX4_digest_62 ?_
        refine lv_lload_n hx hb dX4_digest_65 rfl (lv_at hl 0 rfl) ?_
        refine lv_lmul hx hb dX4_digest_66 ?_
        refine lv_aload_n hx hb dX4_digest_67 rfl (lv_at hl 1 rfl) ?_
        refine lv_iload_n hx hb dX4_digest_68 rfl (lv_at hl 2 rfl) ?_
        refine lv_iconst (v := (0 : Int32)) hx hb dX4_digest_69 (by decide) ?_
        refine lv_iconst (v := (1 : Int32)) hx hb dX4_digest_70 (by decide) ?_
        refine g_ci hg hS (g_runV S hg hI hN hS (As := [.int x3_6, .int (0 : Int32), .int (1 : Int32)]) (rest := [.long ((31 : Int64) * (((31 : Int64) * x1_5) + r8.toInt64))]) (tX4_odds l D ad cI rk ks kv  _ _ _ _ _ hw) cv_yX4_odds qm_X4_192 (va_recv hI.2.1 hI.1 (ci := 4) (q0 := 0) rfl rfl) ⟨Nat.le_of_ble_eq_true rfl, Nat.le_of_ble_eq_true rfl⟩ rfl hl.1 rfl (Nat.le_of_ble_eq_true rfl) dX4_digest_71) (fun r10 u11 H locs hI hS hw => ?_)
        refine lv_i2l (v := r10.toInt64) hx hb dX4_digest_74 rfl ?_
        refine lv_ladd hx hb dX4_digest_75 ?_
        refine lv_lstore_n (lv' := [(1, .long (((31 : Int64) * (((31 : Int64) * x1_5) + r8.toInt64)) + r10.toInt64)), (0, .ref (ad 0)), (3, .int x3_6), (4, .int x4_6)]) hx hb dX4_digest_76 rfl hl (by decide) rfl (fun ls hl => ?_)
        refine lv_iinc (v := x3_6 + 1) (lv' := [(3, .int (x3_6 + 1)), (1, .long (((31 : Int64) * (((31 : Int64) * x1_5) + r8.toInt64)) + r10.toInt64)), (0, .ref (ad 0)), (4, .int x4_6)]) hx hb dX4_digest_77 hl (k := 2) rfl (congrArg (fun z => x3_6 + z) (by decide)) (by decide) rfl (fun ls hl => ?_)
        refine lv_goto (tgt := 6) hx hb dX4_digest_80 (by decide) ?_
        exact ih6 (((31 : Int64) * (((31 : Int64) * x1_5) + r8.toInt64)) + r10.toInt64) (x3_6 + 1) u11 _ _ _ hI hS (lv_sub hl [2, 1, 0] rfl) hw hK6
  have L159 : ∀  (K159 : Int64 → Int32 → SS → Prop) (n : Nat) (x1_159 : Int64) (x3_159 : Int32) (u17 : SS) (H : Heap) (locs : List Loc) (ls : Array Slot), xI D ad cI u17 s H → va_S (xA ad) s.heap H locs → lv_has ls 5 [(0, .ref (ad 0)), (1, .long x1_159), (3, .int x3_159)] → wX4_digest_159 post K159 n x1_159 x3_159 u17 → (∀ (x1_159 : Int64) (x3_159 : Int32) (u17 : SS) (H : Heap) (locs : List Loc) (ls : Array Slot), xI D ad cI u17 s H → va_S (xA ad) s.heap H locs → lv_has ls 5 [(0, .ref (ad 0)), (1, .long x1_159), (3, .int x3_159)] → K159 x1_159 x3_159 u17 → W p l e (Rm 28) s m [.ref (ad 0)].toArray below meth c H locs 0 0 (MQ below (va_Ql post (Po (xI D ad cI)) (xA ad)) [.ref (ad 0)].toArray s 0 0 (xA ad)) (F0 m 192 ls [])) → W p l e (Rm 28) s m [.ref (ad 0)].toArray below meth c H locs 0 0 (MQ below (va_Ql post (Po (xI D ad cI)) (xA ad)) [.ref (ad 0)].toArray s 0 0 (xA ad)) (F0 m 159 ls []) := by
    intro K159 n
    induction n with
    | zero => intro x1_159 x3_159 u17 H locs ls hI hS hl hw hK159; exact False.elim hw
    | succ n159 ih159 =>
      intro x1_159 x3_159 u17 H locs ls hI hS hl hw hK159
      refine lv_iload_n hx hb dX4_digest_159 rfl (lv_at hl 2 rfl) ?_
      refine lv_aload_n hx hb dX4_digest_160 rfl (lv_at hl 0 rfl) ?_
      refine xg_X4_0_10 S hI dX4_digest_161 ?_
      refine xg_X4_1_53 S hN hI dX4_digest_164 ?_
      refine lv_icmp_ge (tgt := 192) hx hb dX4_digest_167 (by decide) (fun hc => ?_) (fun hc => ?_)
      · have hw := hw.1 hc
        exact hK159 x1_159 x3_159 u17 _ _ _ hI hS (lv_sub hl [0, 1, 2] rfl) hw
      · have hw := hw.2 hc
        refine lv_ldc2 (v := (31 : Int64)) hx hb ho (g_in S ql_X4_187) dX4_digest_170 ?_
        refine lv_lload_n hx hb dX4_digest_173 rfl (lv_at hl 1 rfl) ?_
        refine lv_lmul hx hb dX4_digest_174 ?_
        refine lv_aload_n hx hb dX4_digest_175 rfl (lv_at hl 0 rfl) ?_
        refine xg_X4_0_10 S hI dX4_digest_176 ?_
        refine lv_iload_n hx hb dX4_digest_179 rfl (lv_at hl 2 rfl) ?_
        refine g_ci hg hS (g_runVN S hg hI hN hS (As := [.int x3_159]) (rest := [.long ((31 : Int64) * x1_159)]) (tX2_codeAt l D ad cI rk ks kv  _ _ _ hw) cv_yX2_codeAt (nm_X4_204 hN) (va_recv hI.2.1 hI.1 (ci := 2) (q0 := 1) rfl rfl) ⟨Nat.le_of_ble_eq_true rfl, Nat.le_of_ble_eq_true rfl⟩ rfl hl.1 rfl (Nat.le_of_ble_eq_true rfl) dX4_digest_180) (fun r18 u19 H locs hI hS hw => ?_)
        refine lv_i2l (v := r18.toInt64) hx hb dX4_digest_183 rfl ?_
        refine lv_ladd hx hb dX4_digest_184 ?_
        refine lv_lstore_n (lv' := [(1, .long (((31 : Int64) * x1_159) + r18.toInt64)), (0, .ref (ad 0)), (3, .int x3_159)]) hx hb dX4_digest_185 rfl hl (by decide) rfl (fun ls hl => ?_)
        refine lv_iinc (v := x3_159 + 1) (lv' := [(3, .int (x3_159 + 1)), (1, .long (((31 : Int64) * x1_159) + r18.toInt64)), (0, .ref (ad 0))]) hx hb dX4_digest_186 hl (k := 2) rfl (congrArg (fun z => x3_159 + z) (by decide)) (by decide) rfl (fun ls hl => ?_)
        refine lv_goto (tgt := 159) hx hb dX4_digest_189 (by decide) ?_
        exact ih159 (((31 : Int64) * x1_159) + r18.toInt64) (x3_159 + 1) u19 _ _ _ hI hS (lv_sub hl [2, 1, 0] rfl) hw hK159
  have L194 : ∀  (K194 : Int64 → Int32 → SS → Prop) (n : Nat) (x1_194 : Int64) (x3_194 : Int32) (u23 : SS) (H : Heap) (locs : List Loc) (ls : Array Slot), xI D ad cI u23 s H → va_S (xA ad) s.heap H locs → lv_has ls 5 [(0, .ref (ad 0)), (1, .long x1_194), (3, .int x3_194)] → wX4_digest_194 post K194 n x1_194 x3_194 u23 → (∀ (x1_194 : Int64) (x3_194 : Int32) (u23 : SS) (H : Heap) (locs : List Loc) (ls : Array Slot), xI D ad cI u23 s H → va_S (xA ad) s.heap H locs → lv_has ls 5 [(0, .ref (ad 0)), (1, .long x1_194), (3, .int x3_194)] → K194 x1_194 x3_194 u23 → W p l e (Rm 28) s m [.ref (ad 0)].toArray below meth c H locs 0 0 (MQ below (va_Ql post (Po (xI D ad cI)) (xA ad)) [.ref (ad 0)].toArray s 0 0 (xA ad)) (F0 m 219 ls [])) → W p l e (Rm 28) s m [.ref (ad 0)].toArray below meth c H locs 0 0 (MQ below (va_Ql post (Po (xI D ad cI)) (xA ad)) [.ref (ad 0)].toArray s 0 0 (xA ad)) (F0 m 194 ls []) := by
    intro K194 n
    induction n with
    | zero => intro x1_194 x3_194 u23 H locs ls hI hS hl hw hK194; exact False.elim hw
    | succ n194 ih194 =>
      intro x1_194 x3_194 u23 H locs ls hI hS hl hw hK194
      refine lv_iload_n hx hb dX4_digest_194 rfl (lv_at hl 2 rfl) ?_
      refine lv_bipush (v := (8 : Int32)) hx hb dX4_digest_195 (by decide) ?_
      refine lv_icmp_gt (tgt := 219) hx hb dX4_digest_197 (by decide) (fun hc => ?_) (fun hc => ?_)
      · have hw := hw.1 hc
        exact hK194 x1_194 x3_194 u23 _ _ _ hI hS (lv_sub hl [0, 1, 2] rfl) hw
      · have hw := hw.2 hc
        refine lv_ldc2 (v := (31 : Int64)) hx hb ho (g_in S ql_X4_187) dX4_digest_200 ?_
        refine lv_lload_n hx hb dX4_digest_203 rfl (lv_at hl 1 rfl) ?_
        refine lv_lmul hx hb dX4_digest_204 ?_
        refine lv_aload_n hx hb dX4_digest_205 rfl (lv_at hl 0 rfl) ?_
        refine lv_iload_n hx hb dX4_digest_206 rfl (lv_at hl 2 rfl) ?_
        refine g_ci hg hS (g_runV S hg hI hN hS (As := [.int x3_194]) (rest := [.long ((31 : Int64) * x1_194)]) (tX4_count l D ad cI rk ks kv  _ _ _ hw) cv_yX4_count qm_X4_207 (va_recv hI.2.1 hI.1 (ci := 4) (q0 := 0) rfl rfl) ⟨Nat.le_of_ble_eq_true rfl, Nat.le_of_ble_eq_true rfl⟩ rfl hl.1 rfl (Nat.le_of_ble_eq_true rfl) dX4_digest_207) (fun r24 u25 H locs hI hS hw => ?_)
        refine lv_i2l (v := r24.toInt64) hx hb dX4_digest_210 rfl ?_
        refine lv_ladd hx hb dX4_digest_211 ?_
        refine lv_lstore_n (lv' := [(1, .long (((31 : Int64) * x1_194) + r24.toInt64)), (0, .ref (ad 0)), (3, .int x3_194)]) hx hb dX4_digest_212 rfl hl (by decide) rfl (fun ls hl => ?_)
        refine lv_iinc (v := x3_194 + 1) (lv' := [(3, .int (x3_194 + 1)), (1, .long (((31 : Int64) * x1_194) + r24.toInt64)), (0, .ref (ad 0))]) hx hb dX4_digest_213 hl (k := 2) rfl (congrArg (fun z => x3_194 + z) (by decide)) (by decide) rfl (fun ls hl => ?_)
        refine lv_goto (tgt := 194) hx hb dX4_digest_216 (by decide) ?_
        exact ih194 (((31 : Int64) * x1_194) + r24.toInt64) (x3_194 + 1) u25 _ _ _ hI hS (lv_sub hl [2, 1, 0] rfl) hw hK194
  have L95 : ∀  (K95 : Int64 → Int32 → SS → Prop) (n : Nat) (x1_95 : Int64) (x3_95 : Int32) (u29 : SS) (H : Heap) (locs : List Loc) (ls : Array Slot), xI D ad cI u29 s H → va_S (xA ad) s.heap H locs → lv_has ls 5 [(0, .ref (ad 0)), (1, .long x1_95), (3, .int x3_95)] → wX4_digest_95 post K95 n x1_95 x3_95 u29 → (∀ (x1_95 : Int64) (x3_95 : Int32) (u29 : SS) (H : Heap) (locs : List Loc) (ls : Array Slot), xI D ad cI u29 s H → va_S (xA ad) s.heap H locs → lv_has ls 5 [(0, .ref (ad 0)), (1, .long x1_95), (3, .int x3_95)] → K95 x1_95 x3_95 u29 → W p l e (Rm 28) s m [.ref (ad 0)].toArray below meth c H locs 0 0 (MQ below (va_Ql post (Po (xI D ad cI)) (xA ad)) [.ref (ad 0)].toArray s 0 0 (xA ad)) (F0 m 119 ls [])) → W p l e (Rm 28) s m [.ref (ad 0)].toArray below meth c H locs 0 0 (MQ below (va_Ql post (Po (xI D ad cI)) (xA ad)) [.ref (ad 0)].toArray s 0 0 (xA ad)) (F0 m 95 ls []) := by
    intro K95 n
    induction n with
    | zero => intro x1_95 x3_95 u29 H locs ls hI hS hl hw hK95; exact False.elim hw
    | succ n95 ih95 =>
      intro x1_95 x3_95 u29 H locs ls hI hS hl hw hK95
      refine lv_iload_n hx hb dX4_digest_95 rfl (lv_at hl 2 rfl) ?_
      refine lv_iconst (v := (2 : Int32)) hx hb dX4_digest_96 (by decide) ?_
      refine lv_icmp_gt (tgt := 119) hx hb dX4_digest_97 (by decide) (fun hc => ?_) (fun hc => ?_)
      · have hw := hw.1 hc
        exact hK95 x1_95 x3_95 u29 _ _ _ hI hS (lv_sub hl [0, 1, 2] rfl) hw
      · have hw := hw.2 hc
        refine lv_ldc2 (v := (31 : Int64)) hx hb ho (g_in S ql_X4_187) dX4_digest_100 ?_
        refine lv_lload_n hx hb dX4_digest_103 rfl (lv_at hl 1 rfl) ?_
        refine lv_lmul hx hb dX4_digest_104 ?_
        refine lv_aload_n hx hb dX4_digest_105 rfl (lv_at hl 0 rfl) ?_
        refine lv_iload_n hx hb dX4_digest_106 rfl (lv_at hl 2 rfl) ?_
        refine g_ci hg hS (g_runV S hg hI hN hS (As := [.int x3_95]) (rest := [.long ((31 : Int64) * x1_95)]) (tX4_ways l D ad cI rk ks kv  _ _ _ hw) cv_yX4_ways qm_X4_196 (va_recv hI.2.1 hI.1 (ci := 4) (q0 := 0) rfl rfl) ⟨Nat.le_of_ble_eq_true rfl, Nat.le_of_ble_eq_true rfl⟩ rfl hl.1 rfl (Nat.le_of_ble_eq_true rfl) dX4_digest_107) (fun r30 u31 H locs hI hS hw => ?_)
        refine lv_i2l (v := r30.toInt64) hx hb dX4_digest_110 rfl ?_
        refine lv_ladd hx hb dX4_digest_111 ?_
        refine lv_lstore_n (lv' := [(1, .long (((31 : Int64) * x1_95) + r30.toInt64)), (0, .ref (ad 0)), (3, .int x3_95)]) hx hb dX4_digest_112 rfl hl (by decide) rfl (fun ls hl => ?_)
        refine lv_iinc (v := x3_95 + 1) (lv' := [(3, .int (x3_95 + 1)), (1, .long (((31 : Int64) * x1_95) + r30.toInt64)), (0, .ref (ad 0))]) hx hb dX4_digest_113 hl (k := 2) rfl (congrArg (fun z => x3_95 + z) (by decide)) (by decide) rfl (fun ls hl => ?_)
        refine lv_goto (tgt := 95) hx hb dX4_digest_116 (by decide) ?_
        exact ih95 (((31 : Int64) * x1_95) + r30.toInt64) (x3_95 + 1) u31 _ _ _ hI hS (lv_sub hl [2, 1, 0] rfl) hw hK95
  refine lv_ldc2 (v := (1321 : Int64)) hx hb ho (g_in S ql_X4_185) dX4_digest_0 ?_
  refine lv_lstore_n (lv' := [(1, .long (1321 : Int64)), (0, .ref (ad 0))]) hx hb dX4_digest_3 rfl hl (by decide) rfl (fun ls hl => ?_)
  refine lv_iconst (v := (1 : Int32)) hx hb dX4_digest_4 (by decide) ?_
  refine lv_istore_n (lv' := [(3, .int (1 : Int32)), (1, .long (1321 : Int64)), (0, .ref (ad 0))]) hx hb dX4_digest_5 rfl hl (by decide) rfl (fun ls hl => ?_)
  obtain ⟨n, hw⟩ := hw
  refine L6 _ n (1321 : Int64) (1 : Int32) u _ _ _ hI hS (lv_sub hl [2, 1, 0] rfl) hw (fun x1_12 x3_13 u14 H locs ls hI hS hl hw => ?_)
  refine lv_aload_n hx hb dX4_digest_83 rfl (lv_at hl 0 rfl) ?_
  refine xg_X4_0_19 S hI dX4_digest_84 ?_
  refine g_ci hg hS (g_runVN S hg hI hN hS (As := []) (rest := []) (tX0_isThere l D ad cI rk ks kv   _ _ hw) cv_yX0_isThere (nm_X4_140 hN) (va_recv hI.2.1 hI.1 (ci := 0) (q0 := 2) rfl rfl) ⟨Nat.le_of_ble_eq_true rfl, Nat.le_of_ble_eq_true rfl⟩ rfl hl.1 rfl (Nat.le_of_ble_eq_true rfl) dX4_digest_87) (fun r15 u16 H locs hI hS hw => ?_)
  refine lv_if_eq (tgt := 157) hx hb dX4_digest_90 (by decide) (fun hc => ?_) (fun hc => ?_)
  · have hw := hw.1 hc
    refine lv_iconst (v := (0 : Int32)) hx hb dX4_digest_157 (by decide) ?_
    refine lv_istore_n (lv' := [(3, .int (0 : Int32)), (0, .ref (ad 0)), (1, .long x1_12)]) hx hb dX4_digest_158 rfl hl (by decide) rfl (fun ls hl => ?_)
    obtain ⟨n, hw⟩ := hw
    refine L159 _ n x1_12 (0 : Int32) u16 _ _ _ hI hS (lv_sub hl [1, 2, 0] rfl) hw (fun x1_20 x3_21 u22 H locs ls hI hS hl hw => ?_)
    refine lv_iconst (v := (0 : Int32)) hx hb dX4_digest_192 (by decide) ?_
    refine lv_istore_n (lv' := [(3, .int (0 : Int32)), (0, .ref (ad 0)), (1, .long x1_20)]) hx hb dX4_digest_193 rfl hl (by decide) rfl (fun ls hl => ?_)
    obtain ⟨n, hw⟩ := hw
    refine L194 _ n x1_20 (0 : Int32) u22 _ _ _ hI hS (lv_sub hl [1, 2, 0] rfl) hw (fun x1_26 x3_27 u28 H locs ls hI hS hl hw => ?_)
    refine lv_lload_n hx hb dX4_digest_219 rfl (lv_at hl 1 rfl) ?_
    exact g_lret S hr hk hg hI hS dX4_digest_220 hw
  · have hw := hw.2 hc
    refine lv_iconst (v := (0 : Int32)) hx hb dX4_digest_93 (by decide) ?_
    refine lv_istore_n (lv' := [(3, .int (0 : Int32)), (0, .ref (ad 0)), (1, .long x1_12)]) hx hb dX4_digest_94 rfl hl (by decide) rfl (fun ls hl => ?_)
    obtain ⟨n, hw⟩ := hw
    refine L95 _ n x1_12 (0 : Int32) u16 _ _ _ hI hS (lv_sub hl [1, 2, 0] rfl) hw (fun x1_32 x3_33 u34 H locs ls hI hS hl hw => ?_)
    refine lv_ldc2 (v := (31 : Int64)) hx hb ho (g_in S ql_X4_187) dX4_digest_119 ?_
    refine lv_lload_n hx hb dX4_digest_122 rfl (lv_at hl 1 rfl) ?_
    refine lv_lmul hx hb dX4_digest_123 ?_
    refine lv_aload_n hx hb dX4_digest_124 rfl (lv_at hl 0 rfl) ?_
    refine g_ci hg hS (g_runV S hg hI hN hS (As := []) (rest := [.long ((31 : Int64) * x1_32)]) (tX4_mend l D ad cI rk ks kv   _ _ hw) cv_yX4_mend qm_X4_198 (va_recv hI.2.1 hI.1 (ci := 4) (q0 := 0) rfl rfl) ⟨Nat.le_of_ble_eq_true rfl, Nat.le_of_ble_eq_true rfl⟩ rfl hl.1 rfl (Nat.le_of_ble_eq_true rfl) dX4_digest_125) (fun r35 u36 H locs hI hS hw => ?_)
    refine lv_i2l (v := r35.toInt64) hx hb dX4_digest_128 rfl ?_
    refine lv_ladd hx hb dX4_digest_129 ?_
    refine lv_lstore_n (lv' := [(1, .long (((31 : Int64) * x1_32) + r35.toInt64)), (0, .ref (ad 0)), (3, .int x3_33)]) hx hb dX4_digest_130 rfl hl (by decide) rfl (fun ls hl => ?_)
    refine lv_ldc2 (v := (31 : Int64)) hx hb ho (g_in S ql_X4_187) dX4_digest_131 ?_
    refine lv_lload_n hx hb dX4_digest_134 rfl (lv_at hl 0 rfl) ?_
    refine lv_lmul hx hb dX4_digest_135 ?_
    refine lv_aload_n hx hb dX4_digest_136 rfl (lv_at hl 1 rfl) ?_
    refine lv_iconst (v := (0 : Int32)) hx hb dX4_digest_137 (by decide) ?_
    refine g_ci hg hS (g_runV S hg hI hN hS (As := [.int (0 : Int32)]) (rest := [.long ((31 : Int64) * (((31 : Int64) * x1_32) + r35.toInt64))]) (tX4_wins l D ad cI rk ks kv  _ _ _ hw) cv_yX4_wins qm_X4_201 (va_recv hI.2.1 hI.1 (ci := 4) (q0 := 0) rfl rfl) ⟨Nat.le_of_ble_eq_true rfl, Nat.le_of_ble_eq_true rfl⟩ rfl hl.1 rfl (Nat.le_of_ble_eq_true rfl) dX4_digest_138) (fun r37 u38 H locs hI hS hw => ?_)
    refine lv_i2l (v := r37.toInt64) hx hb dX4_digest_141 rfl ?_
    refine lv_ladd hx hb dX4_digest_142 ?_
    refine lv_lstore_n (lv' := [(1, .long (((31 : Int64) * (((31 : Int64) * x1_32) + r35.toInt64)) + r37.toInt64)), (0, .ref (ad 0)), (3, .int x3_33)]) hx hb dX4_digest_143 rfl hl (by decide) rfl (fun ls hl => ?_)
    refine lv_ldc2 (v := (31 : Int64)) hx hb ho (g_in S ql_X4_187) dX4_digest_144 ?_
    refine lv_lload_n hx hb dX4_digest_147 rfl (lv_at hl 0 rfl) ?_
    refine lv_lmul hx hb dX4_digest_148 ?_
    refine lv_aload_n hx hb dX4_digest_149 rfl (lv_at hl 1 rfl) ?_
    refine lv_iconst (v := (1 : Int32)) hx hb dX4_digest_150 (by decide) ?_
    refine g_ci hg hS (g_runV S hg hI hN hS (As := [.int (1 : Int32)]) (rest := [.long ((31 : Int64) * (((31 : Int64) * (((31 : Int64) * x1_32) + r35.toInt64)) + r37.toInt64))]) (tX4_wins l D ad cI rk ks kv  _ _ _ hw) cv_yX4_wins qm_X4_201 (va_recv hI.2.1 hI.1 (ci := 4) (q0 := 0) rfl rfl) ⟨Nat.le_of_ble_eq_true rfl, Nat.le_of_ble_eq_true rfl⟩ rfl hl.1 rfl (Nat.le_of_ble_eq_true rfl) dX4_digest_151) (fun r39 u40 H locs hI hS hw => ?_)
    refine lv_i2l (v := r39.toInt64) hx hb dX4_digest_154 rfl ?_
    refine lv_ladd hx hb dX4_digest_155 ?_
    refine lv_lstore_n (lv' := [(1, .long (((31 : Int64) * (((31 : Int64) * (((31 : Int64) * x1_32) + r35.toInt64)) + r37.toInt64)) + r39.toInt64)), (0, .ref (ad 0)), (3, .int x3_33)]) hx hb dX4_digest_156 rfl hl (by decide) rfl (fun ls hl => ?_)
    refine lv_iconst (v := (0 : Int32)) hx hb dX4_digest_157 (by decide) ?_
    refine lv_istore_n (lv' := [(3, .int (0 : Int32)), (1, .long (((31 : Int64) * (((31 : Int64) * (((31 : Int64) * x1_32) + r35.toInt64)) + r37.toInt64)) + r39.toInt64)), (0, .ref (ad 0))]) hx hb dX4_digest_158 rfl hl (by decide) rfl (fun ls hl => ?_)
    obtain ⟨n, hw⟩ := hw
    refine L159 _ n (((31 : Int64) * (((31 : Int64) * (((31 : Int64) * x1_32) + r35.toInt64)) + r37.toInt64)) + r39.toInt64) (0 : Int32) u40 _ _ _ hI hS (lv_sub hl [2, 1, 0] rfl) hw (fun x1_41 x3_42 u43 H locs ls hI hS hl hw => ?_)
    refine lv_iconst (v := (0 : Int32)) hx hb dX4_digest_192 (by decide) ?_
    refine lv_istore_n (lv' := [(3, .int (0 : Int32)), (0, .ref (ad 0)), (1, .long x1_41)]) hx hb dX4_digest_193 rfl hl (by decide) rfl (fun ls hl => ?_)
    obtain ⟨n, hw⟩ := hw
    refine L194 _ n x1_41 (0 : Int32) u43 _ _ _ hI hS (lv_sub hl [1, 2, 0] rfl) hw (fun x1_44 x3_45 u46 H locs ls hI hS hl hw => ?_)
    refine lv_lload_n hx hb dX4_digest_219 rfl (lv_at hl 1 rfl) ?_
    exact g_lret S hr hk hg hI hS dX4_digest_220 hw
