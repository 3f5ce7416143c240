set_option maxRecDepth 100000 in
set_option maxHeartbeats 4000000 in
theorem tX2_append (l : Launch) (D : va_G) (ad : Nat → Nat) (cI : ClassId) (rk ks kv : Nat)  (a1 : Int32) (u : SS) (post : SS → Prop) (hw : wX2_append  a1 u post) : Met l yX2_append (Cond.code yX2_append cX2_append 2 none :: XT) (Rm 2) (va_Pc [.ref (ad 1), .int a1] (Pr (xI D ad cI) (xN ad rk ks kv) u)) (va_Qv post (Po (xI D ad cI)) (xA ad)) 0 0 (xA ad) := by
  refine g_of (A := (xA ad)) (by decide) (Nat.le_of_ble_eq_true rfl) (lv := [(0, .ref (ad 1)), (1, .int a1)]) rfl ?_
  intro p e s m below meth c ls S hr hk hI hN hS hl
  have hx := S.1
  have hb := S.2.1
  have ho := S.2.2.2.1
  have hg := @xG D ad cI rk ks kv
  refine lv_aload_n hx hb dX2_append_0 rfl (lv_at hl 0 rfl) ?_
  refine xg_X2_1_9 S hI dX2_append_1 ?_
  refine lv_aload_n hx hb dX2_append_4 rfl (lv_at hl 0 rfl) ?_
  refine xg_X2_1_15 S hI dX2_append_5 ?_
  refine lv_iload_n hx hb dX2_append_8 rfl (lv_at hl 1 rfl) ?_
  refine x_putN (j := 0) S hI hN hS hl.1 (by decide) (nm_X2_19 hN) ⟨Nat.le_of_ble_eq_true rfl, Nat.le_of_ble_eq_true rfl⟩ (Nat.le_of_ble_eq_true rfl) dX2_append_9 (fun H locs hI hS => ?_)
  refine lv_aload_n hx hb dX2_append_12 rfl (lv_at hl 0 rfl) ?_
  refine lv_dup hx hb dX2_append_13 rfl ?_
  refine xg_X2_1_15 S hI dX2_append_14 ?_
  refine lv_iconst (v := (1 : Int32)) hx hb dX2_append_17 (by decide) ?_
  refine lv_iadd hx hb dX2_append_18 ?_
  refine xp_X2_1_15 S hI hS dX2_append_19 (fun H locs hI hS => ?_)
  exact g_vret S hr hk hg hI hS dX2_append_22 hw
set_option maxRecDepth 100000 in
set_option maxHeartbeats 4000000 in
theorem tX4_letter (l : Launch) (D : va_G) (ad : Nat → Nat) (cI : ClassId) (rk ks kv : Nat)  (a1 : Int32) (u : SS) (post : Int32 → SS → Prop) (hw : wX4_letter  a1 u post) : Met l yX4_letter (Cond.code yX4_letter cX4_letter 2 (some .int) :: XT) (Rm 3) (va_Pc [.ref (ad 0), .int a1] (Pr (xI D ad cI) (xN ad rk ks kv) u)) (va_Qi post (Po (xI D ad cI)) (xA ad)) 0 0 (xA ad) := by
  refine g_of (A := (xA ad)) (by decide) (Nat.le_of_ble_eq_true rfl) (lv := [(0, .ref (ad 0)), (1, .int a1)]) rfl ?_
  intro p e s m below meth c ls S hr hk hI hN hS hl
  have hx := S.1
  have hb := S.2.1
  have ho := S.2.2.2.1
  have hg := @xG D ad cI rk ks kv
  refine lv_iload_n hx hb dX4_letter_0 rfl (lv_at hl 1 rfl) ?_
  refine lv_bipush (v := (32 : Int32)) hx hb dX4_letter_1 (by decide) ?_
  refine lv_icmp_lt (tgt := 12) hx hb dX4_letter_3 (by decide) (fun hc => ?_) (fun hc => ?_)
  · have hw := hw.1 hc
    refine lv_bipush (v := (-102 : Int32)) hx hb dX4_letter_12 (by decide) ?_
    exact g_iret S hr hk hg hI hS dX4_letter_14 hw
  · have hw := hw.2 hc
    refine lv_iload_n hx hb dX4_letter_6 rfl (lv_at hl 1 rfl) ?_
    refine lv_bipush (v := (126 : Int32)) hx hb dX4_letter_7 (by decide) ?_
    refine lv_icmp_le (tgt := 15) hx hb dX4_letter_9 (by decide) (fun hc => ?_) (fun hc => ?_)
    · have hw := hw.1 hc
      refine lv_aload_n hx hb dX4_letter_15 rfl (lv_at hl 0 rfl) ?_
      refine xg_X4_0_10 S hI dX4_letter_16 ?_
      refine xg_X4_1_53 S hN hI dX4_letter_19 ?_
      refine lv_bipush (v := (26 : Int32)) hx hb dX4_letter_22 (by decide) ?_
      refine lv_icmp_lt (tgt := 30) hx hb dX4_letter_24 (by decide) (fun hc => ?_) (fun hc => ?_)
      · have hw := hw.1 hc
        refine lv_aload_n hx hb dX4_letter_30 rfl (lv_at hl 0 rfl) ?_
        refine xg_X4_0_10 S hI dX4_letter_31 ?_
        refine lv_iload_n hx hb dX4_letter_34 rfl (lv_at hl 1 rfl) ?_
        refine g_cv hg hS (g_runVN S hg hI hN hS (As := [.int a1]) (rest := []) (tX2_append l D ad cI rk ks kv  _ _ _ hw) cv_yX2_append (nm_X4_56 hN) (va_recv hI.2.1 hI.1 (ci := 2) (q0 := 1) rfl rfl) ⟨Nat.le_of_ble_eq_true rfl, Nat.le_of_ble_eq_true rfl⟩ rfl hl.1 rfl (Nat.le_of_ble_eq_true rfl) dX4_letter_35) (fun u2 H locs hI hS hw => ?_)
        refine lv_aload_n hx hb dX4_letter_38 rfl (lv_at hl 0 rfl) ?_
        refine xg_X4_0_10 S hI dX4_letter_39 ?_
        refine xg_X4_1_53 S hN hI dX4_letter_42 ?_
        exact g_iret S hr hk hg hI hS dX4_letter_45 hw
      · have hw := hw.2 hc
        refine lv_bipush (v := (-104 : Int32)) hx hb dX4_letter_27 (by decide) ?_
        exact g_iret S hr hk hg hI hS dX4_letter_29 hw
    · have hw := hw.2 hc
      refine lv_bipush (v := (-102 : Int32)) hx hb dX4_letter_12 (by decide) ?_
      exact g_iret S hr hk hg hI hS dX4_letter_14 hw
set_option maxRecDepth 100000 in
set_option maxHeartbeats 4000000 in
theorem tX4_blank (l : Launch) (D : va_G) (ad : Nat → Nat) (cI : ClassId) (rk ks kv : Nat)   (u : SS) (post : Int32 → SS → Prop) (hw : wX4_blank   u post) : Met l yX4_blank (Cond.code yX4_blank cX4_blank 2 (some .int) :: XT) (Rm 1) (va_Pc [.ref (ad 0)] (Pr (xI D ad cI) (xN ad rk ks kv) u)) (va_Qi post (Po (xI D ad cI)) (xA ad)) 0 0 (xA ad) := by
  refine g_of (A := (xA ad)) (by decide) (Nat.le_of_ble_eq_true rfl) (lv := [(0, .ref (ad 0))]) rfl ?_
  intro p e s m below meth c ls S hr hk hI hN hS hl
  have hx := S.1
  have hb := S.2.1
  have ho := S.2.2.2.1
  have hg := @xG D ad cI rk ks kv
  refine lv_aload_n hx hb dX4_blank_0 rfl (lv_at hl 0 rfl) ?_
  refine xg_X4_0_10 S hI dX4_blank_1 ?_
  refine xg_X4_1_53 S hN hI dX4_blank_4 ?_
  refine lv_istore_n (lv' := [(1, .int (u.1 2)), (0, .ref (ad 0))]) hx hb dX4_blank_7 rfl hl (by decide) rfl (fun ls hl => ?_)
  refine lv_aload_n hx hb dX4_blank_8 rfl (lv_at hl 1 rfl) ?_
  refine xg_X4_0_10 S hI dX4_blank_9 ?_
  refine lv_iconst (v := (0 : Int32)) hx hb dX4_blank_12 (by decide) ?_
  refine xp_X4_1_53 S hN hI hS dX4_blank_13 (fun H locs hI hS => ?_)
  refine lv_iload_n hx hb dX4_blank_16 rfl (lv_at hl 0 rfl) ?_
  exact g_iret S hr hk hg hI hS dX4_blank_17 hw
set_option maxRecDepth 100000 in
set_option maxHeartbeats 4000000 in
theorem tX2_codeAt (l : Launch) (D : va_G) (ad : Nat → Nat) (cI : ClassId) (rk ks kv : Nat)  (a1 : Int32) (u : SS) (post : Int32 → SS → Prop) (hw : wX2_codeAt  a1 u post) : Met l yX2_codeAt (Cond.code yX2_codeAt cX2_codeAt 2 (some .int) :: XT) (Rm 2) (va_Pc [.ref (ad 1), .int a1] (Pr (xI D ad cI) (xN ad rk ks kv) u)) (va_Qi post (Po (xI D ad cI)) (xA ad)) 0 0 (xA ad) := by
  refine g_of (A := (xA ad)) (by decide) (Nat.le_of_ble_eq_true rfl) (lv := [(0, .ref (ad 1)), (1, .int a1)]) rfl ?_
  intro p e s m below meth c ls S hr hk hI hN hS hl
  have hx := S.1
  have hb := S.2.1
  have ho := S.2.2.2.1
  have hg := @xG D ad cI rk ks kv
  refine lv_iload_n hx hb dX2_codeAt_0 rfl (lv_at hl 1 rfl) ?_
  refine lv_aload_n hx hb dX2_codeAt_1 rfl (lv_at hl 0 rfl) ?_
  refine xg_X2_1_15 S hI dX2_codeAt_2 ?_
  refine lv_icmp_ge (tgt := 19) hx hb dX2_codeAt_5 (by decide) (fun hc => ?_) (fun hc => ?_)
  · have hw := hw.1 hc
    refine lv_iconst (v := (0 : Int32)) hx hb dX2_codeAt_19 (by decide) ?_
    exact g_iret S hr hk hg hI hS dX2_codeAt_20 hw
  · have hw := hw.2 hc
    refine lv_aload_n hx hb dX2_codeAt_8 rfl (lv_at hl 0 rfl) ?_
    refine xg_X2_1_9 S hI dX2_codeAt_9 ?_
    refine lv_iload_n hx hb dX2_codeAt_12 rfl (lv_at hl 1 rfl) ?_
    refine x_atN (j := 0) S hI hl.1 (by decide) (nm_X2_23 hN) ⟨Nat.le_of_ble_eq_true rfl, Nat.le_of_ble_eq_true rfl⟩ (Nat.le_of_ble_eq_true rfl) dX2_codeAt_13 ?_
    refine lv_goto (tgt := 20) hx hb dX2_codeAt_16 (by decide) ?_
    exact g_iret S hr hk hg hI hS dX2_codeAt_20 hw
set_option maxRecDepth 100000 in
set_option maxHeartbeats 4000000 in
theorem tJ0_isLatin1_aae02 (l : Launch) (D : va_G) (ad : Nat → Nat) (cI : ClassId) (rk ks kv : Nat)   (u : SS) (post : Int32 → SS → Prop) (hw : wJ0_isLatin1_aae02   u post) : Met l yJ0_isLatin1_aae02 (Cond.code yJ0_isLatin1_aae02 cJ0_isLatin1_aae02 1 (some .boolean) :: XT) (Rm 1) (va_Pc [.ref ks] (Pr (xI D ad cI) (xN ad rk ks kv) u)) (va_Qi post (Po (xI D ad cI)) (xA ad)) 0 0 (xA ad) := by
  refine g_of (A := (xA ad)) (by decide) (Nat.le_of_ble_eq_true rfl) (lv := [(0, .ref ks)]) rfl ?_
  intro p e s m below meth c ls S hr hk hI hN hS hl
  have hx := S.1
  have hb := S.2.1
  have ho := S.2.2.2.1
  have hg := @xG D ad cI rk ks kv
  refine va_gets hx hb hN.2.2.2.2.2.2.1 hS ho (g_in S qf_J0_38) (fun _ h9 => h9) dJ0_isLatin1_aae02_0 ?_
  refine lv_if_eq (tgt := 17) hx hb dJ0_isLatin1_aae02_3 (by decide) (fun hc => ?_) (fun hc => ?_)
  · exact absurd hc (by decide)
  refine lv_aload_n hx hb dJ0_isLatin1_aae02_6 rfl (lv_at hl 0 rfl) ?_
  refine vk_getf hx hb (hN.2.2.2.2.2.2.2.1 0 (by decide)).2.1 hS ho (g_in S qf_J0_15) (fun _ h9 => h9) dJ0_isLatin1_aae02_7 ?_
  refine lv_if_ne (tgt := 17) hx hb dJ0_isLatin1_aae02_10 (by decide) (fun hc => ?_) (fun hc => ?_)
  · exact absurd (by decide) hc
  refine lv_iconst (v := (1 : Int32)) hx hb dJ0_isLatin1_aae02_13 (by decide) ?_
  refine lv_goto (tgt := 18) hx hb dJ0_isLatin1_aae02_14 (by decide) ?_
  exact g_zret S hr rfl hk hg hI hS dJ0_isLatin1_aae02_18 hw
set_option maxRecDepth 100000 in
set_option maxHeartbeats 4000000 in
theorem tJ0_coder_7d493 (l : Launch) (D : va_G) (ad : Nat → Nat) (cI : ClassId) (rk ks kv : Nat)   (u : SS) (post : Int32 → SS → Prop) (hw : wJ0_coder_7d493   u post) : Met l yJ0_coder_7d493 (Cond.code yJ0_coder_7d493 cJ0_coder_7d493 1 (some .byte) :: XT) (Rm 1) (va_Pc [.ref ks] (Pr (xI D ad cI) (xN ad rk ks kv) u)) (va_Qi post (Po (xI D ad cI)) (xA ad)) 0 0 (xA ad) := by
  refine g_of (A := (xA ad)) (by decide) (Nat.le_of_ble_eq_true rfl) (lv := [(0, .ref ks)]) rfl ?_
  intro p e s m below meth c ls S hr hk hI hN hS hl
  have hx := S.1
  have hb := S.2.1
  have ho := S.2.2.2.1
  have hg := @xG D ad cI rk ks kv
  refine va_gets hx hb hN.2.2.2.2.2.2.1 hS ho (g_in S qf_J0_38) (fun _ h9 => h9) dJ0_coder_7d493_0 ?_
  refine lv_if_eq (tgt := 13) hx hb dJ0_coder_7d493_3 (by decide) (fun hc => ?_) (fun hc => ?_)
  · exact absurd hc (by decide)
  refine lv_aload_n hx hb dJ0_coder_7d493_6 rfl (lv_at hl 0 rfl) ?_
  refine vk_getf hx hb (hN.2.2.2.2.2.2.2.1 0 (by decide)).2.1 hS ho (g_in S qf_J0_15) (fun _ h9 => h9) dJ0_coder_7d493_7 ?_
  refine lv_goto (tgt := 14) hx hb dJ0_coder_7d493_10 (by decide) ?_
  exact g_zret S hr rfl hk hg hI hS dJ0_coder_7d493_14 hw
set_option maxRecDepth 100000 in
set_option maxHeartbeats 4000000 in
theorem tJ0_length_8abf5 (l : Launch) (D : va_G) (ad : Nat → Nat) (cI : ClassId) (rk ks kv : Nat)   (u : SS) (post : Int32 → SS → Prop) (hw : wJ0_length_8abf5   u post) : Met l yJ0_length_8abf5 (Cond.code yJ0_length_8abf5 cJ0_length_8abf5 1 (some .int) :: XT) (Rm 2) (va_Pc [.ref ks] (Pr (xI D ad cI) (xN ad rk ks kv) u)) (va_Qi post (Po (xI D ad cI)) (xA ad)) 0 0 (xA ad) := by
  refine g_of (A := (xA ad)) (by decide) (Nat.le_of_ble_eq_true rfl) (lv := [(0, .ref ks)]) rfl ?_
  intro p e s m below meth c ls S hr hk hI hN hS hl
  have hx := S.1
  have hb := S.2.1
  have ho := S.2.2.2.1
  have hg := @xG D ad cI rk ks kv
  refine lv_aload_n hx hb dJ0_length_8abf5_0 rfl (lv_at hl 0 rfl) ?_
  refine vk_getf hx hb (hN.2.2.2.2.2.2.2.1 0 (by decide)).2.2.1 hS ho (g_in S qf_J0_9) (fun _ h9 => h9) dJ0_length_8abf5_1 ?_
  refine va_tlen (v := (5 : Int32)) hx hb (xT hN) hS (by decide) dJ0_length_8abf5_4 ?_
  refine lv_aload_n hx hb dJ0_length_8abf5_5 rfl (lv_at hl 0 rfl) ?_
  refine g_ci hg hS (g_runV S hg hI hN hS (As := []) (rest := [.int (5 : Int32)]) (tJ0_coder_7d493 l D ad cI rk ks kv u (fun r z => (0 : Int32) = r ∧ u = z) (by exact And.intro (by decide) rfl)) cv_yJ0_coder_7d493 qm_J0_335 (vk_recv hN.2.2.2.2.2.2.2 (i := 0) (by decide) hS) ⟨Nat.le_of_ble_eq_true rfl, Nat.le_of_ble_eq_true rfl⟩ rfl hl.1 rfl (Nat.le_of_ble_eq_true rfl) dJ0_length_8abf5_6) (fun r1 u2 H locs hI hS he => ?_)
  obtain ⟨rfl, rfl⟩ := he
  refine lv_ishr hx hb dJ0_length_8abf5_9 ?_
  exact g_iret S hr hk hg hI hS dJ0_length_8abf5_10 hw
set_option maxRecDepth 100000 in
set_option maxHeartbeats 4000000 in
theorem tJ1_canEncode_9a6ad (l : Launch) (D : va_G) (ad : Nat → Nat) (cI : ClassId) (rk ks kv : Nat)  (a0 : Int32) (u : SS) (post : Int32 → SS → Prop) (hw : wJ1_canEncode_9a6ad  a0 u post) : Met l yJ1_canEncode_9a6ad (Cond.code yJ1_canEncode_9a6ad cJ1_canEncode_9a6ad 1 (some .boolean) :: XT) (Rm 1) (va_Pc [.int a0] (Pr (xI D ad cI) (xN ad rk ks kv) u)) (va_Qi post (Po (xI D ad cI)) (xA ad)) 0 0 (xA ad) := by
  refine g_of (A := (xA ad)) (by decide) (Nat.le_of_ble_eq_true rfl) (lv := [(0, .int a0)]) rfl ?_
  intro p e s m below meth c ls S hr hk hI hN hS hl
  have hx := S.1
  have hb := S.2.1
  have ho := S.2.2.2.1
  have hg := @xG D ad cI rk ks kv
  refine lv_iload_n hx hb dJ1_canEncode_9a6ad_0 rfl (lv_at hl 0 rfl) ?_
  refine lv_if_lt (tgt := 15) hx hb dJ1_canEncode_9a6ad_1 (by decide) (fun hc => ?_) (fun hc => ?_)
  · have hw := hw.1 hc
    refine lv_iconst (v := (0 : Int32)) hx hb dJ1_canEncode_9a6ad_15 (by decide) ?_
    exact g_zret S hr rfl hk hg hI hS dJ1_canEncode_9a6ad_16 hw
  · have hw := hw.2 hc
    refine lv_iload_n hx hb dJ1_canEncode_9a6ad_4 rfl (lv_at hl 0 rfl) ?_
    refine lv_sipush (v := (255 : Int32)) hx hb dJ1_canEncode_9a6ad_5 (by decide) ?_
    refine lv_icmp_gt (tgt := 15) hx hb dJ1_canEncode_9a6ad_8 (by decide) (fun hc => ?_) (fun hc => ?_)
    · have hw := hw.1 hc
      refine lv_iconst (v := (0 : Int32)) hx hb dJ1_canEncode_9a6ad_15 (by decide) ?_
      exact g_zret S hr rfl hk hg hI hS dJ1_canEncode_9a6ad_16 hw
    · have hw := hw.2 hc
      refine lv_iconst (v := (1 : Int32)) hx hb dJ1_canEncode_9a6ad_11 (by decide) ?_
      refine lv_goto (tgt := 16) hx hb dJ1_canEncode_9a6ad_12 (by decide) ?_
      exact g_zret S hr rfl hk hg hI hS dJ1_canEncode_9a6ad_16 hw
set_option maxRecDepth 100000 in
set_option maxHeartbeats 4000000 in
theorem tJ1_indexOfChar_4cfef (l : Launch) (D : va_G) (ad : Nat → Nat) (cI : ClassId) (rk ks kv : Nat)  (a1 : Int32) (a2 : Int32) (a3 : Int32) (u : SS) (post : Int32 → SS → Prop) (hw : wJ1_indexOfChar_4cfef  a1 a2 a3 u post) : Met l yJ1_indexOfChar_4cfef (Cond.code yJ1_indexOfChar_4cfef cJ1_indexOfChar_4cfef 6 (some .int) :: XT) (Rm 1) (va_Pc [.ref kv, .int a1, .int a2, .int a3] (Pr (xI D ad cI) (xN ad rk ks kv) u)) (va_Qi post (Po (xI D ad cI)) (xA ad)) 0 0 (xA ad) := by
  refine g_of (A := (xA ad)) (by decide) (Nat.le_of_ble_eq_true rfl) (lv := [(0, .ref kv), (1, .int a1), (2, .int a2), (3, .int a3)]) rfl ?_
  intro p e s m below meth c ls S hr hk hI hN hS hl
  have hx := S.1
  have hb := S.2.1
  have ho := S.2.2.2.1
  have hg := @xG D ad cI rk ks kv
  have L7 : ∀ (x1_7 : Int32) (x2_7 : Int32) (x3_7 : Int32) (x4_7 : Int32) (K7 : Int32 → SS → Prop) (n : Nat) (x5_7 : Int32) (u1 : SS) (H : Heap) (locs : List Loc) (ls : Array Slot), xI D ad cI u1 s H → va_S (xA ad) s.heap H locs → lv_has ls 6 [(0, .ref kv), (1, .int x1_7), (2, .int x2_7), (3, .int x3_7), (4, .int x4_7), (5, .int x5_7)] → wJ1_indexOfChar_4cfef_7 post x1_7 x2_7 x3_7 x4_7 K7 n x5_7 u1 → (∀ (x5_7 : Int32) (u1 : SS) (H : Heap) (locs : List Loc) (ls : Array Slot), xI D ad cI u1 s H → va_S (xA ad) s.heap H locs → lv_has ls 6 [(0, .ref kv), (1, .int x1_7), (2, .int x2_7), (3, .int x3_7), (4, .int x4_7), (5, .int x5_7)] → K7 x5_7 u1 → W p l e (Rm 1) s m [.ref kv, .int a1, .int a2, .int a3].toArray below meth c H locs 0 0 (MQ below (va_Qi post (Po (xI D ad cI)) (xA ad)) [.ref kv, .int a1, .int a2, .int a3].toArray s 0 0 (xA ad)) (F0 m 31 ls [])) → W p l e (Rm 1) s m [.ref kv, .int a1, .int a2, .int a3].toArray below meth c H locs 0 0 (MQ below (va_Qi post (Po (xI D ad cI)) (xA ad)) [.ref kv, .int a1, .int a2, .int a3].toArray s 0 0 (xA ad)) (F0 m 7 ls []) := by
    intro x1_7 x2_7 x3_7 x4_7 K7 n
    induction n with
    | zero => intro x5_7 u1 H locs ls hI hS hl hw hK7; exact False.elim hw
    | succ n7 ih7 =>
      intro x5_7 u1 H locs ls hI hS hl hw hK7
      refine lv_iload hx hb dJ1_indexOfChar_4cfef_7 (lv_at hl 5 rfl) ?_
      refine lv_iload_n hx hb dJ1_indexOfChar_4cfef_9 rfl (lv_at hl 3 rfl) ?_
      refine lv_icmp_ge (tgt := 31) hx hb dJ1_indexOfChar_4cfef_10 (by decide) (fun hc => ?_) (fun hc => ?_)
      · have hw := hw.1 hc
        exact hK7 x5_7 u1 _ _ _ hI hS (lv_sub hl [0, 1, 2, 3, 4, 5] rfl) hw
      · have hw := hw.2 hc
        refine lv_aload_n hx hb dJ1_indexOfChar_4cfef_13 rfl (lv_at hl 0 rfl) ?_
        refine lv_iload hx hb dJ1_indexOfChar_4cfef_14 (lv_at hl 5 rfl) ?_
        obtain ⟨hv, hw⟩ := hw
        refine va_tb (v := .int (xby x5_7.toNatClampNeg)) hx hb (xT hN) hS hv rfl dJ1_indexOfChar_4cfef_16 ?_
        refine lv_iload hx hb dJ1_indexOfChar_4cfef_17 (lv_at hl 4 rfl) ?_
        refine lv_icmp_ne (tgt := 25) hx hb dJ1_indexOfChar_4cfef_19 (by decide) (fun hc => ?_) (fun hc => ?_)
        · have hw := hw.1 hc
          refine lv_iinc (v := x5_7 + 1) (lv' := [(5, .int (x5_7 + 1)), (0, .ref kv), (1, .int x1_7), (2, .int x2_7), (3, .int x3_7), (4, .int x4_7)]) hx hb dJ1_indexOfChar_4cfef_25 hl (k := 5) rfl (congrArg (fun z => x5_7 + z) (by decide)) (by decide) rfl (fun ls hl => ?_)
          refine lv_goto (tgt := 7) hx hb dJ1_indexOfChar_4cfef_28 (by decide) ?_
          exact ih7 (x5_7 + 1) u1 _ _ _ hI hS (lv_sub hl [1, 2, 3, 4, 5, 0] rfl) hw hK7
        · have hw := hw.2 hc
          refine lv_iload hx hb dJ1_indexOfChar_4cfef_22 (lv_at hl 5 rfl) ?_
          exact g_iret S hr hk hg hI hS dJ1_indexOfChar_4cfef_24 hw
  refine lv_iload_n hx hb dJ1_indexOfChar_4cfef_0 rfl (lv_at hl 1 rfl) ?_
  refine lv_i2b (v := a1.toInt8.toInt32) hx hb dJ1_indexOfChar_4cfef_1 rfl ?_
  refine lv_istore (lv' := [(4, .int a1.toInt8.toInt32), (0, .ref kv), (1, .int a1), (2, .int a2), (3, .int a3)]) hx hb dJ1_indexOfChar_4cfef_2 hl (by decide) rfl (fun ls hl => ?_)
  refine lv_iload_n hx hb dJ1_indexOfChar_4cfef_4 rfl (lv_at hl 3 rfl) ?_
  refine lv_istore (lv' := [(5, .int a2), (4, .int a1.toInt8.toInt32), (0, .ref kv), (1, .int a1), (2, .int a2), (3, .int a3)]) hx hb dJ1_indexOfChar_4cfef_5 hl (by decide) rfl (fun ls hl => ?_)
  obtain ⟨n, hw⟩ := hw
  refine L7 a1 a2 a3 a1.toInt8.toInt32 _ n a2 u _ _ _ hI hS (lv_sub hl [2, 3, 4, 5, 1, 0] rfl) hw (fun x5_2 u3 H locs ls hI hS hl hw => ?_)
  refine lv_iconst (v := (-1 : Int32)) hx hb dJ1_indexOfChar_4cfef_31 (by decide) ?_
  exact g_iret S hr hk hg hI hS dJ1_indexOfChar_4cfef_32 hw
set_option maxRecDepth 100000 in
set_option maxHeartbeats 4000000 in
theorem tJ1_indexOf_4cfef (l : Launch) (D : va_G) (ad : Nat → Nat) (cI : ClassId) (rk ks kv : Nat)  (a1 : Int32) (a2 : Int32) (a3 : Int32) (u : SS) (post : Int32 → SS → Prop) (hw : wJ1_indexOf_4cfef  a1 a2 a3 u post) : Met l yJ1_indexOf_4cfef (Cond.code yJ1_indexOf_4cfef cJ1_indexOf_4cfef 4 (some .int) :: XT) (Rm 2) (va_Pc [.ref kv, .int a1, .int a2, .int a3] (Pr (xI D ad cI) (xN ad rk ks kv) u)) (va_Qi post (Po (xI D ad cI)) (xA ad)) 0 0 (xA ad) := by
  refine g_of (A := (xA ad)) (by decide) (Nat.le_of_ble_eq_true rfl) (lv := [(0, .ref kv), (1, .int a1), (2, .int a2), (3, .int a3)]) rfl ?_
  intro p e s m below meth c ls S hr hk hI hN hS hl
  have hx := S.1
  have hb := S.2.1
  have ho := S.2.2.2.1
  have hg := @xG D ad cI rk ks kv
  refine lv_iload_n hx hb dJ1_indexOf_4cfef_0 rfl (lv_at hl 1 rfl) ?_
  refine g_ci hg hS (g_runS S hg hI hN hS (As := [.int a1]) (rest := []) (tJ1_canEncode_9a6ad l D ad cI rk ks kv  _ _ _ hw) cs_yJ1_canEncode_9a6ad qm_J1_88 ⟨Nat.le_of_ble_eq_true rfl, Nat.le_of_ble_eq_true rfl⟩ rfl hl.1 rfl (Nat.le_of_ble_eq_true rfl) dJ1_indexOf_4cfef_1) (fun r1 u2 H locs hI hS hw => ?_)
  refine lv_if_ne (tgt := 9) hx hb dJ1_indexOf_4cfef_4 (by decide) (fun hc => ?_) (fun hc => ?_)
  · have hw := hw.1 hc
    refine lv_iload_n hx hb dJ1_indexOf_4cfef_9 rfl (lv_at hl 2 rfl) ?_
    refine lv_iconst (v := (0 : Int32)) hx hb dJ1_indexOf_4cfef_10 (by decide) ?_
    refine va_mmax hx hb (S.2.2.1.trans hl.1.symm) ho (g_in S qm_J1_92) (g_in S qs_Lib_Math_max_name) (g_in S qz_java_lang_Math) (g_in S qc_Lib_Math_max_name) (Nat.le_of_ble_eq_true rfl) (Nat.le_of_ble_eq_true rfl) (Nat.zero_le _) (Nat.zero_le _) dJ1_indexOf_4cfef_11 ?_
    refine lv_istore_n (lv' := [(2, .int (if a2 < (0 : Int32) then (0 : Int32) else a2)), (0, .ref kv), (1, .int a1), (3, .int a3)]) hx hb dJ1_indexOf_4cfef_14 rfl hl (by decide) rfl (fun ls hl => ?_)
    refine lv_iload_n hx hb dJ1_indexOf_4cfef_15 rfl (lv_at hl 3 rfl) ?_
    refine lv_aload_n hx hb dJ1_indexOf_4cfef_16 rfl (lv_at hl 1 rfl) ?_
    refine va_tlen (v := (5 : Int32)) hx hb (xT hN) hS (by decide) dJ1_indexOf_4cfef_17 ?_
    refine va_mmin hx hb (S.2.2.1.trans hl.1.symm) ho (g_in S qm_J1_38) (g_in S qs_Lib_Math_min_name) (g_in S qz_java_lang_Math) (g_in S qc_Lib_Math_min_name) (Nat.le_of_ble_eq_true rfl) (Nat.le_of_ble_eq_true rfl) (Nat.zero_le _) (Nat.zero_le _) dJ1_indexOf_4cfef_18 ?_
    refine lv_istore_n (lv' := [(3, .int (if (5 : Int32) < a3 then (5 : Int32) else a3)), (2, .int (if a2 < (0 : Int32) then (0 : Int32) else a2)), (0, .ref kv), (1, .int a1)]) hx hb dJ1_indexOf_4cfef_21 rfl hl (by decide) rfl (fun ls hl => ?_)
    refine lv_iload_n hx hb dJ1_indexOf_4cfef_22 rfl (lv_at hl 1 rfl) ?_
    refine lv_iload_n hx hb dJ1_indexOf_4cfef_23 rfl (lv_at hl 0 rfl) ?_
    refine lv_icmp_lt (tgt := 29) hx hb dJ1_indexOf_4cfef_24 (by decide) (fun hc => ?_) (fun hc => ?_)
    · have hw := hw.1 hc
      refine lv_aload_n hx hb dJ1_indexOf_4cfef_29 rfl (lv_at hl 2 rfl) ?_
      refine lv_iload_n hx hb dJ1_indexOf_4cfef_30 rfl (lv_at hl 3 rfl) ?_
      refine lv_iload_n hx hb dJ1_indexOf_4cfef_31 rfl (lv_at hl 1 rfl) ?_
      refine lv_iload_n hx hb dJ1_indexOf_4cfef_32 rfl (lv_at hl 0 rfl) ?_
      refine g_ci hg hS (g_runS S hg hI hN hS (As := [.ref kv, .int a1, .int (if a2 < (0 : Int32) then (0 : Int32) else a2), .int (if (5 : Int32) < a3 then (5 : Int32) else a3)]) (rest := []) (tJ1_indexOfChar_4cfef l D ad cI rk ks kv  _ _ _ _ _ hw) cs_yJ1_indexOfChar_4cfef qm_J1_95 ⟨Nat.le_of_ble_eq_true rfl, Nat.le_of_ble_eq_true rfl⟩ rfl hl.1 rfl (Nat.le_of_ble_eq_true rfl) dJ1_indexOf_4cfef_33) (fun r3 u4 H locs hI hS hw => ?_)
      exact g_iret S hr hk hg hI hS dJ1_indexOf_4cfef_36 hw
    · have hw := hw.2 hc
      refine lv_iconst (v := (-1 : Int32)) hx hb dJ1_indexOf_4cfef_27 (by decide) ?_
      exact g_iret S hr hk hg hI hS dJ1_indexOf_4cfef_28 hw
  · have hw := hw.2 hc
    refine lv_iconst (v := (-1 : Int32)) hx hb dJ1_indexOf_4cfef_7 (by decide) ?_
    exact g_iret S hr hk hg hI hS dJ1_indexOf_4cfef_8 hw
set_option maxRecDepth 100000 in
set_option maxHeartbeats 4000000 in
theorem tJ0_indexOf_7cf53 (l : Launch) (D : va_G) (ad : Nat → Nat) (cI : ClassId) (rk ks kv : Nat)  (a1 : Int32) (a2 : Int32) (u : SS) (post : Int32 → SS → Prop) (hw : wJ0_indexOf_7cf53  a1 a2 u post) : Met l yJ0_indexOf_7cf53 (Cond.code yJ0_indexOf_7cf53 cJ0_indexOf_7cf53 3 (some .int) :: XT) (Rm 3) (va_Pc [.ref ks, .int a1, .int a2] (Pr (xI D ad cI) (xN ad rk ks kv) u)) (va_Qi post (Po (xI D ad cI)) (xA ad)) 0 0 (xA ad) := by
  refine g_of (A := (xA ad)) (by decide) (Nat.le_of_ble_eq_true rfl) (lv := [(0, .ref ks), (1, .int a1), (2, .int a2)]) rfl ?_
  intro p e s m below meth c ls S hr hk hI hN hS hl
  have hx := S.1
  have hb := S.2.1
  have ho := S.2.2.2.1
  have hg := @xG D ad cI rk ks kv
  refine lv_aload_n hx hb dJ0_indexOf_7cf53_0 rfl (lv_at hl 0 rfl) ?_
  refine g_ci hg hS (g_runV S hg hI hN hS (As := []) (rest := []) (tJ0_isLatin1_aae02 l D ad cI rk ks kv u (fun r z => (1 : Int32) = r ∧ u = z) (by exact And.intro (by decide) rfl)) cv_yJ0_isLatin1_aae02 qm_J0_492 (vk_recv hN.2.2.2.2.2.2.2 (i := 0) (by decide) hS) ⟨Nat.le_of_ble_eq_true rfl, Nat.le_of_ble_eq_true rfl⟩ rfl hl.1 rfl (Nat.le_of_ble_eq_true rfl) dJ0_indexOf_7cf53_1) (fun r1 u2 H locs hI hS he => ?_)
  obtain ⟨rfl, rfl⟩ := he
  refine lv_if_eq (tgt := 23) hx hb dJ0_indexOf_7cf53_4 (by decide) (fun hc => ?_) (fun hc => ?_)
  · exact absurd hc (by decide)
  refine lv_aload_n hx hb dJ0_indexOf_7cf53_7 rfl (lv_at hl 0 rfl) ?_
  refine vk_getf hx hb (hN.2.2.2.2.2.2.2.1 0 (by decide)).2.2.1 hS ho (g_in S qf_J0_9) (fun _ h9 => h9) dJ0_indexOf_7cf53_8 ?_
  refine lv_iload_n hx hb dJ0_indexOf_7cf53_11 rfl (lv_at hl 1 rfl) ?_
  refine lv_iload_n hx hb dJ0_indexOf_7cf53_12 rfl (lv_at hl 2 rfl) ?_
  refine lv_aload_n hx hb dJ0_indexOf_7cf53_13 rfl (lv_at hl 0 rfl) ?_
  refine g_ci hg hS (g_runV S hg hI hN hS (As := []) (rest := [.int a2, .int a1, .ref kv]) (tJ0_length_8abf5 l D ad cI rk ks kv u (fun r z => (5 : Int32) = r ∧ u = z) (by exact And.intro (by decide) rfl)) cv_yJ0_length_8abf5 qm_J0_505 (vk_recv hN.2.2.2.2.2.2.2 (i := 0) (by decide) hS) ⟨Nat.le_of_ble_eq_true rfl, Nat.le_of_ble_eq_true rfl⟩ rfl hl.1 rfl (Nat.le_of_ble_eq_true rfl) dJ0_indexOf_7cf53_14) (fun r3 u4 H locs hI hS he => ?_)
  obtain ⟨rfl, rfl⟩ := he
  refine g_ci hg hS (g_runS S hg hI hN hS (As := [.ref kv, .int a1, .int a2, .int (5 : Int32)]) (rest := []) (tJ1_indexOf_4cfef l D ad cI rk ks kv  _ _ _ _ _ hw) cs_yJ1_indexOf_4cfef qm_J0_637 ⟨Nat.le_of_ble_eq_true rfl, Nat.le_of_ble_eq_true rfl⟩ rfl hl.1 rfl (Nat.le_of_ble_eq_true rfl) dJ0_indexOf_7cf53_17) (fun r5 u6 H locs hI hS hw => ?_)
  refine lv_goto (tgt := 36) hx hb dJ0_indexOf_7cf53_20 (by decide) ?_
  exact g_iret S hr hk hg hI hS dJ0_indexOf_7cf53_36 hw
set_option maxRecDepth 100000 in
set_option maxHeartbeats 4000000 in
theorem tJ0_indexOf_0f7a4 (l : Launch) (D : va_G) (ad : Nat → Nat) (cI : ClassId) (rk ks kv : Nat)  (a1 : Int32) (u : SS) (post : Int32 → SS → Prop) (hw : wJ0_indexOf_0f7a4  a1 u post) : Met l yJ0_indexOf_0f7a4 (Cond.code yJ0_indexOf_0f7a4 cJ0_indexOf_0f7a4 2 (some .int) :: XT) (Rm 4) (va_Pc [.ref ks, .int a1] (Pr (xI D ad cI) (xN ad rk ks kv) u)) (va_Qi post (Po (xI D ad cI)) (xA ad)) 0 0 (xA ad) := by
  refine g_of (A := (xA ad)) (by decide) (Nat.le_of_ble_eq_true rfl) (lv := [(0, .ref ks), (1, .int a1)]) rfl ?_
  intro p e s m below meth c ls S hr hk hI hN hS hl
  have hx := S.1
  have hb := S.2.1
  have ho := S.2.2.2.1
  have hg := @xG D ad cI rk ks kv
  refine lv_aload_n hx hb dJ0_indexOf_0f7a4_0 rfl (lv_at hl 0 rfl) ?_
  refine lv_iload_n hx hb dJ0_indexOf_0f7a4_1 rfl (lv_at hl 1 rfl) ?_
  refine lv_iconst (v := (0 : Int32)) hx hb dJ0_indexOf_0f7a4_2 (by decide) ?_
  refine g_ci hg hS (g_runV S hg hI hN hS (As := [.int a1, .int (0 : Int32)]) (rest := []) (tJ0_indexOf_7cf53 l D ad cI rk ks kv  _ _ _ _ hw) cv_yJ0_indexOf_7cf53 qm_J0_633 (vk_recv hN.2.2.2.2.2.2.2 (i := 0) (by decide) hS) ⟨Nat.le_of_ble_eq_true rfl, Nat.le_of_ble_eq_true rfl⟩ rfl hl.1 rfl (Nat.le_of_ble_eq_true rfl) dJ0_indexOf_0f7a4_3) (fun r1 u2 H locs hI hS hw => ?_)
  exact g_iret S hr hk hg hI hS dJ0_indexOf_0f7a4_6 hw
set_option maxRecDepth 100000 in
set_option maxHeartbeats 4000000 in
theorem tX2_kindAt (l : Launch) (D : va_G) (ad : Nat → Nat) (cI : ClassId) (rk ks kv : Nat)  (a1 : Int32) (u : SS) (post : Int32 → SS → Prop) (hw : wX2_kindAt  a1 u post) : Met l yX2_kindAt (Cond.code yX2_kindAt cX2_kindAt 2 (some .int) :: XT) (Rm 5) (va_Pc [.ref (ad 1), .int a1] (Pr (xI D ad cI) (xN ad rk ks kv) u)) (va_Qi post (Po (xI D ad cI)) (xA ad)) 0 0 (xA ad) := by
  refine g_of (A := (xA ad)) (by decide) (Nat.le_of_ble_eq_true rfl) (lv := [(0, .ref (ad 1)), (1, .int a1)]) rfl ?_
  intro p e s m below meth c ls S hr hk hI hN hS hl
  have hx := S.1
  have hb := S.2.1
  have ho := S.2.2.2.1
  have hg := @xG D ad cI rk ks kv
  refine va_ldcS hx hb ho hN.2.2.1 dX2_kindAt_0 ?_
  refine lv_aload_n hx hb dX2_kindAt_2 rfl (lv_at hl 0 rfl) ?_
  refine lv_iload_n hx hb dX2_kindAt_3 rfl (lv_at hl 1 rfl) ?_
  refine g_ci hg hS (g_runV S hg hI hN hS (As := [.int a1]) (rest := [.ref ks]) (tX2_codeAt l D ad cI rk ks kv  _ _ _ hw) cv_yX2_codeAt qm_X2_27 (va_recv hI.2.1 hI.1 (ci := 2) (q0 := 1) rfl rfl) ⟨Nat.le_of_ble_eq_true rfl, Nat.le_of_ble_eq_true rfl⟩ rfl hl.1 rfl (Nat.le_of_ble_eq_true rfl) dX2_kindAt_4) (fun r1 u2 H locs hI hS hw => ?_)
  refine lv_i2c (v := (r1.toUInt32 % 65536).toInt32) hx hb dX2_kindAt_7 rfl ?_
  refine g_ci hg hS (g_runV S hg hI hN hS (As := [.int ((r1.toUInt32 % 65536).toInt32)]) (rest := []) (tJ0_indexOf_0f7a4 l D ad cI rk ks kv  _ _ _ hw) cv_yJ0_indexOf_0f7a4 qm_X2_33 (vk_recv hN.2.2.2.2.2.2.2 (i := 0) (by decide) hS) ⟨Nat.le_of_ble_eq_true rfl, Nat.le_of_ble_eq_true rfl⟩ rfl hl.1 rfl (Nat.le_of_ble_eq_true rfl) dX2_kindAt_8) (fun r3 u4 H locs hI hS hw => ?_)
  exact g_iret S hr hk hg hI hS dX2_kindAt_11 hw
set_option maxRecDepth 100000 in
set_option maxHeartbeats 4000000 in
theorem tX2_kindsTold (l : Launch) (D : va_G) (ad : Nat → Nat) (cI : ClassId) (rk ks kv : Nat)   (u : SS) (post : Int32 → SS → Prop) (hw : wX2_kindsTold   u post) : Met l yX2_kindsTold (Cond.code yX2_kindsTold cX2_kindsTold 2 (some .int) :: XT) (Rm 6) (va_Pc [.ref (ad 1)] (Pr (xI D ad cI) (xN ad rk ks kv) u)) (va_Qi post (Po (xI D ad cI)) (xA ad)) 0 0 (xA ad) := by
  refine g_of (A := (xA ad)) (by decide) (Nat.le_of_ble_eq_true rfl) (lv := [(0, .ref (ad 1))]) rfl ?_
  intro p e s m below meth c ls S hr hk hI hN hS hl
  have hx := S.1
  have hb := S.2.1
  have ho := S.2.2.2.1
  have hg := @xG D ad cI rk ks kv
  have L2 : ∀  (K2 : Int32 → SS → Prop) (n : Nat) (x1_2 : Int32) (u1 : SS) (H : Heap) (locs : List Loc) (ls : Array Slot), xI D ad cI u1 s H → va_S (xA ad) s.heap H locs → lv_has ls 2 [(0, .ref (ad 1)), (1, .int x1_2)] → wX2_kindsTold_2 post K2 n x1_2 u1 → (∀ (x1_2 : Int32) (u1 : SS) (H : Heap) (locs : List Loc) (ls : Array Slot), xI D ad cI u1 s H → va_S (xA ad) s.heap H locs → lv_has ls 2 [(0, .ref (ad 1)), (1, .int x1_2)] → K2 x1_2 u1 → W p l e (Rm 6) s m [.ref (ad 1)].toArray below meth c H locs 0 0 (MQ below (va_Qi post (Po (xI D ad cI)) (xA ad)) [.ref (ad 1)].toArray s 0 0 (xA ad)) (F0 m 25 ls [])) → W p l e (Rm 6) s m [.ref (ad 1)].toArray below meth c H locs 0 0 (MQ below (va_Qi post (Po (xI D ad cI)) (xA ad)) [.ref (ad 1)].toArray s 0 0 (xA ad)) (F0 m 2 ls []) := by
    intro K2 n
    induction n with
    | zero => intro x1_2 u1 H locs ls hI hS hl hw hK2; exact False.elim hw
    | succ n2 ih2 =>
      intro x1_2 u1 H locs ls hI hS hl hw hK2
      refine lv_iload_n hx hb dX2_kindsTold_2 rfl (lv_at hl 1 rfl) ?_
      refine lv_bipush (v := (10 : Int32)) hx hb dX2_kindsTold_3 (by decide) ?_
      refine lv_icmp_ge (tgt := 25) hx hb dX2_kindsTold_5 (by decide) (fun hc => ?_) (fun hc => ?_)
      · have hw := hw.1 hc
        exact hK2 x1_2 u1 _ _ _ hI hS (lv_sub hl [0, 1] rfl) hw
      · have hw := hw.2 hc
        refine lv_aload_n hx hb dX2_kindsTold_8 rfl (lv_at hl 0 rfl) ?_
        refine lv_iconst (v := (2 : Int32)) hx hb dX2_kindsTold_9 (by decide) ?_
        refine lv_iload_n hx hb dX2_kindsTold_10 rfl (lv_at hl 1 rfl) ?_
        refine lv_iadd hx hb dX2_kindsTold_11 ?_
        refine g_ci hg hS (g_runV S hg hI hN hS (As := [.int ((2 : Int32) + x1_2)]) (rest := []) (tX2_kindAt l D ad cI rk ks kv  _ _ _ hw) cv_yX2_kindAt qm_X2_38 (va_recv hI.2.1 hI.1 (ci := 2) (q0 := 1) rfl rfl) ⟨Nat.le_of_ble_eq_true rfl, Nat.le_of_ble_eq_true rfl⟩ rfl hl.1 rfl (Nat.le_of_ble_eq_true rfl) dX2_kindsTold_12) (fun r2 u3 H locs hI hS hw => ?_)
        refine lv_iconst (v := (-1 : Int32)) hx hb dX2_kindsTold_15 (by decide) ?_
        refine lv_icmp_eq (tgt := 25) hx hb dX2_kindsTold_16 (by decide) (fun hc => ?_) (fun hc => ?_)
        · have hw := hw.1 hc
          exact hK2 x1_2 u3 _ _ _ hI hS (lv_sub hl [0, 1] rfl) hw
        · have hw := hw.2 hc
          refine lv_iinc (v := x1_2 + 1) (lv' := [(1, .int (x1_2 + 1)), (0, .ref (ad 1))]) hx hb dX2_kindsTold_19 hl (k := 1) rfl (congrArg (fun z => x1_2 + z) (by decide)) (by decide) rfl (fun ls hl => ?_)
          refine lv_goto (tgt := 2) hx hb dX2_kindsTold_22 (by decide) ?_
          exact ih2 (x1_2 + 1) u3 _ _ _ hI hS (lv_sub hl [1, 0] rfl) hw hK2
  refine lv_iconst (v := (0 : Int32)) hx hb dX2_kindsTold_0 (by decide) ?_
  refine lv_istore_n (lv' := [(1, .int (0 : Int32)), (0, .ref (ad 1))]) hx hb dX2_kindsTold_1 rfl hl (by decide) rfl (fun ls hl => ?_)
  obtain ⟨n, hw⟩ := hw
  refine L2 _ n (0 : Int32) u _ _ _ hI hS (lv_sub hl [1, 0] rfl) hw (fun x1_4 u5 H locs ls hI hS hl hw => ?_)
  refine lv_iload_n hx hb dX2_kindsTold_25 rfl (lv_at hl 1 rfl) ?_
  exact g_iret S hr hk hg hI hS dX2_kindsTold_26 hw
set_option maxRecDepth 100000 in
set_option maxHeartbeats 4000000 in
theorem tX2_colours (l : Launch) (D : va_G) (ad : Nat → Nat) (cI : ClassId) (rk ks kv : Nat)   (u : SS) (post : Int32 → SS → Prop) (hw : wX2_colours   u post) : Met l yX2_colours (Cond.code yX2_colours cX2_colours 1 (some .int) :: XT) (Rm 3) (va_Pc [.ref (ad 1)] (Pr (xI D ad cI) (xN ad rk ks kv) u)) (va_Qi post (Po (xI D ad cI)) (xA ad)) 0 0 (xA ad) := by
  refine g_of (A := (xA ad)) (by decide) (Nat.le_of_ble_eq_true rfl) (lv := [(0, .ref (ad 1))]) rfl ?_
  intro p e s m below meth c ls S hr hk hI hN hS hl
  have hx := S.1
  have hb := S.2.1
  have ho := S.2.2.2.1
  have hg := @xG D ad cI rk ks kv
  refine lv_aload_n hx hb dX2_colours_0 rfl (lv_at hl 0 rfl) ?_
  refine lv_iconst (v := (0 : Int32)) hx hb dX2_colours_1 (by decide) ?_
  refine g_ci hg hS (g_runV S hg hI hN hS (As := [.int (0 : Int32)]) (rest := []) (tX2_codeAt l D ad cI rk ks kv  _ _ _ hw) cv_yX2_codeAt qm_X2_27 (va_recv hI.2.1 hI.1 (ci := 2) (q0 := 1) rfl rfl) ⟨Nat.le_of_ble_eq_true rfl, Nat.le_of_ble_eq_true rfl⟩ rfl hl.1 rfl (Nat.le_of_ble_eq_true rfl) dX2_colours_2) (fun r1 u2 H locs hI hS hw => ?_)
  refine lv_bipush (v := (48 : Int32)) hx hb dX2_colours_5 (by decide) ?_
  refine lv_isub hx hb dX2_colours_7 ?_
  exact g_iret S hr hk hg hI hS dX2_colours_8 hw
set_option maxRecDepth 100000 in
set_option maxHeartbeats 4000000 in
theorem tX2_isSign (l : Launch) (D : va_G) (ad : Nat → Nat) (cI : ClassId) (rk ks kv : Nat)  (a1 : Int32) (u : SS) (post : Int32 → SS → Prop) (hw : wX2_isSign  a1 u post) : Met l yX2_isSign (Cond.code yX2_isSign cX2_isSign 2 (some .boolean) :: XT) (Rm 4) (va_Pc [.ref (ad 1), .int a1] (Pr (xI D ad cI) (xN ad rk ks kv) u)) (va_Qi post (Po (xI D ad cI)) (xA ad)) 0 0 (xA ad) := by
  refine g_of (A := (xA ad)) (by decide) (Nat.le_of_ble_eq_true rfl) (lv := [(0, .ref (ad 1)), (1, .int a1)]) rfl ?_
  intro p e s m below meth c ls S hr hk hI hN hS hl
  have hx := S.1
  have hb := S.2.1
  have ho := S.2.2.2.1
  have hg := @xG D ad cI rk ks kv
  refine lv_iload_n hx hb dX2_isSign_0 rfl (lv_at hl 1 rfl) ?_
  refine lv_bipush (v := (46 : Int32)) hx hb dX2_isSign_1 (by decide) ?_
  refine lv_icmp_eq (tgt := 23) hx hb dX2_isSign_3 (by decide) (fun hc => ?_) (fun hc => ?_)
  · have hw := hw.1 hc
    refine lv_iconst (v := (1 : Int32)) hx hb dX2_isSign_23 (by decide) ?_
    refine lv_goto (tgt := 28) hx hb dX2_isSign_24 (by decide) ?_
    exact g_zret S hr rfl hk hg hI hS dX2_isSign_28 hw
  · have hw := hw.2 hc
    refine lv_iload_n hx hb dX2_isSign_6 rfl (lv_at hl 1 rfl) ?_
    refine lv_bipush (v := (97 : Int32)) hx hb dX2_isSign_7 (by decide) ?_
    refine lv_icmp_lt (tgt := 27) hx hb dX2_isSign_9 (by decide) (fun hc => ?_) (fun hc => ?_)
    · have hw := hw.1 hc
      refine lv_iconst (v := (0 : Int32)) hx hb dX2_isSign_27 (by decide) ?_
      exact g_zret S hr rfl hk hg hI hS dX2_isSign_28 hw
    · have hw := hw.2 hc
      refine lv_iload_n hx hb dX2_isSign_12 rfl (lv_at hl 1 rfl) ?_
      refine lv_bipush (v := (97 : Int32)) hx hb dX2_isSign_13 (by decide) ?_
      refine lv_aload_n hx hb dX2_isSign_15 rfl (lv_at hl 0 rfl) ?_
      refine g_ci hg hS (g_runV S hg hI hN hS (As := []) (rest := [.int (97 : Int32), .int a1]) (tX2_colours l D ad cI rk ks kv   _ _ hw) cv_yX2_colours qm_X2_53 (va_recv hI.2.1 hI.1 (ci := 2) (q0 := 1) rfl rfl) ⟨Nat.le_of_ble_eq_true rfl, Nat.le_of_ble_eq_true rfl⟩ rfl hl.1 rfl (Nat.le_of_ble_eq_true rfl) dX2_isSign_16) (fun r1 u2 H locs hI hS hw => ?_)
      refine lv_iadd hx hb dX2_isSign_19 ?_
      refine lv_icmp_ge (tgt := 27) hx hb dX2_isSign_20 (by decide) (fun hc => ?_) (fun hc => ?_)
      · have hw := hw.1 hc
        refine lv_iconst (v := (0 : Int32)) hx hb dX2_isSign_27 (by decide) ?_
        exact g_zret S hr rfl hk hg hI hS dX2_isSign_28 hw
      · have hw := hw.2 hc
        refine lv_iconst (v := (1 : Int32)) hx hb dX2_isSign_23 (by decide) ?_
        refine lv_goto (tgt := 28) hx hb dX2_isSign_24 (by decide) ?_
        exact g_zret S hr rfl hk hg hI hS dX2_isSign_28 hw
set_option maxRecDepth 100000 in
set_option maxHeartbeats 4000000 in
theorem tX2_fits (l : Launch) (D : va_G) (ad : Nat → Nat) (cI : ClassId) (rk ks kv : Nat)  (a1 : Int32) (a2 : Int32) (u : SS) (post : Int32 → SS → Prop) (hw : wX2_fits  a1 a2 u post) : Met l yX2_fits (Cond.code yX2_fits cX2_fits 5 (some .boolean) :: XT) (Rm 5) (va_Pc [.ref (ad 1), .int a1, .int a2] (Pr (xI D ad cI) (xN ad rk ks kv) u)) (va_Qi post (Po (xI D ad cI)) (xA ad)) 0 0 (xA ad) := by
  refine g_of (A := (xA ad)) (by decide) (Nat.le_of_ble_eq_true rfl) (lv := [(0, .ref (ad 1)), (1, .int a1), (2, .int a2)]) rfl ?_
  intro p e s m below meth c ls S hr hk hI hN hS hl
  have hx := S.1
  have hb := S.2.1
  have ho := S.2.2.2.1
  have hg := @xG D ad cI rk ks kv
  refine lv_aload_n hx hb dX2_fits_0 rfl (lv_at hl 0 rfl) ?_
  refine lv_iload_n hx hb dX2_fits_1 rfl (lv_at hl 1 rfl) ?_
  refine g_ci hg hS (g_runV S hg hI hN hS (As := [.int a1]) (rest := []) (tX2_codeAt l D ad cI rk ks kv  _ _ _ hw) cv_yX2_codeAt qm_X2_27 (va_recv hI.2.1 hI.1 (ci := 2) (q0 := 1) rfl rfl) ⟨Nat.le_of_ble_eq_true rfl, Nat.le_of_ble_eq_true rfl⟩ rfl hl.1 rfl (Nat.le_of_ble_eq_true rfl) dX2_fits_2) (fun r1 u2 H locs hI hS hw => ?_)
  refine lv_istore_n (lv' := [(3, .int r1), (0, .ref (ad 1)), (1, .int a1), (2, .int a2)]) hx hb dX2_fits_5 rfl hl (by decide) rfl (fun ls hl => ?_)
  refine lv_iload_n hx hb dX2_fits_6 rfl (lv_at hl 2 rfl) ?_
  refine lv_if_ne (tgt := 28) hx hb dX2_fits_7 (by decide) (fun hc => ?_) (fun hc => ?_)
  · have hw := hw.1 hc
    refine lv_iload_n hx hb dX2_fits_28 rfl (lv_at hl 2 rfl) ?_
    refine lv_iconst (v := (2 : Int32)) hx hb dX2_fits_29 (by decide) ?_
    refine lv_icmp_ge (tgt := 45) hx hb dX2_fits_30 (by decide) (fun hc => ?_) (fun hc => ?_)
    · have hw := hw.1 hc
      refine lv_iload_n hx hb dX2_fits_45 rfl (lv_at hl 2 rfl) ?_
      refine lv_iload_n hx hb dX2_fits_46 rfl (lv_at hl 3 rfl) ?_
      refine lv_icmp_ge (tgt := 52) hx hb dX2_fits_47 (by decide) (fun hc => ?_) (fun hc => ?_)
      · have hw := hw.1 hc
        refine lv_iload_n hx hb dX2_fits_52 rfl (lv_at hl 3 rfl) ?_
        refine lv_iconst (v := (2 : Int32)) hx hb dX2_fits_53 (by decide) ?_
        refine lv_isub hx hb dX2_fits_54 ?_
        refine lv_istore (lv' := [(4, .int (a2 - (2 : Int32))), (3, .int r1), (0, .ref (ad 1)), (1, .int a1), (2, .int a2)]) hx hb dX2_fits_55 hl (by decide) rfl (fun ls hl => ?_)
        refine lv_iload_n hx hb dX2_fits_57 rfl (lv_at hl 3 rfl) ?_
        refine lv_iload_n hx hb dX2_fits_58 rfl (lv_at hl 4 rfl) ?_
        refine lv_icmp_ne (tgt := 80) hx hb dX2_fits_59 (by decide) (fun hc => ?_) (fun hc => ?_)
        · have hw := hw.1 hc
          refine lv_iload_n hx hb dX2_fits_80 rfl (lv_at hl 3 rfl) ?_
          refine lv_iload_n hx hb dX2_fits_81 rfl (lv_at hl 4 rfl) ?_
          refine lv_iload hx hb dX2_fits_82 (lv_at hl 0 rfl) ?_
          refine lv_iadd hx hb dX2_fits_84 ?_
          refine lv_icmp_gt (tgt := 100) hx hb dX2_fits_85 (by decide) (fun hc => ?_) (fun hc => ?_)
          · have hw := hw.1 hc
            refine lv_iconst (v := (0 : Int32)) hx hb dX2_fits_100 (by decide) ?_
            exact g_zret S hr rfl hk hg hI hS dX2_fits_101 hw
          · have hw := hw.2 hc
            refine lv_aload_n hx hb dX2_fits_88 rfl (lv_at hl 2 rfl) ?_
            refine lv_iload_n hx hb dX2_fits_89 rfl (lv_at hl 1 rfl) ?_
            refine g_ci hg hS (g_runV S hg hI hN hS (As := [.int r1]) (rest := []) (tX2_isSign l D ad cI rk ks kv  _ _ _ hw) cv_yX2_isSign qm_X2_49 (va_recv hI.2.1 hI.1 (ci := 2) (q0 := 1) rfl rfl) ⟨Nat.le_of_ble_eq_true rfl, Nat.le_of_ble_eq_true rfl⟩ rfl hl.1 rfl (Nat.le_of_ble_eq_true rfl) dX2_fits_90) (fun r3 u4 H locs hI hS hw => ?_)
            refine lv_if_eq (tgt := 100) hx hb dX2_fits_93 (by decide) (fun hc => ?_) (fun hc => ?_)
            · have hw := hw.1 hc
              refine lv_iconst (v := (0 : Int32)) hx hb dX2_fits_100 (by decide) ?_
              exact g_zret S hr rfl hk hg hI hS dX2_fits_101 hw
            · have hw := hw.2 hc
              refine lv_iconst (v := (1 : Int32)) hx hb dX2_fits_96 (by decide) ?_
              refine lv_goto (tgt := 101) hx hb dX2_fits_97 (by decide) ?_
              exact g_zret S hr rfl hk hg hI hS dX2_fits_101 hw
        · have hw := hw.2 hc
          refine lv_iload_n hx hb dX2_fits_62 rfl (lv_at hl 1 rfl) ?_
          refine lv_bipush (v := (59 : Int32)) hx hb dX2_fits_63 (by decide) ?_
          refine lv_icmp_ne (tgt := 78) hx hb dX2_fits_65 (by decide) (fun hc => ?_) (fun hc => ?_)
          · have hw := hw.1 hc
            refine lv_iconst (v := (0 : Int32)) hx hb dX2_fits_78 (by decide) ?_
            exact g_zret S hr rfl hk hg hI hS dX2_fits_79 hw
          · have hw := hw.2 hc
            refine lv_iload hx hb dX2_fits_68 (lv_at hl 0 rfl) ?_
            refine lv_iconst (v := (4 : Int32)) hx hb dX2_fits_70 (by decide) ?_
            refine lv_icmp_lt (tgt := 78) hx hb dX2_fits_71 (by decide) (fun hc => ?_) (fun hc => ?_)
            · have hw := hw.1 hc
              refine lv_iconst (v := (0 : Int32)) hx hb dX2_fits_78 (by decide) ?_
              exact g_zret S hr rfl hk hg hI hS dX2_fits_79 hw
            · have hw := hw.2 hc
              refine lv_iconst (v := (1 : Int32)) hx hb dX2_fits_74 (by decide) ?_
              refine lv_goto (tgt := 79) hx hb dX2_fits_75 (by decide) ?_
              exact g_zret S hr rfl hk hg hI hS dX2_fits_79 hw
      · have hw := hw.2 hc
        refine lv_iconst (v := (1 : Int32)) hx hb dX2_fits_50 (by decide) ?_
        exact g_zret S hr rfl hk hg hI hS dX2_fits_51 hw
    · have hw := hw.2 hc
      refine lv_iload_n hx hb dX2_fits_33 rfl (lv_at hl 0 rfl) ?_
      refine lv_bipush (v := (59 : Int32)) hx hb dX2_fits_34 (by decide) ?_
      refine lv_icmp_ne (tgt := 43) hx hb dX2_fits_36 (by decide) (fun hc => ?_) (fun hc => ?_)
      · have hw := hw.1 hc
        refine lv_iconst (v := (0 : Int32)) hx hb dX2_fits_43 (by decide) ?_
        exact g_zret S hr rfl hk hg hI hS dX2_fits_44 hw
      · have hw := hw.2 hc
        refine lv_iconst (v := (1 : Int32)) hx hb dX2_fits_39 (by decide) ?_
        refine lv_goto (tgt := 44) hx hb dX2_fits_40 (by decide) ?_
        exact g_zret S hr rfl hk hg hI hS dX2_fits_44 hw
  · have hw := hw.2 hc
    refine lv_iload_n hx hb dX2_fits_10 rfl (lv_at hl 0 rfl) ?_
    refine lv_bipush (v := (50 : Int32)) hx hb dX2_fits_11 (by decide) ?_
    refine lv_icmp_eq (tgt := 22) hx hb dX2_fits_13 (by decide) (fun hc => ?_) (fun hc => ?_)
    · have hw := hw.1 hc
      refine lv_iconst (v := (1 : Int32)) hx hb dX2_fits_22 (by decide) ?_
      refine lv_goto (tgt := 27) hx hb dX2_fits_23 (by decide) ?_
      exact g_zret S hr rfl hk hg hI hS dX2_fits_27 hw
    · have hw := hw.2 hc
      refine lv_iload_n hx hb dX2_fits_16 rfl (lv_at hl 0 rfl) ?_
      refine lv_bipush (v := (51 : Int32)) hx hb dX2_fits_17 (by decide) ?_
      refine lv_icmp_ne (tgt := 26) hx hb dX2_fits_19 (by decide) (fun hc => ?_) (fun hc => ?_)
      · have hw := hw.1 hc
        refine lv_iconst (v := (0 : Int32)) hx hb dX2_fits_26 (by decide) ?_
        exact g_zret S hr rfl hk hg hI hS dX2_fits_27 hw
      · have hw := hw.2 hc
        refine lv_iconst (v := (1 : Int32)) hx hb dX2_fits_22 (by decide) ?_
        refine lv_goto (tgt := 27) hx hb dX2_fits_23 (by decide) ?_
        exact g_zret S hr rfl hk hg hI hS dX2_fits_27 hw
set_option maxRecDepth 100000 in
set_option maxHeartbeats 4000000 in
theorem tX2_firstFault (l : Launch) (D : va_G) (ad : Nat → Nat) (cI : ClassId) (rk ks kv : Nat)   (u : SS) (post : Int32 → SS → Prop) (hw : wX2_firstFault   u post) : Met l yX2_firstFault (Cond.code yX2_firstFault cX2_firstFault 3 (some .int) :: XT) (Rm 7) (va_Pc [.ref (ad 1)] (Pr (xI D ad cI) (xN ad rk ks kv) u)) (va_Qi post (Po (xI D ad cI)) (xA ad)) 0 0 (xA ad) := by
  refine g_of (A := (xA ad)) (by decide) (Nat.le_of_ble_eq_true rfl) (lv := [(0, .ref (ad 1))]) rfl ?_
  intro p e s m below meth c ls S hr hk hI hN hS hl
  have hx := S.1
  have hb := S.2.1
  have ho := S.2.2.2.1
  have hg := @xG D ad cI rk ks kv
  have L9 : ∀ (x1_9 : Int32) (K9 : Int32 → SS → Prop) (n : Nat) (x2_9 : Int32) (u3 : SS) (H : Heap) (locs : List Loc) (ls : Array Slot), xI D ad cI u3 s H → va_S (xA ad) s.heap H locs → lv_has ls 3 [(0, .ref (ad 1)), (1, .int x1_9), (2, .int x2_9)] → wX2_firstFault_9 post x1_9 K9 n x2_9 u3 → (∀ (x2_9 : Int32) (u3 : SS) (H : Heap) (locs : List Loc) (ls : Array Slot), xI D ad cI u3 s H → va_S (xA ad) s.heap H locs → lv_has ls 3 [(0, .ref (ad 1)), (1, .int x1_9), (2, .int x2_9)] → K9 x2_9 u3 → W p l e (Rm 7) s m [.ref (ad 1)].toArray below meth c H locs 0 0 (MQ below (va_Qi post (Po (xI D ad cI)) (xA ad)) [.ref (ad 1)].toArray s 0 0 (xA ad)) (F0 m 32 ls [])) → W p l e (Rm 7) s m [.ref (ad 1)].toArray below meth c H locs 0 0 (MQ below (va_Qi post (Po (xI D ad cI)) (xA ad)) [.ref (ad 1)].toArray s 0 0 (xA ad)) (F0 m 9 ls []) := by
    intro x1_9 K9 n
    induction n with
    | zero => intro x2_9 u3 H locs ls hI hS hl hw hK9; exact False.elim hw
    | succ n9 ih9 =>
      intro x2_9 u3 H locs ls hI hS hl hw hK9
      refine lv_iload_n hx hb dX2_firstFault_9 rfl (lv_at hl 2 rfl) ?_
      refine lv_aload_n hx hb dX2_firstFault_10 rfl (lv_at hl 0 rfl) ?_
      refine xg_X2_1_15 S hI dX2_firstFault_11 ?_
      refine lv_icmp_ge (tgt := 32) hx hb dX2_firstFault_14 (by decide) (fun hc => ?_) (fun hc => ?_)
      · have hw := hw.1 hc
        exact hK9 x2_9 u3 _ _ _ hI hS (lv_sub hl [0, 1, 2] rfl) hw
      · have hw := hw.2 hc
        refine lv_aload_n hx hb dX2_firstFault_17 rfl (lv_at hl 0 rfl) ?_
        refine lv_iload_n hx hb dX2_firstFault_18 rfl (lv_at hl 2 rfl) ?_
        refine lv_iload_n hx hb dX2_firstFault_19 rfl (lv_at hl 1 rfl) ?_
        refine g_ci hg hS (g_runV S hg hI hN hS (As := [.int x2_9, .int x1_9]) (rest := []) (tX2_fits l D ad cI rk ks kv  _ _ _ _ hw) cv_yX2_fits qm_X2_45 (va_recv hI.2.1 hI.1 (ci := 2) (q0 := 1) rfl rfl) ⟨Nat.le_of_ble_eq_true rfl, Nat.le_of_ble_eq_true rfl⟩ rfl hl.1 rfl (Nat.le_of_ble_eq_true rfl) dX2_firstFault_20) (fun r4 u5 H locs hI hS hw => ?_)
        refine lv_if_eq (tgt := 32) hx hb dX2_firstFault_23 (by decide) (fun hc => ?_) (fun hc => ?_)
        · have hw := hw.1 hc
          exact hK9 x2_9 u5 _ _ _ hI hS (lv_sub hl [0, 1, 2] rfl) hw
        · have hw := hw.2 hc
          refine lv_iinc (v := x2_9 + 1) (lv' := [(2, .int (x2_9 + 1)), (0, .ref (ad 1)), (1, .int x1_9)]) hx hb dX2_firstFault_26 hl (k := 2) rfl (congrArg (fun z => x2_9 + z) (by decide)) (by decide) rfl (fun ls hl => ?_)
          refine lv_goto (tgt := 9) hx hb dX2_firstFault_29 (by decide) ?_
          exact ih9 (x2_9 + 1) u5 _ _ _ hI hS (lv_sub hl [1, 2, 0] rfl) hw hK9
  refine lv_iconst (v := (2 : Int32)) hx hb dX2_firstFault_0 (by decide) ?_
  refine lv_aload_n hx hb dX2_firstFault_1 rfl (lv_at hl 0 rfl) ?_
  refine g_ci hg hS (g_runV S hg hI hN hS (As := []) (rest := [.int (2 : Int32)]) (tX2_kindsTold l D ad cI rk ks kv   _ _ hw) cv_yX2_kindsTold qm_X2_41 (va_recv hI.2.1 hI.1 (ci := 2) (q0 := 1) rfl rfl) ⟨Nat.le_of_ble_eq_true rfl, Nat.le_of_ble_eq_true rfl⟩ rfl hl.1 rfl (Nat.le_of_ble_eq_true rfl) dX2_firstFault_2) (fun r1 u2 H locs hI hS hw => ?_)
  refine lv_iadd hx hb dX2_firstFault_5 ?_
  refine lv_istore_n (lv' := [(1, .int ((2 : Int32) + r1)), (0, .ref (ad 1))]) hx hb dX2_firstFault_6 rfl hl (by decide) rfl (fun ls hl => ?_)
  refine lv_iconst (v := (0 : Int32)) hx hb dX2_firstFault_7 (by decide) ?_
  refine lv_istore_n (lv' := [(2, .int (0 : Int32)), (1, .int ((2 : Int32) + r1)), (0, .ref (ad 1))]) hx hb dX2_firstFault_8 rfl hl (by decide) rfl (fun ls hl => ?_)
  obtain ⟨n, hw⟩ := hw
  refine L9 ((2 : Int32) + r1) _ n (0 : Int32) u2 _ _ _ hI hS (lv_sub hl [2, 1, 0] rfl) hw (fun x2_6 u7 H locs ls hI hS hl hw => ?_)
  refine lv_iload_n hx hb dX2_firstFault_32 rfl (lv_at hl 2 rfl) ?_
  exact g_iret S hr hk hg hI hS dX2_firstFault_33 hw
set_option maxRecDepth 100000 in
set_option maxHeartbeats 4000000 in
theorem tX4_fault (l : Launch) (D : va_G) (ad : Nat → Nat) (cI : ClassId) (rk ks kv : Nat)   (u : SS) (post : Int32 → SS → Prop) (hw : wX4_fault   u post) : Met l yX4_fault (Cond.code yX4_fault cX4_fault 1 (some .int) :: XT) (Rm 8) (va_Pc [.ref (ad 0)] (Pr (xI D ad cI) (xN ad rk ks kv) u)) (va_Qi post (Po (xI D ad cI)) (xA ad)) 0 0 (xA ad) := by
  refine g_of (A := (xA ad)) (by decide) (Nat.le_of_ble_eq_true rfl) (lv := [(0, .ref (ad 0))]) rfl ?_
  intro p e s m below meth c ls S hr hk hI hN hS hl
  have hx := S.1
  have hb := S.2.1
  have ho := S.2.2.2.1
  have hg := @xG D ad cI rk ks kv
  refine lv_aload_n hx hb dX4_fault_0 rfl (lv_at hl 0 rfl) ?_
  refine xg_X4_0_10 S hI dX4_fault_1 ?_
  refine g_ci hg hS (g_runVN S hg hI hN hS (As := []) (rest := []) (tX2_firstFault l D ad cI rk ks kv   _ _ hw) cv_yX2_firstFault (nm_X4_60 hN) (va_recv hI.2.1 hI.1 (ci := 2) (q0 := 1) rfl rfl) ⟨Nat.le_of_ble_eq_true rfl, Nat.le_of_ble_eq_true rfl⟩ rfl hl.1 rfl (Nat.le_of_ble_eq_true rfl) dX4_fault_4) (fun r1 u2 H locs hI hS hw => ?_)
  exact g_iret S hr hk hg hI hS dX4_fault_7 hw
set_option maxRecDepth 100000 in
set_option maxHeartbeats 4000000 in
theorem tX2_isBoard (l : Launch) (D : va_G) (ad : Nat → Nat) (cI : ClassId) (rk ks kv : Nat)   (u : SS) (post : Int32 → SS → Prop) (hw : wX2_isBoard   u post) : Met l yX2_isBoard (Cond.code yX2_isBoard cX2_isBoard 1 (some .boolean) :: XT) (Rm 8) (va_Pc [.ref (ad 1)] (Pr (xI D ad cI) (xN ad rk ks kv) u)) (va_Qi post (Po (xI D ad cI)) (xA ad)) 0 0 (xA ad) := by
  refine g_of (A := (xA ad)) (by decide) (Nat.le_of_ble_eq_true rfl) (lv := [(0, .ref (ad 1))]) rfl ?_
  intro p e s m below meth c ls S hr hk hI hN hS hl
  have hx := S.1
  have hb := S.2.1
  have ho := S.2.2.2.1
  have hg := @xG D ad cI rk ks kv
  refine lv_aload_n hx hb dX2_isBoard_0 rfl (lv_at hl 0 rfl) ?_
  refine xg_X2_1_15 S hI dX2_isBoard_1 ?_
  refine lv_iconst (v := (2 : Int32)) hx hb dX2_isBoard_4 (by decide) ?_
  refine lv_iconst (v := (2 : Int32)) hx hb dX2_isBoard_5 (by decide) ?_
  refine lv_aload_n hx hb dX2_isBoard_6 rfl (lv_at hl 0 rfl) ?_
  refine g_ci hg hS (g_runV S hg hI hN hS (As := []) (rest := [.int (2 : Int32), .int (2 : Int32), .int (u.1 2)]) (tX2_kindsTold l D ad cI rk ks kv   _ _ hw) cv_yX2_kindsTold qm_X2_41 (va_recv hI.2.1 hI.1 (ci := 2) (q0 := 1) rfl rfl) ⟨Nat.le_of_ble_eq_true rfl, Nat.le_of_ble_eq_true rfl⟩ rfl hl.1 rfl (Nat.le_of_ble_eq_true rfl) dX2_isBoard_7) (fun r1 u2 H locs hI hS hw => ?_)
  refine lv_imul hx hb dX2_isBoard_10 ?_
  refine lv_iadd hx hb dX2_isBoard_11 ?_
  refine lv_iconst (v := (1 : Int32)) hx hb dX2_isBoard_12 (by decide) ?_
  refine lv_iadd hx hb dX2_isBoard_13 ?_
  refine lv_icmp_ne (tgt := 32) hx hb dX2_isBoard_14 (by decide) (fun hc => ?_) (fun hc => ?_)
  · have hw := hw.1 hc
    refine lv_iconst (v := (0 : Int32)) hx hb dX2_isBoard_32 (by decide) ?_
    exact g_zret S hr rfl hk hg hI hS dX2_isBoard_33 hw
  · have hw := hw.2 hc
    refine lv_aload_n hx hb dX2_isBoard_17 rfl (lv_at hl 0 rfl) ?_
    refine g_ci hg hS (g_runV S hg hI hN hS (As := []) (rest := []) (tX2_firstFault l D ad cI rk ks kv   _ _ hw) cv_yX2_firstFault qm_X2_56 (va_recv hI.2.1 hI.1 (ci := 2) (q0 := 1) rfl rfl) ⟨Nat.le_of_ble_eq_true rfl, Nat.le_of_ble_eq_true rfl⟩ rfl hl.1 rfl (Nat.le_of_ble_eq_true rfl) dX2_isBoard_18) (fun r3 u4 H locs hI hS hw => ?_)
    refine lv_aload_n hx hb dX2_isBoard_21 rfl (lv_at hl 0 rfl) ?_
    refine xg_X2_1_15 S hI dX2_isBoard_22 ?_
    refine lv_icmp_ne (tgt := 32) hx hb dX2_isBoard_25 (by decide) (fun hc => ?_) (fun hc => ?_)
    · have hw := hw.1 hc
      refine lv_iconst (v := (0 : Int32)) hx hb dX2_isBoard_32 (by decide) ?_
      exact g_zret S hr rfl hk hg hI hS dX2_isBoard_33 hw
    · have hw := hw.2 hc
      refine lv_iconst (v := (1 : Int32)) hx hb dX2_isBoard_28 (by decide) ?_
      refine lv_goto (tgt := 33) hx hb dX2_isBoard_29 (by decide) ?_
      exact g_zret S hr rfl hk hg hI hS dX2_isBoard_33 hw
set_option maxRecDepth 100000 in
set_option maxHeartbeats 4000000 in
theorem tX2_colourAt (l : Launch) (D : va_G) (ad : Nat → Nat) (cI : ClassId) (rk ks kv : Nat)  (a1 : Int32) (u : SS) (post : Int32 → SS → Prop) (hw : wX2_colourAt  a1 u post) : Met l yX2_colourAt (Cond.code yX2_colourAt cX2_colourAt 3 (some .int) :: XT) (Rm 3) (va_Pc [.ref (ad 1), .int a1] (Pr (xI D ad cI) (xN ad rk ks kv) u)) (va_Qi post (Po (xI D ad cI)) (xA ad)) 0 0 (xA ad) := by
  refine g_of (A := (xA ad)) (by decide) (Nat.le_of_ble_eq_true rfl) (lv := [(0, .ref (ad 1)), (1, .int a1)]) rfl ?_
  intro p e s m below meth c ls S hr hk hI hN hS hl
  have hx := S.1
  have hb := S.2.1
  have ho := S.2.2.2.1
  have hg := @xG D ad cI rk ks kv
  refine lv_aload_n hx hb dX2_colourAt_0 rfl (lv_at hl 0 rfl) ?_
  refine lv_iload_n hx hb dX2_colourAt_1 rfl (lv_at hl 1 rfl) ?_
  refine g_ci hg hS (g_runV S hg hI hN hS (As := [.int a1]) (rest := []) (tX2_codeAt l D ad cI rk ks kv  _ _ _ hw) cv_yX2_codeAt qm_X2_27 (va_recv hI.2.1 hI.1 (ci := 2) (q0 := 1) rfl rfl) ⟨Nat.le_of_ble_eq_true rfl, Nat.le_of_ble_eq_true rfl⟩ rfl hl.1 rfl (Nat.le_of_ble_eq_true rfl) dX2_colourAt_2) (fun r1 u2 H locs hI hS hw => ?_)
  refine lv_istore_n (lv' := [(2, .int r1), (0, .ref (ad 1)), (1, .int a1)]) hx hb dX2_colourAt_5 rfl hl (by decide) rfl (fun ls hl => ?_)
  refine lv_iload_n hx hb dX2_colourAt_6 rfl (lv_at hl 0 rfl) ?_
  refine lv_bipush (v := (46 : Int32)) hx hb dX2_colourAt_7 (by decide) ?_
  refine lv_icmp_ne (tgt := 16) hx hb dX2_colourAt_9 (by decide) (fun hc => ?_) (fun hc => ?_)
  · have hw := hw.1 hc
    refine lv_iload_n hx hb dX2_colourAt_16 rfl (lv_at hl 0 rfl) ?_
    refine lv_bipush (v := (97 : Int32)) hx hb dX2_colourAt_17 (by decide) ?_
    refine lv_isub hx hb dX2_colourAt_19 ?_
    exact g_iret S hr hk hg hI hS dX2_colourAt_20 hw
  · have hw := hw.2 hc
    refine lv_iconst (v := (-1 : Int32)) hx hb dX2_colourAt_12 (by decide) ?_
    refine lv_goto (tgt := 20) hx hb dX2_colourAt_13 (by decide) ?_
    exact g_iret S hr hk hg hI hS dX2_colourAt_20 hw
set_option maxRecDepth 100000 in
set_option maxHeartbeats 4000000 in
theorem tX0_readFrom (l : Launch) (D : va_G) (ad : Nat → Nat) (cI : ClassId) (rk ks kv : Nat)   (u : SS) (post : SS → Prop) (hw : wX0_readFrom   u post) : Met l yX0_readFrom (Cond.code yX0_readFrom cX0_readFrom 4 none :: XT) (Rm 7) (va_Pc [.ref (ad 2), .ref (ad 1)] (Pr (xI D ad cI) (xN ad rk ks kv) u)) (va_Qv post (Po (xI D ad cI)) (xA ad)) 0 0 (xA ad) := by
  refine g_of (A := (xA ad)) (by decide) (Nat.le_of_ble_eq_true rfl) (lv := [(0, .ref (ad 2)), (1, .ref (ad 1))]) rfl ?_
  intro p e s m below meth c ls S hr hk hI hN hS hl
  have hx := S.1
  have hb := S.2.1
  have ho := S.2.2.2.1
  have hg := @xG D ad cI rk ks kv
  have L23 : ∀  (K23 : Int32 → SS → Prop) (n : Nat) (x2_23 : Int32) (u5 : SS) (H : Heap) (locs : List Loc) (ls : Array Slot), xI D ad cI u5 s H → va_S (xA ad) s.heap H locs → lv_has ls 4 [(0, .ref (ad 2)), (1, .ref (ad 1)), (2, .int x2_23)] → wX0_readFrom_23 post K23 n x2_23 u5 → (∀ (x2_23 : Int32) (u5 : SS) (H : Heap) (locs : List Loc) (ls : Array Slot), xI D ad cI u5 s H → va_S (xA ad) s.heap H locs → lv_has ls 4 [(0, .ref (ad 2)), (1, .ref (ad 1)), (2, .int x2_23)] → K23 x2_23 u5 → W p l e (Rm 7) s m [.ref (ad 2), .ref (ad 1)].toArray below meth c H locs 0 0 (MQ below (va_Qv post (Po (xI D ad cI)) (xA ad)) [.ref (ad 2), .ref (ad 1)].toArray s 0 0 (xA ad)) (F0 m 76 ls [])) → W p l e (Rm 7) s m [.ref (ad 2), .ref (ad 1)].toArray below meth c H locs 0 0 (MQ below (va_Qv post (Po (xI D ad cI)) (xA ad)) [.ref (ad 2), .ref (ad 1)].toArray s 0 0 (xA ad)) (F0 m 23 ls []) := by
    intro K23 n
    induction n with
    | zero => intro x2_23 u5 H locs ls hI hS hl hw hK23; exact False.elim hw
    | succ n23 ih23 =>
      intro x2_23 u5 H locs ls hI hS hl hw hK23
      refine lv_iload_n hx hb dX0_readFrom_23 rfl (lv_at hl 2 rfl) ?_
      refine lv_aload_n hx hb dX0_readFrom_24 rfl (lv_at hl 0 rfl) ?_
      refine xg_X0_2_18 S hI dX0_readFrom_25 ?_
      refine lv_icmp_gt (tgt := 76) hx hb dX0_readFrom_28 (by decide) (fun hc => ?_) (fun hc => ?_)
      · have hw := hw.1 hc
        exact hK23 x2_23 u5 _ _ _ hI hS (lv_sub hl [0, 1, 2] rfl) hw
      · have hw := hw.2 hc
        refine lv_iconst (v := (2 : Int32)) hx hb dX0_readFrom_31 (by decide) ?_
        refine lv_iload_n hx hb dX0_readFrom_32 rfl (lv_at hl 2 rfl) ?_
        refine lv_iadd hx hb dX0_readFrom_33 ?_
        refine lv_iconst (v := (1 : Int32)) hx hb dX0_readFrom_34 (by decide) ?_
        refine lv_isub hx hb dX0_readFrom_35 ?_
        refine lv_istore_n (lv' := [(3, .int (((2 : Int32) + x2_23) - (1 : Int32))), (0, .ref (ad 2)), (1, .ref (ad 1)), (2, .int x2_23)]) hx hb dX0_readFrom_36 rfl hl (by decide) rfl (fun ls hl => ?_)
        refine lv_aload_n hx hb dX0_readFrom_37 rfl (lv_at hl 1 rfl) ?_
        refine xg_X0_2_9 S hI dX0_readFrom_38 ?_
        refine lv_iload_n hx hb dX0_readFrom_41 rfl (lv_at hl 3 rfl) ?_
        refine lv_aload_n hx hb dX0_readFrom_42 rfl (lv_at hl 2 rfl) ?_
        refine lv_iload_n hx hb dX0_readFrom_43 rfl (lv_at hl 0 rfl) ?_
        refine g_ci hg hS (g_runVN S hg hI hN hS (As := [.int (((2 : Int32) + x2_23) - (1 : Int32))]) (rest := [.int x2_23, .ref (ad 8)]) (tX2_kindAt l D ad cI rk ks kv  _ _ _ hw) cv_yX2_kindAt (nm_X0_36 hN) (va_recv hI.2.1 hI.1 (ci := 2) (q0 := 1) rfl rfl) ⟨Nat.le_of_ble_eq_true rfl, Nat.le_of_ble_eq_true rfl⟩ rfl hl.1 rfl (Nat.le_of_ble_eq_true rfl) dX0_readFrom_44) (fun r6 u7 H locs hI hS hw => ?_)
        refine x_putN (j := 1) S hI hN hS hl.1 (by decide) (nm_X0_40 hN) ⟨Nat.le_of_ble_eq_true rfl, Nat.le_of_ble_eq_true rfl⟩ (Nat.le_of_ble_eq_true rfl) dX0_readFrom_47 (fun H locs hI hS => ?_)
        refine lv_aload_n hx hb dX0_readFrom_50 rfl (lv_at hl 1 rfl) ?_
        refine xg_X0_2_15 S hI dX0_readFrom_51 ?_
        refine lv_iload_n hx hb dX0_readFrom_54 rfl (lv_at hl 3 rfl) ?_
        refine lv_aload_n hx hb dX0_readFrom_55 rfl (lv_at hl 2 rfl) ?_
        refine lv_iload_n hx hb dX0_readFrom_56 rfl (lv_at hl 0 rfl) ?_
        refine lv_aload_n hx hb dX0_readFrom_57 rfl (lv_at hl 1 rfl) ?_
        refine xg_X0_2_18 S hI dX0_readFrom_58 ?_
        refine lv_iadd hx hb dX0_readFrom_61 ?_
        refine lv_iconst (v := (1 : Int32)) hx hb dX0_readFrom_62 (by decide) ?_
        refine lv_iadd hx hb dX0_readFrom_63 ?_
        refine g_ci hg hS (g_runVN S hg hI hN hS (As := [.int (((((2 : Int32) + x2_23) - (1 : Int32)) + ((xput u7 1 x2_23 r6).1 3)) + (1 : Int32))]) (rest := [.int x2_23, .ref (ad 9)]) (tX2_colourAt l D ad cI rk ks kv  _ _ _ hw) cv_yX2_colourAt (nm_X0_44 hN) (va_recv hI.2.1 hI.1 (ci := 2) (q0 := 1) rfl rfl) ⟨Nat.le_of_ble_eq_true rfl, Nat.le_of_ble_eq_true rfl⟩ rfl hl.1 rfl (Nat.le_of_ble_eq_true rfl) dX0_readFrom_64) (fun r8 u9 H locs hI hS hw => ?_)
        refine x_putN (j := 2) S hI hN hS hl.1 (by decide) (nm_X0_40 hN) ⟨Nat.le_of_ble_eq_true rfl, Nat.le_of_ble_eq_true rfl⟩ (Nat.le_of_ble_eq_true rfl) dX0_readFrom_67 (fun H locs hI hS => ?_)
        refine lv_iinc (v := x2_23 + 1) (lv' := [(2, .int (x2_23 + 1)), (3, .int (((2 : Int32) + x2_23) - (1 : Int32))), (0, .ref (ad 2)), (1, .ref (ad 1))]) hx hb dX0_readFrom_70 hl (k := 3) rfl (congrArg (fun z => x2_23 + z) (by decide)) (by decide) rfl (fun ls hl => ?_)
        refine lv_goto (tgt := 23) hx hb dX0_readFrom_73 (by decide) ?_
        exact ih23 (x2_23 + 1) (xput u9 2 x2_23 r8) _ _ _ hI hS (lv_sub hl [2, 3, 0] rfl) hw hK23
  refine lv_aload_n hx hb dX0_readFrom_0 rfl (lv_at hl 0 rfl) ?_
  refine lv_aload_n hx hb dX0_readFrom_1 rfl (lv_at hl 1 rfl) ?_
  refine g_ci hg hS (g_runVN S hg hI hN hS (As := []) (rest := [.ref (ad 2)]) (tX2_kindsTold l D ad cI rk ks kv   _ _ hw) cv_yX2_kindsTold (nm_X0_28 hN) (va_recv hI.2.1 hI.1 (ci := 2) (q0 := 1) rfl rfl) ⟨Nat.le_of_ble_eq_true rfl, Nat.le_of_ble_eq_true rfl⟩ rfl hl.1 rfl (Nat.le_of_ble_eq_true rfl) dX0_readFrom_2) (fun r1 u2 H locs hI hS hw => ?_)
  refine xp_X0_2_18 S hI hS dX0_readFrom_5 (fun H locs hI hS => ?_)
  refine lv_aload_n hx hb dX0_readFrom_8 rfl (lv_at hl 0 rfl) ?_
  refine lv_aload_n hx hb dX0_readFrom_9 rfl (lv_at hl 1 rfl) ?_
  refine g_ci hg hS (g_runVN S hg hI hN hS (As := []) (rest := [.ref (ad 2)]) (tX2_colours l D ad cI rk ks kv   _ _ hw) cv_yX2_colours (nm_X0_34 hN) (va_recv hI.2.1 hI.1 (ci := 2) (q0 := 1) rfl rfl) ⟨Nat.le_of_ble_eq_true rfl, Nat.le_of_ble_eq_true rfl⟩ rfl hl.1 rfl (Nat.le_of_ble_eq_true rfl) dX0_readFrom_10) (fun r3 u4 H locs hI hS hw => ?_)
  refine xp_X0_2_22 S hI hS dX0_readFrom_13 (fun H locs hI hS => ?_)
  refine lv_aload_n hx hb dX0_readFrom_16 rfl (lv_at hl 0 rfl) ?_
  refine lv_iconst (v := (0 : Int32)) hx hb dX0_readFrom_17 (by decide) ?_
  refine xp_X0_2_25 S hI hS dX0_readFrom_18 (fun H locs hI hS => ?_)
  refine lv_iconst (v := (1 : Int32)) hx hb dX0_readFrom_21 (by decide) ?_
  refine lv_istore_n (lv' := [(2, .int (1 : Int32)), (0, .ref (ad 2)), (1, .ref (ad 1))]) hx hb dX0_readFrom_22 rfl hl (by decide) rfl (fun ls hl => ?_)
  obtain ⟨n, hw⟩ := hw
  refine L23 _ n (1 : Int32) (sI (sI u4 4 r3) 5 (0 : Int32)) _ _ _ hI hS (lv_sub hl [1, 2, 0] rfl) hw (fun x2_10 u11 H locs ls hI hS hl hw => ?_)
  exact g_vret S hr hk hg hI hS dX0_readFrom_76 hw
set_option maxRecDepth 100000 in
set_option maxHeartbeats 4000000 in
theorem tX4_board (l : Launch) (D : va_G) (ad : Nat → Nat) (cI : ClassId) (rk ks kv : Nat)   (u : SS) (post : Int32 → SS → Prop) (hw : wX4_board   u post) : Met l yX4_board (Cond.code yX4_board cX4_board 1 (some .int) :: XT) (Rm 9) (va_Pc [.ref (ad 0)] (Pr (xI D ad cI) (xN ad rk ks kv) u)) (va_Qi post (Po (xI D ad cI)) (xA ad)) 0 0 (xA ad) := by
  refine g_of (A := (xA ad)) (by decide) (Nat.le_of_ble_eq_true rfl) (lv := [(0, .ref (ad 0))]) rfl ?_
  intro p e s m below meth c ls S hr hk hI hN hS hl
  have hx := S.1
  have hb := S.2.1
  have ho := S.2.2.2.1
  have hg := @xG D ad cI rk ks kv
  refine lv_aload_n hx hb dX4_board_0 rfl (lv_at hl 0 rfl) ?_
  refine xg_X4_0_10 S hI dX4_board_1 ?_
  refine g_ci hg hS (g_runVN S hg hI hN hS (As := []) (rest := []) (tX2_isBoard l D ad cI rk ks kv   _ _ hw) cv_yX2_isBoard (nm_X4_64 hN) (va_recv hI.2.1 hI.1 (ci := 2) (q0 := 1) rfl rfl) ⟨Nat.le_of_ble_eq_true rfl, Nat.le_of_ble_eq_true rfl⟩ rfl hl.1 rfl (Nat.le_of_ble_eq_true rfl) dX4_board_4) (fun r1 u2 H locs hI hS hw => ?_)
  refine lv_if_ne (tgt := 13) hx hb dX4_board_7 (by decide) (fun hc => ?_) (fun hc => ?_)
  · have hw := hw.1 hc
    refine lv_aload_n hx hb dX4_board_13 rfl (lv_at hl 0 rfl) ?_
    refine xg_X4_0_19 S hI dX4_board_14 ?_
    refine lv_aload_n hx hb dX4_board_17 rfl (lv_at hl 0 rfl) ?_
    refine xg_X4_0_10 S hI dX4_board_18 ?_
    refine g_cv hg hS (g_runVN S hg hI hN hS (As := [.ref (ad 1)]) (rest := []) (tX0_readFrom l D ad cI rk ks kv   _ _ hw) cv_yX0_readFrom (nm_X4_68 hN) (va_recv hI.2.1 hI.1 (ci := 0) (q0 := 2) rfl rfl) ⟨Nat.le_of_ble_eq_true rfl, Nat.le_of_ble_eq_true rfl⟩ rfl hl.1 rfl (Nat.le_of_ble_eq_true rfl) dX4_board_21) (fun u4 H locs hI hS hw => ?_)
    refine lv_aload_n hx hb dX4_board_24 rfl (lv_at hl 0 rfl) ?_
    refine xg_X4_0_10 S hI dX4_board_25 ?_
    refine lv_iconst (v := (0 : Int32)) hx hb dX4_board_28 (by decide) ?_
    refine xp_X4_1_53 S hN hI hS dX4_board_29 (fun H locs hI hS => ?_)
    refine lv_aload_n hx hb dX4_board_32 rfl (lv_at hl 0 rfl) ?_
    refine xg_X4_0_26 S hI dX4_board_33 ?_
    refine lv_iconst (v := (0 : Int32)) hx hb dX4_board_36 (by decide) ?_
    refine xp_X4_3_72 S hN hI hS dX4_board_37 (fun H locs hI hS => ?_)
    refine lv_aload_n hx hb dX4_board_40 rfl (lv_at hl 0 rfl) ?_
    refine xg_X4_0_35 S hI dX4_board_41 ?_
    refine lv_iconst (v := (1 : Int32)) hx hb dX4_board_44 (by decide) ?_
    refine xp_X4_4_75 rfl rfl S hN hI hS dX4_board_45 (fun H locs hI hS => ?_)
    refine lv_aload_n hx hb dX4_board_48 rfl (lv_at hl 0 rfl) ?_
    refine lv_iconst (v := (0 : Int32)) hx hb dX4_board_49 (by decide) ?_
    refine xp_X4_0_45 rfl rfl S hI hS dX4_board_50 (fun H locs hI hS => ?_)
    refine lv_aload_n hx hb dX4_board_53 rfl (lv_at hl 0 rfl) ?_
    refine lv_dup hx hb dX4_board_54 rfl ?_
    refine xg_X4_0_49 S hI dX4_board_55 ?_
    refine lv_iconst (v := (1 : Int32)) hx hb dX4_board_58 (by decide) ?_
    refine lv_iadd hx hb dX4_board_59 ?_
    refine xp_X4_0_49 S hI hS dX4_board_60 (fun H locs hI hS => ?_)
    refine lv_aload_n hx hb dX4_board_63 rfl (lv_at hl 0 rfl) ?_
    refine xg_X4_0_19 S hI dX4_board_64 ?_
    refine xg_X4_2_78 S hN hI dX4_board_67 ?_
    exact g_iret S hr hk hg hI hS dX4_board_70 hw
  · have hw := hw.2 hc
    refine lv_bipush (v := (-103 : Int32)) hx hb dX4_board_10 (by decide) ?_
    exact g_iret S hr hk hg hI hS dX4_board_12 hw
set_option maxRecDepth 100000 in
set_option maxHeartbeats 4000000 in
theorem tX0_hasNumber (l : Launch) (D : va_G) (ad : Nat → Nat) (cI : ClassId) (rk ks kv : Nat)  (a1 : Int32) (u : SS) (post : Int32 → SS → Prop) (hw : wX0_hasNumber  a1 u post) : Met l yX0_hasNumber (Cond.code yX0_hasNumber cX0_hasNumber 2 (some .boolean) :: XT) (Rm 1) (va_Pc [.ref (ad 2), .int a1] (Pr (xI D ad cI) (xN ad rk ks kv) u)) (va_Qi post (Po (xI D ad cI)) (xA ad)) 0 0 (xA ad) := by
  refine g_of (A := (xA ad)) (by decide) (Nat.le_of_ble_eq_true rfl) (lv := [(0, .ref (ad 2)), (1, .int a1)]) rfl ?_
  intro p e s m below meth c ls S hr hk hI hN hS hl
  have hx := S.1
  have hb := S.2.1
  have ho := S.2.2.2.1
  have hg := @xG D ad cI rk ks kv
  refine lv_iload_n hx hb dX0_hasNumber_0 rfl (lv_at hl 1 rfl) ?_
  refine lv_iconst (v := (1 : Int32)) hx hb dX0_hasNumber_1 (by decide) ?_
  refine lv_icmp_lt (tgt := 17) hx hb dX0_hasNumber_2 (by decide) (fun hc => ?_) (fun hc => ?_)
  · have hw := hw.1 hc
    refine lv_iconst (v := (0 : Int32)) hx hb dX0_hasNumber_17 (by decide) ?_
    exact g_zret S hr rfl hk hg hI hS dX0_hasNumber_18 hw
  · have hw := hw.2 hc
    refine lv_iload_n hx hb dX0_hasNumber_5 rfl (lv_at hl 1 rfl) ?_
    refine lv_aload_n hx hb dX0_hasNumber_6 rfl (lv_at hl 0 rfl) ?_
    refine xg_X0_2_18 S hI dX0_hasNumber_7 ?_
    refine lv_icmp_gt (tgt := 17) hx hb dX0_hasNumber_10 (by decide) (fun hc => ?_) (fun hc => ?_)
    · have hw := hw.1 hc
      refine lv_iconst (v := (0 : Int32)) hx hb dX0_hasNumber_17 (by decide) ?_
      exact g_zret S hr rfl hk hg hI hS dX0_hasNumber_18 hw
    · have hw := hw.2 hc
      refine lv_iconst (v := (1 : Int32)) hx hb dX0_hasNumber_13 (by decide) ?_
      refine lv_goto (tgt := 18) hx hb dX0_hasNumber_14 (by decide) ?_
      exact g_zret S hr rfl hk hg hI hS dX0_hasNumber_18 hw
set_option maxRecDepth 100000 in
set_option maxHeartbeats 4000000 in
theorem tX1_mayHave (l : Launch) (D : va_G) (ad : Nat → Nat) (cI : ClassId) (rk ks kv : Nat)  (a1 : Int32) (a2 : Int32) (u : SS) (post : Int32 → SS → Prop) (hw : wX1_mayHave  a1 a2 u post) : Met l yX1_mayHave (Cond.code yX1_mayHave cX1_mayHave 4 (some .boolean) :: XT) (Rm 2) (va_Pc [.ref (ad 4), .int a1, .int a2] (Pr (xI D ad cI) (xN ad rk ks kv) u)) (va_Qi post (Po (xI D ad cI)) (xA ad)) 0 0 (xA ad) := by
  refine g_of (A := (xA ad)) (by decide) (Nat.le_of_ble_eq_true rfl) (lv := [(0, .ref (ad 4)), (1, .int a1), (2, .int a2)]) rfl ?_
  intro p e s m below meth c ls S hr hk hI hN hS hl
  have hx := S.1
  have hb := S.2.1
  have ho := S.2.2.2.1
  have hg := @xG D ad cI rk ks kv
  refine lv_aload_n hx hb dX1_mayHave_0 rfl (lv_at hl 0 rfl) ?_
  refine xg_X1_4_35 S hI dX1_mayHave_1 ?_
  refine xg_X1_2_53 S hN hI dX1_mayHave_4 ?_
  refine lv_iload_n hx hb dX1_mayHave_7 rfl (lv_at hl 1 rfl) ?_
  refine x_atN (j := 2) S hI hl.1 (by decide) (nm_X1_56 hN) ⟨Nat.le_of_ble_eq_true rfl, Nat.le_of_ble_eq_true rfl⟩ (Nat.le_of_ble_eq_true rfl) dX1_mayHave_8 ?_
  refine lv_istore_n (lv' := [(3, .int (xat u 2 a1)), (0, .ref (ad 4)), (1, .int a1), (2, .int a2)]) hx hb dX1_mayHave_11 rfl hl (by decide) rfl (fun ls hl => ?_)
  refine lv_iload_n hx hb dX1_mayHave_12 rfl (lv_at hl 0 rfl) ?_
  refine lv_iconst (v := (-1 : Int32)) hx hb dX1_mayHave_13 (by decide) ?_
  refine lv_icmp_eq (tgt := 22) hx hb dX1_mayHave_14 (by decide) (fun hc => ?_) (fun hc => ?_)
  · have hw := hw.1 hc
    refine lv_iconst (v := (1 : Int32)) hx hb dX1_mayHave_22 (by decide) ?_
    refine lv_goto (tgt := 27) hx hb dX1_mayHave_23 (by decide) ?_
    exact g_zret S hr rfl hk hg hI hS dX1_mayHave_27 hw
  · have hw := hw.2 hc
    refine lv_iload_n hx hb dX1_mayHave_17 rfl (lv_at hl 0 rfl) ?_
    refine lv_iload_n hx hb dX1_mayHave_18 rfl (lv_at hl 3 rfl) ?_
    refine lv_icmp_ne (tgt := 26) hx hb dX1_mayHave_19 (by decide) (fun hc => ?_) (fun hc => ?_)
    · have hw := hw.1 hc
      refine lv_iconst (v := (0 : Int32)) hx hb dX1_mayHave_26 (by decide) ?_
      exact g_zret S hr rfl hk hg hI hS dX1_mayHave_27 hw
    · have hw := hw.2 hc
      refine lv_iconst (v := (1 : Int32)) hx hb dX1_mayHave_22 (by decide) ?_
      refine lv_goto (tgt := 27) hx hb dX1_mayHave_23 (by decide) ?_
      exact g_zret S hr rfl hk hg hI hS dX1_mayHave_27 hw
set_option maxRecDepth 100000 in
set_option maxHeartbeats 4000000 in
theorem tX0_isBad (l : Launch) (D : va_G) (ad : Nat → Nat) (cI : ClassId) (rk ks kv : Nat) (pj : Nat) (hpj : pj < 13) (a2 : Int32) (a3 : Int32) (u : SS) (post : Int32 → SS → Prop) (hw : wX0_isBad pj a2 a3 u post) : Met l yX0_isBad (Cond.code yX0_isBad cX0_isBad 8 (some .boolean) :: XT) (Rm 2) (va_Pc [.ref (ad 2), .ref (ad (7 + pj)), .int a2, .int a3] (Pr (xI D ad cI) (xN ad rk ks kv) u)) (va_Qi post (Po (xI D ad cI)) (xA ad)) 0 0 (xA ad) := by
  refine g_of (A := (xA ad)) (by decide) (Nat.le_of_ble_eq_true rfl) (lv := [(0, .ref (ad 2)), (1, .ref (ad (7 + pj))), (2, .int a2), (3, .int a3)]) rfl ?_
  intro p e s m below meth c ls S hr hk hI hN hS hl
  have hx := S.1
  have hb := S.2.1
  have ho := S.2.2.2.1
  have hg := @xG D ad cI rk ks kv
  refine lv_iload_n hx hb dX0_isBad_0 rfl (lv_at hl 2 rfl) ?_
  refine lv_iload_n hx hb dX0_isBad_1 rfl (lv_at hl 3 rfl) ?_
  refine lv_iadd hx hb dX0_isBad_2 ?_
  refine lv_istore (lv' := [(4, .int (a2 + a3)), (0, .ref (ad 2)), (1, .ref (ad (7 + pj))), (2, .int a2), (3, .int a3)]) hx hb dX0_isBad_3 hl (by decide) rfl (fun ls hl => ?_)
  refine lv_aload_n hx hb dX0_isBad_5 rfl (lv_at hl 2 rfl) ?_
  refine lv_iload hx hb dX0_isBad_6 (lv_at hl 0 rfl) ?_
  refine x_atN (j := pj) S hI hl.1 hpj (nm_X0_51 hN) ⟨Nat.le_of_ble_eq_true rfl, Nat.le_of_ble_eq_true rfl⟩ (Nat.le_of_ble_eq_true rfl) dX0_isBad_8 ?_
  refine lv_istore (lv' := [(5, .int (xat u pj (a2 + a3))), (4, .int (a2 + a3)), (0, .ref (ad 2)), (1, .ref (ad (7 + pj))), (2, .int a2), (3, .int a3)]) hx hb dX0_isBad_11 hl (by decide) rfl (fun ls hl => ?_)
  refine lv_iload hx hb dX0_isBad_13 (lv_at hl 0 rfl) ?_
  refine lv_iconst (v := (-1 : Int32)) hx hb dX0_isBad_15 (by decide) ?_
  refine lv_icmp_eq (tgt := 39) hx hb dX0_isBad_16 (by decide) (fun hc => ?_) (fun hc => ?_)
  · have hw := hw.1 hc
    refine lv_iconst (v := (0 : Int32)) hx hb dX0_isBad_39 (by decide) ?_
    exact g_zret S hr rfl hk hg hI hS dX0_isBad_40 hw
  · have hw := hw.2 hc
    refine lv_iload hx hb dX0_isBad_19 (lv_at hl 0 rfl) ?_
    refine lv_aload_n hx hb dX0_isBad_21 rfl (lv_at hl 3 rfl) ?_
    refine lv_iload_n hx hb dX0_isBad_22 rfl (lv_at hl 4 rfl) ?_
    refine x_atN (j := pj) S hI hl.1 hpj (nm_X0_51 hN) ⟨Nat.le_of_ble_eq_true rfl, Nat.le_of_ble_eq_true rfl⟩ (Nat.le_of_ble_eq_true rfl) dX0_isBad_23 ?_
    refine lv_icmp_ne (tgt := 39) hx hb dX0_isBad_26 (by decide) (fun hc => ?_) (fun hc => ?_)
    · have hw := hw.1 hc
      refine lv_iconst (v := (0 : Int32)) hx hb dX0_isBad_39 (by decide) ?_
      exact g_zret S hr rfl hk hg hI hS dX0_isBad_40 hw
    · have hw := hw.2 hc
      refine lv_iload hx hb dX0_isBad_29 (lv_at hl 0 rfl) ?_
      refine lv_aload_n hx hb dX0_isBad_31 rfl (lv_at hl 3 rfl) ?_
      refine lv_iload_n hx hb dX0_isBad_32 rfl (lv_at hl 5 rfl) ?_
      refine x_atN (j := pj) S hI hl.1 hpj (nm_X0_51 hN) ⟨Nat.le_of_ble_eq_true rfl, Nat.le_of_ble_eq_true rfl⟩ (Nat.le_of_ble_eq_true rfl) dX0_isBad_33 ?_
      refine lv_icmp_eq (tgt := 41) hx hb dX0_isBad_36 (by decide) (fun hc => ?_) (fun hc => ?_)
      · have hw := hw.1 hc
        refine va_getsN hx hb hN.2.2.2.1 hS ho (va_Nw.use rfl (nf_X0_59 hN)) (fun _ h9 => h9) dX0_isBad_41 ?_
        refine lv_aload_n hx hb dX0_isBad_44 rfl (lv_at hl 2 rfl) ?_
        refine xg_X0_2_9 S hI dX0_isBad_45 ?_
        refine lv_iload_n hx hb dX0_isBad_48 rfl (lv_at hl 4 rfl) ?_
        refine x_atN (j := 1) S hI hl.1 (by decide) (nm_X0_51 hN) ⟨Nat.le_of_ble_eq_true rfl, Nat.le_of_ble_eq_true rfl⟩ (Nat.le_of_ble_eq_true rfl) dX0_isBad_49 ?_
        refine x_atRN S hN hS hl.1 (nm_X0_51 hN) ⟨Nat.le_of_ble_eq_true rfl, Nat.le_of_ble_eq_true rfl⟩ (Nat.le_of_ble_eq_true rfl) dX0_isBad_52 ?_
        refine va_getsN hx hb hN.2.2.2.1 hS ho (va_Nw.use rfl (nf_X0_59 hN)) (fun _ h9 => h9) dX0_isBad_55 ?_
        refine lv_aload_n hx hb dX0_isBad_58 rfl (lv_at hl 2 rfl) ?_
        refine xg_X0_2_9 S hI dX0_isBad_59 ?_
        refine lv_iload_n hx hb dX0_isBad_62 rfl (lv_at hl 5 rfl) ?_
        refine x_atN (j := 1) S hI hl.1 (by decide) (nm_X0_51 hN) ⟨Nat.le_of_ble_eq_true rfl, Nat.le_of_ble_eq_true rfl⟩ (Nat.le_of_ble_eq_true rfl) dX0_isBad_63 ?_
        refine x_atRN S hN hS hl.1 (nm_X0_51 hN) ⟨Nat.le_of_ble_eq_true rfl, Nat.le_of_ble_eq_true rfl⟩ (Nat.le_of_ble_eq_true rfl) dX0_isBad_66 ?_
        refine lv_iand hx hb dX0_isBad_69 ?_
        refine lv_istore (lv' := [(6, .int ((xrol (xat u 1 a2)) &&& (xrol (xat u 1 a3)))), (5, .int (xat u pj (a2 + a3))), (4, .int (a2 + a3)), (0, .ref (ad 2)), (1, .ref (ad (7 + pj))), (2, .int a2), (3, .int a3)]) hx hb dX0_isBad_70 hl (by decide) rfl (fun ls hl => ?_)
        refine va_getsN hx hb hN.2.2.2.1 hS ho (va_Nw.use rfl (nf_X0_59 hN)) (fun _ h9 => h9) dX0_isBad_72 ?_
        refine lv_aload_n hx hb dX0_isBad_75 rfl (lv_at hl 3 rfl) ?_
        refine xg_X0_2_9 S hI dX0_isBad_76 ?_
        refine lv_iload hx hb dX0_isBad_79 (lv_at hl 2 rfl) ?_
        refine x_atN (j := 1) S hI hl.1 (by decide) (nm_X0_51 hN) ⟨Nat.le_of_ble_eq_true rfl, Nat.le_of_ble_eq_true rfl⟩ (Nat.le_of_ble_eq_true rfl) dX0_isBad_81 ?_
        refine x_atRN S hN hS hl.1 (nm_X0_51 hN) ⟨Nat.le_of_ble_eq_true rfl, Nat.le_of_ble_eq_true rfl⟩ (Nat.le_of_ble_eq_true rfl) dX0_isBad_84 ?_
        refine lv_istore (lv' := [(7, .int (xrol (xat u 1 (a2 + a3)))), (6, .int ((xrol (xat u 1 a2)) &&& (xrol (xat u 1 a3)))), (5, .int (xat u pj (a2 + a3))), (4, .int (a2 + a3)), (0, .ref (ad 2)), (1, .ref (ad (7 + pj))), (2, .int a2), (3, .int a3)]) hx hb dX0_isBad_87 hl (by decide) rfl (fun ls hl => ?_)
        refine lv_iload hx hb dX0_isBad_89 (lv_at hl 1 rfl) ?_
        refine lv_iconst (v := (4 : Int32)) hx hb dX0_isBad_91 (by decide) ?_
        refine lv_iand hx hb dX0_isBad_92 ?_
        refine lv_if_eq (tgt := 116) hx hb dX0_isBad_93 (by decide) (fun hc => ?_) (fun hc => ?_)
        · have hw := hw.1 hc
          refine lv_iconst (v := (0 : Int32)) hx hb dX0_isBad_116 (by decide) ?_
          exact g_zret S hr rfl hk hg hI hS dX0_isBad_117 hw
        · have hw := hw.2 hc
          refine lv_iload hx hb dX0_isBad_96 (lv_at hl 0 rfl) ?_
          refine lv_iload_n hx hb dX0_isBad_98 rfl (lv_at hl 6 rfl) ?_
          refine lv_iload_n hx hb dX0_isBad_99 rfl (lv_at hl 7 rfl) ?_
          refine lv_icmp_ne (tgt := 107) hx hb dX0_isBad_100 (by decide) (fun hc => ?_) (fun hc => ?_)
          · have hw := hw.1 hc
            refine lv_iconst (v := (1 : Int32)) hx hb dX0_isBad_107 (by decide) ?_
            refine lv_iand hx hb dX0_isBad_108 ?_
            refine lv_if_eq (tgt := 116) hx hb dX0_isBad_109 (by decide) (fun hc => ?_) (fun hc => ?_)
            · have hw := hw.1 hc
              refine lv_iconst (v := (0 : Int32)) hx hb dX0_isBad_116 (by decide) ?_
              exact g_zret S hr rfl hk hg hI hS dX0_isBad_117 hw
            · have hw := hw.2 hc
              refine lv_iconst (v := (1 : Int32)) hx hb dX0_isBad_112 (by decide) ?_
              refine lv_goto (tgt := 117) hx hb dX0_isBad_113 (by decide) ?_
              exact g_zret S hr rfl hk hg hI hS dX0_isBad_117 hw
          · have hw := hw.2 hc
            refine lv_iconst (v := (2 : Int32)) hx hb dX0_isBad_103 (by decide) ?_
            refine lv_goto (tgt := 108) hx hb dX0_isBad_104 (by decide) ?_
            refine lv_iand hx hb dX0_isBad_108 ?_
            refine lv_if_eq (tgt := 116) hx hb dX0_isBad_109 (by decide) (fun hc => ?_) (fun hc => ?_)
            · have hw := hw.1 hc
              refine lv_iconst (v := (0 : Int32)) hx hb dX0_isBad_116 (by decide) ?_
              exact g_zret S hr rfl hk hg hI hS dX0_isBad_117 hw
            · have hw := hw.2 hc
              refine lv_iconst (v := (1 : Int32)) hx hb dX0_isBad_112 (by decide) ?_
              refine lv_goto (tgt := 117) hx hb dX0_isBad_113 (by decide) ?_
              exact g_zret S hr rfl hk hg hI hS dX0_isBad_117 hw
      · have hw := hw.2 hc
        refine lv_iconst (v := (0 : Int32)) hx hb dX0_isBad_39 (by decide) ?_
        exact g_zret S hr rfl hk hg hI hS dX0_isBad_40 hw
