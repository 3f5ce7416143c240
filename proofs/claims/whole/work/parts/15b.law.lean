set_option maxRecDepth 100000 in
set_option maxHeartbeats 8000000 in
theorem law_loop {p : Program} {l : Launch} {e : Env} {s : State} {m : MethodId} {below : List Frame} {meth : Method} {c : Code} {D : va_G} {ad ad2 : Nat → Nat} {cI cB : ClassId} {rk ks kv : Nat} {b L : Nat} {xs : Nat → Int32} (hL : L ≤ 2048) (C0 : lw_At p s m meth c b L xs) (Rel : SS → SS → Nat → Prop) (hst : StAll Rel) (hN : xN ad rk ks kv s) (hxA : ∀ q, xA ad q → s.heap.size ≤ q) (hmA : ∀ q, mA ad2 q → s.heap.size ≤ q) (hd : ∀ q, mA ad2 q → ¬ xA ad q) :
    ∀ (f k : Nat), L + 4 ≤ 4 * k + f → 4 * k ≤ L + 3 → ∀ (u v : SS) (H : Heap) (locs : List Loc) (ls : Array Slot), xI D ad cI u s H → mI D ad2 cI cB v s H → va_S (fun q => s.heap.size ≤ q) s.heap H locs → lv_has ls 4 [(0, .ref b), (1, .ref (ad 0)), (2, .ref (ad2 0)), (3, .int (nI (4 * k)))] → Rel u v k → W p l e room_1 s m #[Value.ref b] below meth c H locs 39 424 (lw_Z below #[Value.ref b] s) (F0 m 18 ls []) := by
  obtain ⟨hx, hb, hr, hml, hown, hts, hX, hbl, hlocks, hgv⟩ := C0
  have S : CallFix p m c cL_law 4 s #[Value.ref b] lw_tbl RL := ⟨hx, hb, hml, hown, hts⟩
  have hbA : ¬ (fun q : Nat => s.heap.size ≤ q) b := Nat.not_le.mpr hbl
  have hg := @xG D ad cI rk ks kv
  have hgm := @mG D ad2 cI cB
  intro f
  induction f with
  | zero => intro k h1 h2; exact absurd h1 (by omega)
  | succ f ih =>
    intro k h1 h2 u v H locs ls hI hM hS hl hR
    have hkH : ∀ q : Nat, q < s.heap.size → ¬ xA ad q → H[q]? = s.heap[q]? := fun q z1 _ => hS.2.1 q z1 (Nat.not_le.mpr z1)
    refine lv_iload_n hx hb dL_law_18 rfl (lv_at hl 3 rfl) ?_
    refine lv_aload_n hx hb dL_law_19 rfl (lv_at hl 0 rfl) ?_
    refine va_slen hx hb hX hbl hbA hS dL_law_20 ?_
    refine lv_iconst (v := (4 : Int32)) hx hb dL_law_21 (by decide) ?_
    refine lv_isub hx hb dL_law_22 ?_
    have hTi : (Int32.ofNat L - 4).toInt = (L : Int) - 4 := pk_sub_toInt (a := L) (b := 4) (by omega) (by omega)
    have hTk : (nI (4 * k)).toInt = ((4 * k : Nat) : Int) := nI_toInt (by omega)
    refine lv_icmp_gt (tgt := 668) hx hb dL_law_23 (by decide) (fun hc => ?_) (fun hc => ?_)
    · refine lv_iconst (v := (1 : Int32)) hx hb dL_law_668 (by decide) ?_
      refine va_forget (fun q hq => hS.2.2 q hq) ?_
      refine W.widen (k := 600000) (n := 7302250) (Nat.le_of_ble_eq_true rfl) (Nat.le_of_ble_eq_true rfl) ?_
      exact lw_ret hx hb hr hlocks dL_law_669
    · have hlt : 4 * k + 4 ≤ L := by
        have hc2 : ¬ ((L : Int) - 4 < ((4 * k : Nat) : Int)) := fun z => hc (Int32.lt_iff_toInt_lt.mpr (by rw [hTi, hTk]; exact z))
        omega
      have i0 : vp_in (nI (4 * k)) L := vp_in_nI (by omega) (by omega)
      have i1 : vp_in (nI (4 * k) + (1 : Int32)) L := by rw [show (1 : Int32) = nI 1 from rfl, nI_add]; exact vp_in_nI (by omega) (by omega)
      have i2 : vp_in (nI (4 * k) + (2 : Int32)) L := by rw [show (2 : Int32) = nI 2 from rfl, nI_add]; exact vp_in_nI (by omega) (by omega)
      have i3 : vp_in (nI (4 * k) + (3 : Int32)) L := by rw [show (3 : Int32) = nI 3 from rfl, nI_add]; exact vp_in_nI (by omega) (by omega)
      have hgo : ∀ (u v : SS) (H : Heap) (locs : List Loc), xI D ad cI u s H → mI D ad2 cI cB v s H → va_S (fun q => s.heap.size ≤ q) s.heap H locs → Rel u v (k + 1) → W p l e room_1 s m #[Value.ref b] below meth c H locs 39 424 (lw_Z below #[Value.ref b] s) (F0 m 662 ls []) := by
        intro u v H locs hI hM hS hR
        refine lv_iinc (v := nI (4 * (k + 1))) (lv' := [(3, .int (nI (4 * (k + 1)))), (0, .ref b), (1, .ref (ad 0)), (2, .ref (ad2 0))]) hx hb dL_law_662 hl (k := 3) rfl (by rw [show Int32.ofInt 4 = nI 4 from rfl, nI_add]; congr 1) (by decide) rfl (fun ls hl => ?_)
        refine lv_goto (tgt := 18) hx hb dL_law_665 (by decide) ?_
        exact ih (k + 1) (by omega) (by omega) u v H locs ls hI hM hS (lv_sub hl [1, 2, 3, 0] rfl) hR
      refine lv_aload_n hx hb dL_law_26 rfl (lv_at hl 0 rfl) ?_
      refine lv_iload_n hx hb dL_law_27 rfl (lv_at hl 3 rfl) ?_
      refine va_sld hx hb hX hbl hbA hS i0 dL_law_28 ?_
      refine lv_bipush (v := (31 : Int32)) hx hb dL_law_29 (by decide) ?_
      refine lv_iand hx hb dL_law_31 ?_
      refine lv_topi (fun z ez => ?_)
      have hn6 : k < 600 := by omega
      by_cases hk0 : z = (0 : Int32)
      · refine lv_tableIn (tgt := 132) (off := 100) hx hb dL_law_32 (by rw [hk0]; decide) (by rw [hk0]; decide) (by rw [hk0]; decide) (by decide) ?_
        refine lv_aload_n hx hb dL_law_132 rfl (lv_at hl 1 rfl) ?_
        refine lv_aload_n hx hb dL_law_133 rfl (lv_at hl 0 rfl) ?_
        refine lv_iload_n hx hb dL_law_134 rfl (lv_at hl 3 rfl) ?_
        refine lv_iconst (v := (1 : Int32)) hx hb dL_law_135 (by decide) ?_
        refine lv_iadd hx hb dL_law_136 ?_
        refine va_sld hx hb hX hbl hbA hS i1 dL_law_137 ?_
        have hw := hst.1 k u v ((xs (nI (4 * k) + (1 : Int32)).toNatClampNeg)) hn6 hR
        refine l_xi (l_runV S hg hI hN hkH (As := [.int (xs (nI (4 * k) + (1 : Int32)).toNatClampNeg)]) (rest := []) (tX4_letter l D ad cI rk ks kv _ _ _ hw) cv_yX4_letter qm_L_13 (va_recv hI.2.1 hI.1 (ci := 4) (q0 := 0) rfl rfl) ⟨Nat.le_of_ble_eq_true rfl, Nat.le_of_ble_eq_true rfl⟩ rfl hl.1 rfl (Nat.le_of_ble_eq_true rfl) dL_law_138 ⟨Nat.le_of_ble_eq_true rfl, Nat.le_of_ble_eq_true rfl⟩) hS hxA hM hd (fun r u1 H locs hI hM hS hw => ?_)
        have hkH : ∀ q : Nat, q < s.heap.size → ¬ mA ad2 q → H[q]? = s.heap[q]? := fun q z1 _ => hS.2.1 q z1 (Nat.not_le.mpr z1)
        refine lv_aload_n hx hb dL_law_141 rfl (lv_at hl 2 rfl) ?_
        refine lv_aload_n hx hb dL_law_142 rfl (lv_at hl 0 rfl) ?_
        refine lv_iload_n hx hb dL_law_143 rfl (lv_at hl 3 rfl) ?_
        refine lv_iconst (v := (1 : Int32)) hx hb dL_law_144 (by decide) ?_
        refine lv_iadd hx hb dL_law_145 ?_
        refine va_sld hx hb hX hbl hbA hS i1 dL_law_146 ?_
        refine l_mi (l_runV S hgm hM trivial hkH (As := [.int (xs (nI (4 * k) + (1 : Int32)).toNatClampNeg)]) (rest := [.int r]) (tX5_letter l D ad2 cI cB _ _ _ hw) cv_yX5_letter qm_L_17 (va_recv hM.2.1 hM.1 (ci := 5) (q0 := 0) rfl rfl) ⟨Nat.le_of_ble_eq_true rfl, Nat.le_of_ble_eq_true rfl⟩ rfl hl.1 rfl (Nat.le_of_ble_eq_true rfl) dL_law_147 ⟨Nat.le_of_ble_eq_true rfl, Nat.le_of_ble_eq_true rfl⟩) hS hmA hI hd (fun r2 v1 H locs hI hM hS hw => ?_)
        refine lv_icmp_eq (tgt := 662) hx hb dL_law_150 (by decide) (fun hz => ?_) (fun hz => absurd hw.1 hz)
        exact hgo u1 v1 H locs hI hM hS hw.2
      by_cases hk1 : z = (1 : Int32)
      · refine lv_tableIn (tgt := 155) (off := 123) hx hb dL_law_32 (by rw [hk1]; decide) (by rw [hk1]; decide) (by rw [hk1]; decide) (by decide) ?_
        refine lv_aload_n hx hb dL_law_155 rfl (lv_at hl 1 rfl) ?_
        have hw := hst.2.1 k u v  hn6 hR
        refine l_xi (l_runV S hg hI hN hkH (As := []) (rest := []) (tX4_blank l D ad cI rk ks kv  _ _ hw) cv_yX4_blank qm_L_18 (va_recv hI.2.1 hI.1 (ci := 4) (q0 := 0) rfl rfl) ⟨Nat.le_of_ble_eq_true rfl, Nat.le_of_ble_eq_true rfl⟩ rfl hl.1 rfl (Nat.le_of_ble_eq_true rfl) dL_law_156 ⟨Nat.le_of_ble_eq_true rfl, Nat.le_of_ble_eq_true rfl⟩) hS hxA hM hd (fun r u1 H locs hI hM hS hw => ?_)
        have hkH : ∀ q : Nat, q < s.heap.size → ¬ mA ad2 q → H[q]? = s.heap[q]? := fun q z1 _ => hS.2.1 q z1 (Nat.not_le.mpr z1)
        refine lv_aload_n hx hb dL_law_159 rfl (lv_at hl 2 rfl) ?_
        refine l_mi (l_runV S hgm hM trivial hkH (As := []) (rest := [.int r]) (tX5_blank l D ad2 cI cB  _ _ hw) cv_yX5_blank qm_L_22 (va_recv hM.2.1 hM.1 (ci := 5) (q0 := 0) rfl rfl) ⟨Nat.le_of_ble_eq_true rfl, Nat.le_of_ble_eq_true rfl⟩ rfl hl.1 rfl (Nat.le_of_ble_eq_true rfl) dL_law_160 ⟨Nat.le_of_ble_eq_true rfl, Nat.le_of_ble_eq_true rfl⟩) hS hmA hI hd (fun r2 v1 H locs hI hM hS hw => ?_)
        refine lv_icmp_eq (tgt := 662) hx hb dL_law_163 (by decide) (fun hz => ?_) (fun hz => absurd hw.1 hz)
        exact hgo u1 v1 H locs hI hM hS hw.2
      by_cases hk2 : z = (2 : Int32)
      · refine lv_tableIn (tgt := 168) (off := 136) hx hb dL_law_32 (by rw [hk2]; decide) (by rw [hk2]; decide) (by rw [hk2]; decide) (by decide) ?_
        refine lv_aload_n hx hb dL_law_168 rfl (lv_at hl 1 rfl) ?_
        have hw := hst.2.2.1 k u v  hn6 hR
        refine l_xi (l_runV S hg hI hN hkH (As := []) (rest := []) (tX4_fault l D ad cI rk ks kv  _ _ hw) cv_yX4_fault qm_L_23 (va_recv hI.2.1 hI.1 (ci := 4) (q0 := 0) rfl rfl) ⟨Nat.le_of_ble_eq_true rfl, Nat.le_of_ble_eq_true rfl⟩ rfl hl.1 rfl (Nat.le_of_ble_eq_true rfl) dL_law_169 ⟨Nat.le_of_ble_eq_true rfl, Nat.le_of_ble_eq_true rfl⟩) hS hxA hM hd (fun r u1 H locs hI hM hS hw => ?_)
        have hkH : ∀ q : Nat, q < s.heap.size → ¬ mA ad2 q → H[q]? = s.heap[q]? := fun q z1 _ => hS.2.1 q z1 (Nat.not_le.mpr z1)
        refine lv_aload_n hx hb dL_law_172 rfl (lv_at hl 2 rfl) ?_
        refine l_mi (l_runV S hgm hM trivial hkH (As := []) (rest := [.int r]) (tX5_fault l D ad2 cI cB  _ _ hw) cv_yX5_fault qm_L_26 (va_recv hM.2.1 hM.1 (ci := 5) (q0 := 0) rfl rfl) ⟨Nat.le_of_ble_eq_true rfl, Nat.le_of_ble_eq_true rfl⟩ rfl hl.1 rfl (Nat.le_of_ble_eq_true rfl) dL_law_173 ⟨Nat.le_of_ble_eq_true rfl, Nat.le_of_ble_eq_true rfl⟩) hS hmA hI hd (fun r2 v1 H locs hI hM hS hw => ?_)
        refine lv_icmp_eq (tgt := 662) hx hb dL_law_176 (by decide) (fun hz => ?_) (fun hz => absurd hw.1 hz)
        exact hgo u1 v1 H locs hI hM hS hw.2
      by_cases hk3 : z = (3 : Int32)
      · refine lv_tableIn (tgt := 181) (off := 149) hx hb dL_law_32 (by rw [hk3]; decide) (by rw [hk3]; decide) (by rw [hk3]; decide) (by decide) ?_
        refine lv_aload_n hx hb dL_law_181 rfl (lv_at hl 1 rfl) ?_
        have hw := hst.2.2.2.1 k u v  hn6 hR
        refine l_xi (l_runV S hg hI hN hkH (As := []) (rest := []) (tX4_board l D ad cI rk ks kv  _ _ hw) cv_yX4_board qm_L_27 (va_recv hI.2.1 hI.1 (ci := 4) (q0 := 0) rfl rfl) ⟨Nat.le_of_ble_eq_true rfl, Nat.le_of_ble_eq_true rfl⟩ rfl hl.1 rfl (Nat.le_of_ble_eq_true rfl) dL_law_182 ⟨Nat.le_of_ble_eq_true rfl, Nat.le_of_ble_eq_true rfl⟩) hS hxA hM hd (fun r u1 H locs hI hM hS hw => ?_)
        have hkH : ∀ q : Nat, q < s.heap.size → ¬ mA ad2 q → H[q]? = s.heap[q]? := fun q z1 _ => hS.2.1 q z1 (Nat.not_le.mpr z1)
        refine lv_aload_n hx hb dL_law_185 rfl (lv_at hl 2 rfl) ?_
        refine l_mi (l_runV S hgm hM trivial hkH (As := []) (rest := [.int r]) (tX5_board l D ad2 cI cB  _ _ hw) cv_yX5_board qm_L_30 (va_recv hM.2.1 hM.1 (ci := 5) (q0 := 0) rfl rfl) ⟨Nat.le_of_ble_eq_true rfl, Nat.le_of_ble_eq_true rfl⟩ rfl hl.1 rfl (Nat.le_of_ble_eq_true rfl) dL_law_186 ⟨Nat.le_of_ble_eq_true rfl, Nat.le_of_ble_eq_true rfl⟩) hS hmA hI hd (fun r2 v1 H locs hI hM hS hw => ?_)
        refine lv_icmp_eq (tgt := 662) hx hb dL_law_189 (by decide) (fun hz => ?_) (fun hz => absurd hw.1 hz)
        exact hgo u1 v1 H locs hI hM hS hw.2
      by_cases hk4 : z = (4 : Int32)
      · refine lv_tableIn (tgt := 194) (off := 162) hx hb dL_law_32 (by rw [hk4]; decide) (by rw [hk4]; decide) (by rw [hk4]; decide) (by decide) ?_
        refine lv_aload_n hx hb dL_law_194 rfl (lv_at hl 1 rfl) ?_
        refine lv_aload_n hx hb dL_law_195 rfl (lv_at hl 0 rfl) ?_
        refine lv_iload_n hx hb dL_law_196 rfl (lv_at hl 3 rfl) ?_
        refine lv_iconst (v := (1 : Int32)) hx hb dL_law_197 (by decide) ?_
        refine lv_iadd hx hb dL_law_198 ?_
        refine va_sld hx hb hX hbl hbA hS i1 dL_law_199 ?_
        refine lv_aload_n hx hb dL_law_200 rfl (lv_at hl 0 rfl) ?_
        refine lv_iload_n hx hb dL_law_201 rfl (lv_at hl 3 rfl) ?_
        refine lv_iconst (v := (2 : Int32)) hx hb dL_law_202 (by decide) ?_
        refine lv_iadd hx hb dL_law_203 ?_
        refine va_sld hx hb hX hbl hbA hS i2 dL_law_204 ?_
        have hw := hst.2.2.2.2.1 k u v ((xs (nI (4 * k) + (1 : Int32)).toNatClampNeg)) ((xs (nI (4 * k) + (2 : Int32)).toNatClampNeg)) hn6 hR
        refine l_xi (l_runV S hg hI hN hkH (As := [.int (xs (nI (4 * k) + (1 : Int32)).toNatClampNeg), .int (xs (nI (4 * k) + (2 : Int32)).toNatClampNeg)]) (rest := []) (tX4_number l D ad cI rk ks kv _ _ _ _ hw) cv_yX4_number qm_L_31 (va_recv hI.2.1 hI.1 (ci := 4) (q0 := 0) rfl rfl) ⟨Nat.le_of_ble_eq_true rfl, Nat.le_of_ble_eq_true rfl⟩ rfl hl.1 rfl (Nat.le_of_ble_eq_true rfl) dL_law_205 ⟨Nat.le_of_ble_eq_true rfl, Nat.le_of_ble_eq_true rfl⟩) hS hxA hM hd (fun r u1 H locs hI hM hS hw => ?_)
        have hkH : ∀ q : Nat, q < s.heap.size → ¬ mA ad2 q → H[q]? = s.heap[q]? := fun q z1 _ => hS.2.1 q z1 (Nat.not_le.mpr z1)
        refine lv_aload_n hx hb dL_law_208 rfl (lv_at hl 2 rfl) ?_
        refine lv_aload_n hx hb dL_law_209 rfl (lv_at hl 0 rfl) ?_
        refine lv_iload_n hx hb dL_law_210 rfl (lv_at hl 3 rfl) ?_
        refine lv_iconst (v := (1 : Int32)) hx hb dL_law_211 (by decide) ?_
        refine lv_iadd hx hb dL_law_212 ?_
        refine va_sld hx hb hX hbl hbA hS i1 dL_law_213 ?_
        refine lv_aload_n hx hb dL_law_214 rfl (lv_at hl 0 rfl) ?_
        refine lv_iload_n hx hb dL_law_215 rfl (lv_at hl 3 rfl) ?_
        refine lv_iconst (v := (2 : Int32)) hx hb dL_law_216 (by decide) ?_
        refine lv_iadd hx hb dL_law_217 ?_
        refine va_sld hx hb hX hbl hbA hS i2 dL_law_218 ?_
        refine l_mi (l_runV S hgm hM trivial hkH (As := [.int (xs (nI (4 * k) + (1 : Int32)).toNatClampNeg), .int (xs (nI (4 * k) + (2 : Int32)).toNatClampNeg)]) (rest := [.int r]) (tX5_number l D ad2 cI cB _ _ _ _ hw) cv_yX5_number qm_L_35 (va_recv hM.2.1 hM.1 (ci := 5) (q0 := 0) rfl rfl) ⟨Nat.le_of_ble_eq_true rfl, Nat.le_of_ble_eq_true rfl⟩ rfl hl.1 rfl (Nat.le_of_ble_eq_true rfl) dL_law_219 ⟨Nat.le_of_ble_eq_true rfl, Nat.le_of_ble_eq_true rfl⟩) hS hmA hI hd (fun r2 v1 H locs hI hM hS hw => ?_)
        refine lv_icmp_eq (tgt := 662) hx hb dL_law_222 (by decide) (fun hz => ?_) (fun hz => absurd hw.1 hz)
        exact hgo u1 v1 H locs hI hM hS hw.2
      by_cases hk5 : z = (5 : Int32)
      · refine lv_tableIn (tgt := 227) (off := 195) hx hb dL_law_32 (by rw [hk5]; decide) (by rw [hk5]; decide) (by rw [hk5]; decide) (by decide) ?_
        refine lv_aload_n hx hb dL_law_227 rfl (lv_at hl 1 rfl) ?_
        refine lv_aload_n hx hb dL_law_228 rfl (lv_at hl 0 rfl) ?_
        refine lv_iload_n hx hb dL_law_229 rfl (lv_at hl 3 rfl) ?_
        refine lv_iconst (v := (1 : Int32)) hx hb dL_law_230 (by decide) ?_
        refine lv_iadd hx hb dL_law_231 ?_
        refine va_sld hx hb hX hbl hbA hS i1 dL_law_232 ?_
        refine lv_aload_n hx hb dL_law_233 rfl (lv_at hl 0 rfl) ?_
        refine lv_iload_n hx hb dL_law_234 rfl (lv_at hl 3 rfl) ?_
        refine lv_iconst (v := (2 : Int32)) hx hb dL_law_235 (by decide) ?_
        refine lv_iadd hx hb dL_law_236 ?_
        refine va_sld hx hb hX hbl hbA hS i2 dL_law_237 ?_
        have hw := hst.2.2.2.2.2.1 k u v ((xs (nI (4 * k) + (1 : Int32)).toNatClampNeg)) ((xs (nI (4 * k) + (2 : Int32)).toNatClampNeg)) hn6 hR
        refine l_xi (l_runV S hg hI hN hkH (As := [.int (xs (nI (4 * k) + (1 : Int32)).toNatClampNeg), .int (xs (nI (4 * k) + (2 : Int32)).toNatClampNeg)]) (rest := []) (tX4_as l D ad cI rk ks kv _ _ _ _ hw) cv_yX4_as qm_L_36 (va_recv hI.2.1 hI.1 (ci := 4) (q0 := 0) rfl rfl) ⟨Nat.le_of_ble_eq_true rfl, Nat.le_of_ble_eq_true rfl⟩ rfl hl.1 rfl (Nat.le_of_ble_eq_true rfl) dL_law_238 ⟨Nat.le_of_ble_eq_true rfl, Nat.le_of_ble_eq_true rfl⟩) hS hxA hM hd (fun r u1 H locs hI hM hS hw => ?_)
        have hkH : ∀ q : Nat, q < s.heap.size → ¬ mA ad2 q → H[q]? = s.heap[q]? := fun q z1 _ => hS.2.1 q z1 (Nat.not_le.mpr z1)
        refine lv_aload_n hx hb dL_law_241 rfl (lv_at hl 2 rfl) ?_
        refine lv_aload_n hx hb dL_law_242 rfl (lv_at hl 0 rfl) ?_
        refine lv_iload_n hx hb dL_law_243 rfl (lv_at hl 3 rfl) ?_
        refine lv_iconst (v := (1 : Int32)) hx hb dL_law_244 (by decide) ?_
        refine lv_iadd hx hb dL_law_245 ?_
        refine va_sld hx hb hX hbl hbA hS i1 dL_law_246 ?_
        refine lv_aload_n hx hb dL_law_247 rfl (lv_at hl 0 rfl) ?_
        refine lv_iload_n hx hb dL_law_248 rfl (lv_at hl 3 rfl) ?_
        refine lv_iconst (v := (2 : Int32)) hx hb dL_law_249 (by decide) ?_
        refine lv_iadd hx hb dL_law_250 ?_
        refine va_sld hx hb hX hbl hbA hS i2 dL_law_251 ?_
        refine l_mi (l_runV S hgm hM trivial hkH (As := [.int (xs (nI (4 * k) + (1 : Int32)).toNatClampNeg), .int (xs (nI (4 * k) + (2 : Int32)).toNatClampNeg)]) (rest := [.int r]) (tX5_as l D ad2 cI cB _ _ _ _ hw) cv_yX5_as qm_L_39 (va_recv hM.2.1 hM.1 (ci := 5) (q0 := 0) rfl rfl) ⟨Nat.le_of_ble_eq_true rfl, Nat.le_of_ble_eq_true rfl⟩ rfl hl.1 rfl (Nat.le_of_ble_eq_true rfl) dL_law_252 ⟨Nat.le_of_ble_eq_true rfl, Nat.le_of_ble_eq_true rfl⟩) hS hmA hI hd (fun r2 v1 H locs hI hM hS hw => ?_)
        refine lv_icmp_eq (tgt := 662) hx hb dL_law_255 (by decide) (fun hz => ?_) (fun hz => absurd hw.1 hz)
        exact hgo u1 v1 H locs hI hM hS hw.2
      by_cases hk6 : z = (6 : Int32)
      · refine lv_tableIn (tgt := 260) (off := 228) hx hb dL_law_32 (by rw [hk6]; decide) (by rw [hk6]; decide) (by rw [hk6]; decide) (by decide) ?_
        refine lv_aload_n hx hb dL_law_260 rfl (lv_at hl 1 rfl) ?_
        refine lv_aload_n hx hb dL_law_261 rfl (lv_at hl 0 rfl) ?_
        refine lv_iload_n hx hb dL_law_262 rfl (lv_at hl 3 rfl) ?_
        refine lv_iconst (v := (1 : Int32)) hx hb dL_law_263 (by decide) ?_
        refine lv_iadd hx hb dL_law_264 ?_
        refine va_sld hx hb hX hbl hbA hS i1 dL_law_265 ?_
        refine lv_aload_n hx hb dL_law_266 rfl (lv_at hl 0 rfl) ?_
        refine lv_iload_n hx hb dL_law_267 rfl (lv_at hl 3 rfl) ?_
        refine lv_iconst (v := (2 : Int32)) hx hb dL_law_268 (by decide) ?_
        refine lv_iadd hx hb dL_law_269 ?_
        refine va_sld hx hb hX hbl hbA hS i2 dL_law_270 ?_
        have hw := hst.2.2.2.2.2.2.1 k u v ((xs (nI (4 * k) + (1 : Int32)).toNatClampNeg)) ((xs (nI (4 * k) + (2 : Int32)).toNatClampNeg)) hn6 hR
        refine l_xi (l_runV S hg hI hN hkH (As := [.int (xs (nI (4 * k) + (1 : Int32)).toNatClampNeg), .int (xs (nI (4 * k) + (2 : Int32)).toNatClampNeg)]) (rest := []) (tX4_way l D ad cI rk ks kv _ _ _ _ hw) cv_yX4_way qm_L_40 (va_recv hI.2.1 hI.1 (ci := 4) (q0 := 0) rfl rfl) ⟨Nat.le_of_ble_eq_true rfl, Nat.le_of_ble_eq_true rfl⟩ rfl hl.1 rfl (Nat.le_of_ble_eq_true rfl) dL_law_271 ⟨Nat.le_of_ble_eq_true rfl, Nat.le_of_ble_eq_true rfl⟩) hS hxA hM hd (fun r u1 H locs hI hM hS hw => ?_)
        have hkH : ∀ q : Nat, q < s.heap.size → ¬ mA ad2 q → H[q]? = s.heap[q]? := fun q z1 _ => hS.2.1 q z1 (Nat.not_le.mpr z1)
        refine lv_aload_n hx hb dL_law_274 rfl (lv_at hl 2 rfl) ?_
        refine lv_aload_n hx hb dL_law_275 rfl (lv_at hl 0 rfl) ?_
        refine lv_iload_n hx hb dL_law_276 rfl (lv_at hl 3 rfl) ?_
        refine lv_iconst (v := (1 : Int32)) hx hb dL_law_277 (by decide) ?_
        refine lv_iadd hx hb dL_law_278 ?_
        refine va_sld hx hb hX hbl hbA hS i1 dL_law_279 ?_
        refine lv_aload_n hx hb dL_law_280 rfl (lv_at hl 0 rfl) ?_
        refine lv_iload_n hx hb dL_law_281 rfl (lv_at hl 3 rfl) ?_
        refine lv_iconst (v := (2 : Int32)) hx hb dL_law_282 (by decide) ?_
        refine lv_iadd hx hb dL_law_283 ?_
        refine va_sld hx hb hX hbl hbA hS i2 dL_law_284 ?_
        refine l_mi (l_runV S hgm hM trivial hkH (As := [.int (xs (nI (4 * k) + (1 : Int32)).toNatClampNeg), .int (xs (nI (4 * k) + (2 : Int32)).toNatClampNeg)]) (rest := [.int r]) (tX5_way l D ad2 cI cB _ _ _ _ hw) cv_yX5_way qm_L_43 (va_recv hM.2.1 hM.1 (ci := 5) (q0 := 0) rfl rfl) ⟨Nat.le_of_ble_eq_true rfl, Nat.le_of_ble_eq_true rfl⟩ rfl hl.1 rfl (Nat.le_of_ble_eq_true rfl) dL_law_285 ⟨Nat.le_of_ble_eq_true rfl, Nat.le_of_ble_eq_true rfl⟩) hS hmA hI hd (fun r2 v1 H locs hI hM hS hw => ?_)
        refine lv_icmp_eq (tgt := 662) hx hb dL_law_288 (by decide) (fun hz => ?_) (fun hz => absurd hw.1 hz)
        exact hgo u1 v1 H locs hI hM hS hw.2
      by_cases hk7 : z = (7 : Int32)
      · refine lv_tableIn (tgt := 293) (off := 261) hx hb dL_law_32 (by rw [hk7]; decide) (by rw [hk7]; decide) (by rw [hk7]; decide) (by decide) ?_
        refine lv_aload_n hx hb dL_law_293 rfl (lv_at hl 1 rfl) ?_
        refine lv_aload_n hx hb dL_law_294 rfl (lv_at hl 0 rfl) ?_
        refine lv_iload_n hx hb dL_law_295 rfl (lv_at hl 3 rfl) ?_
        refine lv_iconst (v := (1 : Int32)) hx hb dL_law_296 (by decide) ?_
        refine lv_iadd hx hb dL_law_297 ?_
        refine va_sld hx hb hX hbl hbA hS i1 dL_law_298 ?_
        refine lv_aload_n hx hb dL_law_299 rfl (lv_at hl 0 rfl) ?_
        refine lv_iload_n hx hb dL_law_300 rfl (lv_at hl 3 rfl) ?_
        refine lv_iconst (v := (2 : Int32)) hx hb dL_law_301 (by decide) ?_
        refine lv_iadd hx hb dL_law_302 ?_
        refine va_sld hx hb hX hbl hbA hS i2 dL_law_303 ?_
        have hw := hst.2.2.2.2.2.2.2.1 k u v ((xs (nI (4 * k) + (1 : Int32)).toNatClampNeg)) ((xs (nI (4 * k) + (2 : Int32)).toNatClampNeg)) hn6 hR
        refine l_xi (l_runV S hg hI hN hkH (As := [.int (xs (nI (4 * k) + (1 : Int32)).toNatClampNeg), .int (xs (nI (4 * k) + (2 : Int32)).toNatClampNeg)]) (rest := []) (tX4_paint l D ad cI rk ks kv _ _ _ _ hw) cv_yX4_paint qm_L_44 (va_recv hI.2.1 hI.1 (ci := 4) (q0 := 0) rfl rfl) ⟨Nat.le_of_ble_eq_true rfl, Nat.le_of_ble_eq_true rfl⟩ rfl hl.1 rfl (Nat.le_of_ble_eq_true rfl) dL_law_304 ⟨Nat.le_of_ble_eq_true rfl, Nat.le_of_ble_eq_true rfl⟩) hS hxA hM hd (fun r u1 H locs hI hM hS hw => ?_)
        have hkH : ∀ q : Nat, q < s.heap.size → ¬ mA ad2 q → H[q]? = s.heap[q]? := fun q z1 _ => hS.2.1 q z1 (Nat.not_le.mpr z1)
        refine lv_aload_n hx hb dL_law_307 rfl (lv_at hl 2 rfl) ?_
        refine lv_aload_n hx hb dL_law_308 rfl (lv_at hl 0 rfl) ?_
        refine lv_iload_n hx hb dL_law_309 rfl (lv_at hl 3 rfl) ?_
        refine lv_iconst (v := (1 : Int32)) hx hb dL_law_310 (by decide) ?_
        refine lv_iadd hx hb dL_law_311 ?_
        refine va_sld hx hb hX hbl hbA hS i1 dL_law_312 ?_
        refine lv_aload_n hx hb dL_law_313 rfl (lv_at hl 0 rfl) ?_
        refine lv_iload_n hx hb dL_law_314 rfl (lv_at hl 3 rfl) ?_
        refine lv_iconst (v := (2 : Int32)) hx hb dL_law_315 (by decide) ?_
        refine lv_iadd hx hb dL_law_316 ?_
        refine va_sld hx hb hX hbl hbA hS i2 dL_law_317 ?_
        refine l_mi (l_runV S hgm hM trivial hkH (As := [.int (xs (nI (4 * k) + (1 : Int32)).toNatClampNeg), .int (xs (nI (4 * k) + (2 : Int32)).toNatClampNeg)]) (rest := [.int r]) (tX5_paint l D ad2 cI cB _ _ _ _ hw) cv_yX5_paint qm_L_47 (va_recv hM.2.1 hM.1 (ci := 5) (q0 := 0) rfl rfl) ⟨Nat.le_of_ble_eq_true rfl, Nat.le_of_ble_eq_true rfl⟩ rfl hl.1 rfl (Nat.le_of_ble_eq_true rfl) dL_law_318 ⟨Nat.le_of_ble_eq_true rfl, Nat.le_of_ble_eq_true rfl⟩) hS hmA hI hd (fun r2 v1 H locs hI hM hS hw => ?_)
        refine lv_icmp_eq (tgt := 662) hx hb dL_law_321 (by decide) (fun hz => ?_) (fun hz => absurd hw.1 hz)
        exact hgo u1 v1 H locs hI hM hS hw.2
      by_cases hk8 : z = (8 : Int32)
      · refine lv_tableIn (tgt := 326) (off := 294) hx hb dL_law_32 (by rw [hk8]; decide) (by rw [hk8]; decide) (by rw [hk8]; decide) (by decide) ?_
        refine lv_aload_n hx hb dL_law_326 rfl (lv_at hl 1 rfl) ?_
        refine lv_aload_n hx hb dL_law_327 rfl (lv_at hl 0 rfl) ?_
        refine lv_iload_n hx hb dL_law_328 rfl (lv_at hl 3 rfl) ?_
        refine lv_iconst (v := (1 : Int32)) hx hb dL_law_329 (by decide) ?_
        refine lv_iadd hx hb dL_law_330 ?_
        refine va_sld hx hb hX hbl hbA hS i1 dL_law_331 ?_
        have hw := hst.2.2.2.2.2.2.2.2.1 k u v ((xs (nI (4 * k) + (1 : Int32)).toNatClampNeg)) hn6 hR
        refine l_xi (l_runV S hg hI hN hkH (As := [.int (xs (nI (4 * k) + (1 : Int32)).toNatClampNeg)]) (rest := []) (tX4_wipe l D ad cI rk ks kv _ _ _ hw) cv_yX4_wipe qm_L_48 (va_recv hI.2.1 hI.1 (ci := 4) (q0 := 0) rfl rfl) ⟨Nat.le_of_ble_eq_true rfl, Nat.le_of_ble_eq_true rfl⟩ rfl hl.1 rfl (Nat.le_of_ble_eq_true rfl) dL_law_332 ⟨Nat.le_of_ble_eq_true rfl, Nat.le_of_ble_eq_true rfl⟩) hS hxA hM hd (fun r u1 H locs hI hM hS hw => ?_)
        have hkH : ∀ q : Nat, q < s.heap.size → ¬ mA ad2 q → H[q]? = s.heap[q]? := fun q z1 _ => hS.2.1 q z1 (Nat.not_le.mpr z1)
        refine lv_aload_n hx hb dL_law_335 rfl (lv_at hl 2 rfl) ?_
        refine lv_aload_n hx hb dL_law_336 rfl (lv_at hl 0 rfl) ?_
        refine lv_iload_n hx hb dL_law_337 rfl (lv_at hl 3 rfl) ?_
        refine lv_iconst (v := (1 : Int32)) hx hb dL_law_338 (by decide) ?_
        refine lv_iadd hx hb dL_law_339 ?_
        refine va_sld hx hb hX hbl hbA hS i1 dL_law_340 ?_
        refine l_mi (l_runV S hgm hM trivial hkH (As := [.int (xs (nI (4 * k) + (1 : Int32)).toNatClampNeg)]) (rest := [.int r]) (tX5_wipe l D ad2 cI cB _ _ _ hw) cv_yX5_wipe qm_L_51 (va_recv hM.2.1 hM.1 (ci := 5) (q0 := 0) rfl rfl) ⟨Nat.le_of_ble_eq_true rfl, Nat.le_of_ble_eq_true rfl⟩ rfl hl.1 rfl (Nat.le_of_ble_eq_true rfl) dL_law_341 ⟨Nat.le_of_ble_eq_true rfl, Nat.le_of_ble_eq_true rfl⟩) hS hmA hI hd (fun r2 v1 H locs hI hM hS hw => ?_)
        refine lv_icmp_eq (tgt := 662) hx hb dL_law_344 (by decide) (fun hz => ?_) (fun hz => absurd hw.1 hz)
        exact hgo u1 v1 H locs hI hM hS hw.2
      by_cases hk9 : z = (9 : Int32)
      · refine lv_tableIn (tgt := 349) (off := 317) hx hb dL_law_32 (by rw [hk9]; decide) (by rw [hk9]; decide) (by rw [hk9]; decide) (by decide) ?_
        refine lv_aload_n hx hb dL_law_349 rfl (lv_at hl 1 rfl) ?_
        refine lv_aload_n hx hb dL_law_350 rfl (lv_at hl 0 rfl) ?_
        refine lv_iload_n hx hb dL_law_351 rfl (lv_at hl 3 rfl) ?_
        refine lv_iconst (v := (1 : Int32)) hx hb dL_law_352 (by decide) ?_
        refine lv_iadd hx hb dL_law_353 ?_
        refine va_sld hx hb hX hbl hbA hS i1 dL_law_354 ?_
        refine lv_aload_n hx hb dL_law_355 rfl (lv_at hl 0 rfl) ?_
        refine lv_iload_n hx hb dL_law_356 rfl (lv_at hl 3 rfl) ?_
        refine lv_iconst (v := (2 : Int32)) hx hb dL_law_357 (by decide) ?_
        refine lv_iadd hx hb dL_law_358 ?_
        refine va_sld hx hb hX hbl hbA hS i2 dL_law_359 ?_
        have hw := hst.2.2.2.2.2.2.2.2.2.1 k u v ((xs (nI (4 * k) + (1 : Int32)).toNatClampNeg)) ((xs (nI (4 * k) + (2 : Int32)).toNatClampNeg)) hn6 hR
        refine l_xi (l_runV S hg hI hN hkH (As := [.int (xs (nI (4 * k) + (1 : Int32)).toNatClampNeg), .int (xs (nI (4 * k) + (2 : Int32)).toNatClampNeg)]) (rest := []) (tX4_be l D ad cI rk ks kv _ _ _ _ hw) cv_yX4_be qm_L_52 (va_recv hI.2.1 hI.1 (ci := 4) (q0 := 0) rfl rfl) ⟨Nat.le_of_ble_eq_true rfl, Nat.le_of_ble_eq_true rfl⟩ rfl hl.1 rfl (Nat.le_of_ble_eq_true rfl) dL_law_360 ⟨Nat.le_of_ble_eq_true rfl, Nat.le_of_ble_eq_true rfl⟩) hS hxA hM hd (fun r u1 H locs hI hM hS hw => ?_)
        have hkH : ∀ q : Nat, q < s.heap.size → ¬ mA ad2 q → H[q]? = s.heap[q]? := fun q z1 _ => hS.2.1 q z1 (Nat.not_le.mpr z1)
        refine lv_aload_n hx hb dL_law_363 rfl (lv_at hl 2 rfl) ?_
        refine lv_aload_n hx hb dL_law_364 rfl (lv_at hl 0 rfl) ?_
        refine lv_iload_n hx hb dL_law_365 rfl (lv_at hl 3 rfl) ?_
        refine lv_iconst (v := (1 : Int32)) hx hb dL_law_366 (by decide) ?_
        refine lv_iadd hx hb dL_law_367 ?_
        refine va_sld hx hb hX hbl hbA hS i1 dL_law_368 ?_
        refine lv_aload_n hx hb dL_law_369 rfl (lv_at hl 0 rfl) ?_
        refine lv_iload_n hx hb dL_law_370 rfl (lv_at hl 3 rfl) ?_
        refine lv_iconst (v := (2 : Int32)) hx hb dL_law_371 (by decide) ?_
        refine lv_iadd hx hb dL_law_372 ?_
        refine va_sld hx hb hX hbl hbA hS i2 dL_law_373 ?_
        refine l_mi (l_runV S hgm hM trivial hkH (As := [.int (xs (nI (4 * k) + (1 : Int32)).toNatClampNeg), .int (xs (nI (4 * k) + (2 : Int32)).toNatClampNeg)]) (rest := [.int r]) (tX5_be l D ad2 cI cB _ _ _ _ hw) cv_yX5_be qm_L_55 (va_recv hM.2.1 hM.1 (ci := 5) (q0 := 0) rfl rfl) ⟨Nat.le_of_ble_eq_true rfl, Nat.le_of_ble_eq_true rfl⟩ rfl hl.1 rfl (Nat.le_of_ble_eq_true rfl) dL_law_374 ⟨Nat.le_of_ble_eq_true rfl, Nat.le_of_ble_eq_true rfl⟩) hS hmA hI hd (fun r2 v1 H locs hI hM hS hw => ?_)
        refine lv_icmp_eq (tgt := 662) hx hb dL_law_377 (by decide) (fun hz => ?_) (fun hz => absurd hw.1 hz)
        exact hgo u1 v1 H locs hI hM hS hw.2
      by_cases hk10 : z = (10 : Int32)
      · refine lv_tableIn (tgt := 382) (off := 350) hx hb dL_law_32 (by rw [hk10]; decide) (by rw [hk10]; decide) (by rw [hk10]; decide) (by decide) ?_
        refine lv_aload_n hx hb dL_law_382 rfl (lv_at hl 1 rfl) ?_
        refine lv_aload_n hx hb dL_law_383 rfl (lv_at hl 0 rfl) ?_
        refine lv_iload_n hx hb dL_law_384 rfl (lv_at hl 3 rfl) ?_
        refine lv_iconst (v := (1 : Int32)) hx hb dL_law_385 (by decide) ?_
        refine lv_iadd hx hb dL_law_386 ?_
        refine va_sld hx hb hX hbl hbA hS i1 dL_law_387 ?_
        have hw := hst.2.2.2.2.2.2.2.2.2.2.1 k u v ((xs (nI (4 * k) + (1 : Int32)).toNatClampNeg)) hn6 hR
        refine l_xi (l_runV S hg hI hN hkH (As := [.int (xs (nI (4 * k) + (1 : Int32)).toNatClampNeg)]) (rest := []) (tX4_ways l D ad cI rk ks kv _ _ _ hw) cv_yX4_ways qm_L_56 (va_recv hI.2.1 hI.1 (ci := 4) (q0 := 0) rfl rfl) ⟨Nat.le_of_ble_eq_true rfl, Nat.le_of_ble_eq_true rfl⟩ rfl hl.1 rfl (Nat.le_of_ble_eq_true rfl) dL_law_388 ⟨Nat.le_of_ble_eq_true rfl, Nat.le_of_ble_eq_true rfl⟩) hS hxA hM hd (fun r u1 H locs hI hM hS hw => ?_)
        have hkH : ∀ q : Nat, q < s.heap.size → ¬ mA ad2 q → H[q]? = s.heap[q]? := fun q z1 _ => hS.2.1 q z1 (Nat.not_le.mpr z1)
        refine lv_aload_n hx hb dL_law_391 rfl (lv_at hl 2 rfl) ?_
        refine lv_aload_n hx hb dL_law_392 rfl (lv_at hl 0 rfl) ?_
        refine lv_iload_n hx hb dL_law_393 rfl (lv_at hl 3 rfl) ?_
        refine lv_iconst (v := (1 : Int32)) hx hb dL_law_394 (by decide) ?_
        refine lv_iadd hx hb dL_law_395 ?_
        refine va_sld hx hb hX hbl hbA hS i1 dL_law_396 ?_
        refine l_mi (l_runV S hgm hM trivial hkH (As := [.int (xs (nI (4 * k) + (1 : Int32)).toNatClampNeg)]) (rest := [.int r]) (tX5_ways l D ad2 cI cB _ _ _ hw) cv_yX5_ways qm_L_59 (va_recv hM.2.1 hM.1 (ci := 5) (q0 := 0) rfl rfl) ⟨Nat.le_of_ble_eq_true rfl, Nat.le_of_ble_eq_true rfl⟩ rfl hl.1 rfl (Nat.le_of_ble_eq_true rfl) dL_law_397 ⟨Nat.le_of_ble_eq_true rfl, Nat.le_of_ble_eq_true rfl⟩) hS hmA hI hd (fun r2 v1 H locs hI hM hS hw => ?_)
        refine lv_icmp_eq (tgt := 662) hx hb dL_law_400 (by decide) (fun hz => ?_) (fun hz => absurd hw.1 hz)
        exact hgo u1 v1 H locs hI hM hS hw.2
      by_cases hk11 : z = (11 : Int32)
      · refine lv_tableIn (tgt := 405) (off := 373) hx hb dL_law_32 (by rw [hk11]; decide) (by rw [hk11]; decide) (by rw [hk11]; decide) (by decide) ?_
        refine lv_aload_n hx hb dL_law_405 rfl (lv_at hl 1 rfl) ?_
        have hw := hst.2.2.2.2.2.2.2.2.2.2.2.1 k u v  hn6 hR
        refine l_xi (l_runV S hg hI hN hkH (As := []) (rest := []) (tX4_mend l D ad cI rk ks kv  _ _ hw) cv_yX4_mend qm_L_60 (va_recv hI.2.1 hI.1 (ci := 4) (q0 := 0) rfl rfl) ⟨Nat.le_of_ble_eq_true rfl, Nat.le_of_ble_eq_true rfl⟩ rfl hl.1 rfl (Nat.le_of_ble_eq_true rfl) dL_law_406 ⟨Nat.le_of_ble_eq_true rfl, Nat.le_of_ble_eq_true rfl⟩) hS hxA hM hd (fun r u1 H locs hI hM hS hw => ?_)
        have hkH : ∀ q : Nat, q < s.heap.size → ¬ mA ad2 q → H[q]? = s.heap[q]? := fun q z1 _ => hS.2.1 q z1 (Nat.not_le.mpr z1)
        refine lv_aload_n hx hb dL_law_409 rfl (lv_at hl 2 rfl) ?_
        refine l_mi (l_runV S hgm hM trivial hkH (As := []) (rest := [.int r]) (tX5_mend l D ad2 cI cB  _ _ hw) cv_yX5_mend qm_L_63 (va_recv hM.2.1 hM.1 (ci := 5) (q0 := 0) rfl rfl) ⟨Nat.le_of_ble_eq_true rfl, Nat.le_of_ble_eq_true rfl⟩ rfl hl.1 rfl (Nat.le_of_ble_eq_true rfl) dL_law_410 ⟨Nat.le_of_ble_eq_true rfl, Nat.le_of_ble_eq_true rfl⟩) hS hmA hI hd (fun r2 v1 H locs hI hM hS hw => ?_)
        refine lv_icmp_eq (tgt := 662) hx hb dL_law_413 (by decide) (fun hz => ?_) (fun hz => absurd hw.1 hz)
        exact hgo u1 v1 H locs hI hM hS hw.2
      by_cases hk12 : z = (12 : Int32)
      · refine lv_tableIn (tgt := 418) (off := 386) hx hb dL_law_32 (by rw [hk12]; decide) (by rw [hk12]; decide) (by rw [hk12]; decide) (by decide) ?_
        refine lv_aload_n hx hb dL_law_418 rfl (lv_at hl 1 rfl) ?_
        refine lv_aload_n hx hb dL_law_419 rfl (lv_at hl 0 rfl) ?_
        refine lv_iload_n hx hb dL_law_420 rfl (lv_at hl 3 rfl) ?_
        refine lv_iconst (v := (1 : Int32)) hx hb dL_law_421 (by decide) ?_
        refine lv_iadd hx hb dL_law_422 ?_
        refine va_sld hx hb hX hbl hbA hS i1 dL_law_423 ?_
        have hw := hst.2.2.2.2.2.2.2.2.2.2.2.2.1 k u v ((xs (nI (4 * k) + (1 : Int32)).toNatClampNeg)) hn6 hR
        refine l_xi (l_runV S hg hI hN hkH (As := [.int (xs (nI (4 * k) + (1 : Int32)).toNatClampNeg)]) (rest := []) (tX4_wins l D ad cI rk ks kv _ _ _ hw) cv_yX4_wins qm_L_64 (va_recv hI.2.1 hI.1 (ci := 4) (q0 := 0) rfl rfl) ⟨Nat.le_of_ble_eq_true rfl, Nat.le_of_ble_eq_true rfl⟩ rfl hl.1 rfl (Nat.le_of_ble_eq_true rfl) dL_law_424 ⟨Nat.le_of_ble_eq_true rfl, Nat.le_of_ble_eq_true rfl⟩) hS hxA hM hd (fun r u1 H locs hI hM hS hw => ?_)
        have hkH : ∀ q : Nat, q < s.heap.size → ¬ mA ad2 q → H[q]? = s.heap[q]? := fun q z1 _ => hS.2.1 q z1 (Nat.not_le.mpr z1)
        refine lv_aload_n hx hb dL_law_427 rfl (lv_at hl 2 rfl) ?_
        refine lv_aload_n hx hb dL_law_428 rfl (lv_at hl 0 rfl) ?_
        refine lv_iload_n hx hb dL_law_429 rfl (lv_at hl 3 rfl) ?_
        refine lv_iconst (v := (1 : Int32)) hx hb dL_law_430 (by decide) ?_
        refine lv_iadd hx hb dL_law_431 ?_
        refine va_sld hx hb hX hbl hbA hS i1 dL_law_432 ?_
        refine l_mi (l_runV S hgm hM trivial hkH (As := [.int (xs (nI (4 * k) + (1 : Int32)).toNatClampNeg)]) (rest := [.int r]) (tX5_wins l D ad2 cI cB _ _ _ hw) cv_yX5_wins qm_L_67 (va_recv hM.2.1 hM.1 (ci := 5) (q0 := 0) rfl rfl) ⟨Nat.le_of_ble_eq_true rfl, Nat.le_of_ble_eq_true rfl⟩ rfl hl.1 rfl (Nat.le_of_ble_eq_true rfl) dL_law_433 ⟨Nat.le_of_ble_eq_true rfl, Nat.le_of_ble_eq_true rfl⟩) hS hmA hI hd (fun r2 v1 H locs hI hM hS hw => ?_)
        refine lv_icmp_eq (tgt := 662) hx hb dL_law_436 (by decide) (fun hz => ?_) (fun hz => absurd hw.1 hz)
        exact hgo u1 v1 H locs hI hM hS hw.2
      by_cases hk13 : z = (13 : Int32)
      · refine lv_tableIn (tgt := 441) (off := 409) hx hb dL_law_32 (by rw [hk13]; decide) (by rw [hk13]; decide) (by rw [hk13]; decide) (by decide) ?_
        refine lv_aload_n hx hb dL_law_441 rfl (lv_at hl 1 rfl) ?_
        refine lv_aload_n hx hb dL_law_442 rfl (lv_at hl 0 rfl) ?_
        refine lv_iload_n hx hb dL_law_443 rfl (lv_at hl 3 rfl) ?_
        refine lv_iconst (v := (1 : Int32)) hx hb dL_law_444 (by decide) ?_
        refine lv_iadd hx hb dL_law_445 ?_
        refine va_sld hx hb hX hbl hbA hS i1 dL_law_446 ?_
        refine lv_aload_n hx hb dL_law_447 rfl (lv_at hl 0 rfl) ?_
        refine lv_iload_n hx hb dL_law_448 rfl (lv_at hl 3 rfl) ?_
        refine lv_iconst (v := (2 : Int32)) hx hb dL_law_449 (by decide) ?_
        refine lv_iadd hx hb dL_law_450 ?_
        refine va_sld hx hb hX hbl hbA hS i2 dL_law_451 ?_
        refine lv_aload_n hx hb dL_law_452 rfl (lv_at hl 0 rfl) ?_
        refine lv_iload_n hx hb dL_law_453 rfl (lv_at hl 3 rfl) ?_
        refine lv_iconst (v := (3 : Int32)) hx hb dL_law_454 (by decide) ?_
        refine lv_iadd hx hb dL_law_455 ?_
        refine va_sld hx hb hX hbl hbA hS i3 dL_law_456 ?_
        have hw := hst.2.2.2.2.2.2.2.2.2.2.2.2.2.1 k u v ((xs (nI (4 * k) + (1 : Int32)).toNatClampNeg)) ((xs (nI (4 * k) + (2 : Int32)).toNatClampNeg)) ((xs (nI (4 * k) + (3 : Int32)).toNatClampNeg)) hn6 hR
        refine l_xi (l_runV S hg hI hN hkH (As := [.int (xs (nI (4 * k) + (1 : Int32)).toNatClampNeg), .int (xs (nI (4 * k) + (2 : Int32)).toNatClampNeg), .int (xs (nI (4 * k) + (3 : Int32)).toNatClampNeg)]) (rest := []) (tX4_odds l D ad cI rk ks kv _ _ _ _ _ hw) cv_yX4_odds qm_L_68 (va_recv hI.2.1 hI.1 (ci := 4) (q0 := 0) rfl rfl) ⟨Nat.le_of_ble_eq_true rfl, Nat.le_of_ble_eq_true rfl⟩ rfl hl.1 rfl (Nat.le_of_ble_eq_true rfl) dL_law_457 ⟨Nat.le_of_ble_eq_true rfl, Nat.le_of_ble_eq_true rfl⟩) hS hxA hM hd (fun r u1 H locs hI hM hS hw => ?_)
        have hkH : ∀ q : Nat, q < s.heap.size → ¬ mA ad2 q → H[q]? = s.heap[q]? := fun q z1 _ => hS.2.1 q z1 (Nat.not_le.mpr z1)
        refine lv_aload_n hx hb dL_law_460 rfl (lv_at hl 2 rfl) ?_
        refine lv_aload_n hx hb dL_law_461 rfl (lv_at hl 0 rfl) ?_
        refine lv_iload_n hx hb dL_law_462 rfl (lv_at hl 3 rfl) ?_
        refine lv_iconst (v := (1 : Int32)) hx hb dL_law_463 (by decide) ?_
        refine lv_iadd hx hb dL_law_464 ?_
        refine va_sld hx hb hX hbl hbA hS i1 dL_law_465 ?_
        refine lv_aload_n hx hb dL_law_466 rfl (lv_at hl 0 rfl) ?_
        refine lv_iload_n hx hb dL_law_467 rfl (lv_at hl 3 rfl) ?_
        refine lv_iconst (v := (2 : Int32)) hx hb dL_law_468 (by decide) ?_
        refine lv_iadd hx hb dL_law_469 ?_
        refine va_sld hx hb hX hbl hbA hS i2 dL_law_470 ?_
        refine lv_aload_n hx hb dL_law_471 rfl (lv_at hl 0 rfl) ?_
        refine lv_iload_n hx hb dL_law_472 rfl (lv_at hl 3 rfl) ?_
        refine lv_iconst (v := (3 : Int32)) hx hb dL_law_473 (by decide) ?_
        refine lv_iadd hx hb dL_law_474 ?_
        refine va_sld hx hb hX hbl hbA hS i3 dL_law_475 ?_
        refine l_mi (l_runV S hgm hM trivial hkH (As := [.int (xs (nI (4 * k) + (1 : Int32)).toNatClampNeg), .int (xs (nI (4 * k) + (2 : Int32)).toNatClampNeg), .int (xs (nI (4 * k) + (3 : Int32)).toNatClampNeg)]) (rest := [.int r]) (tX5_odds l D ad2 cI cB _ _ _ _ _ hw) cv_yX5_odds qm_L_72 (va_recv hM.2.1 hM.1 (ci := 5) (q0 := 0) rfl rfl) ⟨Nat.le_of_ble_eq_true rfl, Nat.le_of_ble_eq_true rfl⟩ rfl hl.1 rfl (Nat.le_of_ble_eq_true rfl) dL_law_476 ⟨Nat.le_of_ble_eq_true rfl, Nat.le_of_ble_eq_true rfl⟩) hS hmA hI hd (fun r2 v1 H locs hI hM hS hw => ?_)
        refine lv_icmp_eq (tgt := 662) hx hb dL_law_479 (by decide) (fun hz => ?_) (fun hz => absurd hw.1 hz)
        exact hgo u1 v1 H locs hI hM hS hw.2
      by_cases hk14 : z = (14 : Int32)
      · refine lv_tableIn (tgt := 484) (off := 452) hx hb dL_law_32 (by rw [hk14]; decide) (by rw [hk14]; decide) (by rw [hk14]; decide) (by decide) ?_
        refine lv_aload_n hx hb dL_law_484 rfl (lv_at hl 1 rfl) ?_
        refine lv_aload_n hx hb dL_law_485 rfl (lv_at hl 0 rfl) ?_
        refine lv_iload_n hx hb dL_law_486 rfl (lv_at hl 3 rfl) ?_
        refine lv_iconst (v := (1 : Int32)) hx hb dL_law_487 (by decide) ?_
        refine lv_iadd hx hb dL_law_488 ?_
        refine va_sld hx hb hX hbl hbA hS i1 dL_law_489 ?_
        refine lv_aload_n hx hb dL_law_490 rfl (lv_at hl 0 rfl) ?_
        refine lv_iload_n hx hb dL_law_491 rfl (lv_at hl 3 rfl) ?_
        refine lv_iconst (v := (2 : Int32)) hx hb dL_law_492 (by decide) ?_
        refine lv_iadd hx hb dL_law_493 ?_
        refine va_sld hx hb hX hbl hbA hS i2 dL_law_494 ?_
        refine lv_aload_n hx hb dL_law_495 rfl (lv_at hl 0 rfl) ?_
        refine lv_iload_n hx hb dL_law_496 rfl (lv_at hl 3 rfl) ?_
        refine lv_iconst (v := (3 : Int32)) hx hb dL_law_497 (by decide) ?_
        refine lv_iadd hx hb dL_law_498 ?_
        refine va_sld hx hb hX hbl hbA hS i3 dL_law_499 ?_
        refine lv_if_eq (tgt := 507) hx hb dL_law_500 (by decide) (fun hz => ?_) (fun hz => ?_)
        · have hb0 := hz
          refine lv_iconst (v := (0 : Int32)) hx hb dL_law_507 (by decide) ?_
          have hw := hst.2.2.2.2.2.2.2.2.2.2.2.2.2.2.1 k u v ((xs (nI (4 * k) + (1 : Int32)).toNatClampNeg)) ((xs (nI (4 * k) + (2 : Int32)).toNatClampNeg)) ((0 : Int32)) hn6 hR (Or.inl rfl)
          refine l_xi (l_runV S hg hI hN hkH (As := [.int (xs (nI (4 * k) + (1 : Int32)).toNatClampNeg), .int (xs (nI (4 * k) + (2 : Int32)).toNatClampNeg), .int (0 : Int32)]) (rest := []) (tX4_see l D ad cI rk ks kv _ _ _ _ _ hw) cv_yX4_see qm_L_73 (va_recv hI.2.1 hI.1 (ci := 4) (q0 := 0) rfl rfl) ⟨Nat.le_of_ble_eq_true rfl, Nat.le_of_ble_eq_true rfl⟩ rfl hl.1 rfl (Nat.le_of_ble_eq_true rfl) dL_law_508 ⟨Nat.le_of_ble_eq_true rfl, Nat.le_of_ble_eq_true rfl⟩) hS hxA hM hd (fun r u1 H locs hI hM hS hw => ?_)
          have hkH : ∀ q : Nat, q < s.heap.size → ¬ mA ad2 q → H[q]? = s.heap[q]? := fun q z1 _ => hS.2.1 q z1 (Nat.not_le.mpr z1)
          refine lv_aload_n hx hb dL_law_511 rfl (lv_at hl 2 rfl) ?_
          refine lv_aload_n hx hb dL_law_512 rfl (lv_at hl 0 rfl) ?_
          refine lv_iload_n hx hb dL_law_513 rfl (lv_at hl 3 rfl) ?_
          refine lv_iconst (v := (1 : Int32)) hx hb dL_law_514 (by decide) ?_
          refine lv_iadd hx hb dL_law_515 ?_
          refine va_sld hx hb hX hbl hbA hS i1 dL_law_516 ?_
          refine lv_aload_n hx hb dL_law_517 rfl (lv_at hl 0 rfl) ?_
          refine lv_iload_n hx hb dL_law_518 rfl (lv_at hl 3 rfl) ?_
          refine lv_iconst (v := (2 : Int32)) hx hb dL_law_519 (by decide) ?_
          refine lv_iadd hx hb dL_law_520 ?_
          refine va_sld hx hb hX hbl hbA hS i2 dL_law_521 ?_
          refine lv_aload_n hx hb dL_law_522 rfl (lv_at hl 0 rfl) ?_
          refine lv_iload_n hx hb dL_law_523 rfl (lv_at hl 3 rfl) ?_
          refine lv_iconst (v := (3 : Int32)) hx hb dL_law_524 (by decide) ?_
          refine lv_iadd hx hb dL_law_525 ?_
          refine va_sld hx hb hX hbl hbA hS i3 dL_law_526 ?_
          refine lv_if_eq (tgt := 534) hx hb dL_law_527 (by decide) (fun hz => ?_) (fun hz => ?_)
          rotate_left
          · exact absurd hb0 hz
          refine lv_iconst (v := (0 : Int32)) hx hb dL_law_534 (by decide) ?_
          refine l_mi (l_runV S hgm hM trivial hkH (As := [.int (xs (nI (4 * k) + (1 : Int32)).toNatClampNeg), .int (xs (nI (4 * k) + (2 : Int32)).toNatClampNeg), .int (0 : Int32)]) (rest := [.int r]) (tX5_see l D ad2 cI cB _ _ _ _ _ hw) cv_yX5_see qm_L_77 (va_recv hM.2.1 hM.1 (ci := 5) (q0 := 0) rfl rfl) ⟨Nat.le_of_ble_eq_true rfl, Nat.le_of_ble_eq_true rfl⟩ rfl hl.1 rfl (Nat.le_of_ble_eq_true rfl) dL_law_535 ⟨Nat.le_of_ble_eq_true rfl, Nat.le_of_ble_eq_true rfl⟩) hS hmA hI hd (fun r2 v1 H locs hI hM hS hw => ?_)
          refine lv_icmp_eq (tgt := 662) hx hb dL_law_538 (by decide) (fun hz => ?_) (fun hz => absurd hw.1 hz)
          exact hgo u1 v1 H locs hI hM hS hw.2
        · have hb0 := hz
          refine lv_iconst (v := (1 : Int32)) hx hb dL_law_503 (by decide) ?_
          refine lv_goto (tgt := 508) hx hb dL_law_504 (by decide) ?_
          have hw := hst.2.2.2.2.2.2.2.2.2.2.2.2.2.2.1 k u v ((xs (nI (4 * k) + (1 : Int32)).toNatClampNeg)) ((xs (nI (4 * k) + (2 : Int32)).toNatClampNeg)) ((1 : Int32)) hn6 hR (Or.inr rfl)
          refine l_xi (l_runV S hg hI hN hkH (As := [.int (xs (nI (4 * k) + (1 : Int32)).toNatClampNeg), .int (xs (nI (4 * k) + (2 : Int32)).toNatClampNeg), .int (1 : Int32)]) (rest := []) (tX4_see l D ad cI rk ks kv _ _ _ _ _ hw) cv_yX4_see qm_L_73 (va_recv hI.2.1 hI.1 (ci := 4) (q0 := 0) rfl rfl) ⟨Nat.le_of_ble_eq_true rfl, Nat.le_of_ble_eq_true rfl⟩ rfl hl.1 rfl (Nat.le_of_ble_eq_true rfl) dL_law_508 ⟨Nat.le_of_ble_eq_true rfl, Nat.le_of_ble_eq_true rfl⟩) hS hxA hM hd (fun r u1 H locs hI hM hS hw => ?_)
          have hkH : ∀ q : Nat, q < s.heap.size → ¬ mA ad2 q → H[q]? = s.heap[q]? := fun q z1 _ => hS.2.1 q z1 (Nat.not_le.mpr z1)
          refine lv_aload_n hx hb dL_law_511 rfl (lv_at hl 2 rfl) ?_
          refine lv_aload_n hx hb dL_law_512 rfl (lv_at hl 0 rfl) ?_
          refine lv_iload_n hx hb dL_law_513 rfl (lv_at hl 3 rfl) ?_
          refine lv_iconst (v := (1 : Int32)) hx hb dL_law_514 (by decide) ?_
          refine lv_iadd hx hb dL_law_515 ?_
          refine va_sld hx hb hX hbl hbA hS i1 dL_law_516 ?_
          refine lv_aload_n hx hb dL_law_517 rfl (lv_at hl 0 rfl) ?_
          refine lv_iload_n hx hb dL_law_518 rfl (lv_at hl 3 rfl) ?_
          refine lv_iconst (v := (2 : Int32)) hx hb dL_law_519 (by decide) ?_
          refine lv_iadd hx hb dL_law_520 ?_
          refine va_sld hx hb hX hbl hbA hS i2 dL_law_521 ?_
          refine lv_aload_n hx hb dL_law_522 rfl (lv_at hl 0 rfl) ?_
          refine lv_iload_n hx hb dL_law_523 rfl (lv_at hl 3 rfl) ?_
          refine lv_iconst (v := (3 : Int32)) hx hb dL_law_524 (by decide) ?_
          refine lv_iadd hx hb dL_law_525 ?_
          refine va_sld hx hb hX hbl hbA hS i3 dL_law_526 ?_
          refine lv_if_eq (tgt := 534) hx hb dL_law_527 (by decide) (fun hz => ?_) (fun hz => ?_)
          · exact absurd hz hb0
          refine lv_iconst (v := (1 : Int32)) hx hb dL_law_530 (by decide) ?_
          refine lv_goto (tgt := 535) hx hb dL_law_531 (by decide) ?_
          refine l_mi (l_runV S hgm hM trivial hkH (As := [.int (xs (nI (4 * k) + (1 : Int32)).toNatClampNeg), .int (xs (nI (4 * k) + (2 : Int32)).toNatClampNeg), .int (1 : Int32)]) (rest := [.int r]) (tX5_see l D ad2 cI cB _ _ _ _ _ hw) cv_yX5_see qm_L_77 (va_recv hM.2.1 hM.1 (ci := 5) (q0 := 0) rfl rfl) ⟨Nat.le_of_ble_eq_true rfl, Nat.le_of_ble_eq_true rfl⟩ rfl hl.1 rfl (Nat.le_of_ble_eq_true rfl) dL_law_535 ⟨Nat.le_of_ble_eq_true rfl, Nat.le_of_ble_eq_true rfl⟩) hS hmA hI hd (fun r2 v1 H locs hI hM hS hw => ?_)
          refine lv_icmp_eq (tgt := 662) hx hb dL_law_538 (by decide) (fun hz => ?_) (fun hz => absurd hw.1 hz)
          exact hgo u1 v1 H locs hI hM hS hw.2
      by_cases hk15 : z = (15 : Int32)
      · refine lv_tableIn (tgt := 543) (off := 511) hx hb dL_law_32 (by rw [hk15]; decide) (by rw [hk15]; decide) (by rw [hk15]; decide) (by decide) ?_
        refine lv_aload_n hx hb dL_law_543 rfl (lv_at hl 1 rfl) ?_
        have hw := hst.2.2.2.2.2.2.2.2.2.2.2.2.2.2.2.1 k u v  hn6 hR
        refine l_xi (l_runV S hg hI hN hkH (As := []) (rest := []) (tX4_forget l D ad cI rk ks kv  _ _ hw) cv_yX4_forget qm_L_78 (va_recv hI.2.1 hI.1 (ci := 4) (q0 := 0) rfl rfl) ⟨Nat.le_of_ble_eq_true rfl, Nat.le_of_ble_eq_true rfl⟩ rfl hl.1 rfl (Nat.le_of_ble_eq_true rfl) dL_law_544 ⟨Nat.le_of_ble_eq_true rfl, Nat.le_of_ble_eq_true rfl⟩) hS hxA hM hd (fun r u1 H locs hI hM hS hw => ?_)
        have hkH : ∀ q : Nat, q < s.heap.size → ¬ mA ad2 q → H[q]? = s.heap[q]? := fun q z1 _ => hS.2.1 q z1 (Nat.not_le.mpr z1)
        refine lv_aload_n hx hb dL_law_547 rfl (lv_at hl 2 rfl) ?_
        refine l_mi (l_runV S hgm hM trivial hkH (As := []) (rest := [.int r]) (tX5_forget l D ad2 cI cB  _ _ hw) cv_yX5_forget qm_L_81 (va_recv hM.2.1 hM.1 (ci := 5) (q0 := 0) rfl rfl) ⟨Nat.le_of_ble_eq_true rfl, Nat.le_of_ble_eq_true rfl⟩ rfl hl.1 rfl (Nat.le_of_ble_eq_true rfl) dL_law_548 ⟨Nat.le_of_ble_eq_true rfl, Nat.le_of_ble_eq_true rfl⟩) hS hmA hI hd (fun r2 v1 H locs hI hM hS hw => ?_)
        refine lv_icmp_eq (tgt := 662) hx hb dL_law_551 (by decide) (fun hz => ?_) (fun hz => absurd hw.1 hz)
        exact hgo u1 v1 H locs hI hM hS hw.2
      by_cases hk16 : z = (16 : Int32)
      · refine lv_tableIn (tgt := 556) (off := 524) hx hb dL_law_32 (by rw [hk16]; decide) (by rw [hk16]; decide) (by rw [hk16]; decide) (by decide) ?_
        refine lv_aload_n hx hb dL_law_556 rfl (lv_at hl 1 rfl) ?_
        refine lv_aload_n hx hb dL_law_557 rfl (lv_at hl 0 rfl) ?_
        refine lv_iload_n hx hb dL_law_558 rfl (lv_at hl 3 rfl) ?_
        refine lv_iconst (v := (1 : Int32)) hx hb dL_law_559 (by decide) ?_
        refine lv_iadd hx hb dL_law_560 ?_
        refine va_sld hx hb hX hbl hbA hS i1 dL_law_561 ?_
        refine lv_aload_n hx hb dL_law_562 rfl (lv_at hl 0 rfl) ?_
        refine lv_iload_n hx hb dL_law_563 rfl (lv_at hl 3 rfl) ?_
        refine lv_iconst (v := (2 : Int32)) hx hb dL_law_564 (by decide) ?_
        refine lv_iadd hx hb dL_law_565 ?_
        refine va_sld hx hb hX hbl hbA hS i2 dL_law_566 ?_
        refine lv_aload_n hx hb dL_law_567 rfl (lv_at hl 0 rfl) ?_
        refine lv_iload_n hx hb dL_law_568 rfl (lv_at hl 3 rfl) ?_
        refine lv_iconst (v := (3 : Int32)) hx hb dL_law_569 (by decide) ?_
        refine lv_iadd hx hb dL_law_570 ?_
        refine va_sld hx hb hX hbl hbA hS i3 dL_law_571 ?_
        have hw := hst.2.2.2.2.2.2.2.2.2.2.2.2.2.2.2.2.1 k u v ((xs (nI (4 * k) + (1 : Int32)).toNatClampNeg)) ((xs (nI (4 * k) + (2 : Int32)).toNatClampNeg)) ((xs (nI (4 * k) + (3 : Int32)).toNatClampNeg)) hn6 hR
        refine l_xi (l_runV S hg hI hN hkH (As := [.int (xs (nI (4 * k) + (1 : Int32)).toNatClampNeg), .int (xs (nI (4 * k) + (2 : Int32)).toNatClampNeg), .int (xs (nI (4 * k) + (3 : Int32)).toNatClampNeg)]) (rest := []) (tX4_paintings l D ad cI rk ks kv _ _ _ _ _ hw) cv_yX4_paintings qm_L_82 (va_recv hI.2.1 hI.1 (ci := 4) (q0 := 0) rfl rfl) ⟨Nat.le_of_ble_eq_true rfl, Nat.le_of_ble_eq_true rfl⟩ rfl hl.1 rfl (Nat.le_of_ble_eq_true rfl) dL_law_572 ⟨Nat.le_of_ble_eq_true rfl, Nat.le_of_ble_eq_true rfl⟩) hS hxA hM hd (fun r u1 H locs hI hM hS hw => ?_)
        have hkH : ∀ q : Nat, q < s.heap.size → ¬ mA ad2 q → H[q]? = s.heap[q]? := fun q z1 _ => hS.2.1 q z1 (Nat.not_le.mpr z1)
        refine lv_aload_n hx hb dL_law_575 rfl (lv_at hl 2 rfl) ?_
        refine lv_aload_n hx hb dL_law_576 rfl (lv_at hl 0 rfl) ?_
        refine lv_iload_n hx hb dL_law_577 rfl (lv_at hl 3 rfl) ?_
        refine lv_iconst (v := (1 : Int32)) hx hb dL_law_578 (by decide) ?_
        refine lv_iadd hx hb dL_law_579 ?_
        refine va_sld hx hb hX hbl hbA hS i1 dL_law_580 ?_
        refine lv_aload_n hx hb dL_law_581 rfl (lv_at hl 0 rfl) ?_
        refine lv_iload_n hx hb dL_law_582 rfl (lv_at hl 3 rfl) ?_
        refine lv_iconst (v := (2 : Int32)) hx hb dL_law_583 (by decide) ?_
        refine lv_iadd hx hb dL_law_584 ?_
        refine va_sld hx hb hX hbl hbA hS i2 dL_law_585 ?_
        refine lv_aload_n hx hb dL_law_586 rfl (lv_at hl 0 rfl) ?_
        refine lv_iload_n hx hb dL_law_587 rfl (lv_at hl 3 rfl) ?_
        refine lv_iconst (v := (3 : Int32)) hx hb dL_law_588 (by decide) ?_
        refine lv_iadd hx hb dL_law_589 ?_
        refine va_sld hx hb hX hbl hbA hS i3 dL_law_590 ?_
        refine l_mi (l_runV S hgm hM trivial hkH (As := [.int (xs (nI (4 * k) + (1 : Int32)).toNatClampNeg), .int (xs (nI (4 * k) + (2 : Int32)).toNatClampNeg), .int (xs (nI (4 * k) + (3 : Int32)).toNatClampNeg)]) (rest := [.int r]) (tX5_paintings l D ad2 cI cB _ _ _ _ _ hw) cv_yX5_paintings qm_L_85 (va_recv hM.2.1 hM.1 (ci := 5) (q0 := 0) rfl rfl) ⟨Nat.le_of_ble_eq_true rfl, Nat.le_of_ble_eq_true rfl⟩ rfl hl.1 rfl (Nat.le_of_ble_eq_true rfl) dL_law_591 ⟨Nat.le_of_ble_eq_true rfl, Nat.le_of_ble_eq_true rfl⟩) hS hmA hI hd (fun r2 v1 H locs hI hM hS hw => ?_)
        refine lv_icmp_eq (tgt := 662) hx hb dL_law_594 (by decide) (fun hz => ?_) (fun hz => absurd hw.1 hz)
        exact hgo u1 v1 H locs hI hM hS hw.2
      by_cases hk17 : z = (17 : Int32)
      · refine lv_tableIn (tgt := 599) (off := 567) hx hb dL_law_32 (by rw [hk17]; decide) (by rw [hk17]; decide) (by rw [hk17]; decide) (by decide) ?_
        refine lv_aload_n hx hb dL_law_599 rfl (lv_at hl 1 rfl) ?_
        have hw := hst.2.2.2.2.2.2.2.2.2.2.2.2.2.2.2.2.2.1 k u v  hn6 hR
        refine l_xi (l_runV S hg hI hN hkH (As := []) (rest := []) (tX4_image l D ad cI rk ks kv  _ _ hw) cv_yX4_image qm_L_86 (va_recv hI.2.1 hI.1 (ci := 4) (q0 := 0) rfl rfl) ⟨Nat.le_of_ble_eq_true rfl, Nat.le_of_ble_eq_true rfl⟩ rfl hl.1 rfl (Nat.le_of_ble_eq_true rfl) dL_law_600 ⟨Nat.le_of_ble_eq_true rfl, Nat.le_of_ble_eq_true rfl⟩) hS hxA hM hd (fun r u1 H locs hI hM hS hw => ?_)
        have hkH : ∀ q : Nat, q < s.heap.size → ¬ mA ad2 q → H[q]? = s.heap[q]? := fun q z1 _ => hS.2.1 q z1 (Nat.not_le.mpr z1)
        refine lv_aload_n hx hb dL_law_603 rfl (lv_at hl 2 rfl) ?_
        refine l_mi (l_runV S hgm hM trivial hkH (As := []) (rest := [.int r]) (tX5_image l D ad2 cI cB  _ _ hw) cv_yX5_image qm_L_89 (va_recv hM.2.1 hM.1 (ci := 5) (q0 := 0) rfl rfl) ⟨Nat.le_of_ble_eq_true rfl, Nat.le_of_ble_eq_true rfl⟩ rfl hl.1 rfl (Nat.le_of_ble_eq_true rfl) dL_law_604 ⟨Nat.le_of_ble_eq_true rfl, Nat.le_of_ble_eq_true rfl⟩) hS hmA hI hd (fun r2 v1 H locs hI hM hS hw => ?_)
        refine lv_icmp_eq (tgt := 662) hx hb dL_law_607 (by decide) (fun hz => ?_) (fun hz => absurd hw.1 hz)
        exact hgo u1 v1 H locs hI hM hS hw.2
      by_cases hk18 : z = (18 : Int32)
      · refine lv_tableIn (tgt := 612) (off := 580) hx hb dL_law_32 (by rw [hk18]; decide) (by rw [hk18]; decide) (by rw [hk18]; decide) (by decide) ?_
        refine lv_aload_n hx hb dL_law_612 rfl (lv_at hl 1 rfl) ?_
        have hw := hst.2.2.2.2.2.2.2.2.2.2.2.2.2.2.2.2.2.2.1 k u v  hn6 hR
        refine l_xi (l_runV S hg hI hN hkH (As := []) (rest := []) (tX4_restore l D ad cI rk ks kv  _ _ hw) cv_yX4_restore qm_L_90 (va_recv hI.2.1 hI.1 (ci := 4) (q0 := 0) rfl rfl) ⟨Nat.le_of_ble_eq_true rfl, Nat.le_of_ble_eq_true rfl⟩ rfl hl.1 rfl (Nat.le_of_ble_eq_true rfl) dL_law_613 ⟨Nat.le_of_ble_eq_true rfl, Nat.le_of_ble_eq_true rfl⟩) hS hxA hM hd (fun r u1 H locs hI hM hS hw => ?_)
        have hkH : ∀ q : Nat, q < s.heap.size → ¬ mA ad2 q → H[q]? = s.heap[q]? := fun q z1 _ => hS.2.1 q z1 (Nat.not_le.mpr z1)
        refine lv_aload_n hx hb dL_law_616 rfl (lv_at hl 2 rfl) ?_
        refine l_mi (l_runV S hgm hM trivial hkH (As := []) (rest := [.int r]) (tX5_restore l D ad2 cI cB  _ _ hw) cv_yX5_restore qm_L_93 (va_recv hM.2.1 hM.1 (ci := 5) (q0 := 0) rfl rfl) ⟨Nat.le_of_ble_eq_true rfl, Nat.le_of_ble_eq_true rfl⟩ rfl hl.1 rfl (Nat.le_of_ble_eq_true rfl) dL_law_617 ⟨Nat.le_of_ble_eq_true rfl, Nat.le_of_ble_eq_true rfl⟩) hS hmA hI hd (fun r2 v1 H locs hI hM hS hw => ?_)
        refine lv_icmp_eq (tgt := 662) hx hb dL_law_620 (by decide) (fun hz => ?_) (fun hz => absurd hw.1 hz)
        exact hgo u1 v1 H locs hI hM hS hw.2
      by_cases hk19 : z = (19 : Int32)
      · refine lv_tableIn (tgt := 625) (off := 593) hx hb dL_law_32 (by rw [hk19]; decide) (by rw [hk19]; decide) (by rw [hk19]; decide) (by decide) ?_
        refine lv_aload_n hx hb dL_law_625 rfl (lv_at hl 1 rfl) ?_
        refine lv_aload_n hx hb dL_law_626 rfl (lv_at hl 0 rfl) ?_
        refine lv_iload_n hx hb dL_law_627 rfl (lv_at hl 3 rfl) ?_
        refine lv_iconst (v := (1 : Int32)) hx hb dL_law_628 (by decide) ?_
        refine lv_iadd hx hb dL_law_629 ?_
        refine va_sld hx hb hX hbl hbA hS i1 dL_law_630 ?_
        have hw := hst.2.2.2.2.2.2.2.2.2.2.2.2.2.2.2.2.2.2.2.1 k u v ((xs (nI (4 * k) + (1 : Int32)).toNatClampNeg)) hn6 hR
        refine l_xi (l_runV S hg hI hN hkH (As := [.int (xs (nI (4 * k) + (1 : Int32)).toNatClampNeg)]) (rest := []) (tX4_count l D ad cI rk ks kv _ _ _ hw) cv_yX4_count qm_L_94 (va_recv hI.2.1 hI.1 (ci := 4) (q0 := 0) rfl rfl) ⟨Nat.le_of_ble_eq_true rfl, Nat.le_of_ble_eq_true rfl⟩ rfl hl.1 rfl (Nat.le_of_ble_eq_true rfl) dL_law_631 ⟨Nat.le_of_ble_eq_true rfl, Nat.le_of_ble_eq_true rfl⟩) hS hxA hM hd (fun r u1 H locs hI hM hS hw => ?_)
        have hkH : ∀ q : Nat, q < s.heap.size → ¬ mA ad2 q → H[q]? = s.heap[q]? := fun q z1 _ => hS.2.1 q z1 (Nat.not_le.mpr z1)
        refine lv_aload_n hx hb dL_law_634 rfl (lv_at hl 2 rfl) ?_
        refine lv_aload_n hx hb dL_law_635 rfl (lv_at hl 0 rfl) ?_
        refine lv_iload_n hx hb dL_law_636 rfl (lv_at hl 3 rfl) ?_
        refine lv_iconst (v := (1 : Int32)) hx hb dL_law_637 (by decide) ?_
        refine lv_iadd hx hb dL_law_638 ?_
        refine va_sld hx hb hX hbl hbA hS i1 dL_law_639 ?_
        refine l_mi (l_runV S hgm hM trivial hkH (As := [.int (xs (nI (4 * k) + (1 : Int32)).toNatClampNeg)]) (rest := [.int r]) (tX5_count l D ad2 cI cB _ _ _ hw) cv_yX5_count qm_L_97 (va_recv hM.2.1 hM.1 (ci := 5) (q0 := 0) rfl rfl) ⟨Nat.le_of_ble_eq_true rfl, Nat.le_of_ble_eq_true rfl⟩ rfl hl.1 rfl (Nat.le_of_ble_eq_true rfl) dL_law_640 ⟨Nat.le_of_ble_eq_true rfl, Nat.le_of_ble_eq_true rfl⟩) hS hmA hI hd (fun r2 v1 H locs hI hM hS hw => ?_)
        refine lv_icmp_eq (tgt := 662) hx hb dL_law_643 (by decide) (fun hz => ?_) (fun hz => absurd hw.1 hz)
        exact hgo u1 v1 H locs hI hM hS hw.2
      by_cases hk20 : z = (20 : Int32)
      · refine lv_tableIn (tgt := 648) (off := 616) hx hb dL_law_32 (by rw [hk20]; decide) (by rw [hk20]; decide) (by rw [hk20]; decide) (by decide) ?_
        refine lv_aload_n hx hb dL_law_648 rfl (lv_at hl 1 rfl) ?_
        have hw := hst.2.2.2.2.2.2.2.2.2.2.2.2.2.2.2.2.2.2.2.2.1 k u v  hn6 hR
        refine l_xl (l_runV S hg hI hN hkH (As := []) (rest := []) (tX4_digest l D ad cI rk ks kv  _ _ hw) cv_yX4_digest qm_L_98 (va_recv hI.2.1 hI.1 (ci := 4) (q0 := 0) rfl rfl) ⟨Nat.le_of_ble_eq_true rfl, Nat.le_of_ble_eq_true rfl⟩ rfl hl.1 rfl (Nat.le_of_ble_eq_true rfl) dL_law_649 ⟨Nat.le_of_ble_eq_true rfl, Nat.le_of_ble_eq_true rfl⟩) hS hxA hM hd (fun r u1 H locs hI hM hS hw => ?_)
        have hkH : ∀ q : Nat, q < s.heap.size → ¬ mA ad2 q → H[q]? = s.heap[q]? := fun q z1 _ => hS.2.1 q z1 (Nat.not_le.mpr z1)
        refine lv_aload_n hx hb dL_law_652 rfl (lv_at hl 2 rfl) ?_
        refine l_ml (l_runV S hgm hM trivial hkH (As := []) (rest := [.long r]) (tX5_digest l D ad2 cI cB  _ _ hw) cv_yX5_digest qm_L_102 (va_recv hM.2.1 hM.1 (ci := 5) (q0 := 0) rfl rfl) ⟨Nat.le_of_ble_eq_true rfl, Nat.le_of_ble_eq_true rfl⟩ rfl hl.1 rfl (Nat.le_of_ble_eq_true rfl) dL_law_653 ⟨Nat.le_of_ble_eq_true rfl, Nat.le_of_ble_eq_true rfl⟩) hS hmA hI hd (fun r2 v1 H locs hI hM hS hw => ?_)
        refine W.lcmp hx hb dL_law_656 ?_
        have ec : lg_cmp r r2 = 0 := by rw [hw.1]; simp [lg_cmp]
        rw [ec]
        refine lv_if_eq (tgt := 662) hx hb dL_law_657 (by decide) (fun hz => ?_) (fun hz => absurd rfl hz)
        exact hgo u1 v1 H locs hI hM hS hw.2
      have hto : z.toInt < 0 ∨ 20 < z.toInt := by
        have t0 := lv_neT (a := 0) hk0 (by decide)
        have t1 := lv_neT (a := 1) hk1 (by decide)
        have t2 := lv_neT (a := 2) hk2 (by decide)
        have t3 := lv_neT (a := 3) hk3 (by decide)
        have t4 := lv_neT (a := 4) hk4 (by decide)
        have t5 := lv_neT (a := 5) hk5 (by decide)
        have t6 := lv_neT (a := 6) hk6 (by decide)
        have t7 := lv_neT (a := 7) hk7 (by decide)
        have t8 := lv_neT (a := 8) hk8 (by decide)
        have t9 := lv_neT (a := 9) hk9 (by decide)
        have t10 := lv_neT (a := 10) hk10 (by decide)
        have t11 := lv_neT (a := 11) hk11 (by decide)
        have t12 := lv_neT (a := 12) hk12 (by decide)
        have t13 := lv_neT (a := 13) hk13 (by decide)
        have t14 := lv_neT (a := 14) hk14 (by decide)
        have t15 := lv_neT (a := 15) hk15 (by decide)
        have t16 := lv_neT (a := 16) hk16 (by decide)
        have t17 := lv_neT (a := 17) hk17 (by decide)
        have t18 := lv_neT (a := 18) hk18 (by decide)
        have t19 := lv_neT (a := 19) hk19 (by decide)
        have t20 := lv_neT (a := 20) hk20 (by decide)
        omega
      refine lv_tableOut (tgt := 662) hx hb dL_law_32 hto (by decide) ?_
      exact hgo u v H locs hI hM hS (hst.2.2.2.2.2.2.2.2.2.2.2.2.2.2.2.2.2.2.2.2.2 k u v hR)
