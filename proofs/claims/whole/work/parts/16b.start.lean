theorem qc_yX4_init : Cond.code yX4_init cX4_init 1 none ∈ XT := xm 97 (by decide +kernel) (by decide +kernel)
theorem qi_yX4_init : Cond.instanceMethod yX4_init ∈ XT := xm 96 (by decide +kernel) (by decide +kernel)
theorem qc_yX5_init : Cond.code yX5_init cX5_init 1 none ∈ XT := xm 637 (by decide +kernel) (by decide +kernel)
theorem qi_yX5_init : Cond.instanceMethod yX5_init ∈ XT := xm 636 (by decide +kernel) (by decide +kernel)
theorem qy_L_7 : Cond.classLink RL 7 RX4 ∈ XT := xm 93 (by decide +kernel) (by decide +kernel)
theorem qy_L_10 : Cond.classLink RL 10 RX5 ∈ XT := xm 633 (by decide +kernel) (by decide +kernel)
set_option maxRecDepth 100000 in
set_option maxHeartbeats 8000000 in
/-- the law from its entry, for a relation that every step keeps -/
theorem whole_open (Rel : SS → SS → Nat → Prop) (hst : StAll Rel) (h00 : Rel u0x u0m 0) {p : Program} {e : Env} {s : State} {m : MethodId} {below : List Frame} {meth : Method} {c : Code} (l : Launch) {b L : Nat} {xs : Nat → Int32} (hL : L ≤ 2048) (C0 : lw_At p s m meth c b L xs) : W p l e room_1 s m #[Value.ref b] below meth c s.heap [] 0 0 (lw_Z below #[Value.ref b] s) (entryFrame m ([Value.ref b] : List Value).toArray 4) := by
  obtain ⟨hx, hb, hr, hml, hown, hts, hX, hbl, hlocks, hgv⟩ := id C0
  have S : CallFix p m c cL_law 4 s #[Value.ref b] lw_tbl RL := ⟨hx, hb, hml, hown, hts⟩
  have ok : ∀ {w : Cond}, w ∈ XT → w.before #[Value.ref b] s = true := fun h => hts _ (XT_tbl h)
  have ho : s.vm.findClass RL = some m.cls := hown
  obtain ⟨rk, ks, kv, hxN⟩ := xN_start hts hgv
  have hNp : xNp s := fun q hq => va_Nw.of rfl (hts _ (xNM_in q hq))
  have hA : ∀ q : Nat, s.heap.size ≤ q → (fun q : Nat => s.heap.size ≤ q) q := fun _ h => h
  obtain ⟨c0, iS0, hKn0⟩ := u_known (C := RX0) (T := TX0) (N := 5) (n := 5) hts iUX0 (ok qi_X0)
  obtain ⟨c1, iS1, hKn1⟩ := u_known (C := RX1) (T := TX1) (N := 8) (n := 8) hts iUX1 (ok qi_X1)
  obtain ⟨c2, iS2, hKn2⟩ := u_known (C := RX2) (T := TX2) (N := 2) (n := 2) hts iUX2 (ok qi_X2)
  obtain ⟨c3, iS3, hKn3⟩ := u_known (C := RX3) (T := TX3) (N := 4) (n := 4) hts iUX3 (ok qi_X3)
  obtain ⟨c4, iS4, hKn4⟩ := u_known (C := RX4) (T := TX4) (N := 8) (n := 8) hts iUX4 (ok qi_X4)
  obtain ⟨c5, iS5, hKn5⟩ := u_known (C := RX5) (T := TX5) (N := 33) (n := 33) hts iUX5 (ok qi_X5)
  obtain ⟨dC, dI, hKc⟩ : ∃ (dC : Nat → ClassId) (dI : Nat → Nat → Nat), ∀ (k : Nat) (q : vw_C), vwCl[k]? = some q → u_Kn s q.1 q.2.1 q.2.2 (dC k) (dI k) := by
    refine ⟨fun k => match k with | 0 => c0 | 1 => c1 | 2 => c2 | 3 => c3 | 4 => c4 | _ => c5, fun k => match k with | 0 => iS0 | 1 => iS1 | 2 => iS2 | 3 => iS3 | 4 => iS4 | _ => iS5, ?_⟩
    intro k q hq
    match k, hq with
    | 0, hq => cases hq; exact hKn0
    | 1, hq => cases hq; exact hKn1
    | 2, hq => cases hq; exact hKn2
    | 3, hq => cases hq; exact hKn3
    | 4, hq => cases hq; exact hKn4
    | 5, hq => cases hq; exact hKn5
    | k + 6, hq => simp [vwCl] at hq
  obtain ⟨cI, hcI⟩ := arrKi (ok qa_int)
  obtain ⟨cB, hcB⟩ := arrKb (ok qa_byte)
  have hS : va_S (fun q : Nat => s.heap.size ≤ q) s.heap s.heap [] := va_S.rf
  have hK2 : va_K (dC, dI) vwCl [(cI, .int), (cB, .byte)] s := ⟨hKc, fun k q h => by
    match k, h with
    | 0, h => cases h; exact hcI
    | 1, h => cases h; exact hcB
    | k + 2, h => simp at h⟩
  have hK : va_K (dC, dI) vwCl [(cI, .int)] s := hK2.sub [0] rfl
  have hP : va_P (dC, dI) vwCl [] s.heap := fun k q h => by simp at h
  have hD : va_D (fun q : Nat => s.heap.size ≤ q) [] := ⟨fun i j p q h => by simp at h, fun k q h => by simp at h⟩
  have hl := lv_entry ([.ref b]) (n := 4) (Nat.le_of_ble_eq_true rfl)
  rw [lg_entry_eq]
  generalize (lg_sl ([.ref b]) ++ List.replicate (4 - (lg_sl ([.ref b])).length) Slot.unset).toArray = ls at hl ⊢
  have hl : lv_has ls 4 [(0, .ref b)] := hl
  refine va_new (ci := 4) (fs := [.null, .null, .null, .null, .null, .null, .int 0, .int 0]) (C := RX4) (T := TX4) (N := 8) hx hb hts iUX4 tyX4 tyX4_ok ho (ok qy_L_7) (ok qi_X4) (ok qz_SumColours) hK hP hD hS hA rfl (fun j hj => by rcases (show j = 0 ∨ j = 1 ∨ j = 2 ∨ j = 3 ∨ j = 4 ∨ j = 5 ∨ j = 6 ∨ j = 7 by omega) with rfl | rfl | rfl | rfl | rfl | rfl | rfl | rfl <;> rfl) (Nat.le_of_ble_eq_true rfl) (Nat.le_of_ble_eq_true rfl) dL_law_0 (fun q0 H hP hD hS => ?_)
  have hP : va_P (dC, dI) vwCl [(q0, .inr (4, [.null, .null, .null, .null, .null, .null, .int 0, .int 0]))] H := hP
  have hD : va_D (fun q : Nat => s.heap.size ≤ q) [(q0, .inr (4, [.null, .null, .null, .null, .null, .null, .int 0, .int 0]))] := hD
  refine W.widen (k := 1) (n := 8) (Nat.le_of_ble_eq_true rfl) (Nat.le_of_ble_eq_true rfl) ?_
  refine lv_dup hx hb dL_law_3 rfl ?_
  have hFc := va_free (wc := [(q0, .inr (4, [.null, .null, .null, .null, .null, .null, .int 0, .int 0]))]) hD hS hA [0] rfl
  refine va_callv (va_runI (As := []) (rest := [.ref q0]) S (tX4_init l dC dI cI q0 H.size) (cwI 0 hts (l_good qc_yX4_init) rfl rfl rfl (ok qz_SumColours) (ok qm_L_9) (ok qi_yX4_init) rfl ⟨by decide +kernel, by decide +kernel, by decide +kernel⟩ ⟨Nat.le_of_ble_eq_true rfl, Nat.le_of_ble_eq_true rfl⟩) ⟨fun a U g mk z => by obtain ⟨z0, z1, zP, zK, zD, zN⟩ := z; exact ⟨z0, z1, zP, va_K.moved (u := U) (U := U.calling g mk a) (Vm.Alike.refl U.vm) zK, zD, fun q hq => va_Nw.same rfl rfl (zN q hq)⟩, fun U hU hW => ⟨rfl, by rw [hU], by rw [hU]; exact hP, va_K.moved hW.alike hK, hD.weaken (fun _ _ _ _ => trivial), xNp_warm hW hNp⟩⟩ rfl rfl hl.1 rfl (lv_room (Nat.le_of_ble_eq_true rfl)) dL_law_4 ⟨Nat.le_of_ble_eq_true rfl, Nat.le_of_ble_eq_true rfl⟩) hS (fun q _ h => hFc q h) hFc (fun uu t H1 locs ht hvm hw hB hz1 hk1 hS => ?_)
  obtain ⟨ad, had, hP1, hK1, hD1⟩ := hB
  subst had
  rw [ht] at hP1
  obtain ⟨hP, hD⟩ := join_last (X := []) hP hD hk1 hFc hP1 hD1
  have hP : va_P (dC, dI) vwCl (xW ad cI u0x) H1 := hP
  have hD : va_D (fun q : Nat => s.heap.size ≤ q) (xW ad cI u0x) := hD
  generalize H1 = H at hP hS ⊢
  refine W.widen (k := 20) (n := 186) (Nat.le_of_ble_eq_true rfl) (Nat.le_of_ble_eq_true rfl) ?_
  refine lv_astore_n (lv' := [(1, .ref (ad 0)), (0, .ref b)]) hx hb dL_law_7 rfl hl (by decide) rfl (fun ls hl => ?_)
  refine va_new (ci := 5) (fs := [.int 0, .int 0, .int 0, .null, .null, .int 0, .int 0, .null, .null, .null, .int 0, .null, .int 0, .int 0, .null, .null, .null, .int 0, .null, .null, .null, .null, .long 0, .int 0, .int 0, .int 0, .int 0, .null, .null, .null, .null, .null, .long 0]) (C := RX5) (T := TX5) (N := 33) hx hb hts iUX5 tyX5 tyX5_ok ho (ok qy_L_10) (ok qi_X5) (ok qz_SumColoursModel) hK hP hD hS hA rfl (fun j hj => by rcases (show j = 0 ∨ j = 1 ∨ j = 2 ∨ j = 3 ∨ j = 4 ∨ j = 5 ∨ j = 6 ∨ j = 7 ∨ j = 8 ∨ j = 9 ∨ j = 10 ∨ j = 11 ∨ j = 12 ∨ j = 13 ∨ j = 14 ∨ j = 15 ∨ j = 16 ∨ j = 17 ∨ j = 18 ∨ j = 19 ∨ j = 20 ∨ j = 21 ∨ j = 22 ∨ j = 23 ∨ j = 24 ∨ j = 25 ∨ j = 26 ∨ j = 27 ∨ j = 28 ∨ j = 29 ∨ j = 30 ∨ j = 31 ∨ j = 32 by omega) with rfl | rfl | rfl | rfl | rfl | rfl | rfl | rfl | rfl | rfl | rfl | rfl | rfl | rfl | rfl | rfl | rfl | rfl | rfl | rfl | rfl | rfl | rfl | rfl | rfl | rfl | rfl | rfl | rfl | rfl | rfl | rfl | rfl <;> rfl) (Nat.le_of_ble_eq_true rfl) (Nat.le_of_ble_eq_true rfl) dL_law_8 (fun q1 H hP hD hS => ?_)
  have hP : va_P (dC, dI) vwCl (xW ad cI u0x ++ [(q1, .inr (5, [.int 0, .int 0, .int 0, .null, .null, .int 0, .int 0, .null, .null, .null, .int 0, .null, .int 0, .int 0, .null, .null, .null, .int 0, .null, .null, .null, .null, .long 0, .int 0, .int 0, .int 0, .int 0, .null, .null, .null, .null, .null, .long 0]))]) H := hP
  have hD : va_D (fun q : Nat => s.heap.size ≤ q) (xW ad cI u0x ++ [(q1, .inr (5, [.int 0, .int 0, .int 0, .null, .null, .int 0, .int 0, .null, .null, .null, .int 0, .null, .int 0, .int 0, .null, .null, .null, .int 0, .null, .null, .null, .null, .long 0, .int 0, .int 0, .int 0, .int 0, .null, .null, .null, .null, .null, .long 0]))]) := hD
  refine W.widen (k := 21) (n := 219) (Nat.le_of_ble_eq_true rfl) (Nat.le_of_ble_eq_true rfl) ?_
  refine lv_dup hx hb dL_law_11 rfl ?_
  have hPc := P_right hP
  have hDc := D_right hD
  have hFc : ∀ q, va_A [(q1, .inr (5, [.int 0, .int 0, .int 0, .null, .null, .int 0, .int 0, .null, .null, .null, .int 0, .null, .int 0, .int 0, .null, .null, .null, .int 0, .null, .null, .null, .null, .long 0, .int 0, .int 0, .int 0, .int 0, .null, .null, .null, .null, .null, .long 0]))] H.size q → (fun q : Nat => s.heap.size ≤ q) q := fun q h => by
    rcases h with ⟨k, e, hk⟩ | h
    · exact hDc.2 k (q, e) hk
    · exact Nat.le_trans hS.1 h
  refine va_callv (va_runI (As := []) (rest := [.ref q1]) S (tX5_init l dC dI cI cB q1 H.size) (cwI 0 hts (l_good qc_yX5_init) rfl rfl rfl (ok qz_SumColoursModel) (ok qm_L_12) (ok qi_yX5_init) rfl ⟨by decide +kernel, by decide +kernel, by decide +kernel⟩ ⟨Nat.le_of_ble_eq_true rfl, Nat.le_of_ble_eq_true rfl⟩) ⟨fun a U g mk z => by obtain ⟨z0, z1, zP, zK, zD⟩ := z; exact ⟨z0, z1, zP, va_K.moved (u := U) (U := U.calling g mk a) (Vm.Alike.refl U.vm) zK, zD⟩, fun U hU hW => ⟨rfl, by rw [hU], by rw [hU]; exact hPc, va_K.moved hW.alike hK2, hDc.weaken (fun _ _ _ _ => trivial)⟩⟩ rfl rfl hl.1 rfl (lv_room (Nat.le_of_ble_eq_true rfl)) dL_law_12 ⟨Nat.le_of_ble_eq_true rfl, Nat.le_of_ble_eq_true rfl⟩) hS (fun q _ h => hFc q h) hFc (fun uu t H1 locs ht hvm hw hB hz1 hk1 hS => ?_)
  obtain ⟨ad2, had2, hP1, hK1, hD1⟩ := hB
  subst had2
  rw [ht] at hP1
  obtain ⟨hP, hD⟩ := join_last hP hD hk1 hFc hP1 hD1
  generalize H1 = H at hP hS ⊢
  refine W.widen (k := 39) (n := 424) (Nat.le_of_ble_eq_true rfl) (Nat.le_of_ble_eq_true rfl) ?_
  have hxA : ∀ q, xA ad q → s.heap.size ≤ q := fun q h => by
    obtain ⟨k, hk, rfl⟩ := h
    obtain ⟨e, he⟩ := xW_ad ad cI u0x k hk
    exact (D_left hD).2 k _ he
  have hmA : ∀ q, mA ad2 q → s.heap.size ≤ q := fun q h => by
    obtain ⟨k, hk, rfl⟩ := h
    obtain ⟨e, he⟩ := mW_ad ad2 cI cB u0m k hk
    exact (D_right hD).2 k _ he
  have hd : ∀ q, mA ad2 q → ¬ xA ad q := fun q h1 h2 => by
    obtain ⟨k, hk, rfl⟩ := h1
    obtain ⟨j, hj, hjk⟩ := h2
    obtain ⟨e, he⟩ := mW_ad ad2 cI cB u0m k hk
    obtain ⟨e2, he2⟩ := xW_ad ad cI u0x j hj
    exact D_apart hD he2 he hjk.symm
  have hI : xI (dC, dI) ad cI u0x s H := ⟨P_left hP, hK, (D_left hD).weaken (fun k q hq _ => xA_of hq)⟩
  have hM : mI (dC, dI) ad2 cI cB u0m s H := ⟨P_right hP, hK2, (D_right hD).weaken (fun k q hq _ => mA_of hq)⟩
  refine lv_astore_n (lv' := [(2, .ref (ad2 0)), (1, .ref (ad 0)), (0, .ref b)]) hx hb dL_law_15 rfl hl (by decide) rfl (fun ls hl => ?_)
  refine lv_iconst (v := nI 0) hx hb dL_law_16 (by decide) ?_
  refine lv_istore_n (lv' := [(3, .int (nI 0)), (2, .ref (ad2 0)), (1, .ref (ad 0)), (0, .ref b)]) hx hb dL_law_17 rfl hl (by decide) rfl (fun ls hl => ?_)
  exact law_loop hL C0 Rel hst (hxN ad hxA) hxA hmA hd (L + 4) 0 (by omega) (by omega) u0x u0m H _ ls hI hM hS (lv_sub hl [3, 2, 1, 0] rfl) h00
