theorem P_left {D : va_G} {cl : List vw_C} {X Y : va_W} {H : Heap} (h : va_P D cl (X ++ Y) H) : va_P D cl X H := fun k q hk => h k q (by rw [List.getElem?_append_left (List.getElem?_eq_some_iff.mp hk).1]; exact hk)
theorem P_right {D : va_G} {cl : List vw_C} {X Y : va_W} {H : Heap} (h : va_P D cl (X ++ Y) H) : va_P D cl Y H := fun k q hk => h (X.length + k) q (by rw [List.getElem?_append_right (Nat.le_add_right _ _), Nat.add_sub_cancel_left]; exact hk)
theorem D_left {A : Nat → Prop} {X Y : va_W} (h : va_D A (X ++ Y)) : va_D A X := ⟨fun i j p q hi hj e => h.1 i j p q (by rw [List.getElem?_append_left (List.getElem?_eq_some_iff.mp hi).1]; exact hi) (by rw [List.getElem?_append_left (List.getElem?_eq_some_iff.mp hj).1]; exact hj) e, fun k q hk => h.2 k q (by rw [List.getElem?_append_left (List.getElem?_eq_some_iff.mp hk).1]; exact hk)⟩
theorem D_right {A : Nat → Prop} {X Y : va_W} (h : va_D A (X ++ Y)) : va_D A Y := ⟨fun i j p q hi hj e => by
  have := h.1 (X.length + i) (X.length + j) p q (by rw [List.getElem?_append_right (Nat.le_add_right _ _), Nat.add_sub_cancel_left]; exact hi) (by rw [List.getElem?_append_right (Nat.le_add_right _ _), Nat.add_sub_cancel_left]; exact hj) e
  omega, fun k q hk => h.2 (X.length + k) q (by rw [List.getElem?_append_right (Nat.le_add_right _ _), Nat.add_sub_cancel_left]; exact hk)⟩
theorem D_apart {A : Nat → Prop} {X Y : va_W} (h : va_D A (X ++ Y)) {i j : Nat} {p q : Nat × va_E} (hi : X[i]? = some p) (hj : Y[j]? = some q) : p.1 ≠ q.1 := fun e => by
  have hl := (List.getElem?_eq_some_iff.mp hi).1
  have := h.1 i (X.length + j) p q (by rw [List.getElem?_append_left hl]; exact hi) (by rw [List.getElem?_append_right (Nat.le_add_right _ _), Nat.add_sub_cancel_left]; exact hj) e
  omega
theorem join_last {A0 : Nat → Prop} {D : va_G} {cl : List vw_C} {X w1 : va_W} {c : Nat × va_E} {H H1 : Heap} (hP : va_P D cl (X ++ [c]) H) (hD : va_D A0 (X ++ [c])) (hk : ∀ q : Nat, q < H.size → ¬ va_A [c] H.size q → H1[q]? = H[q]?) (hF : ∀ q, va_A [c] H.size q → A0 q) (hP1 : va_P D cl w1 H1) (hD1 : va_D (va_A [c] H.size) w1) : va_P D cl (X ++ w1) H1 ∧ va_D A0 (X ++ w1) := by
  have hout : ∀ (k : Nat) (q : Nat × va_E), X[k]? = some q → ¬ va_A [c] H.size q.1 := by
    intro k q hk h
    rcases h with ⟨j, e, hj⟩ | h
    · match j, hj with
      | 0, hj =>
        have hc : (q.1, e) = c := (Option.some.inj hj).symm
        exact D_apart hD hk (show [c][0]? = some c from rfl) (by rw [← hc])
      | j + 1, hj => simp at hj
    · have := (P_left hP k q hk).lt
      omega
  refine ⟨va_P.app (fun k q hq => ((P_left hP) k q hq).kept (hk q.1 ((P_left hP) k q hq).lt (hout k q hq))) hP1, va_D.app (D_left hD) (hD1.weaken (fun k q _ h => hF q.1 h)) (fun i j x y hx hy hxy => ?_)⟩
  exact hout i x hx (by rw [hxy]; exact hD1.2 j y hy)

theorem iUX0 : ∀ w ∈ u_ws RX0 TX0 5, w ∈ lw_tbl := fun w hw => by
  obtain ⟨k, hk, rfl⟩ := List.mem_map.mp hw
  exact XT_tbl (iLX0 k (List.mem_range.mp hk))
theorem iUX1 : ∀ w ∈ u_ws RX1 TX1 8, w ∈ lw_tbl := fun w hw => by
  obtain ⟨k, hk, rfl⟩ := List.mem_map.mp hw
  exact XT_tbl (iLX1 k (List.mem_range.mp hk))
theorem iUX2 : ∀ w ∈ u_ws RX2 TX2 2, w ∈ lw_tbl := fun w hw => by
  obtain ⟨k, hk, rfl⟩ := List.mem_map.mp hw
  exact XT_tbl (iLX2 k (List.mem_range.mp hk))
theorem iUX3 : ∀ w ∈ u_ws RX3 TX3 4, w ∈ lw_tbl := fun w hw => by
  obtain ⟨k, hk, rfl⟩ := List.mem_map.mp hw
  exact XT_tbl (iLX3 k (List.mem_range.mp hk))
theorem iUX4 : ∀ w ∈ u_ws RX4 TX4 8, w ∈ lw_tbl := fun w hw => by
  obtain ⟨k, hk, rfl⟩ := List.mem_map.mp hw
  exact XT_tbl (iLX4 k (List.mem_range.mp hk))
theorem iUX5 : ∀ w ∈ u_ws RX5 TX5 33, w ∈ lw_tbl := fun w hw => by
  obtain ⟨k, hk, rfl⟩ := List.mem_map.mp hw
  exact XT_tbl (iLX5 k (List.mem_range.mp hk))
set_option maxRecDepth 100000 in
theorem xNF_in : ∀ q ∈ xNF, Cond.fieldLinkNest q.1 q.2.1 q.2.2.1 q.2.2.2.1 q.2.2.2.2 RX4 ∈ lw_tbl :=
  (List.forall_mem_cons.mpr ⟨List.mem_of_getElem? (i := 109) (by decide +kernel), (List.forall_mem_cons.mpr ⟨List.mem_of_getElem? (i := 156) (by decide +kernel), (List.forall_mem_cons.mpr ⟨List.mem_of_getElem? (i := 183) (by decide +kernel), (List.forall_mem_cons.mpr ⟨List.mem_of_getElem? (i := 129) (by decide +kernel), (List.forall_mem_cons.mpr ⟨List.mem_of_getElem? (i := 123) (by decide +kernel), (List.forall_mem_cons.mpr ⟨List.mem_of_getElem? (i := 126) (by decide +kernel), (List.forall_mem_cons.mpr ⟨List.mem_of_getElem? (i := 177) (by decide +kernel), (List.forall_mem_cons.mpr ⟨List.mem_of_getElem? (i := 134) (by decide +kernel), (List.forall_mem_cons.mpr ⟨List.mem_of_getElem? (i := 179) (by decide +kernel), (List.forall_mem_cons.mpr ⟨List.mem_of_getElem? (i := 174) (by decide +kernel), (List.forall_mem_cons.mpr ⟨List.mem_of_getElem? (i := 132) (by decide +kernel), (List.forall_mem_cons.mpr ⟨List.mem_of_getElem? (i := 416) (by decide +kernel), (List.forall_mem_cons.mpr ⟨List.mem_of_getElem? (i := 125) (by decide +kernel), (List.forall_mem_cons.mpr ⟨List.mem_of_getElem? (i := 128) (by decide +kernel), (List.forall_mem_cons.mpr ⟨List.mem_of_getElem? (i := 131) (by decide +kernel), (fun _ h => absurd h List.not_mem_nil)⟩)⟩)⟩)⟩)⟩)⟩)⟩)⟩)⟩)⟩)⟩)⟩)⟩)⟩)⟩)
set_option maxRecDepth 100000 in
theorem xNM_in : ∀ q ∈ xNM, Cond.methodLinkNest q.1 q.2.1 q.2.2 RX4 ∈ lw_tbl :=
  (List.forall_mem_cons.mpr ⟨List.mem_of_getElem? (i := 103) (by decide +kernel), (List.forall_mem_cons.mpr ⟨List.mem_of_getElem? (i := 118) (by decide +kernel), (List.forall_mem_cons.mpr ⟨List.mem_of_getElem? (i := 148) (by decide +kernel), (List.forall_mem_cons.mpr ⟨List.mem_of_getElem? (i := 168) (by decide +kernel), (List.forall_mem_cons.mpr ⟨List.mem_of_getElem? (i := 230) (by decide +kernel), (List.forall_mem_cons.mpr ⟨List.mem_of_getElem? (i := 245) (by decide +kernel), (List.forall_mem_cons.mpr ⟨List.mem_of_getElem? (i := 368) (by decide +kernel), (List.forall_mem_cons.mpr ⟨List.mem_of_getElem? (i := 373) (by decide +kernel), (List.forall_mem_cons.mpr ⟨List.mem_of_getElem? (i := 389) (by decide +kernel), (List.forall_mem_cons.mpr ⟨List.mem_of_getElem? (i := 394) (by decide +kernel), (List.forall_mem_cons.mpr ⟨List.mem_of_getElem? (i := 428) (by decide +kernel), (List.forall_mem_cons.mpr ⟨List.mem_of_getElem? (i := 436) (by decide +kernel), (List.forall_mem_cons.mpr ⟨List.mem_of_getElem? (i := 449) (by decide +kernel), (List.forall_mem_cons.mpr ⟨List.mem_of_getElem? (i := 459) (by decide +kernel), (List.forall_mem_cons.mpr ⟨List.mem_of_getElem? (i := 475) (by decide +kernel), (List.forall_mem_cons.mpr ⟨List.mem_of_getElem? (i := 487) (by decide +kernel), (List.forall_mem_cons.mpr ⟨List.mem_of_getElem? (i := 496) (by decide +kernel), (List.forall_mem_cons.mpr ⟨List.mem_of_getElem? (i := 512) (by decide +kernel), (List.forall_mem_cons.mpr ⟨List.mem_of_getElem? (i := 516) (by decide +kernel), (List.forall_mem_cons.mpr ⟨List.mem_of_getElem? (i := 528) (by decide +kernel), (List.forall_mem_cons.mpr ⟨List.mem_of_getElem? (i := 540) (by decide +kernel), (List.forall_mem_cons.mpr ⟨List.mem_of_getElem? (i := 561) (by decide +kernel), (List.forall_mem_cons.mpr ⟨List.mem_of_getElem? (i := 569) (by decide +kernel), (List.forall_mem_cons.mpr ⟨List.mem_of_getElem? (i := 582) (by decide +kernel), (List.forall_mem_cons.mpr ⟨List.mem_of_getElem? (i := 593) (by decide +kernel), (List.forall_mem_cons.mpr ⟨List.mem_of_getElem? (i := 598) (by decide +kernel), (List.forall_mem_cons.mpr ⟨List.mem_of_getElem? (i := 611) (by decide +kernel), (List.forall_mem_cons.mpr ⟨List.mem_of_getElem? (i := 616) (by decide +kernel), (List.forall_mem_cons.mpr ⟨List.mem_of_getElem? (i := 631) (by decide +kernel), (List.forall_mem_cons.mpr ⟨List.mem_of_getElem? (i := 377) (by decide +kernel), (List.forall_mem_cons.mpr ⟨List.mem_of_getElem? (i := 378) (by decide +kernel), (List.forall_mem_cons.mpr ⟨List.mem_of_getElem? (i := 379) (by decide +kernel), (List.forall_mem_cons.mpr ⟨List.mem_of_getElem? (i := 380) (by decide +kernel), (List.forall_mem_cons.mpr ⟨List.mem_of_getElem? (i := 381) (by decide +kernel), (List.forall_mem_cons.mpr ⟨List.mem_of_getElem? (i := 597) (by decide +kernel), (List.forall_mem_cons.mpr ⟨List.mem_of_getElem? (i := 418) (by decide +kernel), (List.forall_mem_cons.mpr ⟨List.mem_of_getElem? (i := 398) (by decide +kernel), (List.forall_mem_cons.mpr ⟨List.mem_of_getElem? (i := 412) (by decide +kernel), (List.forall_mem_cons.mpr ⟨List.mem_of_getElem? (i := 407) (by decide +kernel), (List.forall_mem_cons.mpr ⟨List.mem_of_getElem? (i := 520) (by decide +kernel), (List.forall_mem_cons.mpr ⟨List.mem_of_getElem? (i := 544) (by decide +kernel), (List.forall_mem_cons.mpr ⟨List.mem_of_getElem? (i := 545) (by decide +kernel), (List.forall_mem_cons.mpr ⟨List.mem_of_getElem? (i := 556) (by decide +kernel), (List.forall_mem_cons.mpr ⟨List.mem_of_getElem? (i := 234) (by decide +kernel), (List.forall_mem_cons.mpr ⟨List.mem_of_getElem? (i := 262) (by decide +kernel), (List.forall_mem_cons.mpr ⟨List.mem_of_getElem? (i := 573) (by decide +kernel), (List.forall_mem_cons.mpr ⟨List.mem_of_getElem? (i := 602) (by decide +kernel), (List.forall_mem_cons.mpr ⟨List.mem_of_getElem? (i := 444) (by decide +kernel), (List.forall_mem_cons.mpr ⟨List.mem_of_getElem? (i := 445) (by decide +kernel), (fun _ h => absurd h List.not_mem_nil)⟩)⟩)⟩)⟩)⟩)⟩)⟩)⟩)⟩)⟩)⟩)⟩)⟩)⟩)⟩)⟩)⟩)⟩)⟩)⟩)⟩)⟩)⟩)⟩)⟩)⟩)⟩)⟩)⟩)⟩)⟩)⟩)⟩)⟩)⟩)⟩)⟩)⟩)⟩)⟩)⟩)⟩)⟩)⟩)⟩)⟩)⟩)⟩)⟩)
theorem sr_in : Cond.stringRef RX2 31 "nlfso" ∈ lw_tbl := List.mem_of_getElem? (i := 257) (by decide +kernel)
theorem zr_in : Cond.laysStatic RX4 "ROLES_OF_KIND" "[I" ∈ lw_tbl := List.mem_of_getElem? (i := 417) (by decide +kernel)
theorem zc_in : Cond.laysStatic RJ0 "COMPACT_STRINGS" "Z" ∈ lw_tbl := List.mem_of_getElem? (i := 278) (by decide +kernel)
theorem xW_ad (ad : Nat → Nat) (cI : ClassId) (u : SS) : ∀ k : Nat, k < 20 → ∃ e : va_E, (xW ad cI u)[k]? = some (ad k, e)
  | 0, _ => ⟨_, rfl⟩
  | 1, _ => ⟨_, rfl⟩
  | 2, _ => ⟨_, rfl⟩
  | 3, _ => ⟨_, rfl⟩
  | 4, _ => ⟨_, rfl⟩
  | 5, _ => ⟨_, rfl⟩
  | 6, _ => ⟨_, rfl⟩
  | 7, _ => ⟨_, rfl⟩
  | 8, _ => ⟨_, rfl⟩
  | 9, _ => ⟨_, rfl⟩
  | 10, _ => ⟨_, rfl⟩
  | 11, _ => ⟨_, rfl⟩
  | 12, _ => ⟨_, rfl⟩
  | 13, _ => ⟨_, rfl⟩
  | 14, _ => ⟨_, rfl⟩
  | 15, _ => ⟨_, rfl⟩
  | 16, _ => ⟨_, rfl⟩
  | 17, _ => ⟨_, rfl⟩
  | 18, _ => ⟨_, rfl⟩
  | 19, _ => ⟨_, rfl⟩
  | k + 20, h => absurd h (by omega)
theorem mW_ad (ad : Nat → Nat) (cI cB : ClassId) (u : SS) : ∀ k : Nat, k < 19 → ∃ e : va_E, (mW ad cI cB u)[k]? = some (ad k, e)
  | 0, _ => ⟨_, rfl⟩
  | 1, _ => ⟨_, rfl⟩
  | 2, _ => ⟨_, rfl⟩
  | 3, _ => ⟨_, rfl⟩
  | 4, _ => ⟨_, rfl⟩
  | 5, _ => ⟨_, rfl⟩
  | 6, _ => ⟨_, rfl⟩
  | 7, _ => ⟨_, rfl⟩
  | 8, _ => ⟨_, rfl⟩
  | 9, _ => ⟨_, rfl⟩
  | 10, _ => ⟨_, rfl⟩
  | 11, _ => ⟨_, rfl⟩
  | 12, _ => ⟨_, rfl⟩
  | 13, _ => ⟨_, rfl⟩
  | 14, _ => ⟨_, rfl⟩
  | 15, _ => ⟨_, rfl⟩
  | 16, _ => ⟨_, rfl⟩
  | 17, _ => ⟨_, rfl⟩
  | 18, _ => ⟨_, rfl⟩
  | k + 19, h => absurd h (by omega)
theorem xA_of {ad : Nat → Nat} {cI : ClassId} {u : SS} {k : Nat} {q : Nat × va_E} (h : (xW ad cI u)[k]? = some q) : xA ad q.1 := by
  rcases Nat.lt_or_ge k 20 with hk | hk
  · obtain ⟨e, he⟩ := xW_ad ad cI u k hk
    rw [he] at h
    cases h
    exact ⟨k, hk, rfl⟩
  · rw [List.getElem?_eq_none (by show 20 ≤ k; exact hk)] at h
    cases h
theorem mA_of {ad : Nat → Nat} {cI cB : ClassId} {u : SS} {k : Nat} {q : Nat × va_E} (h : (mW ad cI cB u)[k]? = some q) : mA ad q.1 := by
  rcases Nat.lt_or_ge k 19 with hk | hk
  · obtain ⟨e, he⟩ := mW_ad ad cI cB u k hk
    rw [he] at h
    cases h
    exact ⟨k, hk, rfl⟩
  · rw [List.getElem?_eq_none (by show 19 ≤ k; exact hk)] at h
    cases h
theorem arrKi {args : Array Value} {s : State} (h : (Cond.arrayClass .int).before args s = true) : ∃ cA : ClassId, ArrOfT s cA .int ∧ va_RA s cA .int := by
  obtain ⟨cA, kA, comp, h1, h2, h3⟩ := Cond.arrayClass_spec h
  exact ⟨cA, fun n z => ⟨fun k h => (by cases h), kA, h2, comp, h3⟩, h1⟩
theorem arrKb {args : Array Value} {s : State} (h : (Cond.arrayClass .byte).before args s = true) : ∃ cA : ClassId, ArrOfT s cA .byte ∧ va_RA s cA .byte := by
  obtain ⟨cA, kA, comp, h1, h2, h3⟩ := Cond.arrayClass_spec h
  exact ⟨cA, fun n z => ⟨fun k h => (by cases h), kA, h2, comp, h3⟩, h1⟩
/-- what the statement gives of the start: the class's constants -/
theorem xN_start {s : State} {b : Nat} (hts : ∀ w ∈ lw_tbl, w.before #[Value.ref b] s = true) (hgv : (Jvm.Cond.and given_1 narrow_1).before #[Value.ref b] s = true) : ∃ rk ks kv : Nat, ∀ ad : Nat → Nat, (∀ q, xA ad q → s.heap.size ≤ q) → xN ad rk ks kv s := by
  have hs := flat_of_before _ hgv
  have hA : ∀ a : Nat, a < s.heap.size → ¬ (fun q : Nat => s.heap.size ≤ q) a := fun a h => Nat.not_le.mpr h
  obtain ⟨rk, hrk, hT⟩ := va_Tof (A := fun q : Nat => s.heap.size ≤ q) (tm := .static RX4 "ROLES_OF_KIND" "[I") (ty := .int) (N := 5) (f := fun j => .int (xroles j)) (by decide) (hs _ (by decide +kernel)) (va_eqt (hs (Cond.eq (.length (.static RX4 "ROLES_OF_KIND" "[I")) (.int 5)) (by decide +kernel))) (fun j hj => by
    rcases (show j = 0 ∨ j = 1 ∨ j = 2 ∨ j = 3 ∨ j = 4 by omega) with rfl | rfl | rfl | rfl | rfl
    · exact va_eqt (hs (Cond.eq (.elem (.static RX4 "ROLES_OF_KIND" "[I") (.int 0)) (.int 7)) (by decide +kernel))
    · exact va_eqt (hs (Cond.eq (.elem (.static RX4 "ROLES_OF_KIND" "[I") (.int 1)) (.int 5)) (by decide +kernel))
    · exact va_eqt (hs (Cond.eq (.elem (.static RX4 "ROLES_OF_KIND" "[I") (.int 2)) (.int 4)) (by decide +kernel))
    · exact va_eqt (hs (Cond.eq (.elem (.static RX4 "ROLES_OF_KIND" "[I") (.int 3)) (.int 3)) (by decide +kernel))
    · exact va_eqt (hs (Cond.eq (.elem (.static RX4 "ROLES_OF_KIND" "[I") (.int 4)) (.int 0)) (by decide +kernel))) hA
  have hZ : va_Z RX4 "ROLES_OF_KIND" "[I" (.ref rk) (fun q : Nat => s.heap.size ≤ q) s s.heap := va_Zof (hts _ zr_in) (hts _ (XT_tbl qz_SumColours)) hrk hA
  have hC : va_Z RJ0 "COMPACT_STRINGS" "Z" (.int 1) (fun q : Nat => s.heap.size ≤ q) s s.heap := va_Zof (hts _ zc_in) (hts _ (XT_tbl qz_java_lang_String)) (va_eqi (hs (Cond.eq (.static RJ0 "COMPACT_STRINGS" "Z") (.int 1)) (by decide +kernel))) hA
  obtain ⟨adK, adV, hV, hE⟩ := vk_Sof (A := fun q : Nat => s.heap.size ≤ q) (s := s) (args := #[Value.ref b]) (N := 1) (tm := fun _ => .string RX2 31) (len := [5]) (byt := [[110, 108, 102, 115, 111]]) (by decide)
    (fun i hi => hs (Cond.exactly (.string RX2 31) "java/lang/String") (by decide +kernel))
    (fun i hi => hs (Cond.eq (.field (.string RX2 31) "java/lang/String" "coder" "B") (.int 0)) (by decide +kernel))
    (fun i hi => hs (Cond.arrayOf (.field (.string RX2 31) "java/lang/String" "value" "[B") .byte) (by decide +kernel))
    (fun i hi => by
      rcases (show i = 0 by omega) with rfl
      exact hs (Cond.eq (.length (.field (.string RX2 31) "java/lang/String" "value" "[B")) (.int 5)) (by decide +kernel))
    (fun i hi j hj => by
      rcases (show i = 0 by omega) with rfl
      have hj : j < 5 := hj
      rcases (show j = 0 ∨ j = 1 ∨ j = 2 ∨ j = 3 ∨ j = 4 by omega) with rfl | rfl | rfl | rfl | rfl
      · exact hs (Cond.eq (.elem (.field (.string RX2 31) "java/lang/String" "value" "[B") (.int 0)) (.int 110)) (by decide +kernel)
      · exact hs (Cond.eq (.elem (.field (.string RX2 31) "java/lang/String" "value" "[B") (.int 1)) (.int 108)) (by decide +kernel)
      · exact hs (Cond.eq (.elem (.field (.string RX2 31) "java/lang/String" "value" "[B") (.int 2)) (.int 102)) (by decide +kernel)
      · exact hs (Cond.eq (.elem (.field (.string RX2 31) "java/lang/String" "value" "[B") (.int 3)) (.int 115)) (by decide +kernel)
      · exact hs (Cond.eq (.elem (.field (.string RX2 31) "java/lang/String" "value" "[B") (.int 4)) (.int 111)) (by decide +kernel))
    (fun i j hi hj hij => absurd (show i = j by omega) hij) hA
  have hE0 := hE 0 (by decide)
  have hR : vk_R RX2 31 "nlfso" (adK 0) s := vk_R.of (hts _ sr_in) hE0
  refine ⟨rk, adK 0, adV 0, fun ad hxA => ⟨fun q hq => va_Nw.of rfl (hts _ (xNF_in q hq)), fun q hq => va_Nw.of rfl (hts _ (xNM_in q hq)), hR, hZ.narrow hxA, hT.narrow hxA, trivial, hC.narrow hxA, ?_⟩⟩
  have h1 := hV.narrow (B := xA ad) hxA
  refine ⟨fun i hi => ?_, fun i j hi hj _ => by omega⟩
  rcases (show i = 0 by omega) with rfl
  exact h1.1 0 (by decide)
