theorem qi_X0 : Cond.instantiable RX0 5 ∈ XT := xm 117 (by decide +kernel) (by decide +kernel)
theorem qi_X1 : Cond.instantiable RX1 8 ∈ XT := xm 167 (by decide +kernel) (by decide +kernel)
theorem qi_X2 : Cond.instantiable RX2 2 ∈ XT := xm 102 (by decide +kernel) (by decide +kernel)
theorem qi_X3 : Cond.instantiable RX3 4 ∈ XT := xm 147 (by decide +kernel) (by decide +kernel)
theorem qi_X4 : Cond.instantiable RX4 8 ∈ XT := xm 94 (by decide +kernel) (by decide +kernel)
theorem qi_X5 : Cond.instantiable RX5 33 ∈ XT := xm 634 (by decide +kernel) (by decide +kernel)
theorem qa_int : Cond.arrayClass .int ∈ XT := xm 115 (by decide +kernel) (by decide +kernel)
theorem qa_byte : Cond.arrayClass .byte ∈ XT := xm 363 (by decide +kernel) (by decide +kernel)
theorem qy_X4_7 : Cond.classLink RX4 7 RX2 ∈ XT := xm 101 (by decide +kernel) (by decide +kernel)
theorem qy_X4_16 : Cond.classLink RX4 16 RX0 ∈ XT := xm 116 (by decide +kernel) (by decide +kernel)
theorem qy_X4_23 : Cond.classLink RX4 23 RX3 ∈ XT := xm 146 (by decide +kernel) (by decide +kernel)
theorem qy_X4_30 : Cond.classLink RX4 30 RX1 ∈ XT := xm 166 (by decide +kernel) (by decide +kernel)
theorem qm_X2_3 : Cond.methodLink RX2 3 objectInit ∈ XT := xm 106 (by decide +kernel) (by decide +kernel)
theorem qi_objectInit : Cond.instanceMethod objectInit ∈ XT := xm 99 (by decide +kernel) (by decide +kernel)
theorem qc_objectInit : Cond.code objectInit ⟨#[0xb1]⟩ 1 none ∈ XT := xm 100 (by decide +kernel) (by decide +kernel)
theorem qm_X0_3 : Cond.methodLink RX0 3 objectInit ∈ XT := xm 121 (by decide +kernel) (by decide +kernel)
theorem qm_X3_3 : Cond.methodLink RX3 3 objectInit ∈ XT := xm 151 (by decide +kernel) (by decide +kernel)
theorem qm_X1_3 : Cond.methodLink RX1 3 objectInit ∈ XT := xm 171 (by decide +kernel) (by decide +kernel)
theorem qm_X4_1 : Cond.methodLink RX4 1 objectInit ∈ XT := xm 98 (by decide +kernel) (by decide +kernel)
theorem qc_yX2_init : Cond.code yX2_init cX2_init 1 none ∈ XT := xm 105 (by decide +kernel) (by decide +kernel)
theorem qi_yX2_init : Cond.instanceMethod yX2_init ∈ XT := xm 104 (by decide +kernel) (by decide +kernel)
theorem qc_yX0_init : Cond.code yX0_init cX0_init 1 none ∈ XT := xm 120 (by decide +kernel) (by decide +kernel)
theorem qi_yX0_init : Cond.instanceMethod yX0_init ∈ XT := xm 119 (by decide +kernel) (by decide +kernel)
theorem qc_yX3_init : Cond.code yX3_init cX3_init 1 none ∈ XT := xm 150 (by decide +kernel) (by decide +kernel)
theorem qi_yX3_init : Cond.instanceMethod yX3_init ∈ XT := xm 149 (by decide +kernel) (by decide +kernel)
theorem qc_yX1_init : Cond.code yX1_init cX1_init 2 none ∈ XT := xm 170 (by decide +kernel) (by decide +kernel)
theorem qi_yX1_init : Cond.instanceMethod yX1_init ∈ XT := xm 169 (by decide +kernel) (by decide +kernel)
theorem qm_X5_1 : Cond.methodLink RX5 1 objectInit ∈ XT := xm 638 (by decide +kernel) (by decide +kernel)
/-! constructors: what they make -/
def u0x : SS := (fun i => if i = 11 then 1 else 0, fun _ => 0, fun _ _ => 0)
def u0m : SS := (fun _ => 0, fun _ => 0, fun _ _ => 0)
def xNp (U : State) : Prop := ∀ q ∈ xNM, va_Nw (.methodLinkNest q.1 q.2.1 q.2.2 RX4) U
theorem xNp_warm {s U : State} (hW : s.WarmedH U.vm) (h : xNp s) : xNp U := fun q hq => va_Nw.warmM hW (h q hq)
theorem nm0_X4_9 {U : State} (h : xNp U) : va_Nw (.methodLinkNest RX4 9 yX2_init RX4) U := h (RX4, 9, yX2_init) (List.mem_of_getElem? (i := 0) rfl)
theorem nm0_X4_18 {U : State} (h : xNp U) : va_Nw (.methodLinkNest RX4 18 yX0_init RX4) U := h (RX4, 18, yX0_init) (List.mem_of_getElem? (i := 1) rfl)
theorem nm0_X4_25 {U : State} (h : xNp U) : va_Nw (.methodLinkNest RX4 25 yX3_init RX4) U := h (RX4, 25, yX3_init) (List.mem_of_getElem? (i := 2) rfl)
theorem nm0_X4_32 {U : State} (h : xNp U) : va_Nw (.methodLinkNest RX4 32 yX1_init RX4) U := h (RX4, 32, yX1_init) (List.mem_of_getElem? (i := 3) rfl)
theorem g_newaI {p : Program} {l : Launch} {e : Env} {R : Room} {s : State} {m : MethodId} {args : Array Value} {below : List Frame} {meth : Method} {c : Code} {H H0 : Heap} {locs : List Loc} {cells slots : Nat} {Q : State → Prop} {cc : ByteArray} {pc : Nat} {ls : Array Slot} {rest : List Value} {D : va_G} {cl : List vw_C} {A : Nat → Prop} {tys : List (ClassId × FieldType)} {ws : va_W} {cI : ClassId} (t0 : Nat) (hexec : p.tables.exec = Jvm.exec) (hb : c.code = cc) (harr : (Cond.arrayClass .int).before args s = true) (hK : va_K D cl tys s) (ht : tys[t0]? = some (cI, .int)) (hP : va_P D cl ws H) (hD : va_D A ws) (hS : va_S A H0 H locs) (hA : ∀ q, H0.size ≤ q → A q) {n : Int32} {N : Nat} (hn : ¬ n < 0) (hN : n.toNatClampNeg = N) (hbytes : N * componentBytes .int ≤ 536870912) (hcells : cells + 1 ≤ R.cells) (hslots : slots + N ≤ R.slots) (hdg : decode cc pc = .ok (.newarray .int, 2))
    (kk : ∀ (q : Nat) (H1 : Heap), va_P D cl (ws ++ [(q, .inl (cI, N, .inl (fun _ => 0)))]) H1 → va_D A (ws ++ [(q, .inl (cI, N, .inl (fun _ => 0)))]) → va_S A H0 H1 locs → W p l e R s m args below meth c H1 locs (cells + 1) (slots + N) Q (F0 m (pc + 2) ls (.ref q :: rest))) : W p l e R s m args below meth c H locs cells slots Q (F0 m pc ls (.int n :: rest)) := by
  refine va_newa (atype := .int) (ty := .int) hexec hb harr rfl hK hP hD hS hA (a0 := (N, .inl (fun _ => 0))) (fun cA => rfl) hn hN hbytes hcells hslots hdg (fun q cA H1 hK1 hP1 hD1 hS1 => ?_)
  have e1 : cA = cI := by
    have h1 := va_nm_int (hK1.2 tys.length (cA, .int) (by simp)).2
    have h2 := va_nm_int (hK.2 t0 _ ht).2
    exact Option.some.inj (h1.symm.trans h2)
  subst e1
  exact kk q H1 hP1 hD1 hS1
theorem g_newaB {p : Program} {l : Launch} {e : Env} {R : Room} {s : State} {m : MethodId} {args : Array Value} {below : List Frame} {meth : Method} {c : Code} {H H0 : Heap} {locs : List Loc} {cells slots : Nat} {Q : State → Prop} {cc : ByteArray} {pc : Nat} {ls : Array Slot} {rest : List Value} {D : va_G} {cl : List vw_C} {A : Nat → Prop} {tys : List (ClassId × FieldType)} {ws : va_W} {cI : ClassId} (t0 : Nat) (hexec : p.tables.exec = Jvm.exec) (hb : c.code = cc) (harr : (Cond.arrayClass .byte).before args s = true) (hK : va_K D cl tys s) (ht : tys[t0]? = some (cI, .byte)) (hP : va_P D cl ws H) (hD : va_D A ws) (hS : va_S A H0 H locs) (hA : ∀ q, H0.size ≤ q → A q) {n : Int32} {N : Nat} (hn : ¬ n < 0) (hN : n.toNatClampNeg = N) (hbytes : N * componentBytes .byte ≤ 536870912) (hcells : cells + 1 ≤ R.cells) (hslots : slots + N ≤ R.slots) (hdg : decode cc pc = .ok (.newarray .byte, 2))
    (kk : ∀ (q : Nat) (H1 : Heap), va_P D cl (ws ++ [(q, .inl (cI, N, .inl (fun _ => 0)))]) H1 → va_D A (ws ++ [(q, .inl (cI, N, .inl (fun _ => 0)))]) → va_S A H0 H1 locs → W p l e R s m args below meth c H1 locs (cells + 1) (slots + N) Q (F0 m (pc + 2) ls (.ref q :: rest))) : W p l e R s m args below meth c H locs cells slots Q (F0 m pc ls (.int n :: rest)) := by
  refine va_newa (atype := .byte) (ty := .byte) hexec hb harr rfl hK hP hD hS hA (a0 := (N, .inl (fun _ => 0))) (fun cA => rfl) hn hN hbytes hcells hslots hdg (fun q cA H1 hK1 hP1 hD1 hS1 => ?_)
  have e1 : cA = cI := by
    have h1 := va_nm_byte (hK1.2 tys.length (cA, .byte) (by simp)).2
    have h2 := va_nm_byte (hK.2 t0 _ ht).2
    exact Option.some.inj (h1.symm.trans h2)
  subst e1
  exact kk q H1 hP1 hD1 hS1
