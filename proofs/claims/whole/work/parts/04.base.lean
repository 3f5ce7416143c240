/-! the words that every contract takes; the state of a side; calls, whatever the world -/
abbrev SS : Type := (Nat → Int32) × (Nat → Int64) × (Nat → Nat → Int32)
def sI (u : SS) (i : Nat) (v : Int32) : SS := (upd u.1 i v, u.2)
def sL (u : SS) (i : Nat) (v : Int64) : SS := (u.1, vp_updL u.2.1 i v, u.2.2)
def sR (u : SS) (j : Nat) (f : Nat → Int32) : SS := (u.1, u.2.1, va_up u.2.2 j f)
def sA (u : SS) (j k : Nat) (v : Int32) : SS := sR u j (upd (u.2.2 j) k v)
def XT : List Cond := lw_tbl.filter goodWord
theorem XT_tbl {w : Cond} (h : w ∈ XT) : w ∈ lw_tbl := (List.mem_filter.mp h).1
theorem xm (i : Nat) {w : Cond} (h : lw_tbl[i]? = some w) (hg : goodWord w = true) : w ∈ XT := List.mem_filter.mpr ⟨List.mem_of_getElem? h, hg⟩
theorem XT_good {c1 c2 : Cond} (h : c2 ∈ XT) : GoodIn (c1 :: XT) (c2 :: XT) := by
  intro w hw
  have h2 : w ∈ XT := by
    rcases List.mem_cons.mp hw with h3 | h3
    · rw [h3]; exact h
    · exact h3
  exact ⟨List.mem_cons_of_mem _ h2, good_of_word (List.mem_filter.mp h2).2⟩
def Rm (k : Nat) : Room := { frames := k, cells := 0, slots := 0, locals := 40 * k }
def Pr (I : SS → State → Heap → Prop) (N : State → Prop) (u : SS) : State → Prop := fun U => I u U U.heap ∧ N U
def Po (I : SS → State → Heap → Prop) : SS → State → Prop := fun u t => I u t t.heap
def IG (I : SS → State → Heap → Prop) (N : State → Prop) (A : Nat → Prop) : Prop := (∀ (u : SS) (U V : State) (H : Heap), U.vm.Alike V.vm → I u U H → I u V H) ∧ (∀ U V : State, U.WarmedH V.vm → (∀ q : Nat, q < U.heap.size → ¬ A q → V.heap[q]? = U.heap[q]?) → N U → N V) ∧ (∀ U V : State, U.vm = V.vm → U.heap = V.heap → N U → N V)
theorem g_blind {I : SS → State → Heap → Prop} {N : State → Prop} {A : Nat → Prop} {u : SS} {av : List Value} (hg : IG I N A) : FrameBlind (va_Pc av (Pr I N u)) := fun a U g mk q => by
  obtain ⟨q0, qI, qN⟩ := q
  exact ⟨q0, hg.1 u U _ _ (Vm.Alike.refl U.vm) qI, hg.2.2 U _ rfl rfl qN⟩
theorem g_pre {I : SS → State → Heap → Prop} {N : State → Prop} {A : Nat → Prop} {u : SS} {av : List Value} {s : State} {H : Heap} {locs : List Loc} (hg : IG I N A) (hI : I u s H) (hN : N s) (hS : va_S A s.heap H locs) (U : State) (hU : U.heap = H) (hW : s.WarmedH U.vm) : va_Pc av (Pr I N u) av.toArray U :=
  ⟨rfl, by show I u U U.heap; rw [hU]; exact hg.1 u s U H hW.alike hI, hg.2.1 s U hW (fun q h1 h2 => by rw [hU]; exact hS.2.1 q h1 h2) hN⟩
def dOk (y : MethodName) (n : Nat) : Prop := y.cls ≠ "java/lang/invoke/MethodHandle" ∧ y.cls ≠ "java/lang/invoke/VarHandle" ∧ (parseMethodDescriptor y.desc).map (fun d => d.parameters.length) = some n
def CV (y : MethodName) (bytes : ByteArray) (maxL : Nat) (ret : Option FieldType) (n : Nat) : Prop := Cond.code y bytes maxL ret ∈ XT ∧ Cond.instanceMethod y ∈ XT ∧ Cond.selects y.cls y y ∈ XT ∧ Cond.initialized y.cls ∈ XT ∧ dOk y n
def CS (y : MethodName) (bytes : ByteArray) (maxL : Nat) (ret : Option FieldType) (n : Nat) : Prop := Cond.code y bytes maxL ret ∈ XT ∧ Cond.static y ∈ XT ∧ Cond.initialized y.cls ∈ XT ∧ dOk y n
section GRUN
variable {p : Program} {l : Launch} {e : Env} {R : Room} {s : State} {m : MethodId} {args : Array Value} {below : List Frame} {meth : Method} {c : Code} {H : Heap} {locs : List Loc} {Q : State → Prop}
variable {y : MethodName} {bytes cc : ByteArray} {maxL nL n index k : Nat} {ret : Option FieldType} {Qc : Array Value → State → Outcome → State → Prop} {A : Nat → Prop} {own : String} {b : Addr} {As rest st0 : List Value} {pc : Nat} {ls : Array Slot} {c0 : Cond}
variable {I : SS → State → Heap → Prop} {N : State → Prop} {u : SS}
theorem g_in {own : String} (S : CallFix p m c cc nL s args (c0 :: XT) own) {w : Cond} (h : w ∈ XT) : w.before args s = true := S.2.2.2.2 w (List.mem_cons_of_mem _ h)
theorem g_runV (S : CallFix p m c cc nL s args (c0 :: XT) own) (hg : IG I N A) (hI : I u s H) (hN : N s) (hS : va_S A s.heap H locs) (hM : Met l y (Cond.code y bytes maxL ret :: XT) (Rm k) (va_Pc (.ref b :: As) (Pr I N u)) Qc 0 0 A) (cv : CV y bytes maxL ret n) (hl : Cond.methodLink own index y ∈ XT)
    (hrecv : ∃ cell : Cell, H[b]? = some cell ∧ cell.vm.isStatics = false ∧ s.vm.findClass y.cls = some cell.cls) (hR : k + 1 ≤ R.frames ∧ 8 + (maxL + 11) + 40 * k ≤ R.locals) (hn : As.length = n) (hls : ls.size = nL) (hst : st0 = As.reverse ++ .ref b :: rest) (hW : (rest.map fun v => v.category).sum ≤ 8) (hdg : decode cc pc = .ok (.invokevirtual index, 3)) :
    va_Run p l e R s m args below meth c H locs 0 0 0 0 (F0 m pc ls st0) rest (Qc (Value.ref b :: As).toArray) A :=
  va_runV (As := As) (rest := rest) (C := y.cls) S hM ⟨callB_of n S.2.2.2.2 (XT_good cv.1) rfl rfl rfl (g_in S cv.2.2.2.1) (g_in S hl) cv.2.2.2.2 hR, g_in S cv.2.1, g_in S cv.2.2.1⟩ ⟨g_blind hg, hrecv, fun U hU hW => g_pre hg hI hN hS U hU hW⟩ rfl hn hls hst (lv_room hW) hdg ⟨Nat.zero_le _, Nat.zero_le _⟩
theorem g_runVN {host : String} (S : CallFix p m c cc nL s args (c0 :: XT) own) (hg : IG I N A) (hI : I u s H) (hN : N s) (hS : va_S A s.heap H locs) (hM : Met l y (Cond.code y bytes maxL ret :: XT) (Rm k) (va_Pc (.ref b :: As) (Pr I N u)) Qc 0 0 A) (cv : CV y bytes maxL ret n) (hl : va_Nw (.methodLinkNest own index y host) s)
    (hrecv : ∃ cell : Cell, H[b]? = some cell ∧ cell.vm.isStatics = false ∧ s.vm.findClass y.cls = some cell.cls) (hR : k + 1 ≤ R.frames ∧ 8 + (maxL + 11) + 40 * k ≤ R.locals) (hn : As.length = n) (hls : ls.size = nL) (hst : st0 = As.reverse ++ .ref b :: rest) (hW : (rest.map fun v => v.category).sum ≤ 8) (hdg : decode cc pc = .ok (.invokevirtual index, 3)) :
    va_Run p l e R s m args below meth c H locs 0 0 0 0 (F0 m pc ls st0) rest (Qc (Value.ref b :: As).toArray) A :=
  va_runVN (As := As) (rest := rest) (C := y.cls) S hM ⟨va_cnB n S.2.2.2.2 (XT_good cv.1) rfl rfl rfl hl (g_in S cv.2.2.2.1) cv.2.2.2.2 hR, g_in S cv.2.1, g_in S cv.2.2.1⟩ ⟨g_blind hg, hrecv, fun U hU hW => g_pre hg hI hN hS U hU hW⟩ rfl hn hls hst (lv_room hW) hdg ⟨Nat.zero_le _, Nat.zero_le _⟩
theorem g_runS (S : CallFix p m c cc nL s args (c0 :: XT) own) (hg : IG I N A) (hI : I u s H) (hN : N s) (hS : va_S A s.heap H locs) (hM : Met l y (Cond.code y bytes maxL ret :: XT) (Rm k) (va_Pc As (Pr I N u)) Qc 0 0 A) (cv : CS y bytes maxL ret n) (hl : Cond.methodLink own index y ∈ XT)
    (hR : k + 1 ≤ R.frames ∧ 8 + (maxL + 11) + 40 * k ≤ R.locals) (hn : As.length = n) (hls : ls.size = nL) (hst : st0 = As.reverse ++ rest) (hW : (rest.map fun v => v.category).sum ≤ 8) (hdg : decode cc pc = .ok (.invokestatic index, 3)) :
    va_Run p l e R s m args below meth c H locs 0 0 0 0 (F0 m pc ls st0) rest (Qc As.toArray) A :=
  va_runS (As := As) (rest := rest) S hM ⟨callB_of n S.2.2.2.2 (XT_good cv.1) rfl rfl rfl (g_in S cv.2.2.1) (g_in S hl) cv.2.2.2 hR, g_in S cv.2.1⟩ ⟨g_blind hg, fun U hU hW => g_pre hg hI hN hS U hU hW⟩ rfl hn hls hst (lv_room hW) hdg ⟨Nat.zero_le _, Nat.zero_le _⟩
theorem g_runSN {host : String} (S : CallFix p m c cc nL s args (c0 :: XT) own) (hg : IG I N A) (hI : I u s H) (hN : N s) (hS : va_S A s.heap H locs) (hM : Met l y (Cond.code y bytes maxL ret :: XT) (Rm k) (va_Pc As (Pr I N u)) Qc 0 0 A) (cv : CS y bytes maxL ret n) (hl : va_Nw (.methodLinkNest own index y host) s)
    (hR : k + 1 ≤ R.frames ∧ 8 + (maxL + 11) + 40 * k ≤ R.locals) (hn : As.length = n) (hls : ls.size = nL) (hst : st0 = As.reverse ++ rest) (hW : (rest.map fun v => v.category).sum ≤ 8) (hdg : decode cc pc = .ok (.invokestatic index, 3)) :
    va_Run p l e R s m args below meth c H locs 0 0 0 0 (F0 m pc ls st0) rest (Qc As.toArray) A :=
  va_runSN (As := As) (rest := rest) S hM ⟨va_cnB n S.2.2.2.2 (XT_good cv.1) rfl rfl rfl hl (g_in S cv.2.2.1) cv.2.2.2 hR, g_in S cv.2.1, trivial⟩ ⟨g_blind hg, fun U hU hW => g_pre hg hI hN hS U hU hW⟩ rfl hn hls hst (lv_room hW) hdg ⟨Nat.zero_le _, Nat.zero_le _⟩
theorem g_ci {post : Int32 → SS → Prop} {a : Array Value} (hg : IG I N A) (hS : va_S A s.heap H locs) (hr : va_Run p l e R s m args below meth c H locs 0 0 0 0 (F0 m pc ls st0) rest (va_Qi post (Po I) A a) A)
    (kk : ∀ (r : Int32) (u' : SS) (H1 : Heap) (locs1 : List Loc), I u' s H1 → va_S A s.heap H1 locs1 → post r u' → W p l e R s m args below meth c H1 locs1 0 0 Q (F0 m (pc + 3) ls (.int r :: rest))) : W p l e R s m args below meth c H locs 0 0 Q (F0 m pc ls st0) :=
  va_calli hr hS (fun q _ h => h) (fun q h => h) (fun r u' t H1 locs1 ht hvm hp hB _ _ hS1 => kk r u' H1 locs1 (hg.1 u' t s H1 hvm.symm (by rw [← ht]; exact hB)) hS1 hp)
theorem g_cl {post : Int64 → SS → Prop} {a : Array Value} (hg : IG I N A) (hS : va_S A s.heap H locs) (hr : va_Run p l e R s m args below meth c H locs 0 0 0 0 (F0 m pc ls st0) rest (va_Ql post (Po I) A a) A)
    (kk : ∀ (r : Int64) (u' : SS) (H1 : Heap) (locs1 : List Loc), I u' s H1 → va_S A s.heap H1 locs1 → post r u' → W p l e R s m args below meth c H1 locs1 0 0 Q (F0 m (pc + 3) ls (.long r :: rest))) : W p l e R s m args below meth c H locs 0 0 Q (F0 m pc ls st0) :=
  va_calll hr hS (fun q _ h => h) (fun q h => h) (fun r u' t H1 locs1 ht hvm hp hB _ _ hS1 => kk r u' H1 locs1 (hg.1 u' t s H1 hvm.symm (by rw [← ht]; exact hB)) hS1 hp)
theorem g_cv {post : SS → Prop} {a : Array Value} (hg : IG I N A) (hS : va_S A s.heap H locs) (hr : va_Run p l e R s m args below meth c H locs 0 0 0 0 (F0 m pc ls st0) rest (va_Qv post (Po I) A a) A)
    (kk : ∀ (u' : SS) (H1 : Heap) (locs1 : List Loc), I u' s H1 → va_S A s.heap H1 locs1 → post u' → W p l e R s m args below meth c H1 locs1 0 0 Q (F0 m (pc + 3) ls rest)) : W p l e R s m args below meth c H locs 0 0 Q (F0 m pc ls st0) :=
  va_callv hr hS (fun q _ h => h) (fun q h => h) (fun u' t H1 locs1 ht hvm hp hB _ _ hS1 => kk u' H1 locs1 (hg.1 u' t s H1 hvm.symm (by rw [← ht]; exact hB)) hS1 hp)
theorem g_iret {post : Int32 → SS → Prop} {v : Int32} (S : CallFix p m c cc nL s args (c0 :: XT) own) (hr : meth.sig.returnType = some .int) (hlocks : meth.locks = false) (hg : IG I N A) (hI : I u s H) (hS : va_S A s.heap H locs) (hdg : decode cc pc = .ok (.ireturn, 1)) (hw : post v u) : W p l e R s m args below meth c H locs 0 0 (MQ below (va_Qi post (Po I) A) args s 0 0 A) (F0 m pc ls [.int v]) :=
  W.iret S.1 S.2.1 hr (fun t ht hW => ⟨⟨v, u, rfl, hw, by show I u t t.heap; rw [ht]; exact hg.1 u s t H hW.alike hI⟩, hS.F ht⟩) hS.2.2 hdg hlocks
theorem g_zret {post : Int32 → SS → Prop} {v : Int32} {ty : FieldType} (S : CallFix p m c cc nL s args (c0 :: XT) own) (hr : meth.sig.returnType = some ty) (hnr : narrow ty (.int v) = .int v) (hlocks : meth.locks = false) (hg : IG I N A) (hI : I u s H) (hS : va_S A s.heap H locs) (hdg : decode cc pc = .ok (.ireturn, 1)) (hw : post v u) : W p l e R s m args below meth c H locs 0 0 (MQ below (va_Qi post (Po I) A) args s 0 0 A) (F0 m pc ls [.int v]) :=
  W.zret S.1 S.2.1 hr hnr (fun t ht hW => ⟨⟨v, u, rfl, hw, by show I u t t.heap; rw [ht]; exact hg.1 u s t H hW.alike hI⟩, hS.F ht⟩) hS.2.2 hdg hlocks
theorem g_lret {post : Int64 → SS → Prop} {v : Int64} (S : CallFix p m c cc nL s args (c0 :: XT) own) (hr : meth.sig.returnType = some .long) (hlocks : meth.locks = false) (hg : IG I N A) (hI : I u s H) (hS : va_S A s.heap H locs) (hdg : decode cc pc = .ok (.lreturn, 1)) (hw : post v u) : W p l e R s m args below meth c H locs 0 0 (MQ below (va_Ql post (Po I) A) args s 0 0 A) (F0 m pc ls [.long v]) :=
  W.lret S.1 S.2.1 hr (fun t ht hW => ⟨⟨v, u, rfl, hw, by show I u t t.heap; rw [ht]; exact hg.1 u s t H hW.alike hI⟩, hS.F ht⟩) hS.2.2 hdg hlocks
theorem g_vret {post : SS → Prop} (S : CallFix p m c cc nL s args (c0 :: XT) own) (hr : meth.sig.returnType = none) (hlocks : meth.locks = false) (hg : IG I N A) (hI : I u s H) (hS : va_S A s.heap H locs) (hdg : decode cc pc = .ok (.return_, 1)) (hw : post u) : W p l e R s m args below meth c H locs 0 0 (MQ below (va_Qv post (Po I) A) args s 0 0 A) (F0 m pc ls []) :=
  W.vret S.1 S.2.1 hr (fun t ht hW => ⟨⟨u, rfl, hw, by show I u t t.heap; rw [ht]; exact hg.1 u s t H hW.alike hI⟩, hS.F ht⟩) hS.2.2 hdg hlocks
/-- a contract by a walk: what stands at the entry -/
theorem g_of {av : List Value} {free : Addr → Prop} (hy : plainName y.cls = true) (hav : (lg_sl av).length ≤ maxL) {lv : List (Nat × Value)} (hlv : lv_args 0 av = lv)
    (body : ∀ (p : Program) (e : Env) (s : State) (m : MethodId) (below : List Frame) (meth : Method) (c : Code) (ls : Array Slot), CallFix p m c bytes maxL s av.toArray (Cond.code y bytes maxL ret :: XT) y.cls → meth.sig.returnType = ret → meth.locks = false → I u s s.heap → N s → va_S A s.heap s.heap [] → lv_has ls maxL lv →
      W p l e (Rm k) s m av.toArray below meth c s.heap [] 0 0 (MQ below Qc av.toArray s 0 0 free) (F0 m 0 ls [])) : Met l y (Cond.code y bytes maxL ret :: XT) (Rm k) (va_Pc av (Pr I N u)) Qc 0 0 free := by
  refine Met.ofW (cc := bytes) (maxL := maxL) (ret := ret) hy rfl ?_
  intro p e s m args below meth c s₁ B hml hv
  obtain ⟨rfl, hI, hN⟩ := hv
  have hl := lv_entry av (n := maxL) hav
  rw [lg_entry_eq]
  rw [hlv] at hl
  exact body p e s m below meth c _ ⟨B.exec, B.bytes, hml, findClass_of_methodNamed B.named, atoms_spec (ws := Cond.code y bytes maxL ret :: XT) B.pre⟩ B.returns B.notSynchronized hI hN va_S.rf hl
end GRUN
theorem tbl_out {x : Int32} (lo hi : Int) (h : ∀ j : Int, lo ≤ j → j ≤ hi → ¬ x.toInt = j) : x.toInt < lo ∨ hi < x.toInt := by
  rcases Int.lt_or_le x.toInt lo with h1 | h1
  · exact Or.inl h1
  · rcases Int.lt_or_le hi x.toInt with h2 | h2
    · exact Or.inr h2
    · exact absurd rfl (h _ h1 h2)
