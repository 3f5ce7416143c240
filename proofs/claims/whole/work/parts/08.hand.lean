/-! rows that are read and written by one method: at, put, copyRow -/
def xby (j : Nat) : Int32 := ([110, 108, 102, 115, 111] : List Int32).getD j 0
theorem xT {ad : Nat → Nat} {rk ks kv : Nat} {U : State} (h : xN ad rk ks kv U) : va_T .byte kv 5 (fun j => .int (xby j)) (xA ad) U U.heap := (h.2.2.2.2.2.2.2.1 0 (by decide)).2.2.2
def atv (n : Nat) (f : Nat → Int32) (i : Int32) : Int32 := if i < 0 ∨ n ≤ i.toNatClampNeg then 0 else f i.toNatClampNeg
def xat (u : SS) (j : Nat) (i : Int32) : Int32 := atv (xlen j) (u.2.2 j) i
def xrol (i : Int32) : Int32 := atv 5 xroles i
def xput (u : SS) (j : Nat) (i v : Int32) : SS := if i < 0 ∨ xlen j ≤ i.toNatClampNeg then u else sA u j i.toNatClampNeg v
def xcpy (u : SS) (jf jt : Nat) : SS := sR u jt (va_cpy (u.2.2 jf) (u.2.2 jt) 0 0 (xlen jf))
theorem xlen_lt : ∀ j : Nat, xlen j < 2 ^ 31 := by
  intro j
  unfold xlen
  split <;> decide
theorem atv_hi {n : Nat} {f : Nat → Int32} {i : Int32} (hn : n < 2 ^ 31) (h : nI n ≤ i) : i < 0 ∨ n ≤ i.toNatClampNeg := by
  rcases pk_ix i hn with h1 | h1 | ⟨j, hj, rfl⟩
  · exact Or.inl h1
  · right
    have h2 : ¬ i < 0 := fun q => by
      have := Int32.lt_of_le_of_lt h1 q
      exact nI_pos hn this
    obtain ⟨j, hj, rfl⟩ := nI_of h2
    rw [nI_clamp hj]
    exact (nI_leI hn hj).mp h1
  · exact absurd h (nI_ge hj hn)
theorem atv_in {n : Nat} {i : Int32} (hn : n < 2 ^ 31) (h0 : ¬ i < 0) (h : ¬ nI n ≤ i) : vp_in i n := by
  rcases pk_ix i hn with h1 | h1 | ⟨j, hj, rfl⟩
  · exact absurd h1 h0
  · exact absurd h1 h
  · exact vp_in_nI hj hn
set_option maxRecDepth 100000 in
set_option maxHeartbeats 4000000 in
theorem c_at (l : Launch) (a n : Nat) (f : Nat → Int32) (i : Int32) (u : SS) (hn : n < 2 ^ 31) : Met l yX4_at (Cond.code yX4_at cX4_at 2 (some .int) :: XT) (Rm 1) (va_Pc [.ref a, .int i] (Pr (fun _ U H => va_X a n f U H) (fun _ => True) u)) (vp_Si (fun r => r = atv n f i)) 0 0 (fun _ => False) := by
  refine g_of (A := fun _ => False) (by decide) (Nat.le_of_ble_eq_true rfl) (lv := [(0, .ref a), (1, .int i)]) rfl ?_
  intro p e s m below meth c ls S hr hk hI hN hS hl
  have hx := S.1
  have hb := S.2.1
  have hI : va_X a n f s s.heap := hI
  refine lv_iload_n hx hb dX4_at_0 rfl (lv_at hl 1 rfl) ?_
  refine lv_if_lt (tgt := 16) hx hb dX4_at_1 (by decide) (fun hc => ?_) (fun hc => ?_)
  · refine lv_iconst (v := (0 : Int32)) hx hb dX4_at_16 (by decide) ?_
    exact W.iret hx hb hr (fun t ht hW => ⟨_, rfl, by rw [atv, if_pos (Or.inl hc)], ht⟩) (fun q h => by cases h) dX4_at_17 hk
  · refine lv_iload_n hx hb dX4_at_4 rfl (lv_at hl 1 rfl) ?_
    refine lv_aload_n hx hb dX4_at_5 rfl (lv_at hl 0 rfl) ?_
    refine va_slen hx hb hI hI.lt (fun h => h) hS dX4_at_6 ?_
    refine lv_icmp_ge (tgt := 16) hx hb dX4_at_7 (by decide) (fun hd => ?_) (fun hd => ?_)
    · refine lv_iconst (v := (0 : Int32)) hx hb dX4_at_16 (by decide) ?_
      exact W.iret hx hb hr (fun t ht hW => ⟨_, rfl, by rw [atv, if_pos (atv_hi (f := f) hn hd)], ht⟩) (fun q h => by cases h) dX4_at_17 hk
    · have hin := atv_in hn hc hd
      refine lv_aload_n hx hb dX4_at_10 rfl (lv_at hl 0 rfl) ?_
      refine lv_iload_n hx hb dX4_at_11 rfl (lv_at hl 1 rfl) ?_
      refine va_sld hx hb hI hI.lt (fun h => h) hS hin dX4_at_12 ?_
      refine lv_goto (tgt := 17) hx hb dX4_at_13 (by decide) ?_
      exact W.iret hx hb hr (fun t ht hW => ⟨_, rfl, by rw [atv, if_neg hin], ht⟩) (fun q h => by cases h) dX4_at_17 hk
set_option maxRecDepth 100000 in
set_option maxHeartbeats 4000000 in
theorem c_atT (l : Launch) (a n : Nat) (f : Nat → Int32) (i : Int32) (u : SS) (hn : n < 2 ^ 31) : Met l yX4_at (Cond.code yX4_at cX4_at 2 (some .int) :: XT) (Rm 1) (va_Pc [.ref a, .int i] (Pr (fun _ U H => va_T .int a n (fun j => .int (f j)) (fun _ => False) U H) (fun _ => True) u)) (vp_Si (fun r => r = atv n f i)) 0 0 (fun _ => False) := by
  refine g_of (A := fun _ => False) (by decide) (Nat.le_of_ble_eq_true rfl) (lv := [(0, .ref a), (1, .int i)]) rfl ?_
  intro p e s m below meth c ls S hr hk hI hN hS hl
  have hx := S.1
  have hb := S.2.1
  have hI : va_T .int a n (fun j => .int (f j)) (fun _ => False) s s.heap := hI
  refine lv_iload_n hx hb dX4_at_0 rfl (lv_at hl 1 rfl) ?_
  refine lv_if_lt (tgt := 16) hx hb dX4_at_1 (by decide) (fun hc => ?_) (fun hc => ?_)
  · refine lv_iconst (v := (0 : Int32)) hx hb dX4_at_16 (by decide) ?_
    exact W.iret hx hb hr (fun t ht hW => ⟨_, rfl, by rw [atv, if_pos (Or.inl hc)], ht⟩) (fun q h => by cases h) dX4_at_17 hk
  · refine lv_iload_n hx hb dX4_at_4 rfl (lv_at hl 1 rfl) ?_
    refine lv_aload_n hx hb dX4_at_5 rfl (lv_at hl 0 rfl) ?_
    refine va_tlen (v := nI n) hx hb hI hS rfl dX4_at_6 ?_
    refine lv_icmp_ge (tgt := 16) hx hb dX4_at_7 (by decide) (fun hd => ?_) (fun hd => ?_)
    · refine lv_iconst (v := (0 : Int32)) hx hb dX4_at_16 (by decide) ?_
      exact W.iret hx hb hr (fun t ht hW => ⟨_, rfl, by rw [atv, if_pos (atv_hi (f := f) hn hd)], ht⟩) (fun q h => by cases h) dX4_at_17 hk
    · have hin := atv_in hn hc hd
      refine lv_aload_n hx hb dX4_at_10 rfl (lv_at hl 0 rfl) ?_
      refine lv_iload_n hx hb dX4_at_11 rfl (lv_at hl 1 rfl) ?_
      refine va_ti (v := .int (f i.toNatClampNeg)) hx hb hI hS hin rfl dX4_at_12 ?_
      refine lv_goto (tgt := 17) hx hb dX4_at_13 (by decide) ?_
      exact W.iret hx hb hr (fun t ht hW => ⟨_, rfl, by rw [atv, if_neg hin], ht⟩) (fun q h => by cases h) dX4_at_17 hk
theorem IGat {a n : Nat} {f : Nat → Int32} : IG (fun _ U H => va_X a n f U H) (fun _ => True) (fun _ => False) := ⟨fun u U V H hvm h => va_X.moved hvm h, fun _ _ _ _ _ => trivial, fun _ _ _ _ _ => trivial⟩
theorem IGatT {a n : Nat} {f : Nat → Int32} : IG (fun _ U H => va_T .int a n (fun j => .int (f j)) (fun _ => False) U H) (fun _ => True) (fun _ => False) := ⟨fun u U V H hvm h => va_T.moved hvm h, fun _ _ _ _ _ => trivial, fun _ _ _ _ _ => trivial⟩
theorem xI_X {D : va_G} {ad : Nat → Nat} {cI : ClassId} {u : SS} {U : State} {H : Heap} (h : xI D ad cI u U H) {j : Nat} (hj : j < 13) : va_X (ad (7 + j)) (xlen j) (u.2.2 j) U H := by
  refine ⟨vp_cell cI (xlen j, .inl (u.2.2 j)), h.1 _ _ (xW_arr ad cI u j hj), (h.2.1.2 0 _ rfl).1 (xlen j) (fun k => .int (u.2.2 j k)), (fun q => by cases q), ?_, fun k hk => ?_⟩
  · show (arrV _ _ _).slots.size = _
    rw [arrV_size]
  · show (arrV _ _ _).slots[_]? = _
    rw [arrV_read _ _ hk]
section HAND
variable {p : Program} {l : Launch} {e : Env} {R : Room} {s : State} {m : MethodId} {args : Array Value} {below : List Frame} {meth : Method} {c : Code} {H : Heap} {locs : List Loc} {Q : State → Prop} {cc : ByteArray} {nL pc index : Nat} {ls : Array Slot} {rest : List Value} {c0 : Cond} {own : String}
variable {D : va_G} {ad : Nat → Nat} {cI : ClassId} {rk ks kv : Nat} {u : SS} {j jf jt : Nat} {i v : Int32}
theorem at_S {a n : Nat} {f : Nat → Int32} (S : CallFix p m c cc nL s args (c0 :: XT) own) (hX : va_X a n f s H) (hn : n < 2 ^ 31) (hls : ls.size = nL) (hl : Cond.methodLink own index yX4_at ∈ XT) (hR : 1 + 1 ≤ R.frames ∧ 8 + (2 + 11) + 40 * 1 ≤ R.locals) (hW : (rest.map fun v => v.category).sum ≤ 8) (hdg : decode cc pc = .ok (.invokestatic index, 3)) (kk : W p l e R s m args below meth c H locs 0 0 Q (F0 m (pc + 3) ls (.int (atv n f i) :: rest))) : W p l e R s m args below meth c H locs 0 0 Q (F0 m pc ls (.int i :: .ref a :: rest)) := by
  refine vp_callSi (va_Run.run (va_runS (As := [.ref a, .int i]) (rest := rest) S (c_at l a n f i (fun _ => 0, fun _ => 0, fun _ _ => 0) hn) ⟨callB_of 2 S.2.2.2.2 (XT_good cs_yX4_at.1) rfl rfl rfl (g_in S cs_yX4_at.2.2.1) (g_in S hl) cs_yX4_at.2.2.2 hR, g_in S cs_yX4_at.2.1⟩ ⟨g_blind IGat, fun U hU hW => ⟨rfl, by show va_X a n f U U.heap; rw [hU]; exact va_X.moved hW.alike hX, trivial⟩⟩ rfl rfl hls rfl (lv_room hW) hdg ⟨Nat.zero_le _, Nat.zero_le _⟩)) (fun r hr => ?_)
  subst hr
  exact kk
theorem at_ST {a n : Nat} {f : Nat → Int32} (S : CallFix p m c cc nL s args (c0 :: XT) own) (hX : va_T .int a n (fun j => .int (f j)) (fun _ => False) s H) (hn : n < 2 ^ 31) (hls : ls.size = nL) (hl : Cond.methodLink own index yX4_at ∈ XT) (hR : 1 + 1 ≤ R.frames ∧ 8 + (2 + 11) + 40 * 1 ≤ R.locals) (hW : (rest.map fun v => v.category).sum ≤ 8) (hdg : decode cc pc = .ok (.invokestatic index, 3)) (kk : W p l e R s m args below meth c H locs 0 0 Q (F0 m (pc + 3) ls (.int (atv n f i) :: rest))) : W p l e R s m args below meth c H locs 0 0 Q (F0 m pc ls (.int i :: .ref a :: rest)) := by
  refine vp_callSi (va_Run.run (va_runS (As := [.ref a, .int i]) (rest := rest) S (c_atT l a n f i (fun _ => 0, fun _ => 0, fun _ _ => 0) hn) ⟨callB_of 2 S.2.2.2.2 (XT_good cs_yX4_at.1) rfl rfl rfl (g_in S cs_yX4_at.2.2.1) (g_in S hl) cs_yX4_at.2.2.2 hR, g_in S cs_yX4_at.2.1⟩ ⟨g_blind IGatT, fun U hU hW => ⟨rfl, by show va_T .int a n (fun j => .int (f j)) (fun _ => False) U U.heap; rw [hU]; exact va_T.moved hW.alike hX, trivial⟩⟩ rfl rfl hls rfl (lv_room hW) hdg ⟨Nat.zero_le _, Nat.zero_le _⟩)) (fun r hr => ?_)
  subst hr
  exact kk
theorem at_N {a n : Nat} {f : Nat → Int32} {host : String} (S : CallFix p m c cc nL s args (c0 :: XT) own) (hX : va_X a n f s H) (hn : n < 2 ^ 31) (hls : ls.size = nL) (hl : va_Nw (.methodLinkNest own index yX4_at host) s) (hR : 1 + 1 ≤ R.frames ∧ 8 + (2 + 11) + 40 * 1 ≤ R.locals) (hW : (rest.map fun v => v.category).sum ≤ 8) (hdg : decode cc pc = .ok (.invokestatic index, 3)) (kk : W p l e R s m args below meth c H locs 0 0 Q (F0 m (pc + 3) ls (.int (atv n f i) :: rest))) : W p l e R s m args below meth c H locs 0 0 Q (F0 m pc ls (.int i :: .ref a :: rest)) := by
  refine vp_callSi (va_Run.run (va_runSN (As := [.ref a, .int i]) (rest := rest) S (c_at l a n f i (fun _ => 0, fun _ => 0, fun _ _ => 0) hn) ⟨va_cnB 2 S.2.2.2.2 (XT_good cs_yX4_at.1) rfl rfl rfl hl (g_in S cs_yX4_at.2.2.1) cs_yX4_at.2.2.2 hR, g_in S cs_yX4_at.2.1, trivial⟩ ⟨g_blind IGat, fun U hU hW => ⟨rfl, by show va_X a n f U U.heap; rw [hU]; exact va_X.moved hW.alike hX, trivial⟩⟩ rfl rfl hls rfl (lv_room hW) hdg ⟨Nat.zero_le _, Nat.zero_le _⟩)) (fun r hr => ?_)
  subst hr
  exact kk
theorem at_NT {a n : Nat} {f : Nat → Int32} {host : String} (S : CallFix p m c cc nL s args (c0 :: XT) own) (hX : va_T .int a n (fun j => .int (f j)) (fun _ => False) s H) (hn : n < 2 ^ 31) (hls : ls.size = nL) (hl : va_Nw (.methodLinkNest own index yX4_at host) s) (hR : 1 + 1 ≤ R.frames ∧ 8 + (2 + 11) + 40 * 1 ≤ R.locals) (hW : (rest.map fun v => v.category).sum ≤ 8) (hdg : decode cc pc = .ok (.invokestatic index, 3)) (kk : W p l e R s m args below meth c H locs 0 0 Q (F0 m (pc + 3) ls (.int (atv n f i) :: rest))) : W p l e R s m args below meth c H locs 0 0 Q (F0 m pc ls (.int i :: .ref a :: rest)) := by
  refine vp_callSi (va_Run.run (va_runSN (As := [.ref a, .int i]) (rest := rest) S (c_atT l a n f i (fun _ => 0, fun _ => 0, fun _ _ => 0) hn) ⟨va_cnB 2 S.2.2.2.2 (XT_good cs_yX4_at.1) rfl rfl rfl hl (g_in S cs_yX4_at.2.2.1) cs_yX4_at.2.2.2 hR, g_in S cs_yX4_at.2.1, trivial⟩ ⟨g_blind IGatT, fun U hU hW => ⟨rfl, by show va_T .int a n (fun j => .int (f j)) (fun _ => False) U U.heap; rw [hU]; exact va_T.moved hW.alike hX, trivial⟩⟩ rfl rfl hls rfl (lv_room hW) hdg ⟨Nat.zero_le _, Nat.zero_le _⟩)) (fun r hr => ?_)
  subst hr
  exact kk
theorem x_atS (S : CallFix p m c cc nL s args (c0 :: XT) own) (hI : xI D ad cI u s H) (hls : ls.size = nL) (hj : j < 13) (hl : Cond.methodLink own index yX4_at ∈ XT) (hR : 1 + 1 ≤ R.frames ∧ 8 + (2 + 11) + 40 * 1 ≤ R.locals) (hW : (rest.map fun v => v.category).sum ≤ 8) (hdg : decode cc pc = .ok (.invokestatic index, 3)) (kk : W p l e R s m args below meth c H locs 0 0 Q (F0 m (pc + 3) ls (.int (xat u j i) :: rest))) : W p l e R s m args below meth c H locs 0 0 Q (F0 m pc ls (.int i :: .ref (ad (7 + j)) :: rest)) := at_S S (xI_X hI hj) (xlen_lt j) hls hl hR hW hdg kk
theorem x_atN {host : String} (S : CallFix p m c cc nL s args (c0 :: XT) own) (hI : xI D ad cI u s H) (hls : ls.size = nL) (hj : j < 13) (hl : va_Nw (.methodLinkNest own index yX4_at host) s) (hR : 1 + 1 ≤ R.frames ∧ 8 + (2 + 11) + 40 * 1 ≤ R.locals) (hW : (rest.map fun v => v.category).sum ≤ 8) (hdg : decode cc pc = .ok (.invokestatic index, 3)) (kk : W p l e R s m args below meth c H locs 0 0 Q (F0 m (pc + 3) ls (.int (xat u j i) :: rest))) : W p l e R s m args below meth c H locs 0 0 Q (F0 m pc ls (.int i :: .ref (ad (7 + j)) :: rest)) := at_N S (xI_X hI hj) (xlen_lt j) hls hl hR hW hdg kk
theorem x_atRS (S : CallFix p m c cc nL s args (c0 :: XT) own) (hN : xN ad rk ks kv s) (hS : va_S (xA ad) s.heap H locs) (hls : ls.size = nL) (hl : Cond.methodLink own index yX4_at ∈ XT) (hR : 1 + 1 ≤ R.frames ∧ 8 + (2 + 11) + 40 * 1 ≤ R.locals) (hW : (rest.map fun v => v.category).sum ≤ 8) (hdg : decode cc pc = .ok (.invokestatic index, 3)) (kk : W p l e R s m args below meth c H locs 0 0 Q (F0 m (pc + 3) ls (.int (xrol i) :: rest))) : W p l e R s m args below meth c H locs 0 0 Q (F0 m pc ls (.int i :: .ref rk :: rest)) := at_ST S ((hN.2.2.2.2.1.kept hS.2.1).narrow (fun _ h => h.elim)) (by decide) hls hl hR hW hdg kk
theorem x_atRN {host : String} (S : CallFix p m c cc nL s args (c0 :: XT) own) (hN : xN ad rk ks kv s) (hS : va_S (xA ad) s.heap H locs) (hls : ls.size = nL) (hl : va_Nw (.methodLinkNest own index yX4_at host) s) (hR : 1 + 1 ≤ R.frames ∧ 8 + (2 + 11) + 40 * 1 ≤ R.locals) (hW : (rest.map fun v => v.category).sum ≤ 8) (hdg : decode cc pc = .ok (.invokestatic index, 3)) (kk : W p l e R s m args below meth c H locs 0 0 Q (F0 m (pc + 3) ls (.int (xrol i) :: rest))) : W p l e R s m args below meth c H locs 0 0 Q (F0 m pc ls (.int i :: .ref rk :: rest)) := at_NT S ((hN.2.2.2.2.1.kept hS.2.1).narrow (fun _ h => h.elim)) (by decide) hls hl hR hW hdg kk
end HAND
set_option maxRecDepth 100000 in
set_option maxHeartbeats 4000000 in
theorem c_put (l : Launch) (D : va_G) (ad : Nat → Nat) (cI : ClassId) (rk ks kv : Nat) (j : Nat) (hj : j < 13) (i v : Int32) (u : SS) : Met l yX4_put (Cond.code yX4_put cX4_put 3 none :: XT) (Rm 1) (va_Pc [.ref (ad (7 + j)), .int i, .int v] (Pr (xI D ad cI) (xN ad rk ks kv) u)) (va_Qv (fun z => xput u j i v = z) (Po (xI D ad cI)) (xA ad)) 0 0 (xA ad) := by
  refine g_of (A := (xA ad)) (by decide) (Nat.le_of_ble_eq_true rfl) (lv := [(0, .ref (ad (7 + j))), (1, .int i), (2, .int v)]) rfl ?_
  intro p e s m below meth c ls S hr hk hI hN hS hl
  have hx := S.1
  have hb := S.2.1
  have hg := @xG D ad cI rk ks kv
  refine lv_iload_n hx hb dX4_put_0 rfl (lv_at hl 1 rfl) ?_
  refine lv_if_lt (tgt := 14) hx hb dX4_put_1 (by decide) (fun hc => ?_) (fun hc => ?_)
  · exact g_vret S hr hk hg hI hS dX4_put_14 (by rw [xput, if_pos (Or.inl hc)])
  · refine lv_iload_n hx hb dX4_put_4 rfl (lv_at hl 1 rfl) ?_
    refine lv_aload_n hx hb dX4_put_5 rfl (lv_at hl 0 rfl) ?_
    refine va_alen (v := nI (xlen j)) hx hb hI.2.1 hI.1 (7 + j) 0 (xW_arr ad cI u j hj) rfl rfl dX4_put_6 ?_
    refine lv_icmp_ge (tgt := 14) hx hb dX4_put_7 (by decide) (fun hd => ?_) (fun hd => ?_)
    · exact g_vret S hr hk hg hI hS dX4_put_14 (by rw [xput, if_pos (atv_hi (f := fun _ => 0) (xlen_lt j) hd)])
    · have hin := atv_in (xlen_lt j) hc hd
      refine lv_aload_n hx hb dX4_put_10 rfl (lv_at hl 0 rfl) ?_
      refine lv_iload_n hx hb dX4_put_11 rfl (lv_at hl 1 rfl) ?_
      refine lv_iload_n hx hb dX4_put_12 rfl (lv_at hl 2 rfl) ?_
      refine va_iast hx hb hI.2.1 hI.1 hI.2.2 hS (7 + j) 0 (xW_arr ad cI u j hj) rfl hin dX4_put_13 (fun H locs h1 h2 hS => ?_)
      rw [xW_set ad cI u _ j hj] at h1 h2
      exact g_vret (u := sA u j i.toNatClampNeg v) S hr hk hg ⟨h1, hI.2.1, h2⟩ hS dX4_put_14 (by rw [xput, if_neg hin])
set_option maxRecDepth 100000 in
set_option maxHeartbeats 4000000 in
theorem c_cpy (l : Launch) (D : va_G) (ad : Nat → Nat) (cI : ClassId) (rk ks kv : Nat) (jf jt : Nat) (hf : jf < 13) (ht : jt < 13) (he : xlen jf = xlen jt) (u : SS) : Met l yX4_copyRow (Cond.code yX4_copyRow cX4_copyRow 2 none :: XT) (Rm 1) (va_Pc [.ref (ad (7 + jf)), .ref (ad (7 + jt))] (Pr (xI D ad cI) (xN ad rk ks kv) u)) (va_Qv (fun z => xcpy u jf jt = z) (Po (xI D ad cI)) (xA ad)) 0 0 (xA ad) := by
  refine g_of (A := (xA ad)) (by decide) (Nat.le_of_ble_eq_true rfl) (lv := [(0, .ref (ad (7 + jf))), (1, .ref (ad (7 + jt)))]) rfl ?_
  intro p e s m below meth c ls S hr hk hI hN hS hl
  have hx := S.1
  have hb := S.2.1
  have ho := S.2.2.2.1
  have hg := @xG D ad cI rk ks kv
  refine lv_aload_n hx hb dX4_copyRow_0 rfl (lv_at hl 0 rfl) ?_
  refine lv_iconst (v := (0 : Int32)) hx hb dX4_copyRow_1 (by decide) ?_
  refine lv_aload_n hx hb dX4_copyRow_2 rfl (lv_at hl 1 rfl) ?_
  refine lv_iconst (v := (0 : Int32)) hx hb dX4_copyRow_3 (by decide) ?_
  refine lv_aload_n hx hb dX4_copyRow_4 rfl (lv_at hl 0 rfl) ?_
  refine va_alen (v := nI (xlen jf)) hx hb hI.2.1 hI.1 (7 + jf) 0 (xW_arr ad cI u jf hf) rfl rfl dX4_copyRow_5 ?_
  refine lv_aload_n hx hb dX4_copyRow_6 rfl (lv_at hl 1 rfl) ?_
  refine va_alen (v := nI (xlen jt)) hx hb hI.2.1 hI.1 (7 + jt) 0 (xW_arr ad cI u jt ht) rfl rfl dX4_copyRow_7 ?_
  refine va_mmin hx hb (S.2.2.1.trans hl.1.symm) ho (g_in S qm_X4_210) (g_in S qs_Lib_Math_min_name) (g_in S qz_java_lang_Math) (g_in S qc_Lib_Math_min_name) (Nat.le_of_ble_eq_true rfl) (Nat.le_of_ble_eq_true rfl) (Nat.zero_le _) (Nat.zero_le _) dX4_copyRow_8 ?_
  have e1 : (if nI (xlen jt) < nI (xlen jf) then nI (xlen jt) else nI (xlen jf)) = nI (xlen jf) := by rw [he]; simp
  rw [e1]
  have h0 : (0 : Int32).toNatClampNeg = 0 := rfl
  have hc := nI_clamp (xlen_lt jf)
  refine va_copyi hx hb (S.2.2.1.trans hl.1.symm) ho (g_in S qm_X4_215) (g_in S qn_arraycopyName) (g_in S qs_arraycopyName) (g_in S qz_java_lang_System) hI.2.1 hI.1 hI.2.2 hS (7 + jf) (7 + jt) 0 0 (xW_arr ad cI u jf hf) (xW_arr ad cI u jt ht) rfl rfl rfl (by decide) (by decide) (nI_pos (xlen_lt jf)) (by rw [h0, hc]; omega) (by rw [h0, hc]; omega) (fun _ _ => rfl) (Nat.le_of_ble_eq_true rfl) (Nat.le_of_ble_eq_true rfl) dX4_copyRow_11 (fun H locs h1 h2 hS => ?_)
  rw [h0, hc, xW_set ad cI u _ jt ht] at h1 h2
  exact g_vret (u := xcpy u jf jt) S hr hk hg ⟨h1, hI.2.1, h2⟩ hS dX4_copyRow_14 rfl
section HAND2
variable {p : Program} {l : Launch} {e : Env} {R : Room} {s : State} {m : MethodId} {args : Array Value} {below : List Frame} {meth : Method} {c : Code} {H : Heap} {locs : List Loc} {Q : State → Prop} {cc : ByteArray} {nL pc index : Nat} {ls : Array Slot} {rest : List Value} {c0 : Cond} {own : String}
variable {D : va_G} {ad : Nat → Nat} {cI : ClassId} {rk ks kv : Nat} {u : SS} {j jf jt : Nat} {i v : Int32}
theorem x_putS (S : CallFix p m c cc nL s args (c0 :: XT) own) (hI : xI D ad cI u s H) (hN : xN ad rk ks kv s) (hS : va_S (xA ad) s.heap H locs) (hls : ls.size = nL) (hj : j < 13) (hl : Cond.methodLink own index yX4_put ∈ XT) (hR : 1 + 1 ≤ R.frames ∧ 8 + (3 + 11) + 40 * 1 ≤ R.locals) (hW : (rest.map fun v => v.category).sum ≤ 8) (hdg : decode cc pc = .ok (.invokestatic index, 3)) (kk : ∀ (H1 : Heap) (locs1 : List Loc), xI D ad cI (xput u j i v) s H1 → va_S (xA ad) s.heap H1 locs1 → W p l e R s m args below meth c H1 locs1 0 0 Q (F0 m (pc + 3) ls rest)) : W p l e R s m args below meth c H locs 0 0 Q (F0 m pc ls (.int v :: .int i :: .ref (ad (7 + j)) :: rest)) := by
  refine g_cv (@xG D ad cI rk ks kv) hS (g_runS S (@xG D ad cI rk ks kv) hI hN hS (As := [.ref (ad (7 + j)), .int i, .int v]) (rest := rest) (c_put l D ad cI rk ks kv j hj i v u) cs_yX4_put hl hR rfl hls rfl hW hdg) (fun z H locs hI hS he => ?_)
  subst he
  exact kk H locs hI hS
theorem x_putN {host : String} (S : CallFix p m c cc nL s args (c0 :: XT) own) (hI : xI D ad cI u s H) (hN : xN ad rk ks kv s) (hS : va_S (xA ad) s.heap H locs) (hls : ls.size = nL) (hj : j < 13) (hl : va_Nw (.methodLinkNest own index yX4_put host) s) (hR : 1 + 1 ≤ R.frames ∧ 8 + (3 + 11) + 40 * 1 ≤ R.locals) (hW : (rest.map fun v => v.category).sum ≤ 8) (hdg : decode cc pc = .ok (.invokestatic index, 3)) (kk : ∀ (H1 : Heap) (locs1 : List Loc), xI D ad cI (xput u j i v) s H1 → va_S (xA ad) s.heap H1 locs1 → W p l e R s m args below meth c H1 locs1 0 0 Q (F0 m (pc + 3) ls rest)) : W p l e R s m args below meth c H locs 0 0 Q (F0 m pc ls (.int v :: .int i :: .ref (ad (7 + j)) :: rest)) := by
  refine g_cv (@xG D ad cI rk ks kv) hS (g_runSN S (@xG D ad cI rk ks kv) hI hN hS (As := [.ref (ad (7 + j)), .int i, .int v]) (rest := rest) (c_put l D ad cI rk ks kv j hj i v u) cs_yX4_put hl hR rfl hls rfl hW hdg) (fun z H locs hI hS he => ?_)
  subst he
  exact kk H locs hI hS
theorem x_cpyN {host : String} (S : CallFix p m c cc nL s args (c0 :: XT) own) (hI : xI D ad cI u s H) (hN : xN ad rk ks kv s) (hS : va_S (xA ad) s.heap H locs) (hls : ls.size = nL) (hf : jf < 13) (ht : jt < 13) (he : xlen jf = xlen jt) (hl : va_Nw (.methodLinkNest own index yX4_copyRow host) s) (hR : 1 + 1 ≤ R.frames ∧ 8 + (2 + 11) + 40 * 1 ≤ R.locals) (hW : (rest.map fun v => v.category).sum ≤ 8) (hdg : decode cc pc = .ok (.invokestatic index, 3)) (kk : ∀ (H1 : Heap) (locs1 : List Loc), xI D ad cI (xcpy u jf jt) s H1 → va_S (xA ad) s.heap H1 locs1 → W p l e R s m args below meth c H1 locs1 0 0 Q (F0 m (pc + 3) ls rest)) : W p l e R s m args below meth c H locs 0 0 Q (F0 m pc ls (.ref (ad (7 + jt)) :: .ref (ad (7 + jf)) :: rest)) := by
  refine g_cv (@xG D ad cI rk ks kv) hS (g_runSN S (@xG D ad cI rk ks kv) hI hN hS (As := [.ref (ad (7 + jf)), .ref (ad (7 + jt))]) (rest := rest) (c_cpy l D ad cI rk ks kv jf jt hf ht he u) cs_yX4_copyRow hl hR rfl hls rfl hW hdg) (fun z H locs hI hS he => ?_)
  subst he
  exact kk H locs hI hS
end HAND2
