/-! the world of the class: its objects and rows, at ad 0, ad 1 ..; and of the reference -/
def xlen : Nat → Nat
  | 0 => 26
  | 1 => 11
  | 2 => 11
  | 3 => 6
  | 4 => 6
  | 5 => 6
  | 6 => 11
  | 7 => 33
  | 8 => 11
  | 9 => 11
  | 10 => 6
  | 11 => 6
  | _ => 6
def xW (ad : Nat → Nat) (cI : ClassId) (u : SS) : va_W := [(ad 0, .inr (4, [.ref (ad 1), .ref (ad 2), .ref (ad 3), .ref (ad 4), .ref (ad 5), .ref (ad 6), .int (u.1 0), .int (u.1 1)])), (ad 1, .inr (2, [.ref (ad 7), .int (u.1 2)])), (ad 2, .inr (0, [.ref (ad 8), .ref (ad 9), .int (u.1 3), .int (u.1 4), .int (u.1 5)])), (ad 3, .inr (3, [.ref (ad 10), .ref (ad 11), .ref (ad 12), .int (u.1 6)])), (ad 4, .inr (1, [.ref (ad 2), .ref (ad 13), .ref (ad 14), .int (u.1 7), .int (u.1 8), .int (u.1 9), .int (u.1 10), .int (u.1 11)])), (ad 5, .inr (0, [.ref (ad 15), .ref (ad 16), .int (u.1 12), .int (u.1 13), .int (u.1 14)])), (ad 6, .inr (3, [.ref (ad 17), .ref (ad 18), .ref (ad 19), .int (u.1 15)])), (ad 7, .inl (cI, 26, .inl (u.2.2 0))), (ad 8, .inl (cI, 11, .inl (u.2.2 1))), (ad 9, .inl (cI, 11, .inl (u.2.2 2))), (ad 10, .inl (cI, 6, .inl (u.2.2 3))), (ad 11, .inl (cI, 6, .inl (u.2.2 4))), (ad 12, .inl (cI, 6, .inl (u.2.2 5))), (ad 13, .inl (cI, 11, .inl (u.2.2 6))), (ad 14, .inl (cI, 33, .inl (u.2.2 7))), (ad 15, .inl (cI, 11, .inl (u.2.2 8))), (ad 16, .inl (cI, 11, .inl (u.2.2 9))), (ad 17, .inl (cI, 6, .inl (u.2.2 10))), (ad 18, .inl (cI, 6, .inl (u.2.2 11))), (ad 19, .inl (cI, 6, .inl (u.2.2 12)))]
def xA (ad : Nat → Nat) : Nat → Prop := fun q => ∃ k : Nat, k < 20 ∧ q = ad k
def xI (D : va_G) (ad : Nat → Nat) (cI : ClassId) (u : SS) (U : State) (H : Heap) : Prop := va_P D vwCl (xW ad cI u) H ∧ va_K D vwCl [(cI, .int)] U ∧ va_D (xA ad) (xW ad cI u)
def xroles : Nat → Int32
  | 0 => 7
  | 1 => 5
  | 2 => 4
  | 3 => 3
  | _ => 0
def xNF : List (String × Nat × String × String × String) := [(RX4, 53, "SumColours$Page", "length", "I"), (RX4, 72, "SumColours$Sightings", "size", "I"), (RX4, 75, "SumColours$Outlook", "stale", "Z"), (RX4, 78, "SumColours$Board", "numbers", "I"), (RX4, 85, "SumColours$Board", "kinds", "[I"), (RX4, 93, "SumColours$Board", "tints", "[I"), (RX4, 115, "SumColours$Outlook", "ways", "I"), (RX4, 125, "SumColours$Board", "changes", "I"), (RX4, 146, "SumColours$Outlook", "up", "I"), (RX4, 167, "SumColours$Outlook", "trial", "[I"), (RX4, 176, "SumColours$Board", "colours", "I"), (RX0, 59, "SumColours", "ROLES_OF_KIND", "[I"), (RX1, 53, "SumColours$Board", "tints", "[I"), (RX1, 59, "SumColours$Board", "numbers", "I"), (RX1, 62, "SumColours$Board", "colours", "I")]
def xNM : List (String × Nat × MethodName) := [(RX4, 9, yX2_init), (RX4, 18, yX0_init), (RX4, 25, yX3_init), (RX4, 32, yX1_init), (RX4, 56, yX2_append), (RX4, 60, yX2_firstFault), (RX4, 64, yX2_isBoard), (RX4, 68, yX0_readFrom), (RX4, 81, yX0_hasNumber), (RX4, 96, yX1_refresh), (RX4, 99, yX1_sureColour), (RX4, 103, yX3_sorts), (RX4, 106, yX3_bestRoleToAsk), (RX4, 109, yX0_badWith), (RX4, 118, yX1_colourInWay), (RX4, 122, yX0_hasColour), (RX4, 132, yX0_badThrees), (RX4, 140, yX0_isThere), (RX4, 143, yX1_nextToPaint), (RX4, 149, yX1_fewestAnew), (RX4, 152, yX1_winningColour), (RX4, 155, yX1_waysWith), (RX4, 161, yX3_append), (RX4, 164, yX1_paintBareBySeed), (RX4, 170, yX0_copyFrom), (RX4, 173, yX3_copyFrom), (RX4, 179, yX0_bareNumbers), (RX4, 182, yX0_threes), (RX4, 204, yX2_codeAt), (RX0, 28, yX2_kindsTold), (RX0, 34, yX2_colours), (RX0, 36, yX2_kindAt), (RX0, 40, yX4_put), (RX0, 44, yX2_colourAt), (RX0, 47, yX4_copyRow), (RX0, 51, yX4_at), (RX1, 39, yX4_put), (RX1, 47, yX0_badWithSum), (RX1, 56, yX4_at), (RX1, 84, yX0_isBare), (RX1, 95, yX0_badThrees), (RX1, 99, yX4_copyRow), (RX1, 106, yX0_badWith), (RX2, 19, yX4_put), (RX2, 23, yX4_at), (RX3, 25, yX4_put), (RX3, 29, yX4_copyRow), (RX3, 33, yX4_at), (RX3, 37, yX4_kindHasRole)]
def xN (ad : Nat → Nat) (rk ks kv : Nat) (U : State) : Prop := (∀ q ∈ xNF, va_Nw (.fieldLinkNest q.1 q.2.1 q.2.2.1 q.2.2.2.1 q.2.2.2.2 RX4) U) ∧ (∀ q ∈ xNM, va_Nw (.methodLinkNest q.1 q.2.1 q.2.2 RX4) U) ∧ vk_R RX2 31 "nlfso" ks U ∧ va_Z RX4 "ROLES_OF_KIND" "[I" (.ref rk) (xA ad) U U.heap ∧ va_T .int rk 5 (fun j => .int (xroles j)) (xA ad) U U.heap ∧ True ∧ va_Z RJ0 "COMPACT_STRINGS" "Z" (.int 1) (xA ad) U U.heap ∧ vk_S 1 [5] [[110, 108, 102, 115, 111]] (fun _ => ks) (fun _ => kv) (xA ad) U U.heap
