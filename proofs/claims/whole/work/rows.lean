section
-- ===== PART A: goes FIRST, ahead of the names: the tables' words, and 'selects' of the private methods out of them =====
/-- a private method of a class that the tables say can be made, by its rows of tables_1 -/
def lw_okq (q : MethodName × Nat) : Prop := (q.1.cls ≠ "java/lang/invoke/MethodHandle" ∧ q.1.cls ≠ "java/lang/invoke/VarHandle") ∧ Cond.instantiable q.1.cls q.2 ∈ tables_1 ∧ Cond.privateMethod q.1 ∈ tables_1 ∧ Cond.instanceMethod q.1 ∈ tables_1
theorem lw_p0 : lw_okq (⟨"SumColours$Page", "append", "(I)V"⟩, 2) := ⟨⟨by decide +kernel, by decide +kernel⟩, List.mem_of_getElem? (i := 23) (by decide +kernel), List.mem_of_getElem? (i := 152) (by decide +kernel), List.mem_of_getElem? (i := 153) (by decide +kernel)⟩
theorem lw_p1 : lw_okq (⟨"SumColours$Page", "firstFault", "()I"⟩, 2) := ⟨⟨by decide +kernel, by decide +kernel⟩, List.mem_of_getElem? (i := 23) (by decide +kernel), List.mem_of_getElem? (i := 167) (by decide +kernel), List.mem_of_getElem? (i := 168) (by decide +kernel)⟩
theorem lw_p2 : lw_okq (⟨"SumColours$Page", "kindsTold", "()I"⟩, 2) := ⟨⟨by decide +kernel, by decide +kernel⟩, List.mem_of_getElem? (i := 23) (by decide +kernel), List.mem_of_getElem? (i := 171) (by decide +kernel), List.mem_of_getElem? (i := 172) (by decide +kernel)⟩
theorem lw_p3 : lw_okq (⟨"SumColours$Page", "kindAt", "(I)I"⟩, 2) := ⟨⟨by decide +kernel, by decide +kernel⟩, List.mem_of_getElem? (i := 23) (by decide +kernel), List.mem_of_getElem? (i := 175) (by decide +kernel), List.mem_of_getElem? (i := 176) (by decide +kernel)⟩
theorem lw_p4 : lw_okq (⟨"SumColours$Page", "codeAt", "(I)I"⟩, 2) := ⟨⟨by decide +kernel, by decide +kernel⟩, List.mem_of_getElem? (i := 23) (by decide +kernel), List.mem_of_getElem? (i := 180) (by decide +kernel), List.mem_of_getElem? (i := 181) (by decide +kernel)⟩
theorem lw_p5 : lw_okq (⟨"SumColours$Page", "fits", "(II)Z"⟩, 2) := ⟨⟨by decide +kernel, by decide +kernel⟩, List.mem_of_getElem? (i := 23) (by decide +kernel), List.mem_of_getElem? (i := 273) (by decide +kernel), List.mem_of_getElem? (i := 274) (by decide +kernel)⟩
theorem lw_p6 : lw_okq (⟨"SumColours$Page", "isSign", "(I)Z"⟩, 2) := ⟨⟨by decide +kernel, by decide +kernel⟩, List.mem_of_getElem? (i := 23) (by decide +kernel), List.mem_of_getElem? (i := 277) (by decide +kernel), List.mem_of_getElem? (i := 278) (by decide +kernel)⟩
theorem lw_p7 : lw_okq (⟨"SumColours$Page", "colours", "()I"⟩, 2) := ⟨⟨by decide +kernel, by decide +kernel⟩, List.mem_of_getElem? (i := 23) (by decide +kernel), List.mem_of_getElem? (i := 281) (by decide +kernel), List.mem_of_getElem? (i := 282) (by decide +kernel)⟩
theorem lw_p8 : lw_okq (⟨"SumColours$Page", "isBoard", "()Z"⟩, 2) := ⟨⟨by decide +kernel, by decide +kernel⟩, List.mem_of_getElem? (i := 23) (by decide +kernel), List.mem_of_getElem? (i := 290) (by decide +kernel), List.mem_of_getElem? (i := 291) (by decide +kernel)⟩
theorem lw_p9 : lw_okq (⟨"SumColours$Board", "readFrom", "(LSumColours$Page;)V"⟩, 5) := ⟨⟨by decide +kernel, by decide +kernel⟩, List.mem_of_getElem? (i := 38) (by decide +kernel), List.mem_of_getElem? (i := 295) (by decide +kernel), List.mem_of_getElem? (i := 296) (by decide +kernel)⟩
theorem lw_p10 : lw_okq (⟨"SumColours$Page", "colourAt", "(I)I"⟩, 2) := ⟨⟨by decide +kernel, by decide +kernel⟩, List.mem_of_getElem? (i := 23) (by decide +kernel), List.mem_of_getElem? (i := 303) (by decide +kernel), List.mem_of_getElem? (i := 304) (by decide +kernel)⟩
theorem lw_p11 : lw_okq (⟨"SumColours$Board", "hasNumber", "(I)Z"⟩, 5) := ⟨⟨by decide +kernel, by decide +kernel⟩, List.mem_of_getElem? (i := 38) (by decide +kernel), List.mem_of_getElem? (i := 311) (by decide +kernel), List.mem_of_getElem? (i := 312) (by decide +kernel)⟩
theorem lw_p12 : lw_okq (⟨"SumColours$Outlook", "refresh", "()V"⟩, 8) := ⟨⟨by decide +kernel, by decide +kernel⟩, List.mem_of_getElem? (i := 88) (by decide +kernel), List.mem_of_getElem? (i := 316) (by decide +kernel), List.mem_of_getElem? (i := 317) (by decide +kernel)⟩
theorem lw_p13 : lw_okq (⟨"SumColours$Outlook", "countWaysFrom", "(I)I"⟩, 8) := ⟨⟨by decide +kernel, by decide +kernel⟩, List.mem_of_getElem? (i := 88) (by decide +kernel), List.mem_of_getElem? (i := 321) (by decide +kernel), List.mem_of_getElem? (i := 322) (by decide +kernel)⟩
theorem lw_p14 : lw_okq (⟨"SumColours$Outlook", "mayHave", "(II)Z"⟩, 8) := ⟨⟨by decide +kernel, by decide +kernel⟩, List.mem_of_getElem? (i := 88) (by decide +kernel), List.mem_of_getElem? (i := 325) (by decide +kernel), List.mem_of_getElem? (i := 326) (by decide +kernel)⟩
theorem lw_p15 : lw_okq (⟨"SumColours$Outlook", "tryColour", "(II)Z"⟩, 8) := ⟨⟨by decide +kernel, by decide +kernel⟩, List.mem_of_getElem? (i := 88) (by decide +kernel), List.mem_of_getElem? (i := 330) (by decide +kernel), List.mem_of_getElem? (i := 331) (by decide +kernel)⟩
def lw_privs_1 : List (MethodName × Nat) := [(⟨"SumColours$Page", "append", "(I)V"⟩, 2), (⟨"SumColours$Page", "firstFault", "()I"⟩, 2), (⟨"SumColours$Page", "kindsTold", "()I"⟩, 2), (⟨"SumColours$Page", "kindAt", "(I)I"⟩, 2), (⟨"SumColours$Page", "codeAt", "(I)I"⟩, 2), (⟨"SumColours$Page", "fits", "(II)Z"⟩, 2), (⟨"SumColours$Page", "isSign", "(I)Z"⟩, 2), (⟨"SumColours$Page", "colours", "()I"⟩, 2), (⟨"SumColours$Page", "isBoard", "()Z"⟩, 2), (⟨"SumColours$Board", "readFrom", "(LSumColours$Page;)V"⟩, 5), (⟨"SumColours$Page", "colourAt", "(I)I"⟩, 2), (⟨"SumColours$Board", "hasNumber", "(I)Z"⟩, 5), (⟨"SumColours$Outlook", "refresh", "()V"⟩, 8), (⟨"SumColours$Outlook", "countWaysFrom", "(I)I"⟩, 8), (⟨"SumColours$Outlook", "mayHave", "(II)Z"⟩, 8), (⟨"SumColours$Outlook", "tryColour", "(II)Z"⟩, 8)]
theorem lw_r1 : ∀ q ∈ lw_privs_1, lw_okq q := List.forall_mem_cons.mpr ⟨lw_p0, List.forall_mem_cons.mpr ⟨lw_p1, List.forall_mem_cons.mpr ⟨lw_p2, List.forall_mem_cons.mpr ⟨lw_p3, List.forall_mem_cons.mpr ⟨lw_p4, List.forall_mem_cons.mpr ⟨lw_p5, List.forall_mem_cons.mpr ⟨lw_p6, List.forall_mem_cons.mpr ⟨lw_p7, List.forall_mem_cons.mpr ⟨lw_p8, List.forall_mem_cons.mpr ⟨lw_p9, List.forall_mem_cons.mpr ⟨lw_p10, List.forall_mem_cons.mpr ⟨lw_p11, List.forall_mem_cons.mpr ⟨lw_p12, List.forall_mem_cons.mpr ⟨lw_p13, List.forall_mem_cons.mpr ⟨lw_p14, List.forall_mem_cons.mpr ⟨lw_p15, fun _ h => absurd h List.not_mem_nil⟩⟩⟩⟩⟩⟩⟩⟩⟩⟩⟩⟩⟩⟩⟩⟩
theorem lw_p16 : lw_okq (⟨"SumColours$Board", "badWithSum", "([II)I"⟩, 5) := ⟨⟨by decide +kernel, by decide +kernel⟩, List.mem_of_getElem? (i := 38) (by decide +kernel), List.mem_of_getElem? (i := 334) (by decide +kernel), List.mem_of_getElem? (i := 335) (by decide +kernel)⟩
theorem lw_p17 : lw_okq (⟨"SumColours$Board", "isBad", "([III)Z"⟩, 5) := ⟨⟨by decide +kernel, by decide +kernel⟩, List.mem_of_getElem? (i := 38) (by decide +kernel), List.mem_of_getElem? (i := 341) (by decide +kernel), List.mem_of_getElem? (i := 342) (by decide +kernel)⟩
theorem lw_p18 : lw_okq (⟨"SumColours$Outlook", "placeOf", "(II)I"⟩, 8) := ⟨⟨by decide +kernel, by decide +kernel⟩, List.mem_of_getElem? (i := 88) (by decide +kernel), List.mem_of_getElem? (i := 346) (by decide +kernel), List.mem_of_getElem? (i := 347) (by decide +kernel)⟩
theorem lw_p19 : lw_okq (⟨"SumColours$Outlook", "sureColour", "(I)I"⟩, 8) := ⟨⟨by decide +kernel, by decide +kernel⟩, List.mem_of_getElem? (i := 88) (by decide +kernel), List.mem_of_getElem? (i := 350) (by decide +kernel), List.mem_of_getElem? (i := 351) (by decide +kernel)⟩
theorem lw_p20 : lw_okq (⟨"SumColours$Outlook", "waysWith", "(II)I"⟩, 8) := ⟨⟨by decide +kernel, by decide +kernel⟩, List.mem_of_getElem? (i := 88) (by decide +kernel), List.mem_of_getElem? (i := 354) (by decide +kernel), List.mem_of_getElem? (i := 355) (by decide +kernel)⟩
theorem lw_p21 : lw_okq (⟨"SumColours$Sightings", "sorts", "(I)I"⟩, 4) := ⟨⟨by decide +kernel, by decide +kernel⟩, List.mem_of_getElem? (i := 68) (by decide +kernel), List.mem_of_getElem? (i := 358) (by decide +kernel), List.mem_of_getElem? (i := 359) (by decide +kernel)⟩
theorem lw_p22 : lw_okq (⟨"SumColours$Sightings", "allowKind", "(II)Z"⟩, 4) := ⟨⟨by decide +kernel, by decide +kernel⟩, List.mem_of_getElem? (i := 68) (by decide +kernel), List.mem_of_getElem? (i := 362) (by decide +kernel), List.mem_of_getElem? (i := 363) (by decide +kernel)⟩
theorem lw_p23 : lw_okq (⟨"SumColours$Sightings", "bestRoleToAsk", "(I)I"⟩, 4) := ⟨⟨by decide +kernel, by decide +kernel⟩, List.mem_of_getElem? (i := 68) (by decide +kernel), List.mem_of_getElem? (i := 371) (by decide +kernel), List.mem_of_getElem? (i := 372) (by decide +kernel)⟩
theorem lw_p24 : lw_okq (⟨"SumColours$Sightings", "leftAtWorst", "(II)I"⟩, 4) := ⟨⟨by decide +kernel, by decide +kernel⟩, List.mem_of_getElem? (i := 68) (by decide +kernel), List.mem_of_getElem? (i := 376) (by decide +kernel), List.mem_of_getElem? (i := 377) (by decide +kernel)⟩
theorem lw_p25 : lw_okq (⟨"SumColours$Board", "badWith", "([II)I"⟩, 5) := ⟨⟨by decide +kernel, by decide +kernel⟩, List.mem_of_getElem? (i := 38) (by decide +kernel), List.mem_of_getElem? (i := 381) (by decide +kernel), List.mem_of_getElem? (i := 382) (by decide +kernel)⟩
theorem lw_p26 : lw_okq (⟨"SumColours$Outlook", "colourInWay", "(II)I"⟩, 8) := ⟨⟨by decide +kernel, by decide +kernel⟩, List.mem_of_getElem? (i := 88) (by decide +kernel), List.mem_of_getElem? (i := 397) (by decide +kernel), List.mem_of_getElem? (i := 398) (by decide +kernel)⟩
theorem lw_p27 : lw_okq (⟨"SumColours$Outlook", "goToWayFrom", "(I)Z"⟩, 8) := ⟨⟨by decide +kernel, by decide +kernel⟩, List.mem_of_getElem? (i := 88) (by decide +kernel), List.mem_of_getElem? (i := 401) (by decide +kernel), List.mem_of_getElem? (i := 402) (by decide +kernel)⟩
theorem lw_p28 : lw_okq (⟨"SumColours$Board", "hasColour", "(I)Z"⟩, 5) := ⟨⟨by decide +kernel, by decide +kernel⟩, List.mem_of_getElem? (i := 38) (by decide +kernel), List.mem_of_getElem? (i := 409) (by decide +kernel), List.mem_of_getElem? (i := 410) (by decide +kernel)⟩
theorem lw_p29 : lw_okq (⟨"SumColours", "changeColour", "(II)V"⟩, 8) := ⟨⟨by decide +kernel, by decide +kernel⟩, List.mem_of_getElem? (i := 15) (by decide +kernel), List.mem_of_getElem? (i := 413) (by decide +kernel), List.mem_of_getElem? (i := 414) (by decide +kernel)⟩
theorem lw_p30 : lw_okq (⟨"SumColours$Board", "badThrees", "([I)I"⟩, 5) := ⟨⟨by decide +kernel, by decide +kernel⟩, List.mem_of_getElem? (i := 38) (by decide +kernel), List.mem_of_getElem? (i := 418) (by decide +kernel), List.mem_of_getElem? (i := 419) (by decide +kernel)⟩
theorem lw_p31 : lw_okq (⟨"SumColours$Board", "isThere", "()Z"⟩, 5) := ⟨⟨by decide +kernel, by decide +kernel⟩, List.mem_of_getElem? (i := 38) (by decide +kernel), List.mem_of_getElem? (i := 434) (by decide +kernel), List.mem_of_getElem? (i := 435) (by decide +kernel)⟩
def lw_privs_2 : List (MethodName × Nat) := [(⟨"SumColours$Board", "badWithSum", "([II)I"⟩, 5), (⟨"SumColours$Board", "isBad", "([III)Z"⟩, 5), (⟨"SumColours$Outlook", "placeOf", "(II)I"⟩, 8), (⟨"SumColours$Outlook", "sureColour", "(I)I"⟩, 8), (⟨"SumColours$Outlook", "waysWith", "(II)I"⟩, 8), (⟨"SumColours$Sightings", "sorts", "(I)I"⟩, 4), (⟨"SumColours$Sightings", "allowKind", "(II)Z"⟩, 4), (⟨"SumColours$Sightings", "bestRoleToAsk", "(I)I"⟩, 4), (⟨"SumColours$Sightings", "leftAtWorst", "(II)I"⟩, 4), (⟨"SumColours$Board", "badWith", "([II)I"⟩, 5), (⟨"SumColours$Outlook", "colourInWay", "(II)I"⟩, 8), (⟨"SumColours$Outlook", "goToWayFrom", "(I)Z"⟩, 8), (⟨"SumColours$Board", "hasColour", "(I)Z"⟩, 5), (⟨"SumColours", "changeColour", "(II)V"⟩, 8), (⟨"SumColours$Board", "badThrees", "([I)I"⟩, 5), (⟨"SumColours$Board", "isThere", "()Z"⟩, 5)]
theorem lw_r2 : ∀ q ∈ lw_privs_2, lw_okq q := List.forall_mem_cons.mpr ⟨lw_p16, List.forall_mem_cons.mpr ⟨lw_p17, List.forall_mem_cons.mpr ⟨lw_p18, List.forall_mem_cons.mpr ⟨lw_p19, List.forall_mem_cons.mpr ⟨lw_p20, List.forall_mem_cons.mpr ⟨lw_p21, List.forall_mem_cons.mpr ⟨lw_p22, List.forall_mem_cons.mpr ⟨lw_p23, List.forall_mem_cons.mpr ⟨lw_p24, List.forall_mem_cons.mpr ⟨lw_p25, List.forall_mem_cons.mpr ⟨lw_p26, List.forall_mem_cons.mpr ⟨lw_p27, List.forall_mem_cons.mpr ⟨lw_p28, List.forall_mem_cons.mpr ⟨lw_p29, List.forall_mem_cons.mpr ⟨lw_p30, List.forall_mem_cons.mpr ⟨lw_p31, fun _ h => absurd h List.not_mem_nil⟩⟩⟩⟩⟩⟩⟩⟩⟩⟩⟩⟩⟩⟩⟩⟩
theorem lw_p32 : lw_okq (⟨"SumColours$Outlook", "nextToPaint", "()I"⟩, 8) := ⟨⟨by decide +kernel, by decide +kernel⟩, List.mem_of_getElem? (i := 88) (by decide +kernel), List.mem_of_getElem? (i := 438) (by decide +kernel), List.mem_of_getElem? (i := 439) (by decide +kernel)⟩
theorem lw_p33 : lw_okq (⟨"SumColours$Board", "isBare", "(I)Z"⟩, 5) := ⟨⟨by decide +kernel, by decide +kernel⟩, List.mem_of_getElem? (i := 38) (by decide +kernel), List.mem_of_getElem? (i := 442) (by decide +kernel), List.mem_of_getElem? (i := 443) (by decide +kernel)⟩
theorem lw_p34 : lw_okq (⟨"SumColours$Outlook", "fewestAnew", "()I"⟩, 8) := ⟨⟨by decide +kernel, by decide +kernel⟩, List.mem_of_getElem? (i := 88) (by decide +kernel), List.mem_of_getElem? (i := 450) (by decide +kernel), List.mem_of_getElem? (i := 451) (by decide +kernel)⟩
theorem lw_p35 : lw_okq (⟨"SumColours$Outlook", "paintAnewFrom", "(II)V"⟩, 8) := ⟨⟨by decide +kernel, by decide +kernel⟩, List.mem_of_getElem? (i := 88) (by decide +kernel), List.mem_of_getElem? (i := 454) (by decide +kernel), List.mem_of_getElem? (i := 455) (by decide +kernel)⟩
theorem lw_p36 : lw_okq (⟨"SumColours$Outlook", "winningColour", "()I"⟩, 8) := ⟨⟨by decide +kernel, by decide +kernel⟩, List.mem_of_getElem? (i := 88) (by decide +kernel), List.mem_of_getElem? (i := 462) (by decide +kernel), List.mem_of_getElem? (i := 463) (by decide +kernel)⟩
theorem lw_p37 : lw_okq (⟨"SumColours$Outlook", "winningColourFrom", "(I)I"⟩, 8) := ⟨⟨by decide +kernel, by decide +kernel⟩, List.mem_of_getElem? (i := 88) (by decide +kernel), List.mem_of_getElem? (i := 474) (by decide +kernel), List.mem_of_getElem? (i := 475) (by decide +kernel)⟩
theorem lw_p38 : lw_okq (⟨"SumColours$Sightings", "append", "(IIZ)V"⟩, 4) := ⟨⟨by decide +kernel, by decide +kernel⟩, List.mem_of_getElem? (i := 68) (by decide +kernel), List.mem_of_getElem? (i := 491) (by decide +kernel), List.mem_of_getElem? (i := 492) (by decide +kernel)⟩
theorem lw_p39 : lw_okq (⟨"SumColours$Outlook", "paintBareBySeed", "(I)I"⟩, 8) := ⟨⟨by decide +kernel, by decide +kernel⟩, List.mem_of_getElem? (i := 88) (by decide +kernel), List.mem_of_getElem? (i := 504) (by decide +kernel), List.mem_of_getElem? (i := 505) (by decide +kernel)⟩
theorem lw_p40 : lw_okq (⟨"SumColours$Board", "copyFrom", "(LSumColours$Board;)V"⟩, 5) := ⟨⟨by decide +kernel, by decide +kernel⟩, List.mem_of_getElem? (i := 38) (by decide +kernel), List.mem_of_getElem? (i := 515) (by decide +kernel), List.mem_of_getElem? (i := 516) (by decide +kernel)⟩
theorem lw_p41 : lw_okq (⟨"SumColours$Sightings", "copyFrom", "(LSumColours$Sightings;)V"⟩, 4) := ⟨⟨by decide +kernel, by decide +kernel⟩, List.mem_of_getElem? (i := 68) (by decide +kernel), List.mem_of_getElem? (i := 520) (by decide +kernel), List.mem_of_getElem? (i := 521) (by decide +kernel)⟩
theorem lw_p42 : lw_okq (⟨"SumColours$Board", "bareNumbers", "()I"⟩, 5) := ⟨⟨by decide +kernel, by decide +kernel⟩, List.mem_of_getElem? (i := 38) (by decide +kernel), List.mem_of_getElem? (i := 533) (by decide +kernel), List.mem_of_getElem? (i := 534) (by decide +kernel)⟩
theorem lw_p43 : lw_okq (⟨"SumColours$Board", "threes", "()I"⟩, 5) := ⟨⟨by decide +kernel, by decide +kernel⟩, List.mem_of_getElem? (i := 38) (by decide +kernel), List.mem_of_getElem? (i := 538) (by decide +kernel), List.mem_of_getElem? (i := 539) (by decide +kernel)⟩
theorem lw_p44 : lw_okq (⟨"SumColoursModel", "read", "()I"⟩, 33) := ⟨⟨by decide +kernel, by decide +kernel⟩, List.mem_of_getElem? (i := 555) (by decide +kernel), List.mem_of_getElem? (i := 676) (by decide +kernel), List.mem_of_getElem? (i := 677) (by decide +kernel)⟩
theorem lw_p45 : lw_okq (⟨"SumColoursModel", "at", "(I)I"⟩, 33) := ⟨⟨by decide +kernel, by decide +kernel⟩, List.mem_of_getElem? (i := 555) (by decide +kernel), List.mem_of_getElem? (i := 680) (by decide +kernel), List.mem_of_getElem? (i := 681) (by decide +kernel)⟩
theorem lw_p46 : lw_okq (⟨"SumColoursModel", "readKinds", "()I"⟩, 33) := ⟨⟨by decide +kernel, by decide +kernel⟩, List.mem_of_getElem? (i := 555) (by decide +kernel), List.mem_of_getElem? (i := 684) (by decide +kernel), List.mem_of_getElem? (i := 685) (by decide +kernel)⟩
theorem lw_p47 : lw_okq (⟨"SumColoursModel", "readSigns", "(II)I"⟩, 33) := ⟨⟨by decide +kernel, by decide +kernel⟩, List.mem_of_getElem? (i := 555) (by decide +kernel), List.mem_of_getElem? (i := 691) (by decide +kernel), List.mem_of_getElem? (i := 692) (by decide +kernel)⟩
def lw_privs_3 : List (MethodName × Nat) := [(⟨"SumColours$Outlook", "nextToPaint", "()I"⟩, 8), (⟨"SumColours$Board", "isBare", "(I)Z"⟩, 5), (⟨"SumColours$Outlook", "fewestAnew", "()I"⟩, 8), (⟨"SumColours$Outlook", "paintAnewFrom", "(II)V"⟩, 8), (⟨"SumColours$Outlook", "winningColour", "()I"⟩, 8), (⟨"SumColours$Outlook", "winningColourFrom", "(I)I"⟩, 8), (⟨"SumColours$Sightings", "append", "(IIZ)V"⟩, 4), (⟨"SumColours$Outlook", "paintBareBySeed", "(I)I"⟩, 8), (⟨"SumColours$Board", "copyFrom", "(LSumColours$Board;)V"⟩, 5), (⟨"SumColours$Sightings", "copyFrom", "(LSumColours$Sightings;)V"⟩, 4), (⟨"SumColours$Board", "bareNumbers", "()I"⟩, 5), (⟨"SumColours$Board", "threes", "()I"⟩, 5), (⟨"SumColoursModel", "read", "()I"⟩, 33), (⟨"SumColoursModel", "at", "(I)I"⟩, 33), (⟨"SumColoursModel", "readKinds", "()I"⟩, 33), (⟨"SumColoursModel", "readSigns", "(II)I"⟩, 33)]
theorem lw_r3 : ∀ q ∈ lw_privs_3, lw_okq q := List.forall_mem_cons.mpr ⟨lw_p32, List.forall_mem_cons.mpr ⟨lw_p33, List.forall_mem_cons.mpr ⟨lw_p34, List.forall_mem_cons.mpr ⟨lw_p35, List.forall_mem_cons.mpr ⟨lw_p36, List.forall_mem_cons.mpr ⟨lw_p37, List.forall_mem_cons.mpr ⟨lw_p38, List.forall_mem_cons.mpr ⟨lw_p39, List.forall_mem_cons.mpr ⟨lw_p40, List.forall_mem_cons.mpr ⟨lw_p41, List.forall_mem_cons.mpr ⟨lw_p42, List.forall_mem_cons.mpr ⟨lw_p43, List.forall_mem_cons.mpr ⟨lw_p44, List.forall_mem_cons.mpr ⟨lw_p45, List.forall_mem_cons.mpr ⟨lw_p46, List.forall_mem_cons.mpr ⟨lw_p47, fun _ h => absurd h List.not_mem_nil⟩⟩⟩⟩⟩⟩⟩⟩⟩⟩⟩⟩⟩⟩⟩⟩
theorem lw_p48 : lw_okq (⟨"SumColoursModel", "isNumber", "(I)Z"⟩, 33) := ⟨⟨by decide +kernel, by decide +kernel⟩, List.mem_of_getElem? (i := 555) (by decide +kernel), List.mem_of_getElem? (i := 703) (by decide +kernel), List.mem_of_getElem? (i := 704) (by decide +kernel)⟩
theorem lw_p49 : lw_okq (⟨"SumColoursModel", "numberNow", "(II)I"⟩, 33) := ⟨⟨by decide +kernel, by decide +kernel⟩, List.mem_of_getElem? (i := 555) (by decide +kernel), List.mem_of_getElem? (i := 707) (by decide +kernel), List.mem_of_getElem? (i := 708) (by decide +kernel)⟩
theorem lw_p50 : lw_okq (⟨"SumColoursModel", "layWays", "(I)I"⟩, 33) := ⟨⟨by decide +kernel, by decide +kernel⟩, List.mem_of_getElem? (i := 555) (by decide +kernel), List.mem_of_getElem? (i := 711) (by decide +kernel), List.mem_of_getElem? (i := 712) (by decide +kernel)⟩
theorem lw_p51 : lw_okq (⟨"SumColoursModel", "layNow", "()V"⟩, 33) := ⟨⟨by decide +kernel, by decide +kernel⟩, List.mem_of_getElem? (i := 555) (by decide +kernel), List.mem_of_getElem? (i := 715) (by decide +kernel), List.mem_of_getElem? (i := 716) (by decide +kernel)⟩
theorem lw_p52 : lw_okq (⟨"SumColoursModel", "goOn", "(II)I"⟩, 33) := ⟨⟨by decide +kernel, by decide +kernel⟩, List.mem_of_getElem? (i := 555) (by decide +kernel), List.mem_of_getElem? (i := 719) (by decide +kernel), List.mem_of_getElem? (i := 720) (by decide +kernel)⟩
theorem lw_p53 : lw_okq (⟨"SumColoursModel", "badWith", "(I)I"⟩, 33) := ⟨⟨by decide +kernel, by decide +kernel⟩, List.mem_of_getElem? (i := 555) (by decide +kernel), List.mem_of_getElem? (i := 723) (by decide +kernel), List.mem_of_getElem? (i := 724) (by decide +kernel)⟩
theorem lw_p54 : lw_okq (⟨"SumColoursModel", "isBad", "(II)Z"⟩, 33) := ⟨⟨by decide +kernel, by decide +kernel⟩, List.mem_of_getElem? (i := 555) (by decide +kernel), List.mem_of_getElem? (i := 727) (by decide +kernel), List.mem_of_getElem? (i := 728) (by decide +kernel)⟩
theorem lw_p55 : lw_okq (⟨"SumColoursModel", "turnBack", "(I)I"⟩, 33) := ⟨⟨by decide +kernel, by decide +kernel⟩, List.mem_of_getElem? (i := 555) (by decide +kernel), List.mem_of_getElem? (i := 737) (by decide +kernel), List.mem_of_getElem? (i := 738) (by decide +kernel)⟩
theorem lw_p56 : lw_okq (⟨"SumColoursModel", "takeWay", "(I)V"⟩, 33) := ⟨⟨by decide +kernel, by decide +kernel⟩, List.mem_of_getElem? (i := 555) (by decide +kernel), List.mem_of_getElem? (i := 741) (by decide +kernel), List.mem_of_getElem? (i := 742) (by decide +kernel)⟩
theorem lw_p57 : lw_okq (⟨"SumColoursModel", "sureOf", "(I)I"⟩, 33) := ⟨⟨by decide +kernel, by decide +kernel⟩, List.mem_of_getElem? (i := 555) (by decide +kernel), List.mem_of_getElem? (i := 745) (by decide +kernel), List.mem_of_getElem? (i := 746) (by decide +kernel)⟩
theorem lw_p58 : lw_okq (⟨"SumColoursModel", "sortsOf", "(I)I"⟩, 33) := ⟨⟨by decide +kernel, by decide +kernel⟩, List.mem_of_getElem? (i := 555) (by decide +kernel), List.mem_of_getElem? (i := 749) (by decide +kernel), List.mem_of_getElem? (i := 750) (by decide +kernel)⟩
theorem lw_p59 : lw_okq (⟨"SumColoursModel", "askOf", "(I)I"⟩, 33) := ⟨⟨by decide +kernel, by decide +kernel⟩, List.mem_of_getElem? (i := 555) (by decide +kernel), List.mem_of_getElem? (i := 756) (by decide +kernel), List.mem_of_getElem? (i := 757) (by decide +kernel)⟩
theorem lw_p60 : lw_okq (⟨"SumColoursModel", "badOf", "(I)I"⟩, 33) := ⟨⟨by decide +kernel, by decide +kernel⟩, List.mem_of_getElem? (i := 555) (by decide +kernel), List.mem_of_getElem? (i := 764) (by decide +kernel), List.mem_of_getElem? (i := 765) (by decide +kernel)⟩
theorem lw_p61 : lw_okq (⟨"SumColoursModel", "waysNow", "(I)I"⟩, 33) := ⟨⟨by decide +kernel, by decide +kernel⟩, List.mem_of_getElem? (i := 555) (by decide +kernel), List.mem_of_getElem? (i := 776) (by decide +kernel), List.mem_of_getElem? (i := 777) (by decide +kernel)⟩
theorem lw_p62 : lw_okq (⟨"SumColoursModel", "nextNow", "()I"⟩, 33) := ⟨⟨by decide +kernel, by decide +kernel⟩, List.mem_of_getElem? (i := 555) (by decide +kernel), List.mem_of_getElem? (i := 780) (by decide +kernel), List.mem_of_getElem? (i := 781) (by decide +kernel)⟩
theorem lw_p63 : lw_okq (⟨"SumColoursModel", "upNow", "()I"⟩, 33) := ⟨⟨by decide +kernel, by decide +kernel⟩, List.mem_of_getElem? (i := 555) (by decide +kernel), List.mem_of_getElem? (i := 784) (by decide +kernel), List.mem_of_getElem? (i := 785) (by decide +kernel)⟩
def lw_privs_4 : List (MethodName × Nat) := [(⟨"SumColoursModel", "isNumber", "(I)Z"⟩, 33), (⟨"SumColoursModel", "numberNow", "(II)I"⟩, 33), (⟨"SumColoursModel", "layWays", "(I)I"⟩, 33), (⟨"SumColoursModel", "layNow", "()V"⟩, 33), (⟨"SumColoursModel", "goOn", "(II)I"⟩, 33), (⟨"SumColoursModel", "badWith", "(I)I"⟩, 33), (⟨"SumColoursModel", "isBad", "(II)Z"⟩, 33), (⟨"SumColoursModel", "turnBack", "(I)I"⟩, 33), (⟨"SumColoursModel", "takeWay", "(I)V"⟩, 33), (⟨"SumColoursModel", "sureOf", "(I)I"⟩, 33), (⟨"SumColoursModel", "sortsOf", "(I)I"⟩, 33), (⟨"SumColoursModel", "askOf", "(I)I"⟩, 33), (⟨"SumColoursModel", "badOf", "(I)I"⟩, 33), (⟨"SumColoursModel", "waysNow", "(I)I"⟩, 33), (⟨"SumColoursModel", "nextNow", "()I"⟩, 33), (⟨"SumColoursModel", "upNow", "()I"⟩, 33)]
theorem lw_r4 : ∀ q ∈ lw_privs_4, lw_okq q := List.forall_mem_cons.mpr ⟨lw_p48, List.forall_mem_cons.mpr ⟨lw_p49, List.forall_mem_cons.mpr ⟨lw_p50, List.forall_mem_cons.mpr ⟨lw_p51, List.forall_mem_cons.mpr ⟨lw_p52, List.forall_mem_cons.mpr ⟨lw_p53, List.forall_mem_cons.mpr ⟨lw_p54, List.forall_mem_cons.mpr ⟨lw_p55, List.forall_mem_cons.mpr ⟨lw_p56, List.forall_mem_cons.mpr ⟨lw_p57, List.forall_mem_cons.mpr ⟨lw_p58, List.forall_mem_cons.mpr ⟨lw_p59, List.forall_mem_cons.mpr ⟨lw_p60, List.forall_mem_cons.mpr ⟨lw_p61, List.forall_mem_cons.mpr ⟨lw_p62, List.forall_mem_cons.mpr ⟨lw_p63, fun _ h => absurd h List.not_mem_nil⟩⟩⟩⟩⟩⟩⟩⟩⟩⟩⟩⟩⟩⟩⟩⟩
theorem lw_p64 : lw_okq (⟨"SumColoursModel", "isColour", "(I)Z"⟩, 33) := ⟨⟨by decide +kernel, by decide +kernel⟩, List.mem_of_getElem? (i := 555) (by decide +kernel), List.mem_of_getElem? (i := 796) (by decide +kernel), List.mem_of_getElem? (i := 797) (by decide +kernel)⟩
theorem lw_p65 : lw_okq (⟨"SumColoursModel", "badNow", "()I"⟩, 33) := ⟨⟨by decide +kernel, by decide +kernel⟩, List.mem_of_getElem? (i := 555) (by decide +kernel), List.mem_of_getElem? (i := 800) (by decide +kernel), List.mem_of_getElem? (i := 801) (by decide +kernel)⟩
theorem lw_p66 : lw_okq (⟨"SumColoursModel", "badUpTo", "(I)I"⟩, 33) := ⟨⟨by decide +kernel, by decide +kernel⟩, List.mem_of_getElem? (i := 555) (by decide +kernel), List.mem_of_getElem? (i := 804) (by decide +kernel), List.mem_of_getElem? (i := 805) (by decide +kernel)⟩
theorem lw_p67 : lw_okq (⟨"SumColoursModel", "mendNow", "()I"⟩, 33) := ⟨⟨by decide +kernel, by decide +kernel⟩, List.mem_of_getElem? (i := 555) (by decide +kernel), List.mem_of_getElem? (i := 820) (by decide +kernel), List.mem_of_getElem? (i := 821) (by decide +kernel)⟩
theorem lw_p68 : lw_okq (⟨"SumColoursModel", "winsNow", "(I)I"⟩, 33) := ⟨⟨by decide +kernel, by decide +kernel⟩, List.mem_of_getElem? (i := 555) (by decide +kernel), List.mem_of_getElem? (i := 828) (by decide +kernel), List.mem_of_getElem? (i := 829) (by decide +kernel)⟩
theorem lw_p69 : lw_okq (⟨"SumColoursModel", "winNow", "()I"⟩, 33) := ⟨⟨by decide +kernel, by decide +kernel⟩, List.mem_of_getElem? (i := 555) (by decide +kernel), List.mem_of_getElem? (i := 832) (by decide +kernel), List.mem_of_getElem? (i := 833) (by decide +kernel)⟩
theorem lw_p70 : lw_okq (⟨"SumColoursModel", "layTurns", "()I"⟩, 33) := ⟨⟨by decide +kernel, by decide +kernel⟩, List.mem_of_getElem? (i := 555) (by decide +kernel), List.mem_of_getElem? (i := 836) (by decide +kernel), List.mem_of_getElem? (i := 837) (by decide +kernel)⟩
theorem lw_p71 : lw_okq (⟨"SumColoursModel", "oddsNow", "(III)I"⟩, 33) := ⟨⟨by decide +kernel, by decide +kernel⟩, List.mem_of_getElem? (i := 555) (by decide +kernel), List.mem_of_getElem? (i := 844) (by decide +kernel), List.mem_of_getElem? (i := 845) (by decide +kernel)⟩
theorem lw_p72 : lw_okq (⟨"SumColoursModel", "paintingsNow", "(III)I"⟩, 33) := ⟨⟨by decide +kernel, by decide +kernel⟩, List.mem_of_getElem? (i := 555) (by decide +kernel), List.mem_of_getElem? (i := 863) (by decide +kernel), List.mem_of_getElem? (i := 864) (by decide +kernel)⟩
theorem lw_p73 : lw_okq (⟨"SumColoursModel", "draw", "(I)I"⟩, 33) := ⟨⟨by decide +kernel, by decide +kernel⟩, List.mem_of_getElem? (i := 555) (by decide +kernel), List.mem_of_getElem? (i := 867) (by decide +kernel), List.mem_of_getElem? (i := 868) (by decide +kernel)⟩
theorem lw_p74 : lw_okq (⟨"SumColoursModel", "howMany", "(I)I"⟩, 33) := ⟨⟨by decide +kernel, by decide +kernel⟩, List.mem_of_getElem? (i := 555) (by decide +kernel), List.mem_of_getElem? (i := 887) (by decide +kernel), List.mem_of_getElem? (i := 888) (by decide +kernel)⟩
theorem lw_p75 : lw_okq (⟨"SumColoursModel", "bare", "()I"⟩, 33) := ⟨⟨by decide +kernel, by decide +kernel⟩, List.mem_of_getElem? (i := 555) (by decide +kernel), List.mem_of_getElem? (i := 891) (by decide +kernel), List.mem_of_getElem? (i := 892) (by decide +kernel)⟩
theorem lw_p76 : lw_okq (⟨"SumColoursModel", "threes", "()I"⟩, 33) := ⟨⟨by decide +kernel, by decide +kernel⟩, List.mem_of_getElem? (i := 555) (by decide +kernel), List.mem_of_getElem? (i := 895) (by decide +kernel), List.mem_of_getElem? (i := 896) (by decide +kernel)⟩
theorem lw_p77 : lw_okq (⟨"SumColoursModel", "mix", "(J)V"⟩, 33) := ⟨⟨by decide +kernel, by decide +kernel⟩, List.mem_of_getElem? (i := 555) (by decide +kernel), List.mem_of_getElem? (i := 904) (by decide +kernel), List.mem_of_getElem? (i := 905) (by decide +kernel)⟩
theorem lw_p78 : lw_okq (⟨"SumColoursModel", "mixBoard", "()V"⟩, 33) := ⟨⟨by decide +kernel, by decide +kernel⟩, List.mem_of_getElem? (i := 555) (by decide +kernel), List.mem_of_getElem? (i := 909) (by decide +kernel), List.mem_of_getElem? (i := 910) (by decide +kernel)⟩
def lw_privs_5 : List (MethodName × Nat) := [(⟨"SumColoursModel", "isColour", "(I)Z"⟩, 33), (⟨"SumColoursModel", "badNow", "()I"⟩, 33), (⟨"SumColoursModel", "badUpTo", "(I)I"⟩, 33), (⟨"SumColoursModel", "mendNow", "()I"⟩, 33), (⟨"SumColoursModel", "winsNow", "(I)I"⟩, 33), (⟨"SumColoursModel", "winNow", "()I"⟩, 33), (⟨"SumColoursModel", "layTurns", "()I"⟩, 33), (⟨"SumColoursModel", "oddsNow", "(III)I"⟩, 33), (⟨"SumColoursModel", "paintingsNow", "(III)I"⟩, 33), (⟨"SumColoursModel", "draw", "(I)I"⟩, 33), (⟨"SumColoursModel", "howMany", "(I)I"⟩, 33), (⟨"SumColoursModel", "bare", "()I"⟩, 33), (⟨"SumColoursModel", "threes", "()I"⟩, 33), (⟨"SumColoursModel", "mix", "(J)V"⟩, 33), (⟨"SumColoursModel", "mixBoard", "()V"⟩, 33)]
theorem lw_r5 : ∀ q ∈ lw_privs_5, lw_okq q := List.forall_mem_cons.mpr ⟨lw_p64, List.forall_mem_cons.mpr ⟨lw_p65, List.forall_mem_cons.mpr ⟨lw_p66, List.forall_mem_cons.mpr ⟨lw_p67, List.forall_mem_cons.mpr ⟨lw_p68, List.forall_mem_cons.mpr ⟨lw_p69, List.forall_mem_cons.mpr ⟨lw_p70, List.forall_mem_cons.mpr ⟨lw_p71, List.forall_mem_cons.mpr ⟨lw_p72, List.forall_mem_cons.mpr ⟨lw_p73, List.forall_mem_cons.mpr ⟨lw_p74, List.forall_mem_cons.mpr ⟨lw_p75, List.forall_mem_cons.mpr ⟨lw_p76, List.forall_mem_cons.mpr ⟨lw_p77, List.forall_mem_cons.mpr ⟨lw_p78, fun _ h => absurd h List.not_mem_nil⟩⟩⟩⟩⟩⟩⟩⟩⟩⟩⟩⟩⟩⟩⟩
def lw_privs : List (MethodName × Nat) := lw_privs_1 ++ (lw_privs_2 ++ (lw_privs_3 ++ (lw_privs_4 ++ (lw_privs_5))))
def lw_tbl : List Cond := k2_sels lw_privs ++ tables_1
theorem lw_privs_ok : ∀ q ∈ lw_privs, lw_okq q := by
  show ∀ q ∈ lw_privs_1 ++ (lw_privs_2 ++ (lw_privs_3 ++ (lw_privs_4 ++ (lw_privs_5)))), lw_okq q
  exact List.forall_mem_append.mpr ⟨lw_r1, List.forall_mem_append.mpr ⟨lw_r2, List.forall_mem_append.mpr ⟨lw_r3, List.forall_mem_append.mpr ⟨lw_r4, lw_r5⟩⟩⟩⟩
end
section
/-! ===== BEGIN printed: names, fields, word lists, decode rows ===== -/
def RX0 : String := "SumColours$Board"
def TX0 : u_T := fun k => match k with
  | 0 => ("SumColours$Board", "kinds", "[I", true)
  | 1 => ("SumColours$Board", "tints", "[I", true)
  | 2 => ("SumColours$Board", "numbers", "I", false)
  | 3 => ("SumColours$Board", "colours", "I", false)
  | _ => ("SumColours$Board", "changes", "I", false)
def tyX0 : Nat → FieldType := fun k => match k with
  | 0 => .array .int
  | 1 => .array .int
  | 2 => .int
  | 3 => .int
  | _ => .int
abbrev wsX00 : List Cond := u_ws RX0 TX0 5
theorem nmX0 : ∀ a, a < 5 → ∀ b, b < 5 → a ≠ b → (TX0 a).2.1 ≠ (TX0 b).2.1 := by decide +kernel
theorem tyX0_ok : ∀ k, k < 5 → parseFieldDescriptor (TX0 k).2.2.1 = some (tyX0 k) := by decide +kernel
abbrev cX0_init : ByteArray := prog_2_method_1_code
def yX0_init : MethodName := ⟨RX0, "<init>", "()V"⟩
abbrev cX0_readFrom : ByteArray := prog_2_method_2_code
def yX0_readFrom : MethodName := ⟨RX0, "readFrom", "(LSumColours$Page;)V"⟩
abbrev cX0_copyFrom : ByteArray := prog_2_method_3_code
def yX0_copyFrom : MethodName := ⟨RX0, "copyFrom", "(LSumColours$Board;)V"⟩
abbrev cX0_isThere : ByteArray := prog_2_method_4_code
def yX0_isThere : MethodName := ⟨RX0, "isThere", "()Z"⟩
abbrev cX0_hasNumber : ByteArray := prog_2_method_5_code
def yX0_hasNumber : MethodName := ⟨RX0, "hasNumber", "(I)Z"⟩
abbrev cX0_hasColour : ByteArray := prog_2_method_6_code
def yX0_hasColour : MethodName := ⟨RX0, "hasColour", "(I)Z"⟩
abbrev cX0_isBare : ByteArray := prog_2_method_7_code
def yX0_isBare : MethodName := ⟨RX0, "isBare", "(I)Z"⟩
abbrev cX0_bareNumbers : ByteArray := prog_2_method_8_code
def yX0_bareNumbers : MethodName := ⟨RX0, "bareNumbers", "()I"⟩
abbrev cX0_threes : ByteArray := prog_2_method_9_code
def yX0_threes : MethodName := ⟨RX0, "threes", "()I"⟩
abbrev cX0_isBad : ByteArray := prog_2_method_10_code
def yX0_isBad : MethodName := ⟨RX0, "isBad", "([III)Z"⟩
abbrev cX0_badWithSum : ByteArray := prog_2_method_11_code
def yX0_badWithSum : MethodName := ⟨RX0, "badWithSum", "([II)I"⟩
abbrev cX0_badWith : ByteArray := prog_2_method_12_code
def yX0_badWith : MethodName := ⟨RX0, "badWith", "([II)I"⟩
abbrev cX0_badThrees : ByteArray := prog_2_method_13_code
def yX0_badThrees : MethodName := ⟨RX0, "badThrees", "([I)I"⟩
def RX1 : String := "SumColours$Outlook"
def TX1 : u_T := fun k => match k with
  | 0 => ("SumColours$Outlook", "board", "LSumColours$Board;", true)
  | 1 => ("SumColours$Outlook", "trial", "[I", true)
  | 2 => ("SumColours$Outlook", "tally", "[I", true)
  | 3 => ("SumColours$Outlook", "ways", "I", false)
  | 4 => ("SumColours$Outlook", "up", "I", false)
  | 5 => ("SumColours$Outlook", "fewest", "I", false)
  | 6 => ("SumColours$Outlook", "waysToSkip", "I", false)
  | _ => ("SumColours$Outlook", "stale", "Z", false)
def tyX1 : Nat → FieldType := fun k => match k with
  | 0 => .object "SumColours$Board"
  | 1 => .array .int
  | 2 => .array .int
  | 3 => .int
  | 4 => .int
  | 5 => .int
  | 6 => .int
  | _ => .boolean
abbrev wsX10 : List Cond := u_ws RX1 TX1 8
theorem nmX1 : ∀ a, a < 8 → ∀ b, b < 8 → a ≠ b → (TX1 a).2.1 ≠ (TX1 b).2.1 := by decide +kernel
theorem tyX1_ok : ∀ k, k < 8 → parseFieldDescriptor (TX1 k).2.2.1 = some (tyX1 k) := by decide +kernel
abbrev cX1_init : ByteArray := prog_3_method_1_code
def yX1_init : MethodName := ⟨RX1, "<init>", "(LSumColours$Board;)V"⟩
abbrev cX1_refresh : ByteArray := prog_3_method_2_code
def yX1_refresh : MethodName := ⟨RX1, "refresh", "()V"⟩
abbrev cX1_tryColour : ByteArray := prog_3_method_3_code
def yX1_tryColour : MethodName := ⟨RX1, "tryColour", "(II)Z"⟩
abbrev cX1_mayHave : ByteArray := prog_3_method_4_code
def yX1_mayHave : MethodName := ⟨RX1, "mayHave", "(II)Z"⟩
abbrev cX1_countWaysFrom : ByteArray := prog_3_method_5_code
def yX1_countWaysFrom : MethodName := ⟨RX1, "countWaysFrom", "(I)I"⟩
abbrev cX1_placeOf : ByteArray := prog_3_method_6_code
def yX1_placeOf : MethodName := ⟨RX1, "placeOf", "(II)I"⟩
abbrev cX1_waysWith : ByteArray := prog_3_method_7_code
def yX1_waysWith : MethodName := ⟨RX1, "waysWith", "(II)I"⟩
abbrev cX1_sureColour : ByteArray := prog_3_method_8_code
def yX1_sureColour : MethodName := ⟨RX1, "sureColour", "(I)I"⟩
abbrev cX1_nextToPaint : ByteArray := prog_3_method_9_code
def yX1_nextToPaint : MethodName := ⟨RX1, "nextToPaint", "()I"⟩
abbrev cX1_colourInWay : ByteArray := prog_3_method_10_code
def yX1_colourInWay : MethodName := ⟨RX1, "colourInWay", "(II)I"⟩
abbrev cX1_goToWayFrom : ByteArray := prog_3_method_11_code
def yX1_goToWayFrom : MethodName := ⟨RX1, "goToWayFrom", "(I)Z"⟩
abbrev cX1_fewestAnew : ByteArray := prog_3_method_12_code
def yX1_fewestAnew : MethodName := ⟨RX1, "fewestAnew", "()I"⟩
abbrev cX1_paintAnewFrom : ByteArray := prog_3_method_13_code
def yX1_paintAnewFrom : MethodName := ⟨RX1, "paintAnewFrom", "(II)V"⟩
abbrev cX1_winningColour : ByteArray := prog_3_method_14_code
def yX1_winningColour : MethodName := ⟨RX1, "winningColour", "()I"⟩
abbrev cX1_winningColourFrom : ByteArray := prog_3_method_15_code
def yX1_winningColourFrom : MethodName := ⟨RX1, "winningColourFrom", "(I)I"⟩
abbrev cX1_paintBareBySeed : ByteArray := prog_3_method_16_code
def yX1_paintBareBySeed : MethodName := ⟨RX1, "paintBareBySeed", "(I)I"⟩
def RX2 : String := "SumColours$Page"
def TX2 : u_T := fun k => match k with
  | 0 => ("SumColours$Page", "codes", "[I", true)
  | _ => ("SumColours$Page", "length", "I", false)
def tyX2 : Nat → FieldType := fun k => match k with
  | 0 => .array .int
  | _ => .int
abbrev wsX20 : List Cond := u_ws RX2 TX2 2
theorem nmX2 : ∀ a, a < 2 → ∀ b, b < 2 → a ≠ b → (TX2 a).2.1 ≠ (TX2 b).2.1 := by decide +kernel
theorem tyX2_ok : ∀ k, k < 2 → parseFieldDescriptor (TX2 k).2.2.1 = some (tyX2 k) := by decide +kernel
abbrev cX2_init : ByteArray := prog_4_method_1_code
def yX2_init : MethodName := ⟨RX2, "<init>", "()V"⟩
abbrev cX2_append : ByteArray := prog_4_method_2_code
def yX2_append : MethodName := ⟨RX2, "append", "(I)V"⟩
abbrev cX2_codeAt : ByteArray := prog_4_method_3_code
def yX2_codeAt : MethodName := ⟨RX2, "codeAt", "(I)I"⟩
abbrev cX2_colours : ByteArray := prog_4_method_4_code
def yX2_colours : MethodName := ⟨RX2, "colours", "()I"⟩
abbrev cX2_kindAt : ByteArray := prog_4_method_5_code
def yX2_kindAt : MethodName := ⟨RX2, "kindAt", "(I)I"⟩
abbrev cX2_kindsTold : ByteArray := prog_4_method_6_code
def yX2_kindsTold : MethodName := ⟨RX2, "kindsTold", "()I"⟩
abbrev cX2_firstFault : ByteArray := prog_4_method_7_code
def yX2_firstFault : MethodName := ⟨RX2, "firstFault", "()I"⟩
abbrev cX2_fits : ByteArray := prog_4_method_8_code
def yX2_fits : MethodName := ⟨RX2, "fits", "(II)Z"⟩
abbrev cX2_isSign : ByteArray := prog_4_method_9_code
def yX2_isSign : MethodName := ⟨RX2, "isSign", "(I)Z"⟩
abbrev cX2_isBoard : ByteArray := prog_4_method_10_code
def yX2_isBoard : MethodName := ⟨RX2, "isBoard", "()Z"⟩
abbrev cX2_colourAt : ByteArray := prog_4_method_11_code
def yX2_colourAt : MethodName := ⟨RX2, "colourAt", "(I)I"⟩
def RX3 : String := "SumColours$Sightings"
def TX3 : u_T := fun k => match k with
  | 0 => ("SumColours$Sightings", "numbers", "[I", true)
  | 1 => ("SumColours$Sightings", "roles", "[I", true)
  | 2 => ("SumColours$Sightings", "coulds", "[I", true)
  | _ => ("SumColours$Sightings", "size", "I", false)
def tyX3 : Nat → FieldType := fun k => match k with
  | 0 => .array .int
  | 1 => .array .int
  | 2 => .array .int
  | _ => .int
abbrev wsX30 : List Cond := u_ws RX3 TX3 4
theorem nmX3 : ∀ a, a < 4 → ∀ b, b < 4 → a ≠ b → (TX3 a).2.1 ≠ (TX3 b).2.1 := by decide +kernel
theorem tyX3_ok : ∀ k, k < 4 → parseFieldDescriptor (TX3 k).2.2.1 = some (tyX3 k) := by decide +kernel
abbrev cX3_init : ByteArray := prog_5_method_1_code
def yX3_init : MethodName := ⟨RX3, "<init>", "()V"⟩
abbrev cX3_append : ByteArray := prog_5_method_2_code
def yX3_append : MethodName := ⟨RX3, "append", "(IIZ)V"⟩
abbrev cX3_copyFrom : ByteArray := prog_5_method_3_code
def yX3_copyFrom : MethodName := ⟨RX3, "copyFrom", "(LSumColours$Sightings;)V"⟩
abbrev cX3_allowKind : ByteArray := prog_5_method_4_code
def yX3_allowKind : MethodName := ⟨RX3, "allowKind", "(II)Z"⟩
abbrev cX3_sorts : ByteArray := prog_5_method_5_code
def yX3_sorts : MethodName := ⟨RX3, "sorts", "(I)I"⟩
abbrev cX3_bestRoleToAsk : ByteArray := prog_5_method_6_code
def yX3_bestRoleToAsk : MethodName := ⟨RX3, "bestRoleToAsk", "(I)I"⟩
abbrev cX3_leftAtWorst : ByteArray := prog_5_method_7_code
def yX3_leftAtWorst : MethodName := ⟨RX3, "leftAtWorst", "(II)I"⟩
def RX4 : String := "SumColours"
def TX4 : u_T := fun k => match k with
  | 0 => ("SumColours", "page", "LSumColours$Page;", true)
  | 1 => ("SumColours", "board", "LSumColours$Board;", true)
  | 2 => ("SumColours", "sightings", "LSumColours$Sightings;", true)
  | 3 => ("SumColours", "outlook", "LSumColours$Outlook;", true)
  | 4 => ("SumColours", "keptBoard", "LSumColours$Board;", true)
  | 5 => ("SumColours", "keptSightings", "LSumColours$Sightings;", true)
  | 6 => ("SumColours", "imageKept", "Z", false)
  | _ => ("SumColours", "boardsRead", "I", false)
def tyX4 : Nat → FieldType := fun k => match k with
  | 0 => .object "SumColours$Page"
  | 1 => .object "SumColours$Board"
  | 2 => .object "SumColours$Sightings"
  | 3 => .object "SumColours$Outlook"
  | 4 => .object "SumColours$Board"
  | 5 => .object "SumColours$Sightings"
  | 6 => .boolean
  | _ => .int
abbrev wsX40 : List Cond := u_ws RX4 TX4 8
theorem nmX4 : ∀ a, a < 8 → ∀ b, b < 8 → a ≠ b → (TX4 a).2.1 ≠ (TX4 b).2.1 := by decide +kernel
theorem tyX4_ok : ∀ k, k < 8 → parseFieldDescriptor (TX4 k).2.2.1 = some (tyX4 k) := by decide +kernel
abbrev cX4_init : ByteArray := prog_1_method_1_code
def yX4_init : MethodName := ⟨RX4, "<init>", "()V"⟩
abbrev cX4_letter : ByteArray := prog_1_method_2_code
def yX4_letter : MethodName := ⟨RX4, "letter", "(I)I"⟩
abbrev cX4_blank : ByteArray := prog_1_method_3_code
def yX4_blank : MethodName := ⟨RX4, "blank", "()I"⟩
abbrev cX4_fault : ByteArray := prog_1_method_4_code
def yX4_fault : MethodName := ⟨RX4, "fault", "()I"⟩
abbrev cX4_board : ByteArray := prog_1_method_5_code
def yX4_board : MethodName := ⟨RX4, "board", "()I"⟩
abbrev cX4_number : ByteArray := prog_1_method_6_code
def yX4_number : MethodName := ⟨RX4, "number", "(II)I"⟩
abbrev cX4_as : ByteArray := prog_1_method_7_code
def yX4_as : MethodName := ⟨RX4, "as", "(II)I"⟩
abbrev cX4_way : ByteArray := prog_1_method_8_code
def yX4_way : MethodName := ⟨RX4, "way", "(II)I"⟩
abbrev cX4_paint : ByteArray := prog_1_method_9_code
def yX4_paint : MethodName := ⟨RX4, "paint", "(II)I"⟩
abbrev cX4_wipe : ByteArray := prog_1_method_10_code
def yX4_wipe : MethodName := ⟨RX4, "wipe", "(I)I"⟩
abbrev cX4_changeColour : ByteArray := prog_1_method_11_code
def yX4_changeColour : MethodName := ⟨RX4, "changeColour", "(II)V"⟩
abbrev cX4_be : ByteArray := prog_1_method_12_code
def yX4_be : MethodName := ⟨RX4, "be", "(II)I"⟩
abbrev cX4_ways : ByteArray := prog_1_method_13_code
def yX4_ways : MethodName := ⟨RX4, "ways", "(I)I"⟩
abbrev cX4_mend : ByteArray := prog_1_method_14_code
def yX4_mend : MethodName := ⟨RX4, "mend", "()I"⟩
abbrev cX4_wins : ByteArray := prog_1_method_15_code
def yX4_wins : MethodName := ⟨RX4, "wins", "(I)I"⟩
abbrev cX4_odds : ByteArray := prog_1_method_16_code
def yX4_odds : MethodName := ⟨RX4, "odds", "(III)I"⟩
abbrev cX4_see : ByteArray := prog_1_method_17_code
def yX4_see : MethodName := ⟨RX4, "see", "(IIZ)I"⟩
abbrev cX4_forget : ByteArray := prog_1_method_18_code
def yX4_forget : MethodName := ⟨RX4, "forget", "()I"⟩
abbrev cX4_paintings : ByteArray := prog_1_method_19_code
def yX4_paintings : MethodName := ⟨RX4, "paintings", "(III)I"⟩
abbrev cX4_image : ByteArray := prog_1_method_20_code
def yX4_image : MethodName := ⟨RX4, "image", "()I"⟩
abbrev cX4_restore : ByteArray := prog_1_method_21_code
def yX4_restore : MethodName := ⟨RX4, "restore", "()I"⟩
abbrev cX4_count : ByteArray := prog_1_method_22_code
def yX4_count : MethodName := ⟨RX4, "count", "(I)I"⟩
abbrev cX4_digest : ByteArray := prog_1_method_23_code
def yX4_digest : MethodName := ⟨RX4, "digest", "()J"⟩
abbrev cX4_at : ByteArray := prog_1_method_24_code
def yX4_at : MethodName := ⟨RX4, "at", "([II)I"⟩
abbrev cX4_put : ByteArray := prog_1_method_25_code
def yX4_put : MethodName := ⟨RX4, "put", "([III)V"⟩
abbrev cX4_copyRow : ByteArray := prog_1_method_26_code
def yX4_copyRow : MethodName := ⟨RX4, "copyRow", "([I[I)V"⟩
abbrev cX4_isKind : ByteArray := prog_1_method_27_code
def yX4_isKind : MethodName := ⟨RX4, "isKind", "(I)Z"⟩
abbrev cX4_kindHasRole : ByteArray := prog_1_method_28_code
def yX4_kindHasRole : MethodName := ⟨RX4, "kindHasRole", "(II)Z"⟩
abbrev cX4_greatestCommonDivisor : ByteArray := prog_1_method_29_code
def yX4_greatestCommonDivisor : MethodName := ⟨RX4, "greatestCommonDivisor", "(II)I"⟩
def RX5 : String := "SumColoursModel"
def TX5 : u_T := fun k => match k with
  | 0 => ("SumColoursModel", "boards", "I", false)
  | 1 => ("SumColoursModel", "numbers", "I", false)
  | 2 => ("SumColoursModel", "colours", "I", false)
  | 3 => ("SumColoursModel", "kindOf", "[I", true)
  | 4 => ("SumColoursModel", "colourOf", "[I", true)
  | 5 => ("SumColoursModel", "changes", "I", false)
  | 6 => ("SumColoursModel", "seen", "I", false)
  | 7 => ("SumColoursModel", "seenNumber", "[I", true)
  | 8 => ("SumColoursModel", "seenWhat", "[I", true)
  | 9 => ("SumColoursModel", "seenCould", "[I", true)
  | 10 => ("SumColoursModel", "pageLength", "I", false)
  | 11 => ("SumColoursModel", "page", "[B", true)
  | 12 => ("SumColoursModel", "isWhole", "Z", false)
  | 13 => ("SumColoursModel", "newNumbers", "I", false)
  | 14 => ("SumColoursModel", "now", "[I", true)
  | 15 => ("SumColoursModel", "often", "[I", true)
  | 16 => ("SumColoursModel", "wanted", "[I", true)
  | 17 => ("SumColoursModel", "ways", "I", false)
  | 18 => ("SumColoursModel", "saved", "[I", true)
  | 19 => ("SumColoursModel", "turnOf", "[I", true)
  | 20 => ("SumColoursModel", "colourAt", "[I", true)
  | 21 => ("SumColoursModel", "winAt", "[I", true)
  | 22 => ("SumColoursModel", "seedNow", "J", false)
  | 23 => ("SumColoursModel", "isKept", "Z", false)
  | 24 => ("SumColoursModel", "keptBoard", "I", false)
  | 25 => ("SumColoursModel", "keptChanges", "I", false)
  | 26 => ("SumColoursModel", "keptSeen", "I", false)
  | 27 => ("SumColoursModel", "keptKind", "[I", true)
  | 28 => ("SumColoursModel", "keptColour", "[I", true)
  | 29 => ("SumColoursModel", "keptNumber", "[I", true)
  | 30 => ("SumColoursModel", "keptWhat", "[I", true)
  | 31 => ("SumColoursModel", "keptCould", "[I", true)
  | _ => ("SumColoursModel", "h", "J", false)
def tyX5 : Nat → FieldType := fun k => match k with
  | 0 => .int
  | 1 => .int
  | 2 => .int
  | 3 => .array .int
  | 4 => .array .int
  | 5 => .int
  | 6 => .int
  | 7 => .array .int
  | 8 => .array .int
  | 9 => .array .int
  | 10 => .int
  | 11 => .array .byte
  | 12 => .boolean
  | 13 => .int
  | 14 => .array .int
  | 15 => .array .int
  | 16 => .array .int
  | 17 => .int
  | 18 => .array .int
  | 19 => .array .int
  | 20 => .array .int
  | 21 => .array .int
  | 22 => .long
  | 23 => .boolean
  | 24 => .int
  | 25 => .int
  | 26 => .int
  | 27 => .array .int
  | 28 => .array .int
  | 29 => .array .int
  | 30 => .array .int
  | 31 => .array .int
  | _ => .long
abbrev wsX50 : List Cond := u_ws RX5 TX5 33
theorem nmX5 : ∀ a, a < 33 → ∀ b, b < 33 → a ≠ b → (TX5 a).2.1 ≠ (TX5 b).2.1 := by decide +kernel
theorem tyX5_ok : ∀ k, k < 33 → parseFieldDescriptor (TX5 k).2.2.1 = some (tyX5 k) := by decide +kernel
abbrev cX5_init : ByteArray := prog_7_method_1_code
def yX5_init : MethodName := ⟨RX5, "<init>", "()V"⟩
abbrev cX5_within : ByteArray := prog_7_method_3_code
def yX5_within : MethodName := ⟨RX5, "within", "(III)Z"⟩
abbrev cX5_isIn : ByteArray := prog_7_method_4_code
def yX5_isIn : MethodName := ⟨RX5, "isIn", "(II)Z"⟩
abbrev cX5_divisor : ByteArray := prog_7_method_5_code
def yX5_divisor : MethodName := ⟨RX5, "divisor", "(II)I"⟩
abbrev cX5_letter : ByteArray := prog_7_method_6_code
def yX5_letter : MethodName := ⟨RX5, "letter", "(I)I"⟩
abbrev cX5_blank : ByteArray := prog_7_method_7_code
def yX5_blank : MethodName := ⟨RX5, "blank", "()I"⟩
abbrev cX5_kindBy : ByteArray := prog_7_method_8_code
def yX5_kindBy : MethodName := ⟨RX5, "kindBy", "(I)I"⟩
abbrev cX5_at : ByteArray := prog_7_method_9_code
def yX5_at : MethodName := ⟨RX5, "at", "(I)I"⟩
abbrev cX5_readKinds : ByteArray := prog_7_method_10_code
def yX5_readKinds : MethodName := ⟨RX5, "readKinds", "()I"⟩
abbrev cX5_readSigns : ByteArray := prog_7_method_11_code
def yX5_readSigns : MethodName := ⟨RX5, "readSigns", "(II)I"⟩
abbrev cX5_read : ByteArray := prog_7_method_12_code
def yX5_read : MethodName := ⟨RX5, "read", "()I"⟩
abbrev cX5_fault : ByteArray := prog_7_method_13_code
def yX5_fault : MethodName := ⟨RX5, "fault", "()I"⟩
abbrev cX5_board : ByteArray := prog_7_method_14_code
def yX5_board : MethodName := ⟨RX5, "board", "()I"⟩
abbrev cX5_isNumber : ByteArray := prog_7_method_15_code
def yX5_isNumber : MethodName := ⟨RX5, "isNumber", "(I)Z"⟩
abbrev cX5_isColour : ByteArray := prog_7_method_16_code
def yX5_isColour : MethodName := ⟨RX5, "isColour", "(I)Z"⟩
abbrev cX5_isPart : ByteArray := prog_7_method_17_code
def yX5_isPart : MethodName := ⟨RX5, "isPart", "(I)Z"⟩
abbrev cX5_minds : ByteArray := prog_7_method_18_code
def yX5_minds : MethodName := ⟨RX5, "minds", "(IZ)Z"⟩
abbrev cX5_layNow : ByteArray := prog_7_method_19_code
def yX5_layNow : MethodName := ⟨RX5, "layNow", "()V"⟩
abbrev cX5_isBad : ByteArray := prog_7_method_20_code
def yX5_isBad : MethodName := ⟨RX5, "isBad", "(II)Z"⟩
abbrev cX5_badWith : ByteArray := prog_7_method_21_code
def yX5_badWith : MethodName := ⟨RX5, "badWith", "(I)I"⟩
abbrev cX5_badUpTo : ByteArray := prog_7_method_22_code
def yX5_badUpTo : MethodName := ⟨RX5, "badUpTo", "(I)I"⟩
abbrev cX5_badNow : ByteArray := prog_7_method_23_code
def yX5_badNow : MethodName := ⟨RX5, "badNow", "()I"⟩
abbrev cX5_badOf : ByteArray := prog_7_method_24_code
def yX5_badOf : MethodName := ⟨RX5, "badOf", "(I)I"⟩
abbrev cX5_numberNow : ByteArray := prog_7_method_25_code
def yX5_numberNow : MethodName := ⟨RX5, "numberNow", "(II)I"⟩
abbrev cX5_number : ByteArray := prog_7_method_26_code
def yX5_number : MethodName := ⟨RX5, "number", "(II)I"⟩
abbrev cX5_as : ByteArray := prog_7_method_27_code
def yX5_as : MethodName := ⟨RX5, "as", "(II)I"⟩
abbrev cX5_turnBack : ByteArray := prog_7_method_28_code
def yX5_turnBack : MethodName := ⟨RX5, "turnBack", "(I)I"⟩
abbrev cX5_goOn : ByteArray := prog_7_method_29_code
def yX5_goOn : MethodName := ⟨RX5, "goOn", "(II)I"⟩
abbrev cX5_takeWay : ByteArray := prog_7_method_30_code
def yX5_takeWay : MethodName := ⟨RX5, "takeWay", "(I)V"⟩
abbrev cX5_layWays : ByteArray := prog_7_method_31_code
def yX5_layWays : MethodName := ⟨RX5, "layWays", "(I)I"⟩
abbrev cX5_sureOf : ByteArray := prog_7_method_32_code
def yX5_sureOf : MethodName := ⟨RX5, "sureOf", "(I)I"⟩
abbrev cX5_bare : ByteArray := prog_7_method_33_code
def yX5_bare : MethodName := ⟨RX5, "bare", "()I"⟩
abbrev cX5_nextNow : ByteArray := prog_7_method_34_code
def yX5_nextNow : MethodName := ⟨RX5, "nextNow", "()I"⟩
abbrev cX5_upNow : ByteArray := prog_7_method_35_code
def yX5_upNow : MethodName := ⟨RX5, "upNow", "()I"⟩
abbrev cX5_waysNow : ByteArray := prog_7_method_36_code
def yX5_waysNow : MethodName := ⟨RX5, "waysNow", "(I)I"⟩
abbrev cX5_ways : ByteArray := prog_7_method_37_code
def yX5_ways : MethodName := ⟨RX5, "ways", "(I)I"⟩
abbrev cX5_way : ByteArray := prog_7_method_38_code
def yX5_way : MethodName := ⟨RX5, "way", "(II)I"⟩
abbrev cX5_paint : ByteArray := prog_7_method_39_code
def yX5_paint : MethodName := ⟨RX5, "paint", "(II)I"⟩
abbrev cX5_wipe : ByteArray := prog_7_method_40_code
def yX5_wipe : MethodName := ⟨RX5, "wipe", "(I)I"⟩
abbrev cX5_be : ByteArray := prog_7_method_41_code
def yX5_be : MethodName := ⟨RX5, "be", "(II)I"⟩
abbrev cX5_mendNow : ByteArray := prog_7_method_42_code
def yX5_mendNow : MethodName := ⟨RX5, "mendNow", "()I"⟩
abbrev cX5_mend : ByteArray := prog_7_method_43_code
def yX5_mend : MethodName := ⟨RX5, "mend", "()I"⟩
abbrev cX5_layTurns : ByteArray := prog_7_method_44_code
def yX5_layTurns : MethodName := ⟨RX5, "layTurns", "()I"⟩
abbrev cX5_winNow : ByteArray := prog_7_method_45_code
def yX5_winNow : MethodName := ⟨RX5, "winNow", "()I"⟩
abbrev cX5_winsNow : ByteArray := prog_7_method_46_code
def yX5_winsNow : MethodName := ⟨RX5, "winsNow", "(I)I"⟩
abbrev cX5_wins : ByteArray := prog_7_method_47_code
def yX5_wins : MethodName := ⟨RX5, "wins", "(I)I"⟩
abbrev cX5_oddsNow : ByteArray := prog_7_method_48_code
def yX5_oddsNow : MethodName := ⟨RX5, "oddsNow", "(III)I"⟩
abbrev cX5_odds : ByteArray := prog_7_method_49_code
def yX5_odds : MethodName := ⟨RX5, "odds", "(III)I"⟩
abbrev cX5_could : ByteArray := prog_7_method_50_code
def yX5_could : MethodName := ⟨RX5, "could", "(II)Z"⟩
abbrev cX5_see : ByteArray := prog_7_method_51_code
def yX5_see : MethodName := ⟨RX5, "see", "(IIZ)I"⟩
abbrev cX5_forget : ByteArray := prog_7_method_52_code
def yX5_forget : MethodName := ⟨RX5, "forget", "()I"⟩
abbrev cX5_sortsOf : ByteArray := prog_7_method_53_code
def yX5_sortsOf : MethodName := ⟨RX5, "sortsOf", "(I)I"⟩
abbrev cX5_askOf : ByteArray := prog_7_method_54_code
def yX5_askOf : MethodName := ⟨RX5, "askOf", "(I)I"⟩
abbrev cX5_draw : ByteArray := prog_7_method_55_code
def yX5_draw : MethodName := ⟨RX5, "draw", "(I)I"⟩
abbrev cX5_paintingsNow : ByteArray := prog_7_method_56_code
def yX5_paintingsNow : MethodName := ⟨RX5, "paintingsNow", "(III)I"⟩
abbrev cX5_paintings : ByteArray := prog_7_method_57_code
def yX5_paintings : MethodName := ⟨RX5, "paintings", "(III)I"⟩
abbrev cX5_image : ByteArray := prog_7_method_58_code
def yX5_image : MethodName := ⟨RX5, "image", "()I"⟩
abbrev cX5_restore : ByteArray := prog_7_method_59_code
def yX5_restore : MethodName := ⟨RX5, "restore", "()I"⟩
abbrev cX5_threes : ByteArray := prog_7_method_60_code
def yX5_threes : MethodName := ⟨RX5, "threes", "()I"⟩
abbrev cX5_howMany : ByteArray := prog_7_method_61_code
def yX5_howMany : MethodName := ⟨RX5, "howMany", "(I)I"⟩
abbrev cX5_count : ByteArray := prog_7_method_62_code
def yX5_count : MethodName := ⟨RX5, "count", "(I)I"⟩
abbrev cX5_mix : ByteArray := prog_7_method_63_code
def yX5_mix : MethodName := ⟨RX5, "mix", "(J)V"⟩
abbrev cX5_mixBoard : ByteArray := prog_7_method_64_code
def yX5_mixBoard : MethodName := ⟨RX5, "mixBoard", "()V"⟩
abbrev cX5_digest : ByteArray := prog_7_method_65_code
def yX5_digest : MethodName := ⟨RX5, "digest", "()J"⟩
def RJ11 : String := "java/lang/Character"
def TJ11 : u_T := fun k => match k with
  | _ => ("", "", "", false)
def tyJ11 : Nat → FieldType := fun k => match k with
  | _ => .int
abbrev wsJ110 : List Cond := u_ws RJ11 TJ11 0
theorem nmJ11 : ∀ a, a < 0 → ∀ b, b < 0 → a ≠ b → (TJ11 a).2.1 ≠ (TJ11 b).2.1 := by decide +kernel
theorem tyJ11_ok : ∀ k, k < 0 → parseFieldDescriptor (TJ11 k).2.2.1 = some (tyJ11 k) := by decide +kernel
abbrev cJ11_isValidCodePoint_9a6ad : ByteArray := prog_8_method_11_code
def yJ11_isValidCodePoint_9a6ad : MethodName := ⟨RJ11, "isValidCodePoint", "(I)Z"⟩
abbrev cJ11_highSurrogate_5068e : ByteArray := prog_8_method_28_code
def yJ11_highSurrogate_5068e : MethodName := ⟨RJ11, "highSurrogate", "(I)C"⟩
abbrev cJ11_lowSurrogate_5068e : ByteArray := prog_8_method_29_code
def yJ11_lowSurrogate_5068e : MethodName := ⟨RJ11, "lowSurrogate", "(I)C"⟩
def RJ9 : String := "java/lang/Math"
def TJ9 : u_T := fun k => match k with
  | _ => ("", "", "", false)
def tyJ9 : Nat → FieldType := fun k => match k with
  | _ => .int
abbrev wsJ90 : List Cond := u_ws RJ9 TJ9 0
theorem nmJ9 : ∀ a, a < 0 → ∀ b, b < 0 → a ≠ b → (TJ9 a).2.1 ≠ (TJ9 b).2.1 := by decide +kernel
theorem tyJ9_ok : ∀ k, k < 0 → parseFieldDescriptor (TJ9 k).2.2.1 = some (tyJ9 k) := by decide +kernel
abbrev cJ9_max_7cf53 : ByteArray := prog_9_method_65_code
def yJ9_max_7cf53 : MethodName := ⟨RJ9, "max", "(II)I"⟩
abbrev cJ9_min_7cf53 : ByteArray := prog_9_method_69_code
def yJ9_min_7cf53 : MethodName := ⟨RJ9, "min", "(II)I"⟩
def RJ0 : String := "java/lang/String"
def TJ0 : u_T := fun k => match k with
  | _ => ("", "", "", false)
def tyJ0 : Nat → FieldType := fun k => match k with
  | _ => .int
abbrev wsJ00 : List Cond := u_ws RJ0 TJ0 0
theorem nmJ0 : ∀ a, a < 0 → ∀ b, b < 0 → a ≠ b → (TJ0 a).2.1 ≠ (TJ0 b).2.1 := by decide +kernel
theorem tyJ0_ok : ∀ k, k < 0 → parseFieldDescriptor (TJ0 k).2.2.1 = some (tyJ0 k) := by decide +kernel
abbrev cJ0_length_8abf5 : ByteArray := prog_10_method_54_code
def yJ0_length_8abf5 : MethodName := ⟨RJ0, "length", "()I"⟩
abbrev cJ0_indexOf_0f7a4 : ByteArray := prog_10_method_79_code
def yJ0_indexOf_0f7a4 : MethodName := ⟨RJ0, "indexOf", "(I)I"⟩
abbrev cJ0_indexOf_7cf53 : ByteArray := prog_10_method_80_code
def yJ0_indexOf_7cf53 : MethodName := ⟨RJ0, "indexOf", "(II)I"⟩
abbrev cJ0_coder_7d493 : ByteArray := prog_10_method_152_code
def yJ0_coder_7d493 : MethodName := ⟨RJ0, "coder", "()B"⟩
abbrev cJ0_isLatin1_aae02 : ByteArray := prog_10_method_154_code
def yJ0_isLatin1_aae02 : MethodName := ⟨RJ0, "isLatin1", "()Z"⟩
abbrev cJ0_checkBoundsBeginEnd_23922 : ByteArray := prog_10_method_158_code
def yJ0_checkBoundsBeginEnd_23922 : MethodName := ⟨RJ0, "checkBoundsBeginEnd", "(III)V"⟩
def RJ1 : String := "java/lang/StringLatin1"
def TJ1 : u_T := fun k => match k with
  | _ => ("", "", "", false)
def tyJ1 : Nat → FieldType := fun k => match k with
  | _ => .int
abbrev wsJ10 : List Cond := u_ws RJ1 TJ1 0
theorem nmJ1 : ∀ a, a < 0 → ∀ b, b < 0 → a ≠ b → (TJ1 a).2.1 ≠ (TJ1 b).2.1 := by decide +kernel
theorem tyJ1_ok : ∀ k, k < 0 → parseFieldDescriptor (TJ1 k).2.2.1 = some (tyJ1 k) := by decide +kernel
abbrev cJ1_canEncode_9a6ad : ByteArray := prog_11_method_4_code
def yJ1_canEncode_9a6ad : MethodName := ⟨RJ1, "canEncode", "(I)Z"⟩
abbrev cJ1_indexOf_4cfef : ByteArray := prog_11_method_22_code
def yJ1_indexOf_4cfef : MethodName := ⟨RJ1, "indexOf", "([BIII)I"⟩
abbrev cJ1_indexOfChar_4cfef : ByteArray := prog_11_method_23_code
def yJ1_indexOfChar_4cfef : MethodName := ⟨RJ1, "indexOfChar", "([BIII)I"⟩
def RJ2 : String := "java/lang/StringUTF16"
def TJ2 : u_T := fun k => match k with
  | _ => ("", "", "", false)
def tyJ2 : Nat → FieldType := fun k => match k with
  | _ => .int
abbrev wsJ20 : List Cond := u_ws RJ2 TJ2 0
theorem nmJ2 : ∀ a, a < 0 → ∀ b, b < 0 → a ≠ b → (TJ2 a).2.1 ≠ (TJ2 b).2.1 := by decide +kernel
theorem tyJ2_ok : ∀ k, k < 0 → parseFieldDescriptor (TJ2 k).2.2.1 = some (tyJ2 k) := by decide +kernel
abbrev cJ2_getChar_3b067 : ByteArray := prog_12_method_5_code
def yJ2_getChar_3b067 : MethodName := ⟨RJ2, "getChar", "([BI)C"⟩
abbrev cJ2_length_9d52b : ByteArray := prog_12_method_6_code
def yJ2_length_9d52b : MethodName := ⟨RJ2, "length", "([B)I"⟩
abbrev cJ2_indexOf_4cfef : ByteArray := prog_12_method_40_code
def yJ2_indexOf_4cfef : MethodName := ⟨RJ2, "indexOf", "([BIII)I"⟩
abbrev cJ2_indexOfChar_4cfef : ByteArray := prog_12_method_47_code
def yJ2_indexOfChar_4cfef : MethodName := ⟨RJ2, "indexOfChar", "([BIII)I"⟩
abbrev cJ2_indexOfCharUnsafe_4cfef : ByteArray := prog_12_method_48_code
def yJ2_indexOfCharUnsafe_4cfef : MethodName := ⟨RJ2, "indexOfCharUnsafe", "([BIII)I"⟩
abbrev cJ2_indexOfSupplementary_4cfef : ByteArray := prog_12_method_49_code
def yJ2_indexOfSupplementary_4cfef : MethodName := ⟨RJ2, "indexOfSupplementary", "([BIII)I"⟩
abbrev cJ2_checkBoundsBeginEnd_d044e : ByteArray := prog_12_method_93_code
def yJ2_checkBoundsBeginEnd_d044e : MethodName := ⟨RJ2, "checkBoundsBeginEnd", "(II[B)V"⟩
def RJ10 : String := "java/lang/System"
def TJ10 : u_T := fun k => match k with
  | _ => ("", "", "", false)
def tyJ10 : Nat → FieldType := fun k => match k with
  | _ => .int
abbrev wsJ100 : List Cond := u_ws RJ10 TJ10 0
theorem nmJ10 : ∀ a, a < 0 → ∀ b, b < 0 → a ≠ b → (TJ10 a).2.1 ≠ (TJ10 b).2.1 := by decide +kernel
theorem tyJ10_ok : ∀ k, k < 0 → parseFieldDescriptor (TJ10 k).2.2.1 = some (tyJ10 k) := by decide +kernel
def RJ3 : String := "jdk/internal/util/Preconditions"
def TJ3 : u_T := fun k => match k with
  | _ => ("", "", "", false)
def tyJ3 : Nat → FieldType := fun k => match k with
  | _ => .int
abbrev wsJ30 : List Cond := u_ws RJ3 TJ3 0
theorem nmJ3 : ∀ a, a < 0 → ∀ b, b < 0 → a ≠ b → (TJ3 a).2.1 ≠ (TJ3 b).2.1 := by decide +kernel
theorem tyJ3_ok : ∀ k, k < 0 → parseFieldDescriptor (TJ3 k).2.2.1 = some (tyJ3 k) := by decide +kernel
abbrev cJ3_checkFromToIndex_8c36e : ByteArray := prog_14_method_12_code
def yJ3_checkFromToIndex_8c36e : MethodName := ⟨RJ3, "checkFromToIndex", "(IIILjava/util/function/BiFunction;)I"⟩
def RL : String := "SumColoursLaw"
abbrev cL_law : ByteArray := code
def yL_law : MethodName := ⟨RL, "law", "([I)Z"⟩
abbrev vwCl : List vw_C := [(RX0, TX0, 5), (RX1, TX1, 8), (RX2, TX2, 2), (RX3, TX3, 4), (RX4, TX4, 8), (RX5, TX5, 33)]
end
section
theorem dX0_init_0 : decode cX0_init 0 = .ok (.aload_n 0, 1) := by decide +kernel
theorem dX0_init_1 : decode cX0_init 1 = .ok (.invokespecial 3, 3) := by decide +kernel
theorem dX0_init_4 : decode cX0_init 4 = .ok (.aload_n 0, 1) := by decide +kernel
theorem dX0_init_5 : decode cX0_init 5 = .ok (.bipush 11, 2) := by decide +kernel
theorem dX0_init_7 : decode cX0_init 7 = .ok (.newarray .int, 2) := by decide +kernel
theorem dX0_init_9 : decode cX0_init 9 = .ok (.putfield 9, 3) := by decide +kernel
theorem dX0_init_12 : decode cX0_init 12 = .ok (.aload_n 0, 1) := by decide +kernel
theorem dX0_init_13 : decode cX0_init 13 = .ok (.bipush 11, 2) := by decide +kernel
theorem dX0_init_15 : decode cX0_init 15 = .ok (.newarray .int, 2) := by decide +kernel
theorem dX0_init_17 : decode cX0_init 17 = .ok (.putfield 15, 3) := by decide +kernel
theorem dX0_init_20 : decode cX0_init 20 = .ok (.aload_n 0, 1) := by decide +kernel
theorem dX0_init_21 : decode cX0_init 21 = .ok (.iconst 0, 1) := by decide +kernel
theorem dX0_init_22 : decode cX0_init 22 = .ok (.putfield 18, 3) := by decide +kernel
theorem dX0_init_25 : decode cX0_init 25 = .ok (.aload_n 0, 1) := by decide +kernel
theorem dX0_init_26 : decode cX0_init 26 = .ok (.iconst 0, 1) := by decide +kernel
theorem dX0_init_27 : decode cX0_init 27 = .ok (.putfield 22, 3) := by decide +kernel
theorem dX0_init_30 : decode cX0_init 30 = .ok (.aload_n 0, 1) := by decide +kernel
theorem dX0_init_31 : decode cX0_init 31 = .ok (.iconst 0, 1) := by decide +kernel
theorem dX0_init_32 : decode cX0_init 32 = .ok (.putfield 25, 3) := by decide +kernel
theorem dX0_init_35 : decode cX0_init 35 = .ok (.return_, 1) := by decide +kernel
theorem dX0_readFrom_0 : decode cX0_readFrom 0 = .ok (.aload_n 0, 1) := by decide +kernel
theorem dX0_readFrom_1 : decode cX0_readFrom 1 = .ok (.aload_n 1, 1) := by decide +kernel
theorem dX0_readFrom_2 : decode cX0_readFrom 2 = .ok (.invokevirtual 28, 3) := by decide +kernel
theorem dX0_readFrom_5 : decode cX0_readFrom 5 = .ok (.putfield 18, 3) := by decide +kernel
theorem dX0_readFrom_8 : decode cX0_readFrom 8 = .ok (.aload_n 0, 1) := by decide +kernel
theorem dX0_readFrom_9 : decode cX0_readFrom 9 = .ok (.aload_n 1, 1) := by decide +kernel
theorem dX0_readFrom_10 : decode cX0_readFrom 10 = .ok (.invokevirtual 34, 3) := by decide +kernel
theorem dX0_readFrom_13 : decode cX0_readFrom 13 = .ok (.putfield 22, 3) := by decide +kernel
theorem dX0_readFrom_16 : decode cX0_readFrom 16 = .ok (.aload_n 0, 1) := by decide +kernel
theorem dX0_readFrom_17 : decode cX0_readFrom 17 = .ok (.iconst 0, 1) := by decide +kernel
theorem dX0_readFrom_18 : decode cX0_readFrom 18 = .ok (.putfield 25, 3) := by decide +kernel
theorem dX0_readFrom_21 : decode cX0_readFrom 21 = .ok (.iconst 1, 1) := by decide +kernel
theorem dX0_readFrom_22 : decode cX0_readFrom 22 = .ok (.istore_n 2, 1) := by decide +kernel
theorem dX0_readFrom_23 : decode cX0_readFrom 23 = .ok (.iload_n 2, 1) := by decide +kernel
theorem dX0_readFrom_24 : decode cX0_readFrom 24 = .ok (.aload_n 0, 1) := by decide +kernel
theorem dX0_readFrom_25 : decode cX0_readFrom 25 = .ok (.getfield 18, 3) := by decide +kernel
theorem dX0_readFrom_28 : decode cX0_readFrom 28 = .ok (.if_icmp .gt 48, 3) := by decide +kernel
theorem dX0_readFrom_31 : decode cX0_readFrom 31 = .ok (.iconst 2, 1) := by decide +kernel
theorem dX0_readFrom_32 : decode cX0_readFrom 32 = .ok (.iload_n 2, 1) := by decide +kernel
theorem dX0_readFrom_33 : decode cX0_readFrom 33 = .ok (.iadd, 1) := by decide +kernel
theorem dX0_readFrom_34 : decode cX0_readFrom 34 = .ok (.iconst 1, 1) := by decide +kernel
theorem dX0_readFrom_35 : decode cX0_readFrom 35 = .ok (.isub, 1) := by decide +kernel
theorem dX0_readFrom_36 : decode cX0_readFrom 36 = .ok (.istore_n 3, 1) := by decide +kernel
theorem dX0_readFrom_37 : decode cX0_readFrom 37 = .ok (.aload_n 0, 1) := by decide +kernel
theorem dX0_readFrom_38 : decode cX0_readFrom 38 = .ok (.getfield 9, 3) := by decide +kernel
theorem dX0_readFrom_41 : decode cX0_readFrom 41 = .ok (.iload_n 2, 1) := by decide +kernel
theorem dX0_readFrom_42 : decode cX0_readFrom 42 = .ok (.aload_n 1, 1) := by decide +kernel
theorem dX0_readFrom_43 : decode cX0_readFrom 43 = .ok (.iload_n 3, 1) := by decide +kernel
theorem dX0_readFrom_44 : decode cX0_readFrom 44 = .ok (.invokevirtual 36, 3) := by decide +kernel
theorem dX0_readFrom_47 : decode cX0_readFrom 47 = .ok (.invokestatic 40, 3) := by decide +kernel
theorem dX0_readFrom_50 : decode cX0_readFrom 50 = .ok (.aload_n 0, 1) := by decide +kernel
theorem dX0_readFrom_51 : decode cX0_readFrom 51 = .ok (.getfield 15, 3) := by decide +kernel
theorem dX0_readFrom_54 : decode cX0_readFrom 54 = .ok (.iload_n 2, 1) := by decide +kernel
theorem dX0_readFrom_55 : decode cX0_readFrom 55 = .ok (.aload_n 1, 1) := by decide +kernel
theorem dX0_readFrom_56 : decode cX0_readFrom 56 = .ok (.iload_n 3, 1) := by decide +kernel
theorem dX0_readFrom_57 : decode cX0_readFrom 57 = .ok (.aload_n 0, 1) := by decide +kernel
theorem dX0_readFrom_58 : decode cX0_readFrom 58 = .ok (.getfield 18, 3) := by decide +kernel
theorem dX0_readFrom_61 : decode cX0_readFrom 61 = .ok (.iadd, 1) := by decide +kernel
theorem dX0_readFrom_62 : decode cX0_readFrom 62 = .ok (.iconst 1, 1) := by decide +kernel
theorem dX0_readFrom_63 : decode cX0_readFrom 63 = .ok (.iadd, 1) := by decide +kernel
theorem dX0_readFrom_64 : decode cX0_readFrom 64 = .ok (.invokevirtual 44, 3) := by decide +kernel
theorem dX0_readFrom_67 : decode cX0_readFrom 67 = .ok (.invokestatic 40, 3) := by decide +kernel
theorem dX0_readFrom_70 : decode cX0_readFrom 70 = .ok (.iinc 2 1, 3) := by decide +kernel
theorem dX0_readFrom_73 : decode cX0_readFrom 73 = .ok (.goto (-50), 3) := by decide +kernel
theorem dX0_readFrom_76 : decode cX0_readFrom 76 = .ok (.return_, 1) := by decide +kernel
theorem dX0_copyFrom_0 : decode cX0_copyFrom 0 = .ok (.aload_n 1, 1) := by decide +kernel
theorem dX0_copyFrom_1 : decode cX0_copyFrom 1 = .ok (.getfield 9, 3) := by decide +kernel
theorem dX0_copyFrom_4 : decode cX0_copyFrom 4 = .ok (.aload_n 0, 1) := by decide +kernel
theorem dX0_copyFrom_5 : decode cX0_copyFrom 5 = .ok (.getfield 9, 3) := by decide +kernel
theorem dX0_copyFrom_8 : decode cX0_copyFrom 8 = .ok (.invokestatic 47, 3) := by decide +kernel
theorem dX0_copyFrom_11 : decode cX0_copyFrom 11 = .ok (.aload_n 1, 1) := by decide +kernel
theorem dX0_copyFrom_12 : decode cX0_copyFrom 12 = .ok (.getfield 15, 3) := by decide +kernel
theorem dX0_copyFrom_15 : decode cX0_copyFrom 15 = .ok (.aload_n 0, 1) := by decide +kernel
theorem dX0_copyFrom_16 : decode cX0_copyFrom 16 = .ok (.getfield 15, 3) := by decide +kernel
theorem dX0_copyFrom_19 : decode cX0_copyFrom 19 = .ok (.invokestatic 47, 3) := by decide +kernel
theorem dX0_copyFrom_22 : decode cX0_copyFrom 22 = .ok (.aload_n 0, 1) := by decide +kernel
theorem dX0_copyFrom_23 : decode cX0_copyFrom 23 = .ok (.aload_n 1, 1) := by decide +kernel
theorem dX0_copyFrom_24 : decode cX0_copyFrom 24 = .ok (.getfield 18, 3) := by decide +kernel
theorem dX0_copyFrom_27 : decode cX0_copyFrom 27 = .ok (.putfield 18, 3) := by decide +kernel
theorem dX0_copyFrom_30 : decode cX0_copyFrom 30 = .ok (.aload_n 0, 1) := by decide +kernel
theorem dX0_copyFrom_31 : decode cX0_copyFrom 31 = .ok (.aload_n 1, 1) := by decide +kernel
theorem dX0_copyFrom_32 : decode cX0_copyFrom 32 = .ok (.getfield 22, 3) := by decide +kernel
theorem dX0_copyFrom_35 : decode cX0_copyFrom 35 = .ok (.putfield 22, 3) := by decide +kernel
theorem dX0_copyFrom_38 : decode cX0_copyFrom 38 = .ok (.aload_n 0, 1) := by decide +kernel
theorem dX0_copyFrom_39 : decode cX0_copyFrom 39 = .ok (.aload_n 1, 1) := by decide +kernel
theorem dX0_copyFrom_40 : decode cX0_copyFrom 40 = .ok (.getfield 25, 3) := by decide +kernel
theorem dX0_copyFrom_43 : decode cX0_copyFrom 43 = .ok (.putfield 25, 3) := by decide +kernel
theorem dX0_copyFrom_46 : decode cX0_copyFrom 46 = .ok (.return_, 1) := by decide +kernel
theorem dX0_isThere_0 : decode cX0_isThere 0 = .ok (.aload_n 0, 1) := by decide +kernel
theorem dX0_isThere_1 : decode cX0_isThere 1 = .ok (.getfield 18, 3) := by decide +kernel
theorem dX0_isThere_4 : decode cX0_isThere 4 = .ok (.ifCond .le 7, 3) := by decide +kernel
theorem dX0_isThere_7 : decode cX0_isThere 7 = .ok (.iconst 1, 1) := by decide +kernel
theorem dX0_isThere_8 : decode cX0_isThere 8 = .ok (.goto 4, 3) := by decide +kernel
theorem dX0_isThere_11 : decode cX0_isThere 11 = .ok (.iconst 0, 1) := by decide +kernel
theorem dX0_isThere_12 : decode cX0_isThere 12 = .ok (.ireturn, 1) := by decide +kernel
theorem dX0_hasNumber_0 : decode cX0_hasNumber 0 = .ok (.iload_n 1, 1) := by decide +kernel
theorem dX0_hasNumber_1 : decode cX0_hasNumber 1 = .ok (.iconst 1, 1) := by decide +kernel
theorem dX0_hasNumber_2 : decode cX0_hasNumber 2 = .ok (.if_icmp .lt 15, 3) := by decide +kernel
theorem dX0_hasNumber_5 : decode cX0_hasNumber 5 = .ok (.iload_n 1, 1) := by decide +kernel
theorem dX0_hasNumber_6 : decode cX0_hasNumber 6 = .ok (.aload_n 0, 1) := by decide +kernel
theorem dX0_hasNumber_7 : decode cX0_hasNumber 7 = .ok (.getfield 18, 3) := by decide +kernel
theorem dX0_hasNumber_10 : decode cX0_hasNumber 10 = .ok (.if_icmp .gt 7, 3) := by decide +kernel
theorem dX0_hasNumber_13 : decode cX0_hasNumber 13 = .ok (.iconst 1, 1) := by decide +kernel
theorem dX0_hasNumber_14 : decode cX0_hasNumber 14 = .ok (.goto 4, 3) := by decide +kernel
theorem dX0_hasNumber_17 : decode cX0_hasNumber 17 = .ok (.iconst 0, 1) := by decide +kernel
theorem dX0_hasNumber_18 : decode cX0_hasNumber 18 = .ok (.ireturn, 1) := by decide +kernel
theorem dX0_hasColour_0 : decode cX0_hasColour 0 = .ok (.iload_n 1, 1) := by decide +kernel
theorem dX0_hasColour_1 : decode cX0_hasColour 1 = .ok (.ifCond .lt 15, 3) := by decide +kernel
theorem dX0_hasColour_4 : decode cX0_hasColour 4 = .ok (.iload_n 1, 1) := by decide +kernel
theorem dX0_hasColour_5 : decode cX0_hasColour 5 = .ok (.aload_n 0, 1) := by decide +kernel
theorem dX0_hasColour_6 : decode cX0_hasColour 6 = .ok (.getfield 22, 3) := by decide +kernel
theorem dX0_hasColour_9 : decode cX0_hasColour 9 = .ok (.if_icmp .ge 7, 3) := by decide +kernel
theorem dX0_hasColour_12 : decode cX0_hasColour 12 = .ok (.iconst 1, 1) := by decide +kernel
theorem dX0_hasColour_13 : decode cX0_hasColour 13 = .ok (.goto 4, 3) := by decide +kernel
theorem dX0_hasColour_16 : decode cX0_hasColour 16 = .ok (.iconst 0, 1) := by decide +kernel
theorem dX0_hasColour_17 : decode cX0_hasColour 17 = .ok (.ireturn, 1) := by decide +kernel
theorem dX0_isBare_0 : decode cX0_isBare 0 = .ok (.aload_n 0, 1) := by decide +kernel
theorem dX0_isBare_1 : decode cX0_isBare 1 = .ok (.getfield 15, 3) := by decide +kernel
theorem dX0_isBare_4 : decode cX0_isBare 4 = .ok (.iload_n 1, 1) := by decide +kernel
theorem dX0_isBare_5 : decode cX0_isBare 5 = .ok (.invokestatic 51, 3) := by decide +kernel
theorem dX0_isBare_8 : decode cX0_isBare 8 = .ok (.iconst (-1), 1) := by decide +kernel
theorem dX0_isBare_9 : decode cX0_isBare 9 = .ok (.if_icmp .ne 7, 3) := by decide +kernel
theorem dX0_isBare_12 : decode cX0_isBare 12 = .ok (.iconst 1, 1) := by decide +kernel
theorem dX0_isBare_13 : decode cX0_isBare 13 = .ok (.goto 4, 3) := by decide +kernel
theorem dX0_isBare_16 : decode cX0_isBare 16 = .ok (.iconst 0, 1) := by decide +kernel
theorem dX0_isBare_17 : decode cX0_isBare 17 = .ok (.ireturn, 1) := by decide +kernel
theorem dX0_bareNumbers_0 : decode cX0_bareNumbers 0 = .ok (.iconst 0, 1) := by decide +kernel
theorem dX0_bareNumbers_1 : decode cX0_bareNumbers 1 = .ok (.istore_n 1, 1) := by decide +kernel
theorem dX0_bareNumbers_2 : decode cX0_bareNumbers 2 = .ok (.iconst 1, 1) := by decide +kernel
theorem dX0_bareNumbers_3 : decode cX0_bareNumbers 3 = .ok (.istore_n 2, 1) := by decide +kernel
theorem dX0_bareNumbers_4 : decode cX0_bareNumbers 4 = .ok (.iload_n 2, 1) := by decide +kernel
theorem dX0_bareNumbers_5 : decode cX0_bareNumbers 5 = .ok (.aload_n 0, 1) := by decide +kernel
theorem dX0_bareNumbers_6 : decode cX0_bareNumbers 6 = .ok (.getfield 18, 3) := by decide +kernel
theorem dX0_bareNumbers_9 : decode cX0_bareNumbers 9 = .ok (.if_icmp .gt 25, 3) := by decide +kernel
theorem dX0_bareNumbers_12 : decode cX0_bareNumbers 12 = .ok (.iload_n 1, 1) := by decide +kernel
theorem dX0_bareNumbers_13 : decode cX0_bareNumbers 13 = .ok (.aload_n 0, 1) := by decide +kernel
theorem dX0_bareNumbers_14 : decode cX0_bareNumbers 14 = .ok (.iload_n 2, 1) := by decide +kernel
theorem dX0_bareNumbers_15 : decode cX0_bareNumbers 15 = .ok (.invokevirtual 55, 3) := by decide +kernel
theorem dX0_bareNumbers_18 : decode cX0_bareNumbers 18 = .ok (.ifCond .eq 7, 3) := by decide +kernel
theorem dX0_bareNumbers_21 : decode cX0_bareNumbers 21 = .ok (.iconst 1, 1) := by decide +kernel
theorem dX0_bareNumbers_22 : decode cX0_bareNumbers 22 = .ok (.goto 4, 3) := by decide +kernel
theorem dX0_bareNumbers_25 : decode cX0_bareNumbers 25 = .ok (.iconst 0, 1) := by decide +kernel
theorem dX0_bareNumbers_26 : decode cX0_bareNumbers 26 = .ok (.iadd, 1) := by decide +kernel
theorem dX0_bareNumbers_27 : decode cX0_bareNumbers 27 = .ok (.istore_n 1, 1) := by decide +kernel
theorem dX0_bareNumbers_28 : decode cX0_bareNumbers 28 = .ok (.iinc 2 1, 3) := by decide +kernel
theorem dX0_bareNumbers_31 : decode cX0_bareNumbers 31 = .ok (.goto (-27), 3) := by decide +kernel
theorem dX0_bareNumbers_34 : decode cX0_bareNumbers 34 = .ok (.iload_n 1, 1) := by decide +kernel
theorem dX0_bareNumbers_35 : decode cX0_bareNumbers 35 = .ok (.ireturn, 1) := by decide +kernel
theorem dX0_threes_0 : decode cX0_threes 0 = .ok (.iconst 0, 1) := by decide +kernel
theorem dX0_threes_1 : decode cX0_threes 1 = .ok (.istore_n 1, 1) := by decide +kernel
theorem dX0_threes_2 : decode cX0_threes 2 = .ok (.iconst 1, 1) := by decide +kernel
theorem dX0_threes_3 : decode cX0_threes 3 = .ok (.istore_n 2, 1) := by decide +kernel
theorem dX0_threes_4 : decode cX0_threes 4 = .ok (.iload_n 2, 1) := by decide +kernel
theorem dX0_threes_5 : decode cX0_threes 5 = .ok (.aload_n 0, 1) := by decide +kernel
theorem dX0_threes_6 : decode cX0_threes 6 = .ok (.getfield 18, 3) := by decide +kernel
theorem dX0_threes_9 : decode cX0_threes 9 = .ok (.if_icmp .gt 15, 3) := by decide +kernel
theorem dX0_threes_12 : decode cX0_threes 12 = .ok (.iload_n 1, 1) := by decide +kernel
theorem dX0_threes_13 : decode cX0_threes 13 = .ok (.iload_n 2, 1) := by decide +kernel
theorem dX0_threes_14 : decode cX0_threes 14 = .ok (.iconst 2, 1) := by decide +kernel
theorem dX0_threes_15 : decode cX0_threes 15 = .ok (.idiv, 1) := by decide +kernel
theorem dX0_threes_16 : decode cX0_threes 16 = .ok (.iadd, 1) := by decide +kernel
theorem dX0_threes_17 : decode cX0_threes 17 = .ok (.istore_n 1, 1) := by decide +kernel
theorem dX0_threes_18 : decode cX0_threes 18 = .ok (.iinc 2 1, 3) := by decide +kernel
theorem dX0_threes_21 : decode cX0_threes 21 = .ok (.goto (-17), 3) := by decide +kernel
theorem dX0_threes_24 : decode cX0_threes 24 = .ok (.iload_n 1, 1) := by decide +kernel
theorem dX0_threes_25 : decode cX0_threes 25 = .ok (.ireturn, 1) := by decide +kernel
theorem dX0_isBad_0 : decode cX0_isBad 0 = .ok (.iload_n 2, 1) := by decide +kernel
theorem dX0_isBad_1 : decode cX0_isBad 1 = .ok (.iload_n 3, 1) := by decide +kernel
theorem dX0_isBad_2 : decode cX0_isBad 2 = .ok (.iadd, 1) := by decide +kernel
theorem dX0_isBad_3 : decode cX0_isBad 3 = .ok (.istore 4, 2) := by decide +kernel
theorem dX0_isBad_5 : decode cX0_isBad 5 = .ok (.aload_n 1, 1) := by decide +kernel
theorem dX0_isBad_6 : decode cX0_isBad 6 = .ok (.iload 4, 2) := by decide +kernel
theorem dX0_isBad_8 : decode cX0_isBad 8 = .ok (.invokestatic 51, 3) := by decide +kernel
theorem dX0_isBad_11 : decode cX0_isBad 11 = .ok (.istore 5, 2) := by decide +kernel
theorem dX0_isBad_13 : decode cX0_isBad 13 = .ok (.iload 5, 2) := by decide +kernel
theorem dX0_isBad_15 : decode cX0_isBad 15 = .ok (.iconst (-1), 1) := by decide +kernel
theorem dX0_isBad_16 : decode cX0_isBad 16 = .ok (.if_icmp .eq 23, 3) := by decide +kernel
theorem dX0_isBad_19 : decode cX0_isBad 19 = .ok (.iload 5, 2) := by decide +kernel
theorem dX0_isBad_21 : decode cX0_isBad 21 = .ok (.aload_n 1, 1) := by decide +kernel
theorem dX0_isBad_22 : decode cX0_isBad 22 = .ok (.iload_n 2, 1) := by decide +kernel
theorem dX0_isBad_23 : decode cX0_isBad 23 = .ok (.invokestatic 51, 3) := by decide +kernel
theorem dX0_isBad_26 : decode cX0_isBad 26 = .ok (.if_icmp .ne 13, 3) := by decide +kernel
theorem dX0_isBad_29 : decode cX0_isBad 29 = .ok (.iload 5, 2) := by decide +kernel
theorem dX0_isBad_31 : decode cX0_isBad 31 = .ok (.aload_n 1, 1) := by decide +kernel
theorem dX0_isBad_32 : decode cX0_isBad 32 = .ok (.iload_n 3, 1) := by decide +kernel
theorem dX0_isBad_33 : decode cX0_isBad 33 = .ok (.invokestatic 51, 3) := by decide +kernel
theorem dX0_isBad_36 : decode cX0_isBad 36 = .ok (.if_icmp .eq 5, 3) := by decide +kernel
theorem dX0_isBad_39 : decode cX0_isBad 39 = .ok (.iconst 0, 1) := by decide +kernel
theorem dX0_isBad_40 : decode cX0_isBad 40 = .ok (.ireturn, 1) := by decide +kernel
theorem dX0_isBad_41 : decode cX0_isBad 41 = .ok (.getstatic 59, 3) := by decide +kernel
theorem dX0_isBad_44 : decode cX0_isBad 44 = .ok (.aload_n 0, 1) := by decide +kernel
theorem dX0_isBad_45 : decode cX0_isBad 45 = .ok (.getfield 9, 3) := by decide +kernel
theorem dX0_isBad_48 : decode cX0_isBad 48 = .ok (.iload_n 2, 1) := by decide +kernel
theorem dX0_isBad_49 : decode cX0_isBad 49 = .ok (.invokestatic 51, 3) := by decide +kernel
theorem dX0_isBad_52 : decode cX0_isBad 52 = .ok (.invokestatic 51, 3) := by decide +kernel
theorem dX0_isBad_55 : decode cX0_isBad 55 = .ok (.getstatic 59, 3) := by decide +kernel
theorem dX0_isBad_58 : decode cX0_isBad 58 = .ok (.aload_n 0, 1) := by decide +kernel
theorem dX0_isBad_59 : decode cX0_isBad 59 = .ok (.getfield 9, 3) := by decide +kernel
theorem dX0_isBad_62 : decode cX0_isBad 62 = .ok (.iload_n 3, 1) := by decide +kernel
theorem dX0_isBad_63 : decode cX0_isBad 63 = .ok (.invokestatic 51, 3) := by decide +kernel
theorem dX0_isBad_66 : decode cX0_isBad 66 = .ok (.invokestatic 51, 3) := by decide +kernel
theorem dX0_isBad_69 : decode cX0_isBad 69 = .ok (.iand, 1) := by decide +kernel
theorem dX0_isBad_70 : decode cX0_isBad 70 = .ok (.istore 6, 2) := by decide +kernel
theorem dX0_isBad_72 : decode cX0_isBad 72 = .ok (.getstatic 59, 3) := by decide +kernel
theorem dX0_isBad_75 : decode cX0_isBad 75 = .ok (.aload_n 0, 1) := by decide +kernel
theorem dX0_isBad_76 : decode cX0_isBad 76 = .ok (.getfield 9, 3) := by decide +kernel
theorem dX0_isBad_79 : decode cX0_isBad 79 = .ok (.iload 4, 2) := by decide +kernel
theorem dX0_isBad_81 : decode cX0_isBad 81 = .ok (.invokestatic 51, 3) := by decide +kernel
theorem dX0_isBad_84 : decode cX0_isBad 84 = .ok (.invokestatic 51, 3) := by decide +kernel
theorem dX0_isBad_87 : decode cX0_isBad 87 = .ok (.istore 7, 2) := by decide +kernel
theorem dX0_isBad_89 : decode cX0_isBad 89 = .ok (.iload 6, 2) := by decide +kernel
theorem dX0_isBad_91 : decode cX0_isBad 91 = .ok (.iconst 4, 1) := by decide +kernel
theorem dX0_isBad_92 : decode cX0_isBad 92 = .ok (.iand, 1) := by decide +kernel
theorem dX0_isBad_93 : decode cX0_isBad 93 = .ok (.ifCond .eq 23, 3) := by decide +kernel
theorem dX0_isBad_96 : decode cX0_isBad 96 = .ok (.iload 7, 2) := by decide +kernel
theorem dX0_isBad_98 : decode cX0_isBad 98 = .ok (.iload_n 2, 1) := by decide +kernel
theorem dX0_isBad_99 : decode cX0_isBad 99 = .ok (.iload_n 3, 1) := by decide +kernel
theorem dX0_isBad_100 : decode cX0_isBad 100 = .ok (.if_icmp .ne 7, 3) := by decide +kernel
theorem dX0_isBad_103 : decode cX0_isBad 103 = .ok (.iconst 2, 1) := by decide +kernel
theorem dX0_isBad_104 : decode cX0_isBad 104 = .ok (.goto 4, 3) := by decide +kernel
theorem dX0_isBad_107 : decode cX0_isBad 107 = .ok (.iconst 1, 1) := by decide +kernel
theorem dX0_isBad_108 : decode cX0_isBad 108 = .ok (.iand, 1) := by decide +kernel
theorem dX0_isBad_109 : decode cX0_isBad 109 = .ok (.ifCond .eq 7, 3) := by decide +kernel
theorem dX0_isBad_112 : decode cX0_isBad 112 = .ok (.iconst 1, 1) := by decide +kernel
theorem dX0_isBad_113 : decode cX0_isBad 113 = .ok (.goto 4, 3) := by decide +kernel
theorem dX0_isBad_116 : decode cX0_isBad 116 = .ok (.iconst 0, 1) := by decide +kernel
theorem dX0_isBad_117 : decode cX0_isBad 117 = .ok (.ireturn, 1) := by decide +kernel
theorem dX0_badWithSum_0 : decode cX0_badWithSum 0 = .ok (.getstatic 59, 3) := by decide +kernel
theorem dX0_badWithSum_3 : decode cX0_badWithSum 3 = .ok (.aload_n 0, 1) := by decide +kernel
theorem dX0_badWithSum_4 : decode cX0_badWithSum 4 = .ok (.getfield 9, 3) := by decide +kernel
theorem dX0_badWithSum_7 : decode cX0_badWithSum 7 = .ok (.iload_n 2, 1) := by decide +kernel
theorem dX0_badWithSum_8 : decode cX0_badWithSum 8 = .ok (.invokestatic 51, 3) := by decide +kernel
theorem dX0_badWithSum_11 : decode cX0_badWithSum 11 = .ok (.invokestatic 51, 3) := by decide +kernel
theorem dX0_badWithSum_14 : decode cX0_badWithSum 14 = .ok (.iconst 3, 1) := by decide +kernel
theorem dX0_badWithSum_15 : decode cX0_badWithSum 15 = .ok (.iand, 1) := by decide +kernel
theorem dX0_badWithSum_16 : decode cX0_badWithSum 16 = .ok (.ifCond .ne 5, 3) := by decide +kernel
theorem dX0_badWithSum_19 : decode cX0_badWithSum 19 = .ok (.iconst 0, 1) := by decide +kernel
theorem dX0_badWithSum_20 : decode cX0_badWithSum 20 = .ok (.ireturn, 1) := by decide +kernel
theorem dX0_badWithSum_21 : decode cX0_badWithSum 21 = .ok (.iconst 0, 1) := by decide +kernel
theorem dX0_badWithSum_22 : decode cX0_badWithSum 22 = .ok (.istore_n 3, 1) := by decide +kernel
theorem dX0_badWithSum_23 : decode cX0_badWithSum 23 = .ok (.iconst 1, 1) := by decide +kernel
theorem dX0_badWithSum_24 : decode cX0_badWithSum 24 = .ok (.istore 4, 2) := by decide +kernel
theorem dX0_badWithSum_26 : decode cX0_badWithSum 26 = .ok (.iload 4, 2) := by decide +kernel
theorem dX0_badWithSum_28 : decode cX0_badWithSum 28 = .ok (.iload_n 2, 1) := by decide +kernel
theorem dX0_badWithSum_29 : decode cX0_badWithSum 29 = .ok (.iload 4, 2) := by decide +kernel
theorem dX0_badWithSum_31 : decode cX0_badWithSum 31 = .ok (.isub, 1) := by decide +kernel
theorem dX0_badWithSum_32 : decode cX0_badWithSum 32 = .ok (.if_icmp .gt 31, 3) := by decide +kernel
theorem dX0_badWithSum_35 : decode cX0_badWithSum 35 = .ok (.iload_n 3, 1) := by decide +kernel
theorem dX0_badWithSum_36 : decode cX0_badWithSum 36 = .ok (.aload_n 0, 1) := by decide +kernel
theorem dX0_badWithSum_37 : decode cX0_badWithSum 37 = .ok (.aload_n 1, 1) := by decide +kernel
theorem dX0_badWithSum_38 : decode cX0_badWithSum 38 = .ok (.iload 4, 2) := by decide +kernel
theorem dX0_badWithSum_40 : decode cX0_badWithSum 40 = .ok (.iload_n 2, 1) := by decide +kernel
theorem dX0_badWithSum_41 : decode cX0_badWithSum 41 = .ok (.iload 4, 2) := by decide +kernel
theorem dX0_badWithSum_43 : decode cX0_badWithSum 43 = .ok (.isub, 1) := by decide +kernel
theorem dX0_badWithSum_44 : decode cX0_badWithSum 44 = .ok (.invokevirtual 62, 3) := by decide +kernel
theorem dX0_badWithSum_47 : decode cX0_badWithSum 47 = .ok (.ifCond .eq 7, 3) := by decide +kernel
theorem dX0_badWithSum_50 : decode cX0_badWithSum 50 = .ok (.iconst 1, 1) := by decide +kernel
theorem dX0_badWithSum_51 : decode cX0_badWithSum 51 = .ok (.goto 4, 3) := by decide +kernel
theorem dX0_badWithSum_54 : decode cX0_badWithSum 54 = .ok (.iconst 0, 1) := by decide +kernel
theorem dX0_badWithSum_55 : decode cX0_badWithSum 55 = .ok (.iadd, 1) := by decide +kernel
theorem dX0_badWithSum_56 : decode cX0_badWithSum 56 = .ok (.istore_n 3, 1) := by decide +kernel
theorem dX0_badWithSum_57 : decode cX0_badWithSum 57 = .ok (.iinc 4 1, 3) := by decide +kernel
theorem dX0_badWithSum_60 : decode cX0_badWithSum 60 = .ok (.goto (-34), 3) := by decide +kernel
theorem dX0_badWithSum_63 : decode cX0_badWithSum 63 = .ok (.iload_n 3, 1) := by decide +kernel
theorem dX0_badWithSum_64 : decode cX0_badWithSum 64 = .ok (.ireturn, 1) := by decide +kernel
theorem dX0_badWith_0 : decode cX0_badWith 0 = .ok (.aload_n 0, 1) := by decide +kernel
theorem dX0_badWith_1 : decode cX0_badWith 1 = .ok (.aload_n 1, 1) := by decide +kernel
theorem dX0_badWith_2 : decode cX0_badWith 2 = .ok (.iload_n 2, 1) := by decide +kernel
theorem dX0_badWith_3 : decode cX0_badWith 3 = .ok (.invokevirtual 66, 3) := by decide +kernel
theorem dX0_badWith_6 : decode cX0_badWith 6 = .ok (.istore_n 3, 1) := by decide +kernel
theorem dX0_badWith_7 : decode cX0_badWith 7 = .ok (.iconst 1, 1) := by decide +kernel
theorem dX0_badWith_8 : decode cX0_badWith 8 = .ok (.istore 4, 2) := by decide +kernel
theorem dX0_badWith_10 : decode cX0_badWith 10 = .ok (.iload 4, 2) := by decide +kernel
theorem dX0_badWith_12 : decode cX0_badWith 12 = .ok (.aload_n 0, 1) := by decide +kernel
theorem dX0_badWith_13 : decode cX0_badWith 13 = .ok (.getfield 18, 3) := by decide +kernel
theorem dX0_badWith_16 : decode cX0_badWith 16 = .ok (.iload_n 2, 1) := by decide +kernel
theorem dX0_badWith_17 : decode cX0_badWith 17 = .ok (.isub, 1) := by decide +kernel
theorem dX0_badWith_18 : decode cX0_badWith 18 = .ok (.if_icmp .gt 28, 3) := by decide +kernel
theorem dX0_badWith_21 : decode cX0_badWith 21 = .ok (.iload_n 3, 1) := by decide +kernel
theorem dX0_badWith_22 : decode cX0_badWith 22 = .ok (.aload_n 0, 1) := by decide +kernel
theorem dX0_badWith_23 : decode cX0_badWith 23 = .ok (.aload_n 1, 1) := by decide +kernel
theorem dX0_badWith_24 : decode cX0_badWith 24 = .ok (.iload_n 2, 1) := by decide +kernel
theorem dX0_badWith_25 : decode cX0_badWith 25 = .ok (.iload 4, 2) := by decide +kernel
theorem dX0_badWith_27 : decode cX0_badWith 27 = .ok (.invokevirtual 62, 3) := by decide +kernel
theorem dX0_badWith_30 : decode cX0_badWith 30 = .ok (.ifCond .eq 7, 3) := by decide +kernel
theorem dX0_badWith_33 : decode cX0_badWith 33 = .ok (.iconst 1, 1) := by decide +kernel
theorem dX0_badWith_34 : decode cX0_badWith 34 = .ok (.goto 4, 3) := by decide +kernel
theorem dX0_badWith_37 : decode cX0_badWith 37 = .ok (.iconst 0, 1) := by decide +kernel
theorem dX0_badWith_38 : decode cX0_badWith 38 = .ok (.iadd, 1) := by decide +kernel
theorem dX0_badWith_39 : decode cX0_badWith 39 = .ok (.istore_n 3, 1) := by decide +kernel
theorem dX0_badWith_40 : decode cX0_badWith 40 = .ok (.iinc 4 1, 3) := by decide +kernel
theorem dX0_badWith_43 : decode cX0_badWith 43 = .ok (.goto (-33), 3) := by decide +kernel
theorem dX0_badWith_46 : decode cX0_badWith 46 = .ok (.iload_n 3, 1) := by decide +kernel
theorem dX0_badWith_47 : decode cX0_badWith 47 = .ok (.ireturn, 1) := by decide +kernel
theorem dX0_badThrees_0 : decode cX0_badThrees 0 = .ok (.iconst 0, 1) := by decide +kernel
theorem dX0_badThrees_1 : decode cX0_badThrees 1 = .ok (.istore_n 2, 1) := by decide +kernel
theorem dX0_badThrees_2 : decode cX0_badThrees 2 = .ok (.iconst 1, 1) := by decide +kernel
theorem dX0_badThrees_3 : decode cX0_badThrees 3 = .ok (.istore_n 3, 1) := by decide +kernel
theorem dX0_badThrees_4 : decode cX0_badThrees 4 = .ok (.iload_n 3, 1) := by decide +kernel
theorem dX0_badThrees_5 : decode cX0_badThrees 5 = .ok (.aload_n 0, 1) := by decide +kernel
theorem dX0_badThrees_6 : decode cX0_badThrees 6 = .ok (.getfield 18, 3) := by decide +kernel
theorem dX0_badThrees_9 : decode cX0_badThrees 9 = .ok (.if_icmp .gt 18, 3) := by decide +kernel
theorem dX0_badThrees_12 : decode cX0_badThrees 12 = .ok (.iload_n 2, 1) := by decide +kernel
theorem dX0_badThrees_13 : decode cX0_badThrees 13 = .ok (.aload_n 0, 1) := by decide +kernel
theorem dX0_badThrees_14 : decode cX0_badThrees 14 = .ok (.aload_n 1, 1) := by decide +kernel
theorem dX0_badThrees_15 : decode cX0_badThrees 15 = .ok (.iload_n 3, 1) := by decide +kernel
theorem dX0_badThrees_16 : decode cX0_badThrees 16 = .ok (.invokevirtual 66, 3) := by decide +kernel
theorem dX0_badThrees_19 : decode cX0_badThrees 19 = .ok (.iadd, 1) := by decide +kernel
theorem dX0_badThrees_20 : decode cX0_badThrees 20 = .ok (.istore_n 2, 1) := by decide +kernel
theorem dX0_badThrees_21 : decode cX0_badThrees 21 = .ok (.iinc 3 1, 3) := by decide +kernel
theorem dX0_badThrees_24 : decode cX0_badThrees 24 = .ok (.goto (-20), 3) := by decide +kernel
theorem dX0_badThrees_27 : decode cX0_badThrees 27 = .ok (.iload_n 2, 1) := by decide +kernel
theorem dX0_badThrees_28 : decode cX0_badThrees 28 = .ok (.ireturn, 1) := by decide +kernel
theorem dX1_init_0 : decode cX1_init 0 = .ok (.aload_n 0, 1) := by decide +kernel
theorem dX1_init_1 : decode cX1_init 1 = .ok (.invokespecial 3, 3) := by decide +kernel
theorem dX1_init_4 : decode cX1_init 4 = .ok (.aload_n 0, 1) := by decide +kernel
theorem dX1_init_5 : decode cX1_init 5 = .ok (.bipush 11, 2) := by decide +kernel
theorem dX1_init_7 : decode cX1_init 7 = .ok (.newarray .int, 2) := by decide +kernel
theorem dX1_init_9 : decode cX1_init 9 = .ok (.putfield 9, 3) := by decide +kernel
theorem dX1_init_12 : decode cX1_init 12 = .ok (.aload_n 0, 1) := by decide +kernel
theorem dX1_init_13 : decode cX1_init 13 = .ok (.bipush 33, 2) := by decide +kernel
theorem dX1_init_15 : decode cX1_init 15 = .ok (.newarray .int, 2) := by decide +kernel
theorem dX1_init_17 : decode cX1_init 17 = .ok (.putfield 15, 3) := by decide +kernel
theorem dX1_init_20 : decode cX1_init 20 = .ok (.aload_n 0, 1) := by decide +kernel
theorem dX1_init_21 : decode cX1_init 21 = .ok (.iconst 0, 1) := by decide +kernel
theorem dX1_init_22 : decode cX1_init 22 = .ok (.putfield 18, 3) := by decide +kernel
theorem dX1_init_25 : decode cX1_init 25 = .ok (.aload_n 0, 1) := by decide +kernel
theorem dX1_init_26 : decode cX1_init 26 = .ok (.iconst 0, 1) := by decide +kernel
theorem dX1_init_27 : decode cX1_init 27 = .ok (.putfield 22, 3) := by decide +kernel
theorem dX1_init_30 : decode cX1_init 30 = .ok (.aload_n 0, 1) := by decide +kernel
theorem dX1_init_31 : decode cX1_init 31 = .ok (.iconst 0, 1) := by decide +kernel
theorem dX1_init_32 : decode cX1_init 32 = .ok (.putfield 25, 3) := by decide +kernel
theorem dX1_init_35 : decode cX1_init 35 = .ok (.aload_n 0, 1) := by decide +kernel
theorem dX1_init_36 : decode cX1_init 36 = .ok (.iconst 0, 1) := by decide +kernel
theorem dX1_init_37 : decode cX1_init 37 = .ok (.putfield 28, 3) := by decide +kernel
theorem dX1_init_40 : decode cX1_init 40 = .ok (.aload_n 0, 1) := by decide +kernel
theorem dX1_init_41 : decode cX1_init 41 = .ok (.iconst 1, 1) := by decide +kernel
theorem dX1_init_42 : decode cX1_init 42 = .ok (.putfield 31, 3) := by decide +kernel
theorem dX1_init_45 : decode cX1_init 45 = .ok (.aload_n 0, 1) := by decide +kernel
theorem dX1_init_46 : decode cX1_init 46 = .ok (.aload_n 1, 1) := by decide +kernel
theorem dX1_init_47 : decode cX1_init 47 = .ok (.putfield 35, 3) := by decide +kernel
theorem dX1_init_50 : decode cX1_init 50 = .ok (.return_, 1) := by decide +kernel
theorem dX1_refresh_0 : decode cX1_refresh 0 = .ok (.aload_n 0, 1) := by decide +kernel
theorem dX1_refresh_1 : decode cX1_refresh 1 = .ok (.getfield 31, 3) := by decide +kernel
theorem dX1_refresh_4 : decode cX1_refresh 4 = .ok (.ifCond .ne 4, 3) := by decide +kernel
theorem dX1_refresh_7 : decode cX1_refresh 7 = .ok (.return_, 1) := by decide +kernel
theorem dX1_refresh_8 : decode cX1_refresh 8 = .ok (.iconst 0, 1) := by decide +kernel
theorem dX1_refresh_9 : decode cX1_refresh 9 = .ok (.istore_n 1, 1) := by decide +kernel
theorem dX1_refresh_10 : decode cX1_refresh 10 = .ok (.iload_n 1, 1) := by decide +kernel
theorem dX1_refresh_11 : decode cX1_refresh 11 = .ok (.aload_n 0, 1) := by decide +kernel
theorem dX1_refresh_12 : decode cX1_refresh 12 = .ok (.getfield 15, 3) := by decide +kernel
theorem dX1_refresh_15 : decode cX1_refresh 15 = .ok (.arraylength, 1) := by decide +kernel
theorem dX1_refresh_16 : decode cX1_refresh 16 = .ok (.if_icmp .ge 18, 3) := by decide +kernel
theorem dX1_refresh_19 : decode cX1_refresh 19 = .ok (.aload_n 0, 1) := by decide +kernel
theorem dX1_refresh_20 : decode cX1_refresh 20 = .ok (.getfield 15, 3) := by decide +kernel
theorem dX1_refresh_23 : decode cX1_refresh 23 = .ok (.iload_n 1, 1) := by decide +kernel
theorem dX1_refresh_24 : decode cX1_refresh 24 = .ok (.iconst 0, 1) := by decide +kernel
theorem dX1_refresh_25 : decode cX1_refresh 25 = .ok (.invokestatic 39, 3) := by decide +kernel
theorem dX1_refresh_28 : decode cX1_refresh 28 = .ok (.iinc 1 1, 3) := by decide +kernel
theorem dX1_refresh_31 : decode cX1_refresh 31 = .ok (.goto (-21), 3) := by decide +kernel
theorem dX1_refresh_34 : decode cX1_refresh 34 = .ok (.aload_n 0, 1) := by decide +kernel
theorem dX1_refresh_35 : decode cX1_refresh 35 = .ok (.iconst 0, 1) := by decide +kernel
theorem dX1_refresh_36 : decode cX1_refresh 36 = .ok (.putfield 22, 3) := by decide +kernel
theorem dX1_refresh_39 : decode cX1_refresh 39 = .ok (.aload_n 0, 1) := by decide +kernel
theorem dX1_refresh_40 : decode cX1_refresh 40 = .ok (.aload_n 0, 1) := by decide +kernel
theorem dX1_refresh_41 : decode cX1_refresh 41 = .ok (.iconst 1, 1) := by decide +kernel
theorem dX1_refresh_42 : decode cX1_refresh 42 = .ok (.invokevirtual 43, 3) := by decide +kernel
theorem dX1_refresh_45 : decode cX1_refresh 45 = .ok (.putfield 18, 3) := by decide +kernel
theorem dX1_refresh_48 : decode cX1_refresh 48 = .ok (.aload_n 0, 1) := by decide +kernel
theorem dX1_refresh_49 : decode cX1_refresh 49 = .ok (.iconst 0, 1) := by decide +kernel
theorem dX1_refresh_50 : decode cX1_refresh 50 = .ok (.putfield 31, 3) := by decide +kernel
theorem dX1_refresh_53 : decode cX1_refresh 53 = .ok (.return_, 1) := by decide +kernel
theorem dX1_tryColour_0 : decode cX1_tryColour 0 = .ok (.aload_n 0, 1) := by decide +kernel
theorem dX1_tryColour_1 : decode cX1_tryColour 1 = .ok (.getfield 9, 3) := by decide +kernel
theorem dX1_tryColour_4 : decode cX1_tryColour 4 = .ok (.iload_n 1, 1) := by decide +kernel
theorem dX1_tryColour_5 : decode cX1_tryColour 5 = .ok (.iload_n 2, 1) := by decide +kernel
theorem dX1_tryColour_6 : decode cX1_tryColour 6 = .ok (.invokestatic 39, 3) := by decide +kernel
theorem dX1_tryColour_9 : decode cX1_tryColour 9 = .ok (.aload_n 0, 1) := by decide +kernel
theorem dX1_tryColour_10 : decode cX1_tryColour 10 = .ok (.getfield 35, 3) := by decide +kernel
theorem dX1_tryColour_13 : decode cX1_tryColour 13 = .ok (.aload_n 0, 1) := by decide +kernel
theorem dX1_tryColour_14 : decode cX1_tryColour 14 = .ok (.getfield 9, 3) := by decide +kernel
theorem dX1_tryColour_17 : decode cX1_tryColour 17 = .ok (.iload_n 1, 1) := by decide +kernel
theorem dX1_tryColour_18 : decode cX1_tryColour 18 = .ok (.invokevirtual 47, 3) := by decide +kernel
theorem dX1_tryColour_21 : decode cX1_tryColour 21 = .ok (.ifCond .ne 7, 3) := by decide +kernel
theorem dX1_tryColour_24 : decode cX1_tryColour 24 = .ok (.iconst 1, 1) := by decide +kernel
theorem dX1_tryColour_25 : decode cX1_tryColour 25 = .ok (.goto 4, 3) := by decide +kernel
theorem dX1_tryColour_28 : decode cX1_tryColour 28 = .ok (.iconst 0, 1) := by decide +kernel
theorem dX1_tryColour_29 : decode cX1_tryColour 29 = .ok (.ireturn, 1) := by decide +kernel
theorem dX1_mayHave_0 : decode cX1_mayHave 0 = .ok (.aload_n 0, 1) := by decide +kernel
theorem dX1_mayHave_1 : decode cX1_mayHave 1 = .ok (.getfield 35, 3) := by decide +kernel
theorem dX1_mayHave_4 : decode cX1_mayHave 4 = .ok (.getfield 53, 3) := by decide +kernel
theorem dX1_mayHave_7 : decode cX1_mayHave 7 = .ok (.iload_n 1, 1) := by decide +kernel
theorem dX1_mayHave_8 : decode cX1_mayHave 8 = .ok (.invokestatic 56, 3) := by decide +kernel
theorem dX1_mayHave_11 : decode cX1_mayHave 11 = .ok (.istore_n 3, 1) := by decide +kernel
theorem dX1_mayHave_12 : decode cX1_mayHave 12 = .ok (.iload_n 3, 1) := by decide +kernel
theorem dX1_mayHave_13 : decode cX1_mayHave 13 = .ok (.iconst (-1), 1) := by decide +kernel
theorem dX1_mayHave_14 : decode cX1_mayHave 14 = .ok (.if_icmp .eq 8, 3) := by decide +kernel
theorem dX1_mayHave_17 : decode cX1_mayHave 17 = .ok (.iload_n 3, 1) := by decide +kernel
theorem dX1_mayHave_18 : decode cX1_mayHave 18 = .ok (.iload_n 2, 1) := by decide +kernel
theorem dX1_mayHave_19 : decode cX1_mayHave 19 = .ok (.if_icmp .ne 7, 3) := by decide +kernel
theorem dX1_mayHave_22 : decode cX1_mayHave 22 = .ok (.iconst 1, 1) := by decide +kernel
theorem dX1_mayHave_23 : decode cX1_mayHave 23 = .ok (.goto 4, 3) := by decide +kernel
theorem dX1_mayHave_26 : decode cX1_mayHave 26 = .ok (.iconst 0, 1) := by decide +kernel
theorem dX1_mayHave_27 : decode cX1_mayHave 27 = .ok (.ireturn, 1) := by decide +kernel
theorem dX1_countWaysFrom_0 : decode cX1_countWaysFrom 0 = .ok (.iload_n 1, 1) := by decide +kernel
theorem dX1_countWaysFrom_1 : decode cX1_countWaysFrom 1 = .ok (.aload_n 0, 1) := by decide +kernel
theorem dX1_countWaysFrom_2 : decode cX1_countWaysFrom 2 = .ok (.getfield 35, 3) := by decide +kernel
theorem dX1_countWaysFrom_5 : decode cX1_countWaysFrom 5 = .ok (.getfield 59, 3) := by decide +kernel
theorem dX1_countWaysFrom_8 : decode cX1_countWaysFrom 8 = .ok (.if_icmp .le 5, 3) := by decide +kernel
theorem dX1_countWaysFrom_11 : decode cX1_countWaysFrom 11 = .ok (.iconst 1, 1) := by decide +kernel
theorem dX1_countWaysFrom_12 : decode cX1_countWaysFrom 12 = .ok (.ireturn, 1) := by decide +kernel
theorem dX1_countWaysFrom_13 : decode cX1_countWaysFrom 13 = .ok (.iconst 0, 1) := by decide +kernel
theorem dX1_countWaysFrom_14 : decode cX1_countWaysFrom 14 = .ok (.istore_n 2, 1) := by decide +kernel
theorem dX1_countWaysFrom_15 : decode cX1_countWaysFrom 15 = .ok (.iconst 0, 1) := by decide +kernel
theorem dX1_countWaysFrom_16 : decode cX1_countWaysFrom 16 = .ok (.istore_n 3, 1) := by decide +kernel
theorem dX1_countWaysFrom_17 : decode cX1_countWaysFrom 17 = .ok (.iload_n 3, 1) := by decide +kernel
theorem dX1_countWaysFrom_18 : decode cX1_countWaysFrom 18 = .ok (.aload_n 0, 1) := by decide +kernel
theorem dX1_countWaysFrom_19 : decode cX1_countWaysFrom 19 = .ok (.getfield 35, 3) := by decide +kernel
theorem dX1_countWaysFrom_22 : decode cX1_countWaysFrom 22 = .ok (.getfield 62, 3) := by decide +kernel
theorem dX1_countWaysFrom_25 : decode cX1_countWaysFrom 25 = .ok (.if_icmp .ge 82, 3) := by decide +kernel
theorem dX1_countWaysFrom_28 : decode cX1_countWaysFrom 28 = .ok (.aload_n 0, 1) := by decide +kernel
theorem dX1_countWaysFrom_29 : decode cX1_countWaysFrom 29 = .ok (.iload_n 1, 1) := by decide +kernel
theorem dX1_countWaysFrom_30 : decode cX1_countWaysFrom 30 = .ok (.iload_n 3, 1) := by decide +kernel
theorem dX1_countWaysFrom_31 : decode cX1_countWaysFrom 31 = .ok (.invokevirtual 65, 3) := by decide +kernel
theorem dX1_countWaysFrom_34 : decode cX1_countWaysFrom 34 = .ok (.ifCond .eq 67, 3) := by decide +kernel
theorem dX1_countWaysFrom_37 : decode cX1_countWaysFrom 37 = .ok (.aload_n 0, 1) := by decide +kernel
theorem dX1_countWaysFrom_38 : decode cX1_countWaysFrom 38 = .ok (.iload_n 1, 1) := by decide +kernel
theorem dX1_countWaysFrom_39 : decode cX1_countWaysFrom 39 = .ok (.iload_n 3, 1) := by decide +kernel
theorem dX1_countWaysFrom_40 : decode cX1_countWaysFrom 40 = .ok (.invokevirtual 69, 3) := by decide +kernel
theorem dX1_countWaysFrom_43 : decode cX1_countWaysFrom 43 = .ok (.ifCond .eq 58, 3) := by decide +kernel
theorem dX1_countWaysFrom_46 : decode cX1_countWaysFrom 46 = .ok (.aload_n 0, 1) := by decide +kernel
theorem dX1_countWaysFrom_47 : decode cX1_countWaysFrom 47 = .ok (.aload_n 0, 1) := by decide +kernel
theorem dX1_countWaysFrom_48 : decode cX1_countWaysFrom 48 = .ok (.getfield 22, 3) := by decide +kernel
theorem dX1_countWaysFrom_51 : decode cX1_countWaysFrom 51 = .ok (.iload_n 1, 1) := by decide +kernel
theorem dX1_countWaysFrom_52 : decode cX1_countWaysFrom 52 = .ok (.invokestatic 72, 3) := by decide +kernel
theorem dX1_countWaysFrom_55 : decode cX1_countWaysFrom 55 = .ok (.putfield 22, 3) := by decide +kernel
theorem dX1_countWaysFrom_58 : decode cX1_countWaysFrom 58 = .ok (.aload_n 0, 1) := by decide +kernel
theorem dX1_countWaysFrom_59 : decode cX1_countWaysFrom 59 = .ok (.iload_n 1, 1) := by decide +kernel
theorem dX1_countWaysFrom_60 : decode cX1_countWaysFrom 60 = .ok (.iconst 1, 1) := by decide +kernel
theorem dX1_countWaysFrom_61 : decode cX1_countWaysFrom 61 = .ok (.iadd, 1) := by decide +kernel
theorem dX1_countWaysFrom_62 : decode cX1_countWaysFrom 62 = .ok (.invokevirtual 43, 3) := by decide +kernel
theorem dX1_countWaysFrom_65 : decode cX1_countWaysFrom 65 = .ok (.istore 4, 2) := by decide +kernel
theorem dX1_countWaysFrom_67 : decode cX1_countWaysFrom 67 = .ok (.aload_n 0, 1) := by decide +kernel
theorem dX1_countWaysFrom_68 : decode cX1_countWaysFrom 68 = .ok (.iload_n 1, 1) := by decide +kernel
theorem dX1_countWaysFrom_69 : decode cX1_countWaysFrom 69 = .ok (.iload_n 3, 1) := by decide +kernel
theorem dX1_countWaysFrom_70 : decode cX1_countWaysFrom 70 = .ok (.invokevirtual 78, 3) := by decide +kernel
theorem dX1_countWaysFrom_73 : decode cX1_countWaysFrom 73 = .ok (.istore 5, 2) := by decide +kernel
theorem dX1_countWaysFrom_75 : decode cX1_countWaysFrom 75 = .ok (.aload_n 0, 1) := by decide +kernel
theorem dX1_countWaysFrom_76 : decode cX1_countWaysFrom 76 = .ok (.getfield 15, 3) := by decide +kernel
theorem dX1_countWaysFrom_79 : decode cX1_countWaysFrom 79 = .ok (.iload 5, 2) := by decide +kernel
theorem dX1_countWaysFrom_81 : decode cX1_countWaysFrom 81 = .ok (.aload_n 0, 1) := by decide +kernel
theorem dX1_countWaysFrom_82 : decode cX1_countWaysFrom 82 = .ok (.getfield 15, 3) := by decide +kernel
theorem dX1_countWaysFrom_85 : decode cX1_countWaysFrom 85 = .ok (.iload 5, 2) := by decide +kernel
theorem dX1_countWaysFrom_87 : decode cX1_countWaysFrom 87 = .ok (.invokestatic 56, 3) := by decide +kernel
theorem dX1_countWaysFrom_90 : decode cX1_countWaysFrom 90 = .ok (.iload 4, 2) := by decide +kernel
theorem dX1_countWaysFrom_92 : decode cX1_countWaysFrom 92 = .ok (.iadd, 1) := by decide +kernel
theorem dX1_countWaysFrom_93 : decode cX1_countWaysFrom 93 = .ok (.invokestatic 39, 3) := by decide +kernel
theorem dX1_countWaysFrom_96 : decode cX1_countWaysFrom 96 = .ok (.iload_n 2, 1) := by decide +kernel
theorem dX1_countWaysFrom_97 : decode cX1_countWaysFrom 97 = .ok (.iload 4, 2) := by decide +kernel
theorem dX1_countWaysFrom_99 : decode cX1_countWaysFrom 99 = .ok (.iadd, 1) := by decide +kernel
theorem dX1_countWaysFrom_100 : decode cX1_countWaysFrom 100 = .ok (.istore_n 2, 1) := by decide +kernel
theorem dX1_countWaysFrom_101 : decode cX1_countWaysFrom 101 = .ok (.iinc 3 1, 3) := by decide +kernel
theorem dX1_countWaysFrom_104 : decode cX1_countWaysFrom 104 = .ok (.goto (-87), 3) := by decide +kernel
theorem dX1_countWaysFrom_107 : decode cX1_countWaysFrom 107 = .ok (.iload_n 2, 1) := by decide +kernel
theorem dX1_countWaysFrom_108 : decode cX1_countWaysFrom 108 = .ok (.ireturn, 1) := by decide +kernel
theorem dX1_placeOf_0 : decode cX1_placeOf 0 = .ok (.iload_n 1, 1) := by decide +kernel
theorem dX1_placeOf_1 : decode cX1_placeOf 1 = .ok (.iconst 3, 1) := by decide +kernel
theorem dX1_placeOf_2 : decode cX1_placeOf 2 = .ok (.imul, 1) := by decide +kernel
theorem dX1_placeOf_3 : decode cX1_placeOf 3 = .ok (.iload_n 2, 1) := by decide +kernel
theorem dX1_placeOf_4 : decode cX1_placeOf 4 = .ok (.iadd, 1) := by decide +kernel
theorem dX1_placeOf_5 : decode cX1_placeOf 5 = .ok (.ireturn, 1) := by decide +kernel
theorem dX1_waysWith_0 : decode cX1_waysWith 0 = .ok (.aload_n 0, 1) := by decide +kernel
theorem dX1_waysWith_1 : decode cX1_waysWith 1 = .ok (.getfield 15, 3) := by decide +kernel
theorem dX1_waysWith_4 : decode cX1_waysWith 4 = .ok (.aload_n 0, 1) := by decide +kernel
theorem dX1_waysWith_5 : decode cX1_waysWith 5 = .ok (.iload_n 1, 1) := by decide +kernel
theorem dX1_waysWith_6 : decode cX1_waysWith 6 = .ok (.iload_n 2, 1) := by decide +kernel
theorem dX1_waysWith_7 : decode cX1_waysWith 7 = .ok (.invokevirtual 78, 3) := by decide +kernel
theorem dX1_waysWith_10 : decode cX1_waysWith 10 = .ok (.invokestatic 56, 3) := by decide +kernel
theorem dX1_waysWith_13 : decode cX1_waysWith 13 = .ok (.ireturn, 1) := by decide +kernel
theorem dX1_sureColour_0 : decode cX1_sureColour 0 = .ok (.iconst 0, 1) := by decide +kernel
theorem dX1_sureColour_1 : decode cX1_sureColour 1 = .ok (.istore_n 2, 1) := by decide +kernel
theorem dX1_sureColour_2 : decode cX1_sureColour 2 = .ok (.iload_n 2, 1) := by decide +kernel
theorem dX1_sureColour_3 : decode cX1_sureColour 3 = .ok (.aload_n 0, 1) := by decide +kernel
theorem dX1_sureColour_4 : decode cX1_sureColour 4 = .ok (.getfield 35, 3) := by decide +kernel
theorem dX1_sureColour_7 : decode cX1_sureColour 7 = .ok (.getfield 62, 3) := by decide +kernel
theorem dX1_sureColour_10 : decode cX1_sureColour 10 = .ok (.if_icmp .ge 31, 3) := by decide +kernel
theorem dX1_sureColour_13 : decode cX1_sureColour 13 = .ok (.aload_n 0, 1) := by decide +kernel
theorem dX1_sureColour_14 : decode cX1_sureColour 14 = .ok (.getfield 18, 3) := by decide +kernel
theorem dX1_sureColour_17 : decode cX1_sureColour 17 = .ok (.ifCond .le 18, 3) := by decide +kernel
theorem dX1_sureColour_20 : decode cX1_sureColour 20 = .ok (.aload_n 0, 1) := by decide +kernel
theorem dX1_sureColour_21 : decode cX1_sureColour 21 = .ok (.iload_n 1, 1) := by decide +kernel
theorem dX1_sureColour_22 : decode cX1_sureColour 22 = .ok (.iload_n 2, 1) := by decide +kernel
theorem dX1_sureColour_23 : decode cX1_sureColour 23 = .ok (.invokevirtual 81, 3) := by decide +kernel
theorem dX1_sureColour_26 : decode cX1_sureColour 26 = .ok (.aload_n 0, 1) := by decide +kernel
theorem dX1_sureColour_27 : decode cX1_sureColour 27 = .ok (.getfield 18, 3) := by decide +kernel
theorem dX1_sureColour_30 : decode cX1_sureColour 30 = .ok (.if_icmp .ne 5, 3) := by decide +kernel
theorem dX1_sureColour_33 : decode cX1_sureColour 33 = .ok (.iload_n 2, 1) := by decide +kernel
theorem dX1_sureColour_34 : decode cX1_sureColour 34 = .ok (.ireturn, 1) := by decide +kernel
theorem dX1_sureColour_35 : decode cX1_sureColour 35 = .ok (.iinc 2 1, 3) := by decide +kernel
theorem dX1_sureColour_38 : decode cX1_sureColour 38 = .ok (.goto (-36), 3) := by decide +kernel
theorem dX1_sureColour_41 : decode cX1_sureColour 41 = .ok (.iconst (-1), 1) := by decide +kernel
theorem dX1_sureColour_42 : decode cX1_sureColour 42 = .ok (.ireturn, 1) := by decide +kernel
theorem dX1_nextToPaint_0 : decode cX1_nextToPaint 0 = .ok (.iconst (-1), 1) := by decide +kernel
theorem dX1_nextToPaint_1 : decode cX1_nextToPaint 1 = .ok (.istore_n 1, 1) := by decide +kernel
theorem dX1_nextToPaint_2 : decode cX1_nextToPaint 2 = .ok (.iconst 0, 1) := by decide +kernel
theorem dX1_nextToPaint_3 : decode cX1_nextToPaint 3 = .ok (.istore_n 2, 1) := by decide +kernel
theorem dX1_nextToPaint_4 : decode cX1_nextToPaint 4 = .ok (.iconst 1, 1) := by decide +kernel
theorem dX1_nextToPaint_5 : decode cX1_nextToPaint 5 = .ok (.istore_n 3, 1) := by decide +kernel
theorem dX1_nextToPaint_6 : decode cX1_nextToPaint 6 = .ok (.iload_n 3, 1) := by decide +kernel
theorem dX1_nextToPaint_7 : decode cX1_nextToPaint 7 = .ok (.aload_n 0, 1) := by decide +kernel
theorem dX1_nextToPaint_8 : decode cX1_nextToPaint 8 = .ok (.getfield 35, 3) := by decide +kernel
theorem dX1_nextToPaint_11 : decode cX1_nextToPaint 11 = .ok (.getfield 59, 3) := by decide +kernel
theorem dX1_nextToPaint_14 : decode cX1_nextToPaint 14 = .ok (.if_icmp .gt 67, 3) := by decide +kernel
theorem dX1_nextToPaint_17 : decode cX1_nextToPaint 17 = .ok (.iconst 0, 1) := by decide +kernel
theorem dX1_nextToPaint_18 : decode cX1_nextToPaint 18 = .ok (.istore 4, 2) := by decide +kernel
theorem dX1_nextToPaint_20 : decode cX1_nextToPaint 20 = .ok (.iload 4, 2) := by decide +kernel
theorem dX1_nextToPaint_22 : decode cX1_nextToPaint 22 = .ok (.aload_n 0, 1) := by decide +kernel
theorem dX1_nextToPaint_23 : decode cX1_nextToPaint 23 = .ok (.getfield 35, 3) := by decide +kernel
theorem dX1_nextToPaint_26 : decode cX1_nextToPaint 26 = .ok (.getfield 62, 3) := by decide +kernel
theorem dX1_nextToPaint_29 : decode cX1_nextToPaint 29 = .ok (.if_icmp .ge 46, 3) := by decide +kernel
theorem dX1_nextToPaint_32 : decode cX1_nextToPaint 32 = .ok (.aload_n 0, 1) := by decide +kernel
theorem dX1_nextToPaint_33 : decode cX1_nextToPaint 33 = .ok (.iload_n 3, 1) := by decide +kernel
theorem dX1_nextToPaint_34 : decode cX1_nextToPaint 34 = .ok (.iload 4, 2) := by decide +kernel
theorem dX1_nextToPaint_36 : decode cX1_nextToPaint 36 = .ok (.invokevirtual 81, 3) := by decide +kernel
theorem dX1_nextToPaint_39 : decode cX1_nextToPaint 39 = .ok (.istore 5, 2) := by decide +kernel
theorem dX1_nextToPaint_41 : decode cX1_nextToPaint 41 = .ok (.aload_n 0, 1) := by decide +kernel
theorem dX1_nextToPaint_42 : decode cX1_nextToPaint 42 = .ok (.getfield 35, 3) := by decide +kernel
theorem dX1_nextToPaint_45 : decode cX1_nextToPaint 45 = .ok (.iload_n 3, 1) := by decide +kernel
theorem dX1_nextToPaint_46 : decode cX1_nextToPaint 46 = .ok (.invokevirtual 84, 3) := by decide +kernel
theorem dX1_nextToPaint_49 : decode cX1_nextToPaint 49 = .ok (.ifCond .eq 20, 3) := by decide +kernel
theorem dX1_nextToPaint_52 : decode cX1_nextToPaint 52 = .ok (.iload 5, 2) := by decide +kernel
theorem dX1_nextToPaint_54 : decode cX1_nextToPaint 54 = .ok (.iload_n 2, 1) := by decide +kernel
theorem dX1_nextToPaint_55 : decode cX1_nextToPaint 55 = .ok (.if_icmp .le 14, 3) := by decide +kernel
theorem dX1_nextToPaint_58 : decode cX1_nextToPaint 58 = .ok (.iload 5, 2) := by decide +kernel
theorem dX1_nextToPaint_60 : decode cX1_nextToPaint 60 = .ok (.istore_n 2, 1) := by decide +kernel
theorem dX1_nextToPaint_61 : decode cX1_nextToPaint 61 = .ok (.bipush 10, 2) := by decide +kernel
theorem dX1_nextToPaint_63 : decode cX1_nextToPaint 63 = .ok (.iload_n 3, 1) := by decide +kernel
theorem dX1_nextToPaint_64 : decode cX1_nextToPaint 64 = .ok (.imul, 1) := by decide +kernel
theorem dX1_nextToPaint_65 : decode cX1_nextToPaint 65 = .ok (.iload 4, 2) := by decide +kernel
theorem dX1_nextToPaint_67 : decode cX1_nextToPaint 67 = .ok (.iadd, 1) := by decide +kernel
theorem dX1_nextToPaint_68 : decode cX1_nextToPaint 68 = .ok (.istore_n 1, 1) := by decide +kernel
theorem dX1_nextToPaint_69 : decode cX1_nextToPaint 69 = .ok (.iinc 4 1, 3) := by decide +kernel
theorem dX1_nextToPaint_72 : decode cX1_nextToPaint 72 = .ok (.goto (-52), 3) := by decide +kernel
theorem dX1_nextToPaint_75 : decode cX1_nextToPaint 75 = .ok (.iinc 3 1, 3) := by decide +kernel
theorem dX1_nextToPaint_78 : decode cX1_nextToPaint 78 = .ok (.goto (-72), 3) := by decide +kernel
theorem dX1_nextToPaint_81 : decode cX1_nextToPaint 81 = .ok (.iload_n 1, 1) := by decide +kernel
theorem dX1_nextToPaint_82 : decode cX1_nextToPaint 82 = .ok (.ireturn, 1) := by decide +kernel
theorem dX1_colourInWay_0 : decode cX1_colourInWay 0 = .ok (.aload_n 0, 1) := by decide +kernel
theorem dX1_colourInWay_1 : decode cX1_colourInWay 1 = .ok (.iload_n 1, 1) := by decide +kernel
theorem dX1_colourInWay_2 : decode cX1_colourInWay 2 = .ok (.putfield 28, 3) := by decide +kernel
theorem dX1_colourInWay_5 : decode cX1_colourInWay 5 = .ok (.aload_n 0, 1) := by decide +kernel
theorem dX1_colourInWay_6 : decode cX1_colourInWay 6 = .ok (.iconst 1, 1) := by decide +kernel
theorem dX1_colourInWay_7 : decode cX1_colourInWay 7 = .ok (.invokevirtual 88, 3) := by decide +kernel
theorem dX1_colourInWay_10 : decode cX1_colourInWay 10 = .ok (.ifCond .eq 14, 3) := by decide +kernel
theorem dX1_colourInWay_13 : decode cX1_colourInWay 13 = .ok (.aload_n 0, 1) := by decide +kernel
theorem dX1_colourInWay_14 : decode cX1_colourInWay 14 = .ok (.getfield 9, 3) := by decide +kernel
theorem dX1_colourInWay_17 : decode cX1_colourInWay 17 = .ok (.iload_n 2, 1) := by decide +kernel
theorem dX1_colourInWay_18 : decode cX1_colourInWay 18 = .ok (.invokestatic 56, 3) := by decide +kernel
theorem dX1_colourInWay_21 : decode cX1_colourInWay 21 = .ok (.goto 5, 3) := by decide +kernel
theorem dX1_colourInWay_24 : decode cX1_colourInWay 24 = .ok (.bipush (-101), 2) := by decide +kernel
theorem dX1_colourInWay_26 : decode cX1_colourInWay 26 = .ok (.ireturn, 1) := by decide +kernel
theorem dX1_goToWayFrom_0 : decode cX1_goToWayFrom 0 = .ok (.iload_n 1, 1) := by decide +kernel
theorem dX1_goToWayFrom_1 : decode cX1_goToWayFrom 1 = .ok (.aload_n 0, 1) := by decide +kernel
theorem dX1_goToWayFrom_2 : decode cX1_goToWayFrom 2 = .ok (.getfield 35, 3) := by decide +kernel
theorem dX1_goToWayFrom_5 : decode cX1_goToWayFrom 5 = .ok (.getfield 59, 3) := by decide +kernel
theorem dX1_goToWayFrom_8 : decode cX1_goToWayFrom 8 = .ok (.if_icmp .le 26, 3) := by decide +kernel
theorem dX1_goToWayFrom_11 : decode cX1_goToWayFrom 11 = .ok (.aload_n 0, 1) := by decide +kernel
theorem dX1_goToWayFrom_12 : decode cX1_goToWayFrom 12 = .ok (.dup, 1) := by decide +kernel
theorem dX1_goToWayFrom_13 : decode cX1_goToWayFrom 13 = .ok (.getfield 28, 3) := by decide +kernel
theorem dX1_goToWayFrom_16 : decode cX1_goToWayFrom 16 = .ok (.iconst 1, 1) := by decide +kernel
theorem dX1_goToWayFrom_17 : decode cX1_goToWayFrom 17 = .ok (.isub, 1) := by decide +kernel
theorem dX1_goToWayFrom_18 : decode cX1_goToWayFrom 18 = .ok (.putfield 28, 3) := by decide +kernel
theorem dX1_goToWayFrom_21 : decode cX1_goToWayFrom 21 = .ok (.aload_n 0, 1) := by decide +kernel
theorem dX1_goToWayFrom_22 : decode cX1_goToWayFrom 22 = .ok (.getfield 28, 3) := by decide +kernel
theorem dX1_goToWayFrom_25 : decode cX1_goToWayFrom 25 = .ok (.ifCond .ge 7, 3) := by decide +kernel
theorem dX1_goToWayFrom_28 : decode cX1_goToWayFrom 28 = .ok (.iconst 1, 1) := by decide +kernel
theorem dX1_goToWayFrom_29 : decode cX1_goToWayFrom 29 = .ok (.goto 4, 3) := by decide +kernel
theorem dX1_goToWayFrom_32 : decode cX1_goToWayFrom 32 = .ok (.iconst 0, 1) := by decide +kernel
theorem dX1_goToWayFrom_33 : decode cX1_goToWayFrom 33 = .ok (.ireturn, 1) := by decide +kernel
theorem dX1_goToWayFrom_34 : decode cX1_goToWayFrom 34 = .ok (.iconst 0, 1) := by decide +kernel
theorem dX1_goToWayFrom_35 : decode cX1_goToWayFrom 35 = .ok (.istore_n 2, 1) := by decide +kernel
theorem dX1_goToWayFrom_36 : decode cX1_goToWayFrom 36 = .ok (.iload_n 2, 1) := by decide +kernel
theorem dX1_goToWayFrom_37 : decode cX1_goToWayFrom 37 = .ok (.aload_n 0, 1) := by decide +kernel
theorem dX1_goToWayFrom_38 : decode cX1_goToWayFrom 38 = .ok (.getfield 35, 3) := by decide +kernel
theorem dX1_goToWayFrom_41 : decode cX1_goToWayFrom 41 = .ok (.getfield 62, 3) := by decide +kernel
theorem dX1_goToWayFrom_44 : decode cX1_goToWayFrom 44 = .ok (.if_icmp .ge 39, 3) := by decide +kernel
theorem dX1_goToWayFrom_47 : decode cX1_goToWayFrom 47 = .ok (.aload_n 0, 1) := by decide +kernel
theorem dX1_goToWayFrom_48 : decode cX1_goToWayFrom 48 = .ok (.iload_n 1, 1) := by decide +kernel
theorem dX1_goToWayFrom_49 : decode cX1_goToWayFrom 49 = .ok (.iload_n 2, 1) := by decide +kernel
theorem dX1_goToWayFrom_50 : decode cX1_goToWayFrom 50 = .ok (.invokevirtual 65, 3) := by decide +kernel
theorem dX1_goToWayFrom_53 : decode cX1_goToWayFrom 53 = .ok (.ifCond .eq 24, 3) := by decide +kernel
theorem dX1_goToWayFrom_56 : decode cX1_goToWayFrom 56 = .ok (.aload_n 0, 1) := by decide +kernel
theorem dX1_goToWayFrom_57 : decode cX1_goToWayFrom 57 = .ok (.iload_n 1, 1) := by decide +kernel
theorem dX1_goToWayFrom_58 : decode cX1_goToWayFrom 58 = .ok (.iload_n 2, 1) := by decide +kernel
theorem dX1_goToWayFrom_59 : decode cX1_goToWayFrom 59 = .ok (.invokevirtual 69, 3) := by decide +kernel
theorem dX1_goToWayFrom_62 : decode cX1_goToWayFrom 62 = .ok (.ifCond .eq 15, 3) := by decide +kernel
theorem dX1_goToWayFrom_65 : decode cX1_goToWayFrom 65 = .ok (.aload_n 0, 1) := by decide +kernel
theorem dX1_goToWayFrom_66 : decode cX1_goToWayFrom 66 = .ok (.iload_n 1, 1) := by decide +kernel
theorem dX1_goToWayFrom_67 : decode cX1_goToWayFrom 67 = .ok (.iconst 1, 1) := by decide +kernel
theorem dX1_goToWayFrom_68 : decode cX1_goToWayFrom 68 = .ok (.iadd, 1) := by decide +kernel
theorem dX1_goToWayFrom_69 : decode cX1_goToWayFrom 69 = .ok (.invokevirtual 88, 3) := by decide +kernel
theorem dX1_goToWayFrom_72 : decode cX1_goToWayFrom 72 = .ok (.ifCond .eq 5, 3) := by decide +kernel
theorem dX1_goToWayFrom_75 : decode cX1_goToWayFrom 75 = .ok (.iconst 1, 1) := by decide +kernel
theorem dX1_goToWayFrom_76 : decode cX1_goToWayFrom 76 = .ok (.ireturn, 1) := by decide +kernel
theorem dX1_goToWayFrom_77 : decode cX1_goToWayFrom 77 = .ok (.iinc 2 1, 3) := by decide +kernel
theorem dX1_goToWayFrom_80 : decode cX1_goToWayFrom 80 = .ok (.goto (-44), 3) := by decide +kernel
theorem dX1_goToWayFrom_83 : decode cX1_goToWayFrom 83 = .ok (.iconst 0, 1) := by decide +kernel
theorem dX1_goToWayFrom_84 : decode cX1_goToWayFrom 84 = .ok (.ireturn, 1) := by decide +kernel
theorem dX1_fewestAnew_0 : decode cX1_fewestAnew 0 = .ok (.aload_n 0, 1) := by decide +kernel
theorem dX1_fewestAnew_1 : decode cX1_fewestAnew 1 = .ok (.bipush 11, 2) := by decide +kernel
theorem dX1_fewestAnew_3 : decode cX1_fewestAnew 3 = .ok (.putfield 25, 3) := by decide +kernel
theorem dX1_fewestAnew_6 : decode cX1_fewestAnew 6 = .ok (.aload_n 0, 1) := by decide +kernel
theorem dX1_fewestAnew_7 : decode cX1_fewestAnew 7 = .ok (.iconst 1, 1) := by decide +kernel
theorem dX1_fewestAnew_8 : decode cX1_fewestAnew 8 = .ok (.iconst 0, 1) := by decide +kernel
theorem dX1_fewestAnew_9 : decode cX1_fewestAnew 9 = .ok (.invokevirtual 91, 3) := by decide +kernel
theorem dX1_fewestAnew_12 : decode cX1_fewestAnew 12 = .ok (.aload_n 0, 1) := by decide +kernel
theorem dX1_fewestAnew_13 : decode cX1_fewestAnew 13 = .ok (.getfield 25, 3) := by decide +kernel
theorem dX1_fewestAnew_16 : decode cX1_fewestAnew 16 = .ok (.bipush 10, 2) := by decide +kernel
theorem dX1_fewestAnew_18 : decode cX1_fewestAnew 18 = .ok (.if_icmp .le 7, 3) := by decide +kernel
theorem dX1_fewestAnew_21 : decode cX1_fewestAnew 21 = .ok (.iconst (-1), 1) := by decide +kernel
theorem dX1_fewestAnew_22 : decode cX1_fewestAnew 22 = .ok (.goto 7, 3) := by decide +kernel
theorem dX1_fewestAnew_25 : decode cX1_fewestAnew 25 = .ok (.aload_n 0, 1) := by decide +kernel
theorem dX1_fewestAnew_26 : decode cX1_fewestAnew 26 = .ok (.getfield 25, 3) := by decide +kernel
theorem dX1_fewestAnew_29 : decode cX1_fewestAnew 29 = .ok (.ireturn, 1) := by decide +kernel
theorem dX1_paintAnewFrom_0 : decode cX1_paintAnewFrom 0 = .ok (.iload_n 2, 1) := by decide +kernel
theorem dX1_paintAnewFrom_1 : decode cX1_paintAnewFrom 1 = .ok (.aload_n 0, 1) := by decide +kernel
theorem dX1_paintAnewFrom_2 : decode cX1_paintAnewFrom 2 = .ok (.getfield 25, 3) := by decide +kernel
theorem dX1_paintAnewFrom_5 : decode cX1_paintAnewFrom 5 = .ok (.if_icmp .lt 4, 3) := by decide +kernel
theorem dX1_paintAnewFrom_8 : decode cX1_paintAnewFrom 8 = .ok (.return_, 1) := by decide +kernel
theorem dX1_paintAnewFrom_9 : decode cX1_paintAnewFrom 9 = .ok (.iload_n 1, 1) := by decide +kernel
theorem dX1_paintAnewFrom_10 : decode cX1_paintAnewFrom 10 = .ok (.aload_n 0, 1) := by decide +kernel
theorem dX1_paintAnewFrom_11 : decode cX1_paintAnewFrom 11 = .ok (.getfield 35, 3) := by decide +kernel
theorem dX1_paintAnewFrom_14 : decode cX1_paintAnewFrom 14 = .ok (.getfield 59, 3) := by decide +kernel
theorem dX1_paintAnewFrom_17 : decode cX1_paintAnewFrom 17 = .ok (.if_icmp .le 9, 3) := by decide +kernel
theorem dX1_paintAnewFrom_20 : decode cX1_paintAnewFrom 20 = .ok (.aload_n 0, 1) := by decide +kernel
theorem dX1_paintAnewFrom_21 : decode cX1_paintAnewFrom 21 = .ok (.iload_n 2, 1) := by decide +kernel
theorem dX1_paintAnewFrom_22 : decode cX1_paintAnewFrom 22 = .ok (.putfield 25, 3) := by decide +kernel
theorem dX1_paintAnewFrom_25 : decode cX1_paintAnewFrom 25 = .ok (.return_, 1) := by decide +kernel
theorem dX1_paintAnewFrom_26 : decode cX1_paintAnewFrom 26 = .ok (.iconst 0, 1) := by decide +kernel
theorem dX1_paintAnewFrom_27 : decode cX1_paintAnewFrom 27 = .ok (.istore_n 3, 1) := by decide +kernel
theorem dX1_paintAnewFrom_28 : decode cX1_paintAnewFrom 28 = .ok (.iload_n 3, 1) := by decide +kernel
theorem dX1_paintAnewFrom_29 : decode cX1_paintAnewFrom 29 = .ok (.aload_n 0, 1) := by decide +kernel
theorem dX1_paintAnewFrom_30 : decode cX1_paintAnewFrom 30 = .ok (.getfield 35, 3) := by decide +kernel
theorem dX1_paintAnewFrom_33 : decode cX1_paintAnewFrom 33 = .ok (.getfield 62, 3) := by decide +kernel
theorem dX1_paintAnewFrom_36 : decode cX1_paintAnewFrom 36 = .ok (.if_icmp .ge 41, 3) := by decide +kernel
theorem dX1_paintAnewFrom_39 : decode cX1_paintAnewFrom 39 = .ok (.aload_n 0, 1) := by decide +kernel
theorem dX1_paintAnewFrom_40 : decode cX1_paintAnewFrom 40 = .ok (.iload_n 1, 1) := by decide +kernel
theorem dX1_paintAnewFrom_41 : decode cX1_paintAnewFrom 41 = .ok (.iload_n 3, 1) := by decide +kernel
theorem dX1_paintAnewFrom_42 : decode cX1_paintAnewFrom 42 = .ok (.invokevirtual 69, 3) := by decide +kernel
theorem dX1_paintAnewFrom_45 : decode cX1_paintAnewFrom 45 = .ok (.ifCond .eq 26, 3) := by decide +kernel
theorem dX1_paintAnewFrom_48 : decode cX1_paintAnewFrom 48 = .ok (.aload_n 0, 1) := by decide +kernel
theorem dX1_paintAnewFrom_49 : decode cX1_paintAnewFrom 49 = .ok (.iload_n 1, 1) := by decide +kernel
theorem dX1_paintAnewFrom_50 : decode cX1_paintAnewFrom 50 = .ok (.iconst 1, 1) := by decide +kernel
theorem dX1_paintAnewFrom_51 : decode cX1_paintAnewFrom 51 = .ok (.iadd, 1) := by decide +kernel
theorem dX1_paintAnewFrom_52 : decode cX1_paintAnewFrom 52 = .ok (.aload_n 0, 1) := by decide +kernel
theorem dX1_paintAnewFrom_53 : decode cX1_paintAnewFrom 53 = .ok (.iload_n 1, 1) := by decide +kernel
theorem dX1_paintAnewFrom_54 : decode cX1_paintAnewFrom 54 = .ok (.iload_n 3, 1) := by decide +kernel
theorem dX1_paintAnewFrom_55 : decode cX1_paintAnewFrom 55 = .ok (.invokevirtual 65, 3) := by decide +kernel
theorem dX1_paintAnewFrom_58 : decode cX1_paintAnewFrom 58 = .ok (.ifCond .eq 7, 3) := by decide +kernel
theorem dX1_paintAnewFrom_61 : decode cX1_paintAnewFrom 61 = .ok (.iload_n 2, 1) := by decide +kernel
theorem dX1_paintAnewFrom_62 : decode cX1_paintAnewFrom 62 = .ok (.goto 6, 3) := by decide +kernel
theorem dX1_paintAnewFrom_65 : decode cX1_paintAnewFrom 65 = .ok (.iload_n 2, 1) := by decide +kernel
theorem dX1_paintAnewFrom_66 : decode cX1_paintAnewFrom 66 = .ok (.iconst 1, 1) := by decide +kernel
theorem dX1_paintAnewFrom_67 : decode cX1_paintAnewFrom 67 = .ok (.iadd, 1) := by decide +kernel
theorem dX1_paintAnewFrom_68 : decode cX1_paintAnewFrom 68 = .ok (.invokevirtual 91, 3) := by decide +kernel
theorem dX1_paintAnewFrom_71 : decode cX1_paintAnewFrom 71 = .ok (.iinc 3 1, 3) := by decide +kernel
theorem dX1_paintAnewFrom_74 : decode cX1_paintAnewFrom 74 = .ok (.goto (-46), 3) := by decide +kernel
theorem dX1_paintAnewFrom_77 : decode cX1_paintAnewFrom 77 = .ok (.return_, 1) := by decide +kernel
theorem dX1_winningColour_0 : decode cX1_winningColour 0 = .ok (.aload_n 0, 1) := by decide +kernel
theorem dX1_winningColour_1 : decode cX1_winningColour 1 = .ok (.getfield 35, 3) := by decide +kernel
theorem dX1_winningColour_4 : decode cX1_winningColour 4 = .ok (.aload_n 0, 1) := by decide +kernel
theorem dX1_winningColour_5 : decode cX1_winningColour 5 = .ok (.getfield 35, 3) := by decide +kernel
theorem dX1_winningColour_8 : decode cX1_winningColour 8 = .ok (.getfield 53, 3) := by decide +kernel
theorem dX1_winningColour_11 : decode cX1_winningColour 11 = .ok (.invokevirtual 95, 3) := by decide +kernel
theorem dX1_winningColour_14 : decode cX1_winningColour 14 = .ok (.ifCond .le 5, 3) := by decide +kernel
theorem dX1_winningColour_17 : decode cX1_winningColour 17 = .ok (.iconst (-1), 1) := by decide +kernel
theorem dX1_winningColour_18 : decode cX1_winningColour 18 = .ok (.ireturn, 1) := by decide +kernel
theorem dX1_winningColour_19 : decode cX1_winningColour 19 = .ok (.aload_n 0, 1) := by decide +kernel
theorem dX1_winningColour_20 : decode cX1_winningColour 20 = .ok (.getfield 35, 3) := by decide +kernel
theorem dX1_winningColour_23 : decode cX1_winningColour 23 = .ok (.getfield 53, 3) := by decide +kernel
theorem dX1_winningColour_26 : decode cX1_winningColour 26 = .ok (.aload_n 0, 1) := by decide +kernel
theorem dX1_winningColour_27 : decode cX1_winningColour 27 = .ok (.getfield 9, 3) := by decide +kernel
theorem dX1_winningColour_30 : decode cX1_winningColour 30 = .ok (.invokestatic 99, 3) := by decide +kernel
theorem dX1_winningColour_33 : decode cX1_winningColour 33 = .ok (.aload_n 0, 1) := by decide +kernel
theorem dX1_winningColour_34 : decode cX1_winningColour 34 = .ok (.iconst 1, 1) := by decide +kernel
theorem dX1_winningColour_35 : decode cX1_winningColour 35 = .ok (.invokevirtual 103, 3) := by decide +kernel
theorem dX1_winningColour_38 : decode cX1_winningColour 38 = .ok (.ireturn, 1) := by decide +kernel
theorem dX1_winningColourFrom_0 : decode cX1_winningColourFrom 0 = .ok (.iload_n 1, 1) := by decide +kernel
theorem dX1_winningColourFrom_1 : decode cX1_winningColourFrom 1 = .ok (.aload_n 0, 1) := by decide +kernel
theorem dX1_winningColourFrom_2 : decode cX1_winningColourFrom 2 = .ok (.getfield 35, 3) := by decide +kernel
theorem dX1_winningColourFrom_5 : decode cX1_winningColourFrom 5 = .ok (.getfield 59, 3) := by decide +kernel
theorem dX1_winningColourFrom_8 : decode cX1_winningColourFrom 8 = .ok (.if_icmp .le 5, 3) := by decide +kernel
theorem dX1_winningColourFrom_11 : decode cX1_winningColourFrom 11 = .ok (.iconst (-1), 1) := by decide +kernel
theorem dX1_winningColourFrom_12 : decode cX1_winningColourFrom 12 = .ok (.ireturn, 1) := by decide +kernel
theorem dX1_winningColourFrom_13 : decode cX1_winningColourFrom 13 = .ok (.aload_n 0, 1) := by decide +kernel
theorem dX1_winningColourFrom_14 : decode cX1_winningColourFrom 14 = .ok (.getfield 35, 3) := by decide +kernel
theorem dX1_winningColourFrom_17 : decode cX1_winningColourFrom 17 = .ok (.iload_n 1, 1) := by decide +kernel
theorem dX1_winningColourFrom_18 : decode cX1_winningColourFrom 18 = .ok (.invokevirtual 84, 3) := by decide +kernel
theorem dX1_winningColourFrom_21 : decode cX1_winningColourFrom 21 = .ok (.ifCond .ne 11, 3) := by decide +kernel
theorem dX1_winningColourFrom_24 : decode cX1_winningColourFrom 24 = .ok (.aload_n 0, 1) := by decide +kernel
theorem dX1_winningColourFrom_25 : decode cX1_winningColourFrom 25 = .ok (.iload_n 1, 1) := by decide +kernel
theorem dX1_winningColourFrom_26 : decode cX1_winningColourFrom 26 = .ok (.iconst 1, 1) := by decide +kernel
theorem dX1_winningColourFrom_27 : decode cX1_winningColourFrom 27 = .ok (.iadd, 1) := by decide +kernel
theorem dX1_winningColourFrom_28 : decode cX1_winningColourFrom 28 = .ok (.invokevirtual 103, 3) := by decide +kernel
theorem dX1_winningColourFrom_31 : decode cX1_winningColourFrom 31 = .ok (.ireturn, 1) := by decide +kernel
theorem dX1_winningColourFrom_32 : decode cX1_winningColourFrom 32 = .ok (.iconst (-1), 1) := by decide +kernel
theorem dX1_winningColourFrom_33 : decode cX1_winningColourFrom 33 = .ok (.istore_n 2, 1) := by decide +kernel
theorem dX1_winningColourFrom_34 : decode cX1_winningColourFrom 34 = .ok (.iconst 0, 1) := by decide +kernel
theorem dX1_winningColourFrom_35 : decode cX1_winningColourFrom 35 = .ok (.istore_n 3, 1) := by decide +kernel
theorem dX1_winningColourFrom_36 : decode cX1_winningColourFrom 36 = .ok (.iload_n 3, 1) := by decide +kernel
theorem dX1_winningColourFrom_37 : decode cX1_winningColourFrom 37 = .ok (.aload_n 0, 1) := by decide +kernel
theorem dX1_winningColourFrom_38 : decode cX1_winningColourFrom 38 = .ok (.getfield 35, 3) := by decide +kernel
theorem dX1_winningColourFrom_41 : decode cX1_winningColourFrom 41 = .ok (.getfield 62, 3) := by decide +kernel
theorem dX1_winningColourFrom_44 : decode cX1_winningColourFrom 44 = .ok (.if_icmp .ge 51, 3) := by decide +kernel
theorem dX1_winningColourFrom_47 : decode cX1_winningColourFrom 47 = .ok (.iload_n 2, 1) := by decide +kernel
theorem dX1_winningColourFrom_48 : decode cX1_winningColourFrom 48 = .ok (.iconst (-1), 1) := by decide +kernel
theorem dX1_winningColourFrom_49 : decode cX1_winningColourFrom 49 = .ok (.if_icmp .ne 46, 3) := by decide +kernel
theorem dX1_winningColourFrom_52 : decode cX1_winningColourFrom 52 = .ok (.aload_n 0, 1) := by decide +kernel
theorem dX1_winningColourFrom_53 : decode cX1_winningColourFrom 53 = .ok (.getfield 9, 3) := by decide +kernel
theorem dX1_winningColourFrom_56 : decode cX1_winningColourFrom 56 = .ok (.iload_n 1, 1) := by decide +kernel
theorem dX1_winningColourFrom_57 : decode cX1_winningColourFrom 57 = .ok (.iload_n 3, 1) := by decide +kernel
theorem dX1_winningColourFrom_58 : decode cX1_winningColourFrom 58 = .ok (.invokestatic 39, 3) := by decide +kernel
theorem dX1_winningColourFrom_61 : decode cX1_winningColourFrom 61 = .ok (.aload_n 0, 1) := by decide +kernel
theorem dX1_winningColourFrom_62 : decode cX1_winningColourFrom 62 = .ok (.getfield 35, 3) := by decide +kernel
theorem dX1_winningColourFrom_65 : decode cX1_winningColourFrom 65 = .ok (.aload_n 0, 1) := by decide +kernel
theorem dX1_winningColourFrom_66 : decode cX1_winningColourFrom 66 = .ok (.getfield 9, 3) := by decide +kernel
theorem dX1_winningColourFrom_69 : decode cX1_winningColourFrom 69 = .ok (.iload_n 1, 1) := by decide +kernel
theorem dX1_winningColourFrom_70 : decode cX1_winningColourFrom 70 = .ok (.invokevirtual 106, 3) := by decide +kernel
theorem dX1_winningColourFrom_73 : decode cX1_winningColourFrom 73 = .ok (.ifCond .ne 16, 3) := by decide +kernel
theorem dX1_winningColourFrom_76 : decode cX1_winningColourFrom 76 = .ok (.aload_n 0, 1) := by decide +kernel
theorem dX1_winningColourFrom_77 : decode cX1_winningColourFrom 77 = .ok (.iload_n 1, 1) := by decide +kernel
theorem dX1_winningColourFrom_78 : decode cX1_winningColourFrom 78 = .ok (.iconst 1, 1) := by decide +kernel
theorem dX1_winningColourFrom_79 : decode cX1_winningColourFrom 79 = .ok (.iadd, 1) := by decide +kernel
theorem dX1_winningColourFrom_80 : decode cX1_winningColourFrom 80 = .ok (.invokevirtual 103, 3) := by decide +kernel
theorem dX1_winningColourFrom_83 : decode cX1_winningColourFrom 83 = .ok (.iconst (-1), 1) := by decide +kernel
theorem dX1_winningColourFrom_84 : decode cX1_winningColourFrom 84 = .ok (.if_icmp .ne 5, 3) := by decide +kernel
theorem dX1_winningColourFrom_87 : decode cX1_winningColourFrom 87 = .ok (.iload_n 3, 1) := by decide +kernel
theorem dX1_winningColourFrom_88 : decode cX1_winningColourFrom 88 = .ok (.istore_n 2, 1) := by decide +kernel
theorem dX1_winningColourFrom_89 : decode cX1_winningColourFrom 89 = .ok (.iinc 3 1, 3) := by decide +kernel
theorem dX1_winningColourFrom_92 : decode cX1_winningColourFrom 92 = .ok (.goto (-56), 3) := by decide +kernel
theorem dX1_winningColourFrom_95 : decode cX1_winningColourFrom 95 = .ok (.aload_n 0, 1) := by decide +kernel
theorem dX1_winningColourFrom_96 : decode cX1_winningColourFrom 96 = .ok (.getfield 9, 3) := by decide +kernel
theorem dX1_winningColourFrom_99 : decode cX1_winningColourFrom 99 = .ok (.iload_n 1, 1) := by decide +kernel
theorem dX1_winningColourFrom_100 : decode cX1_winningColourFrom 100 = .ok (.iconst (-1), 1) := by decide +kernel
theorem dX1_winningColourFrom_101 : decode cX1_winningColourFrom 101 = .ok (.invokestatic 39, 3) := by decide +kernel
theorem dX1_winningColourFrom_104 : decode cX1_winningColourFrom 104 = .ok (.iload_n 2, 1) := by decide +kernel
theorem dX1_winningColourFrom_105 : decode cX1_winningColourFrom 105 = .ok (.ireturn, 1) := by decide +kernel
theorem dX1_paintBareBySeed_0 : decode cX1_paintBareBySeed 0 = .ok (.aload_n 0, 1) := by decide +kernel
theorem dX1_paintBareBySeed_1 : decode cX1_paintBareBySeed 1 = .ok (.getfield 35, 3) := by decide +kernel
theorem dX1_paintBareBySeed_4 : decode cX1_paintBareBySeed 4 = .ok (.getfield 53, 3) := by decide +kernel
theorem dX1_paintBareBySeed_7 : decode cX1_paintBareBySeed 7 = .ok (.aload_n 0, 1) := by decide +kernel
theorem dX1_paintBareBySeed_8 : decode cX1_paintBareBySeed 8 = .ok (.getfield 9, 3) := by decide +kernel
theorem dX1_paintBareBySeed_11 : decode cX1_paintBareBySeed 11 = .ok (.invokestatic 99, 3) := by decide +kernel
theorem dX1_paintBareBySeed_14 : decode cX1_paintBareBySeed 14 = .ok (.iload_n 1, 1) := by decide +kernel
theorem dX1_paintBareBySeed_15 : decode cX1_paintBareBySeed 15 = .ok (.istore_n 2, 1) := by decide +kernel
theorem dX1_paintBareBySeed_16 : decode cX1_paintBareBySeed 16 = .ok (.iconst 1, 1) := by decide +kernel
theorem dX1_paintBareBySeed_17 : decode cX1_paintBareBySeed 17 = .ok (.istore_n 3, 1) := by decide +kernel
theorem dX1_paintBareBySeed_18 : decode cX1_paintBareBySeed 18 = .ok (.iload_n 3, 1) := by decide +kernel
theorem dX1_paintBareBySeed_19 : decode cX1_paintBareBySeed 19 = .ok (.aload_n 0, 1) := by decide +kernel
theorem dX1_paintBareBySeed_20 : decode cX1_paintBareBySeed 20 = .ok (.getfield 35, 3) := by decide +kernel
theorem dX1_paintBareBySeed_23 : decode cX1_paintBareBySeed 23 = .ok (.getfield 59, 3) := by decide +kernel
theorem dX1_paintBareBySeed_26 : decode cX1_paintBareBySeed 26 = .ok (.if_icmp .gt 62, 3) := by decide +kernel
theorem dX1_paintBareBySeed_29 : decode cX1_paintBareBySeed 29 = .ok (.aload_n 0, 1) := by decide +kernel
theorem dX1_paintBareBySeed_30 : decode cX1_paintBareBySeed 30 = .ok (.getfield 35, 3) := by decide +kernel
theorem dX1_paintBareBySeed_33 : decode cX1_paintBareBySeed 33 = .ok (.iload_n 3, 1) := by decide +kernel
theorem dX1_paintBareBySeed_34 : decode cX1_paintBareBySeed 34 = .ok (.invokevirtual 84, 3) := by decide +kernel
theorem dX1_paintBareBySeed_37 : decode cX1_paintBareBySeed 37 = .ok (.ifCond .eq 45, 3) := by decide +kernel
theorem dX1_paintBareBySeed_40 : decode cX1_paintBareBySeed 40 = .ok (.aload_n 0, 1) := by decide +kernel
theorem dX1_paintBareBySeed_41 : decode cX1_paintBareBySeed 41 = .ok (.getfield 35, 3) := by decide +kernel
theorem dX1_paintBareBySeed_44 : decode cX1_paintBareBySeed 44 = .ok (.getfield 62, 3) := by decide +kernel
theorem dX1_paintBareBySeed_47 : decode cX1_paintBareBySeed 47 = .ok (.ifCond .le 35, 3) := by decide +kernel
theorem dX1_paintBareBySeed_50 : decode cX1_paintBareBySeed 50 = .ok (.ldc 109, 2) := by decide +kernel
theorem dX1_paintBareBySeed_52 : decode cX1_paintBareBySeed 52 = .ok (.iload_n 2, 1) := by decide +kernel
theorem dX1_paintBareBySeed_53 : decode cX1_paintBareBySeed 53 = .ok (.imul, 1) := by decide +kernel
theorem dX1_paintBareBySeed_54 : decode cX1_paintBareBySeed 54 = .ok (.sipush 12345, 3) := by decide +kernel
theorem dX1_paintBareBySeed_57 : decode cX1_paintBareBySeed 57 = .ok (.iadd, 1) := by decide +kernel
theorem dX1_paintBareBySeed_58 : decode cX1_paintBareBySeed 58 = .ok (.ldc 110, 2) := by decide +kernel
theorem dX1_paintBareBySeed_60 : decode cX1_paintBareBySeed 60 = .ok (.iand, 1) := by decide +kernel
theorem dX1_paintBareBySeed_61 : decode cX1_paintBareBySeed 61 = .ok (.istore_n 2, 1) := by decide +kernel
theorem dX1_paintBareBySeed_62 : decode cX1_paintBareBySeed 62 = .ok (.aload_n 0, 1) := by decide +kernel
theorem dX1_paintBareBySeed_63 : decode cX1_paintBareBySeed 63 = .ok (.getfield 9, 3) := by decide +kernel
theorem dX1_paintBareBySeed_66 : decode cX1_paintBareBySeed 66 = .ok (.iload_n 3, 1) := by decide +kernel
theorem dX1_paintBareBySeed_67 : decode cX1_paintBareBySeed 67 = .ok (.iload_n 2, 1) := by decide +kernel
theorem dX1_paintBareBySeed_68 : decode cX1_paintBareBySeed 68 = .ok (.ldc 111, 2) := by decide +kernel
theorem dX1_paintBareBySeed_70 : decode cX1_paintBareBySeed 70 = .ok (.idiv, 1) := by decide +kernel
theorem dX1_paintBareBySeed_71 : decode cX1_paintBareBySeed 71 = .ok (.aload_n 0, 1) := by decide +kernel
theorem dX1_paintBareBySeed_72 : decode cX1_paintBareBySeed 72 = .ok (.getfield 35, 3) := by decide +kernel
theorem dX1_paintBareBySeed_75 : decode cX1_paintBareBySeed 75 = .ok (.getfield 62, 3) := by decide +kernel
theorem dX1_paintBareBySeed_78 : decode cX1_paintBareBySeed 78 = .ok (.irem, 1) := by decide +kernel
theorem dX1_paintBareBySeed_79 : decode cX1_paintBareBySeed 79 = .ok (.invokestatic 39, 3) := by decide +kernel
theorem dX1_paintBareBySeed_82 : decode cX1_paintBareBySeed 82 = .ok (.iinc 3 1, 3) := by decide +kernel
theorem dX1_paintBareBySeed_85 : decode cX1_paintBareBySeed 85 = .ok (.goto (-67), 3) := by decide +kernel
theorem dX1_paintBareBySeed_88 : decode cX1_paintBareBySeed 88 = .ok (.iload_n 2, 1) := by decide +kernel
theorem dX1_paintBareBySeed_89 : decode cX1_paintBareBySeed 89 = .ok (.ireturn, 1) := by decide +kernel
theorem dX2_init_0 : decode cX2_init 0 = .ok (.aload_n 0, 1) := by decide +kernel
theorem dX2_init_1 : decode cX2_init 1 = .ok (.invokespecial 3, 3) := by decide +kernel
theorem dX2_init_4 : decode cX2_init 4 = .ok (.aload_n 0, 1) := by decide +kernel
theorem dX2_init_5 : decode cX2_init 5 = .ok (.bipush 26, 2) := by decide +kernel
theorem dX2_init_7 : decode cX2_init 7 = .ok (.newarray .int, 2) := by decide +kernel
theorem dX2_init_9 : decode cX2_init 9 = .ok (.putfield 9, 3) := by decide +kernel
theorem dX2_init_12 : decode cX2_init 12 = .ok (.aload_n 0, 1) := by decide +kernel
theorem dX2_init_13 : decode cX2_init 13 = .ok (.iconst 0, 1) := by decide +kernel
theorem dX2_init_14 : decode cX2_init 14 = .ok (.putfield 15, 3) := by decide +kernel
theorem dX2_init_17 : decode cX2_init 17 = .ok (.return_, 1) := by decide +kernel
theorem dX2_append_0 : decode cX2_append 0 = .ok (.aload_n 0, 1) := by decide +kernel
theorem dX2_append_1 : decode cX2_append 1 = .ok (.getfield 9, 3) := by decide +kernel
theorem dX2_append_4 : decode cX2_append 4 = .ok (.aload_n 0, 1) := by decide +kernel
theorem dX2_append_5 : decode cX2_append 5 = .ok (.getfield 15, 3) := by decide +kernel
theorem dX2_append_8 : decode cX2_append 8 = .ok (.iload_n 1, 1) := by decide +kernel
theorem dX2_append_9 : decode cX2_append 9 = .ok (.invokestatic 19, 3) := by decide +kernel
theorem dX2_append_12 : decode cX2_append 12 = .ok (.aload_n 0, 1) := by decide +kernel
theorem dX2_append_13 : decode cX2_append 13 = .ok (.dup, 1) := by decide +kernel
theorem dX2_append_14 : decode cX2_append 14 = .ok (.getfield 15, 3) := by decide +kernel
theorem dX2_append_17 : decode cX2_append 17 = .ok (.iconst 1, 1) := by decide +kernel
theorem dX2_append_18 : decode cX2_append 18 = .ok (.iadd, 1) := by decide +kernel
theorem dX2_append_19 : decode cX2_append 19 = .ok (.putfield 15, 3) := by decide +kernel
theorem dX2_append_22 : decode cX2_append 22 = .ok (.return_, 1) := by decide +kernel
theorem dX2_codeAt_0 : decode cX2_codeAt 0 = .ok (.iload_n 1, 1) := by decide +kernel
theorem dX2_codeAt_1 : decode cX2_codeAt 1 = .ok (.aload_n 0, 1) := by decide +kernel
theorem dX2_codeAt_2 : decode cX2_codeAt 2 = .ok (.getfield 15, 3) := by decide +kernel
theorem dX2_codeAt_5 : decode cX2_codeAt 5 = .ok (.if_icmp .ge 14, 3) := by decide +kernel
theorem dX2_codeAt_8 : decode cX2_codeAt 8 = .ok (.aload_n 0, 1) := by decide +kernel
theorem dX2_codeAt_9 : decode cX2_codeAt 9 = .ok (.getfield 9, 3) := by decide +kernel
theorem dX2_codeAt_12 : decode cX2_codeAt 12 = .ok (.iload_n 1, 1) := by decide +kernel
theorem dX2_codeAt_13 : decode cX2_codeAt 13 = .ok (.invokestatic 23, 3) := by decide +kernel
theorem dX2_codeAt_16 : decode cX2_codeAt 16 = .ok (.goto 4, 3) := by decide +kernel
theorem dX2_codeAt_19 : decode cX2_codeAt 19 = .ok (.iconst 0, 1) := by decide +kernel
theorem dX2_codeAt_20 : decode cX2_codeAt 20 = .ok (.ireturn, 1) := by decide +kernel
theorem dX2_colours_0 : decode cX2_colours 0 = .ok (.aload_n 0, 1) := by decide +kernel
theorem dX2_colours_1 : decode cX2_colours 1 = .ok (.iconst 0, 1) := by decide +kernel
theorem dX2_colours_2 : decode cX2_colours 2 = .ok (.invokevirtual 27, 3) := by decide +kernel
theorem dX2_colours_5 : decode cX2_colours 5 = .ok (.bipush 48, 2) := by decide +kernel
theorem dX2_colours_7 : decode cX2_colours 7 = .ok (.isub, 1) := by decide +kernel
theorem dX2_colours_8 : decode cX2_colours 8 = .ok (.ireturn, 1) := by decide +kernel
theorem dX2_kindAt_0 : decode cX2_kindAt 0 = .ok (.ldc 31, 2) := by decide +kernel
theorem dX2_kindAt_2 : decode cX2_kindAt 2 = .ok (.aload_n 0, 1) := by decide +kernel
theorem dX2_kindAt_3 : decode cX2_kindAt 3 = .ok (.iload_n 1, 1) := by decide +kernel
theorem dX2_kindAt_4 : decode cX2_kindAt 4 = .ok (.invokevirtual 27, 3) := by decide +kernel
theorem dX2_kindAt_7 : decode cX2_kindAt 7 = .ok (.i2c, 1) := by decide +kernel
theorem dX2_kindAt_8 : decode cX2_kindAt 8 = .ok (.invokevirtual 33, 3) := by decide +kernel
theorem dX2_kindAt_11 : decode cX2_kindAt 11 = .ok (.ireturn, 1) := by decide +kernel
theorem dX2_kindsTold_0 : decode cX2_kindsTold 0 = .ok (.iconst 0, 1) := by decide +kernel
theorem dX2_kindsTold_1 : decode cX2_kindsTold 1 = .ok (.istore_n 1, 1) := by decide +kernel
theorem dX2_kindsTold_2 : decode cX2_kindsTold 2 = .ok (.iload_n 1, 1) := by decide +kernel
theorem dX2_kindsTold_3 : decode cX2_kindsTold 3 = .ok (.bipush 10, 2) := by decide +kernel
theorem dX2_kindsTold_5 : decode cX2_kindsTold 5 = .ok (.if_icmp .ge 20, 3) := by decide +kernel
theorem dX2_kindsTold_8 : decode cX2_kindsTold 8 = .ok (.aload_n 0, 1) := by decide +kernel
theorem dX2_kindsTold_9 : decode cX2_kindsTold 9 = .ok (.iconst 2, 1) := by decide +kernel
theorem dX2_kindsTold_10 : decode cX2_kindsTold 10 = .ok (.iload_n 1, 1) := by decide +kernel
theorem dX2_kindsTold_11 : decode cX2_kindsTold 11 = .ok (.iadd, 1) := by decide +kernel
theorem dX2_kindsTold_12 : decode cX2_kindsTold 12 = .ok (.invokevirtual 38, 3) := by decide +kernel
theorem dX2_kindsTold_15 : decode cX2_kindsTold 15 = .ok (.iconst (-1), 1) := by decide +kernel
theorem dX2_kindsTold_16 : decode cX2_kindsTold 16 = .ok (.if_icmp .eq 9, 3) := by decide +kernel
theorem dX2_kindsTold_19 : decode cX2_kindsTold 19 = .ok (.iinc 1 1, 3) := by decide +kernel
theorem dX2_kindsTold_22 : decode cX2_kindsTold 22 = .ok (.goto (-20), 3) := by decide +kernel
theorem dX2_kindsTold_25 : decode cX2_kindsTold 25 = .ok (.iload_n 1, 1) := by decide +kernel
theorem dX2_kindsTold_26 : decode cX2_kindsTold 26 = .ok (.ireturn, 1) := by decide +kernel
theorem dX2_firstFault_0 : decode cX2_firstFault 0 = .ok (.iconst 2, 1) := by decide +kernel
theorem dX2_firstFault_1 : decode cX2_firstFault 1 = .ok (.aload_n 0, 1) := by decide +kernel
theorem dX2_firstFault_2 : decode cX2_firstFault 2 = .ok (.invokevirtual 41, 3) := by decide +kernel
theorem dX2_firstFault_5 : decode cX2_firstFault 5 = .ok (.iadd, 1) := by decide +kernel
theorem dX2_firstFault_6 : decode cX2_firstFault 6 = .ok (.istore_n 1, 1) := by decide +kernel
theorem dX2_firstFault_7 : decode cX2_firstFault 7 = .ok (.iconst 0, 1) := by decide +kernel
theorem dX2_firstFault_8 : decode cX2_firstFault 8 = .ok (.istore_n 2, 1) := by decide +kernel
theorem dX2_firstFault_9 : decode cX2_firstFault 9 = .ok (.iload_n 2, 1) := by decide +kernel
theorem dX2_firstFault_10 : decode cX2_firstFault 10 = .ok (.aload_n 0, 1) := by decide +kernel
theorem dX2_firstFault_11 : decode cX2_firstFault 11 = .ok (.getfield 15, 3) := by decide +kernel
theorem dX2_firstFault_14 : decode cX2_firstFault 14 = .ok (.if_icmp .ge 18, 3) := by decide +kernel
theorem dX2_firstFault_17 : decode cX2_firstFault 17 = .ok (.aload_n 0, 1) := by decide +kernel
theorem dX2_firstFault_18 : decode cX2_firstFault 18 = .ok (.iload_n 2, 1) := by decide +kernel
theorem dX2_firstFault_19 : decode cX2_firstFault 19 = .ok (.iload_n 1, 1) := by decide +kernel
theorem dX2_firstFault_20 : decode cX2_firstFault 20 = .ok (.invokevirtual 45, 3) := by decide +kernel
theorem dX2_firstFault_23 : decode cX2_firstFault 23 = .ok (.ifCond .eq 9, 3) := by decide +kernel
theorem dX2_firstFault_26 : decode cX2_firstFault 26 = .ok (.iinc 2 1, 3) := by decide +kernel
theorem dX2_firstFault_29 : decode cX2_firstFault 29 = .ok (.goto (-20), 3) := by decide +kernel
theorem dX2_firstFault_32 : decode cX2_firstFault 32 = .ok (.iload_n 2, 1) := by decide +kernel
theorem dX2_firstFault_33 : decode cX2_firstFault 33 = .ok (.ireturn, 1) := by decide +kernel
theorem dX2_fits_0 : decode cX2_fits 0 = .ok (.aload_n 0, 1) := by decide +kernel
theorem dX2_fits_1 : decode cX2_fits 1 = .ok (.iload_n 1, 1) := by decide +kernel
theorem dX2_fits_2 : decode cX2_fits 2 = .ok (.invokevirtual 27, 3) := by decide +kernel
theorem dX2_fits_5 : decode cX2_fits 5 = .ok (.istore_n 3, 1) := by decide +kernel
theorem dX2_fits_6 : decode cX2_fits 6 = .ok (.iload_n 1, 1) := by decide +kernel
theorem dX2_fits_7 : decode cX2_fits 7 = .ok (.ifCond .ne 21, 3) := by decide +kernel
theorem dX2_fits_10 : decode cX2_fits 10 = .ok (.iload_n 3, 1) := by decide +kernel
theorem dX2_fits_11 : decode cX2_fits 11 = .ok (.bipush 50, 2) := by decide +kernel
theorem dX2_fits_13 : decode cX2_fits 13 = .ok (.if_icmp .eq 9, 3) := by decide +kernel
theorem dX2_fits_16 : decode cX2_fits 16 = .ok (.iload_n 3, 1) := by decide +kernel
theorem dX2_fits_17 : decode cX2_fits 17 = .ok (.bipush 51, 2) := by decide +kernel
theorem dX2_fits_19 : decode cX2_fits 19 = .ok (.if_icmp .ne 7, 3) := by decide +kernel
theorem dX2_fits_22 : decode cX2_fits 22 = .ok (.iconst 1, 1) := by decide +kernel
theorem dX2_fits_23 : decode cX2_fits 23 = .ok (.goto 4, 3) := by decide +kernel
theorem dX2_fits_26 : decode cX2_fits 26 = .ok (.iconst 0, 1) := by decide +kernel
theorem dX2_fits_27 : decode cX2_fits 27 = .ok (.ireturn, 1) := by decide +kernel
theorem dX2_fits_28 : decode cX2_fits 28 = .ok (.iload_n 1, 1) := by decide +kernel
theorem dX2_fits_29 : decode cX2_fits 29 = .ok (.iconst 2, 1) := by decide +kernel
theorem dX2_fits_30 : decode cX2_fits 30 = .ok (.if_icmp .ge 15, 3) := by decide +kernel
theorem dX2_fits_33 : decode cX2_fits 33 = .ok (.iload_n 3, 1) := by decide +kernel
theorem dX2_fits_34 : decode cX2_fits 34 = .ok (.bipush 59, 2) := by decide +kernel
theorem dX2_fits_36 : decode cX2_fits 36 = .ok (.if_icmp .ne 7, 3) := by decide +kernel
theorem dX2_fits_39 : decode cX2_fits 39 = .ok (.iconst 1, 1) := by decide +kernel
theorem dX2_fits_40 : decode cX2_fits 40 = .ok (.goto 4, 3) := by decide +kernel
theorem dX2_fits_43 : decode cX2_fits 43 = .ok (.iconst 0, 1) := by decide +kernel
theorem dX2_fits_44 : decode cX2_fits 44 = .ok (.ireturn, 1) := by decide +kernel
theorem dX2_fits_45 : decode cX2_fits 45 = .ok (.iload_n 1, 1) := by decide +kernel
theorem dX2_fits_46 : decode cX2_fits 46 = .ok (.iload_n 2, 1) := by decide +kernel
theorem dX2_fits_47 : decode cX2_fits 47 = .ok (.if_icmp .ge 5, 3) := by decide +kernel
theorem dX2_fits_50 : decode cX2_fits 50 = .ok (.iconst 1, 1) := by decide +kernel
theorem dX2_fits_51 : decode cX2_fits 51 = .ok (.ireturn, 1) := by decide +kernel
theorem dX2_fits_52 : decode cX2_fits 52 = .ok (.iload_n 2, 1) := by decide +kernel
theorem dX2_fits_53 : decode cX2_fits 53 = .ok (.iconst 2, 1) := by decide +kernel
theorem dX2_fits_54 : decode cX2_fits 54 = .ok (.isub, 1) := by decide +kernel
theorem dX2_fits_55 : decode cX2_fits 55 = .ok (.istore 4, 2) := by decide +kernel
theorem dX2_fits_57 : decode cX2_fits 57 = .ok (.iload_n 1, 1) := by decide +kernel
theorem dX2_fits_58 : decode cX2_fits 58 = .ok (.iload_n 2, 1) := by decide +kernel
theorem dX2_fits_59 : decode cX2_fits 59 = .ok (.if_icmp .ne 21, 3) := by decide +kernel
theorem dX2_fits_62 : decode cX2_fits 62 = .ok (.iload_n 3, 1) := by decide +kernel
theorem dX2_fits_63 : decode cX2_fits 63 = .ok (.bipush 59, 2) := by decide +kernel
theorem dX2_fits_65 : decode cX2_fits 65 = .ok (.if_icmp .ne 13, 3) := by decide +kernel
theorem dX2_fits_68 : decode cX2_fits 68 = .ok (.iload 4, 2) := by decide +kernel
theorem dX2_fits_70 : decode cX2_fits 70 = .ok (.iconst 4, 1) := by decide +kernel
theorem dX2_fits_71 : decode cX2_fits 71 = .ok (.if_icmp .lt 7, 3) := by decide +kernel
theorem dX2_fits_74 : decode cX2_fits 74 = .ok (.iconst 1, 1) := by decide +kernel
theorem dX2_fits_75 : decode cX2_fits 75 = .ok (.goto 4, 3) := by decide +kernel
theorem dX2_fits_78 : decode cX2_fits 78 = .ok (.iconst 0, 1) := by decide +kernel
theorem dX2_fits_79 : decode cX2_fits 79 = .ok (.ireturn, 1) := by decide +kernel
theorem dX2_fits_80 : decode cX2_fits 80 = .ok (.iload_n 1, 1) := by decide +kernel
theorem dX2_fits_81 : decode cX2_fits 81 = .ok (.iload_n 2, 1) := by decide +kernel
theorem dX2_fits_82 : decode cX2_fits 82 = .ok (.iload 4, 2) := by decide +kernel
theorem dX2_fits_84 : decode cX2_fits 84 = .ok (.iadd, 1) := by decide +kernel
theorem dX2_fits_85 : decode cX2_fits 85 = .ok (.if_icmp .gt 15, 3) := by decide +kernel
theorem dX2_fits_88 : decode cX2_fits 88 = .ok (.aload_n 0, 1) := by decide +kernel
theorem dX2_fits_89 : decode cX2_fits 89 = .ok (.iload_n 3, 1) := by decide +kernel
theorem dX2_fits_90 : decode cX2_fits 90 = .ok (.invokevirtual 49, 3) := by decide +kernel
theorem dX2_fits_93 : decode cX2_fits 93 = .ok (.ifCond .eq 7, 3) := by decide +kernel
theorem dX2_fits_96 : decode cX2_fits 96 = .ok (.iconst 1, 1) := by decide +kernel
theorem dX2_fits_97 : decode cX2_fits 97 = .ok (.goto 4, 3) := by decide +kernel
theorem dX2_fits_100 : decode cX2_fits 100 = .ok (.iconst 0, 1) := by decide +kernel
theorem dX2_fits_101 : decode cX2_fits 101 = .ok (.ireturn, 1) := by decide +kernel
theorem dX2_isSign_0 : decode cX2_isSign 0 = .ok (.iload_n 1, 1) := by decide +kernel
theorem dX2_isSign_1 : decode cX2_isSign 1 = .ok (.bipush 46, 2) := by decide +kernel
theorem dX2_isSign_3 : decode cX2_isSign 3 = .ok (.if_icmp .eq 20, 3) := by decide +kernel
theorem dX2_isSign_6 : decode cX2_isSign 6 = .ok (.iload_n 1, 1) := by decide +kernel
theorem dX2_isSign_7 : decode cX2_isSign 7 = .ok (.bipush 97, 2) := by decide +kernel
theorem dX2_isSign_9 : decode cX2_isSign 9 = .ok (.if_icmp .lt 18, 3) := by decide +kernel
theorem dX2_isSign_12 : decode cX2_isSign 12 = .ok (.iload_n 1, 1) := by decide +kernel
theorem dX2_isSign_13 : decode cX2_isSign 13 = .ok (.bipush 97, 2) := by decide +kernel
theorem dX2_isSign_15 : decode cX2_isSign 15 = .ok (.aload_n 0, 1) := by decide +kernel
theorem dX2_isSign_16 : decode cX2_isSign 16 = .ok (.invokevirtual 53, 3) := by decide +kernel
theorem dX2_isSign_19 : decode cX2_isSign 19 = .ok (.iadd, 1) := by decide +kernel
theorem dX2_isSign_20 : decode cX2_isSign 20 = .ok (.if_icmp .ge 7, 3) := by decide +kernel
theorem dX2_isSign_23 : decode cX2_isSign 23 = .ok (.iconst 1, 1) := by decide +kernel
theorem dX2_isSign_24 : decode cX2_isSign 24 = .ok (.goto 4, 3) := by decide +kernel
theorem dX2_isSign_27 : decode cX2_isSign 27 = .ok (.iconst 0, 1) := by decide +kernel
theorem dX2_isSign_28 : decode cX2_isSign 28 = .ok (.ireturn, 1) := by decide +kernel
theorem dX2_isBoard_0 : decode cX2_isBoard 0 = .ok (.aload_n 0, 1) := by decide +kernel
theorem dX2_isBoard_1 : decode cX2_isBoard 1 = .ok (.getfield 15, 3) := by decide +kernel
theorem dX2_isBoard_4 : decode cX2_isBoard 4 = .ok (.iconst 2, 1) := by decide +kernel
theorem dX2_isBoard_5 : decode cX2_isBoard 5 = .ok (.iconst 2, 1) := by decide +kernel
theorem dX2_isBoard_6 : decode cX2_isBoard 6 = .ok (.aload_n 0, 1) := by decide +kernel
theorem dX2_isBoard_7 : decode cX2_isBoard 7 = .ok (.invokevirtual 41, 3) := by decide +kernel
theorem dX2_isBoard_10 : decode cX2_isBoard 10 = .ok (.imul, 1) := by decide +kernel
theorem dX2_isBoard_11 : decode cX2_isBoard 11 = .ok (.iadd, 1) := by decide +kernel
theorem dX2_isBoard_12 : decode cX2_isBoard 12 = .ok (.iconst 1, 1) := by decide +kernel
theorem dX2_isBoard_13 : decode cX2_isBoard 13 = .ok (.iadd, 1) := by decide +kernel
theorem dX2_isBoard_14 : decode cX2_isBoard 14 = .ok (.if_icmp .ne 18, 3) := by decide +kernel
theorem dX2_isBoard_17 : decode cX2_isBoard 17 = .ok (.aload_n 0, 1) := by decide +kernel
theorem dX2_isBoard_18 : decode cX2_isBoard 18 = .ok (.invokevirtual 56, 3) := by decide +kernel
theorem dX2_isBoard_21 : decode cX2_isBoard 21 = .ok (.aload_n 0, 1) := by decide +kernel
theorem dX2_isBoard_22 : decode cX2_isBoard 22 = .ok (.getfield 15, 3) := by decide +kernel
theorem dX2_isBoard_25 : decode cX2_isBoard 25 = .ok (.if_icmp .ne 7, 3) := by decide +kernel
theorem dX2_isBoard_28 : decode cX2_isBoard 28 = .ok (.iconst 1, 1) := by decide +kernel
theorem dX2_isBoard_29 : decode cX2_isBoard 29 = .ok (.goto 4, 3) := by decide +kernel
theorem dX2_isBoard_32 : decode cX2_isBoard 32 = .ok (.iconst 0, 1) := by decide +kernel
theorem dX2_isBoard_33 : decode cX2_isBoard 33 = .ok (.ireturn, 1) := by decide +kernel
theorem dX2_colourAt_0 : decode cX2_colourAt 0 = .ok (.aload_n 0, 1) := by decide +kernel
theorem dX2_colourAt_1 : decode cX2_colourAt 1 = .ok (.iload_n 1, 1) := by decide +kernel
theorem dX2_colourAt_2 : decode cX2_colourAt 2 = .ok (.invokevirtual 27, 3) := by decide +kernel
theorem dX2_colourAt_5 : decode cX2_colourAt 5 = .ok (.istore_n 2, 1) := by decide +kernel
theorem dX2_colourAt_6 : decode cX2_colourAt 6 = .ok (.iload_n 2, 1) := by decide +kernel
theorem dX2_colourAt_7 : decode cX2_colourAt 7 = .ok (.bipush 46, 2) := by decide +kernel
theorem dX2_colourAt_9 : decode cX2_colourAt 9 = .ok (.if_icmp .ne 7, 3) := by decide +kernel
theorem dX2_colourAt_12 : decode cX2_colourAt 12 = .ok (.iconst (-1), 1) := by decide +kernel
theorem dX2_colourAt_13 : decode cX2_colourAt 13 = .ok (.goto 7, 3) := by decide +kernel
theorem dX2_colourAt_16 : decode cX2_colourAt 16 = .ok (.iload_n 2, 1) := by decide +kernel
theorem dX2_colourAt_17 : decode cX2_colourAt 17 = .ok (.bipush 97, 2) := by decide +kernel
theorem dX2_colourAt_19 : decode cX2_colourAt 19 = .ok (.isub, 1) := by decide +kernel
theorem dX2_colourAt_20 : decode cX2_colourAt 20 = .ok (.ireturn, 1) := by decide +kernel
theorem dX3_init_0 : decode cX3_init 0 = .ok (.aload_n 0, 1) := by decide +kernel
theorem dX3_init_1 : decode cX3_init 1 = .ok (.invokespecial 3, 3) := by decide +kernel
theorem dX3_init_4 : decode cX3_init 4 = .ok (.aload_n 0, 1) := by decide +kernel
theorem dX3_init_5 : decode cX3_init 5 = .ok (.bipush 6, 2) := by decide +kernel
theorem dX3_init_7 : decode cX3_init 7 = .ok (.newarray .int, 2) := by decide +kernel
theorem dX3_init_9 : decode cX3_init 9 = .ok (.putfield 9, 3) := by decide +kernel
theorem dX3_init_12 : decode cX3_init 12 = .ok (.aload_n 0, 1) := by decide +kernel
theorem dX3_init_13 : decode cX3_init 13 = .ok (.bipush 6, 2) := by decide +kernel
theorem dX3_init_15 : decode cX3_init 15 = .ok (.newarray .int, 2) := by decide +kernel
theorem dX3_init_17 : decode cX3_init 17 = .ok (.putfield 15, 3) := by decide +kernel
theorem dX3_init_20 : decode cX3_init 20 = .ok (.aload_n 0, 1) := by decide +kernel
theorem dX3_init_21 : decode cX3_init 21 = .ok (.bipush 6, 2) := by decide +kernel
theorem dX3_init_23 : decode cX3_init 23 = .ok (.newarray .int, 2) := by decide +kernel
theorem dX3_init_25 : decode cX3_init 25 = .ok (.putfield 18, 3) := by decide +kernel
theorem dX3_init_28 : decode cX3_init 28 = .ok (.aload_n 0, 1) := by decide +kernel
theorem dX3_init_29 : decode cX3_init 29 = .ok (.iconst 0, 1) := by decide +kernel
theorem dX3_init_30 : decode cX3_init 30 = .ok (.putfield 21, 3) := by decide +kernel
theorem dX3_init_33 : decode cX3_init 33 = .ok (.return_, 1) := by decide +kernel
theorem dX3_append_0 : decode cX3_append 0 = .ok (.aload_n 0, 1) := by decide +kernel
theorem dX3_append_1 : decode cX3_append 1 = .ok (.getfield 9, 3) := by decide +kernel
theorem dX3_append_4 : decode cX3_append 4 = .ok (.aload_n 0, 1) := by decide +kernel
theorem dX3_append_5 : decode cX3_append 5 = .ok (.getfield 21, 3) := by decide +kernel
theorem dX3_append_8 : decode cX3_append 8 = .ok (.iload_n 1, 1) := by decide +kernel
theorem dX3_append_9 : decode cX3_append 9 = .ok (.invokestatic 25, 3) := by decide +kernel
theorem dX3_append_12 : decode cX3_append 12 = .ok (.aload_n 0, 1) := by decide +kernel
theorem dX3_append_13 : decode cX3_append 13 = .ok (.getfield 15, 3) := by decide +kernel
theorem dX3_append_16 : decode cX3_append 16 = .ok (.aload_n 0, 1) := by decide +kernel
theorem dX3_append_17 : decode cX3_append 17 = .ok (.getfield 21, 3) := by decide +kernel
theorem dX3_append_20 : decode cX3_append 20 = .ok (.iload_n 2, 1) := by decide +kernel
theorem dX3_append_21 : decode cX3_append 21 = .ok (.invokestatic 25, 3) := by decide +kernel
theorem dX3_append_24 : decode cX3_append 24 = .ok (.aload_n 0, 1) := by decide +kernel
theorem dX3_append_25 : decode cX3_append 25 = .ok (.getfield 18, 3) := by decide +kernel
theorem dX3_append_28 : decode cX3_append 28 = .ok (.aload_n 0, 1) := by decide +kernel
theorem dX3_append_29 : decode cX3_append 29 = .ok (.getfield 21, 3) := by decide +kernel
theorem dX3_append_32 : decode cX3_append 32 = .ok (.iload_n 3, 1) := by decide +kernel
theorem dX3_append_33 : decode cX3_append 33 = .ok (.ifCond .eq 7, 3) := by decide +kernel
theorem dX3_append_36 : decode cX3_append 36 = .ok (.iconst 1, 1) := by decide +kernel
theorem dX3_append_37 : decode cX3_append 37 = .ok (.goto 4, 3) := by decide +kernel
theorem dX3_append_40 : decode cX3_append 40 = .ok (.iconst 0, 1) := by decide +kernel
theorem dX3_append_41 : decode cX3_append 41 = .ok (.invokestatic 25, 3) := by decide +kernel
theorem dX3_append_44 : decode cX3_append 44 = .ok (.aload_n 0, 1) := by decide +kernel
end
section
theorem dX3_append_45 : decode cX3_append 45 = .ok (.dup, 1) := by decide +kernel
theorem dX3_append_46 : decode cX3_append 46 = .ok (.getfield 21, 3) := by decide +kernel
theorem dX3_append_49 : decode cX3_append 49 = .ok (.iconst 1, 1) := by decide +kernel
theorem dX3_append_50 : decode cX3_append 50 = .ok (.iadd, 1) := by decide +kernel
theorem dX3_append_51 : decode cX3_append 51 = .ok (.putfield 21, 3) := by decide +kernel
theorem dX3_append_54 : decode cX3_append 54 = .ok (.return_, 1) := by decide +kernel
theorem dX3_copyFrom_0 : decode cX3_copyFrom 0 = .ok (.aload_n 1, 1) := by decide +kernel
theorem dX3_copyFrom_1 : decode cX3_copyFrom 1 = .ok (.getfield 9, 3) := by decide +kernel
theorem dX3_copyFrom_4 : decode cX3_copyFrom 4 = .ok (.aload_n 0, 1) := by decide +kernel
theorem dX3_copyFrom_5 : decode cX3_copyFrom 5 = .ok (.getfield 9, 3) := by decide +kernel
theorem dX3_copyFrom_8 : decode cX3_copyFrom 8 = .ok (.invokestatic 29, 3) := by decide +kernel
theorem dX3_copyFrom_11 : decode cX3_copyFrom 11 = .ok (.aload_n 1, 1) := by decide +kernel
theorem dX3_copyFrom_12 : decode cX3_copyFrom 12 = .ok (.getfield 15, 3) := by decide +kernel
theorem dX3_copyFrom_15 : decode cX3_copyFrom 15 = .ok (.aload_n 0, 1) := by decide +kernel
theorem dX3_copyFrom_16 : decode cX3_copyFrom 16 = .ok (.getfield 15, 3) := by decide +kernel
theorem dX3_copyFrom_19 : decode cX3_copyFrom 19 = .ok (.invokestatic 29, 3) := by decide +kernel
theorem dX3_copyFrom_22 : decode cX3_copyFrom 22 = .ok (.aload_n 1, 1) := by decide +kernel
theorem dX3_copyFrom_23 : decode cX3_copyFrom 23 = .ok (.getfield 18, 3) := by decide +kernel
theorem dX3_copyFrom_26 : decode cX3_copyFrom 26 = .ok (.aload_n 0, 1) := by decide +kernel
theorem dX3_copyFrom_27 : decode cX3_copyFrom 27 = .ok (.getfield 18, 3) := by decide +kernel
theorem dX3_copyFrom_30 : decode cX3_copyFrom 30 = .ok (.invokestatic 29, 3) := by decide +kernel
theorem dX3_copyFrom_33 : decode cX3_copyFrom 33 = .ok (.aload_n 0, 1) := by decide +kernel
theorem dX3_copyFrom_34 : decode cX3_copyFrom 34 = .ok (.aload_n 1, 1) := by decide +kernel
theorem dX3_copyFrom_35 : decode cX3_copyFrom 35 = .ok (.getfield 21, 3) := by decide +kernel
theorem dX3_copyFrom_38 : decode cX3_copyFrom 38 = .ok (.putfield 21, 3) := by decide +kernel
theorem dX3_copyFrom_41 : decode cX3_copyFrom 41 = .ok (.return_, 1) := by decide +kernel
theorem dX3_allowKind_0 : decode cX3_allowKind 0 = .ok (.iconst 0, 1) := by decide +kernel
theorem dX3_allowKind_1 : decode cX3_allowKind 1 = .ok (.istore_n 3, 1) := by decide +kernel
theorem dX3_allowKind_2 : decode cX3_allowKind 2 = .ok (.iload_n 3, 1) := by decide +kernel
theorem dX3_allowKind_3 : decode cX3_allowKind 3 = .ok (.aload_n 0, 1) := by decide +kernel
theorem dX3_allowKind_4 : decode cX3_allowKind 4 = .ok (.getfield 21, 3) := by decide +kernel
theorem dX3_allowKind_7 : decode cX3_allowKind 7 = .ok (.if_icmp .ge 59, 3) := by decide +kernel
theorem dX3_allowKind_10 : decode cX3_allowKind 10 = .ok (.aload_n 0, 1) := by decide +kernel
theorem dX3_allowKind_11 : decode cX3_allowKind 11 = .ok (.getfield 18, 3) := by decide +kernel
theorem dX3_allowKind_14 : decode cX3_allowKind 14 = .ok (.iload_n 3, 1) := by decide +kernel
theorem dX3_allowKind_15 : decode cX3_allowKind 15 = .ok (.invokestatic 33, 3) := by decide +kernel
theorem dX3_allowKind_18 : decode cX3_allowKind 18 = .ok (.iconst 1, 1) := by decide +kernel
theorem dX3_allowKind_19 : decode cX3_allowKind 19 = .ok (.if_icmp .ne 7, 3) := by decide +kernel
theorem dX3_allowKind_22 : decode cX3_allowKind 22 = .ok (.iconst 1, 1) := by decide +kernel
theorem dX3_allowKind_23 : decode cX3_allowKind 23 = .ok (.goto 4, 3) := by decide +kernel
theorem dX3_allowKind_26 : decode cX3_allowKind 26 = .ok (.iconst 0, 1) := by decide +kernel
theorem dX3_allowKind_27 : decode cX3_allowKind 27 = .ok (.istore 4, 2) := by decide +kernel
theorem dX3_allowKind_29 : decode cX3_allowKind 29 = .ok (.aload_n 0, 1) := by decide +kernel
theorem dX3_allowKind_30 : decode cX3_allowKind 30 = .ok (.getfield 9, 3) := by decide +kernel
theorem dX3_allowKind_33 : decode cX3_allowKind 33 = .ok (.iload_n 3, 1) := by decide +kernel
theorem dX3_allowKind_34 : decode cX3_allowKind 34 = .ok (.invokestatic 33, 3) := by decide +kernel
theorem dX3_allowKind_37 : decode cX3_allowKind 37 = .ok (.iload_n 1, 1) := by decide +kernel
theorem dX3_allowKind_38 : decode cX3_allowKind 38 = .ok (.if_icmp .ne 22, 3) := by decide +kernel
theorem dX3_allowKind_41 : decode cX3_allowKind 41 = .ok (.iload_n 2, 1) := by decide +kernel
theorem dX3_allowKind_42 : decode cX3_allowKind 42 = .ok (.aload_n 0, 1) := by decide +kernel
theorem dX3_allowKind_43 : decode cX3_allowKind 43 = .ok (.getfield 15, 3) := by decide +kernel
theorem dX3_allowKind_46 : decode cX3_allowKind 46 = .ok (.iload_n 3, 1) := by decide +kernel
theorem dX3_allowKind_47 : decode cX3_allowKind 47 = .ok (.invokestatic 33, 3) := by decide +kernel
theorem dX3_allowKind_50 : decode cX3_allowKind 50 = .ok (.invokestatic 37, 3) := by decide +kernel
theorem dX3_allowKind_53 : decode cX3_allowKind 53 = .ok (.iload 4, 2) := by decide +kernel
theorem dX3_allowKind_55 : decode cX3_allowKind 55 = .ok (.if_icmp .eq 5, 3) := by decide +kernel
theorem dX3_allowKind_58 : decode cX3_allowKind 58 = .ok (.iconst 0, 1) := by decide +kernel
theorem dX3_allowKind_59 : decode cX3_allowKind 59 = .ok (.ireturn, 1) := by decide +kernel
theorem dX3_allowKind_60 : decode cX3_allowKind 60 = .ok (.iinc 3 1, 3) := by decide +kernel
theorem dX3_allowKind_63 : decode cX3_allowKind 63 = .ok (.goto (-61), 3) := by decide +kernel
theorem dX3_allowKind_66 : decode cX3_allowKind 66 = .ok (.iconst 1, 1) := by decide +kernel
theorem dX3_allowKind_67 : decode cX3_allowKind 67 = .ok (.ireturn, 1) := by decide +kernel
theorem dX3_sorts_0 : decode cX3_sorts 0 = .ok (.iconst 0, 1) := by decide +kernel
theorem dX3_sorts_1 : decode cX3_sorts 1 = .ok (.istore_n 2, 1) := by decide +kernel
theorem dX3_sorts_2 : decode cX3_sorts 2 = .ok (.iconst 0, 1) := by decide +kernel
theorem dX3_sorts_3 : decode cX3_sorts 3 = .ok (.istore_n 3, 1) := by decide +kernel
theorem dX3_sorts_4 : decode cX3_sorts 4 = .ok (.iload_n 3, 1) := by decide +kernel
theorem dX3_sorts_5 : decode cX3_sorts 5 = .ok (.iconst 5, 1) := by decide +kernel
theorem dX3_sorts_6 : decode cX3_sorts 6 = .ok (.if_icmp .ge 28, 3) := by decide +kernel
theorem dX3_sorts_9 : decode cX3_sorts 9 = .ok (.iload_n 2, 1) := by decide +kernel
theorem dX3_sorts_10 : decode cX3_sorts 10 = .ok (.aload_n 0, 1) := by decide +kernel
theorem dX3_sorts_11 : decode cX3_sorts 11 = .ok (.iload_n 1, 1) := by decide +kernel
theorem dX3_sorts_12 : decode cX3_sorts 12 = .ok (.iload_n 3, 1) := by decide +kernel
theorem dX3_sorts_13 : decode cX3_sorts 13 = .ok (.invokevirtual 41, 3) := by decide +kernel
theorem dX3_sorts_16 : decode cX3_sorts 16 = .ok (.ifCond .eq 9, 3) := by decide +kernel
theorem dX3_sorts_19 : decode cX3_sorts 19 = .ok (.iconst 1, 1) := by decide +kernel
theorem dX3_sorts_20 : decode cX3_sorts 20 = .ok (.iload_n 3, 1) := by decide +kernel
theorem dX3_sorts_21 : decode cX3_sorts 21 = .ok (.ishl, 1) := by decide +kernel
theorem dX3_sorts_22 : decode cX3_sorts 22 = .ok (.goto 4, 3) := by decide +kernel
theorem dX3_sorts_25 : decode cX3_sorts 25 = .ok (.iconst 0, 1) := by decide +kernel
theorem dX3_sorts_26 : decode cX3_sorts 26 = .ok (.ior, 1) := by decide +kernel
theorem dX3_sorts_27 : decode cX3_sorts 27 = .ok (.istore_n 2, 1) := by decide +kernel
theorem dX3_sorts_28 : decode cX3_sorts 28 = .ok (.iinc 3 1, 3) := by decide +kernel
theorem dX3_sorts_31 : decode cX3_sorts 31 = .ok (.goto (-27), 3) := by decide +kernel
theorem dX3_sorts_34 : decode cX3_sorts 34 = .ok (.iload_n 2, 1) := by decide +kernel
theorem dX3_sorts_35 : decode cX3_sorts 35 = .ok (.ireturn, 1) := by decide +kernel
theorem dX3_bestRoleToAsk_0 : decode cX3_bestRoleToAsk 0 = .ok (.aload_n 0, 1) := by decide +kernel
theorem dX3_bestRoleToAsk_1 : decode cX3_bestRoleToAsk 1 = .ok (.iload_n 1, 1) := by decide +kernel
theorem dX3_bestRoleToAsk_2 : decode cX3_bestRoleToAsk 2 = .ok (.invokevirtual 44, 3) := by decide +kernel
theorem dX3_bestRoleToAsk_5 : decode cX3_bestRoleToAsk 5 = .ok (.istore_n 2, 1) := by decide +kernel
theorem dX3_bestRoleToAsk_6 : decode cX3_bestRoleToAsk 6 = .ok (.iconst (-1), 1) := by decide +kernel
theorem dX3_bestRoleToAsk_7 : decode cX3_bestRoleToAsk 7 = .ok (.istore_n 3, 1) := by decide +kernel
theorem dX3_bestRoleToAsk_8 : decode cX3_bestRoleToAsk 8 = .ok (.iload_n 2, 1) := by decide +kernel
theorem dX3_bestRoleToAsk_9 : decode cX3_bestRoleToAsk 9 = .ok (.ifCond .ne 7, 3) := by decide +kernel
theorem dX3_bestRoleToAsk_12 : decode cX3_bestRoleToAsk 12 = .ok (.iconst 0, 1) := by decide +kernel
theorem dX3_bestRoleToAsk_13 : decode cX3_bestRoleToAsk 13 = .ok (.goto 5, 3) := by decide +kernel
theorem dX3_bestRoleToAsk_16 : decode cX3_bestRoleToAsk 16 = .ok (.bipush 6, 2) := by decide +kernel
theorem dX3_bestRoleToAsk_18 : decode cX3_bestRoleToAsk 18 = .ok (.istore 4, 2) := by decide +kernel
theorem dX3_bestRoleToAsk_20 : decode cX3_bestRoleToAsk 20 = .ok (.iconst 0, 1) := by decide +kernel
theorem dX3_bestRoleToAsk_21 : decode cX3_bestRoleToAsk 21 = .ok (.istore 5, 2) := by decide +kernel
theorem dX3_bestRoleToAsk_23 : decode cX3_bestRoleToAsk 23 = .ok (.iload 5, 2) := by decide +kernel
theorem dX3_bestRoleToAsk_25 : decode cX3_bestRoleToAsk 25 = .ok (.iconst 3, 1) := by decide +kernel
theorem dX3_bestRoleToAsk_26 : decode cX3_bestRoleToAsk 26 = .ok (.if_icmp .ge 32, 3) := by decide +kernel
theorem dX3_bestRoleToAsk_29 : decode cX3_bestRoleToAsk 29 = .ok (.aload_n 0, 1) := by decide +kernel
theorem dX3_bestRoleToAsk_30 : decode cX3_bestRoleToAsk 30 = .ok (.iload_n 2, 1) := by decide +kernel
theorem dX3_bestRoleToAsk_31 : decode cX3_bestRoleToAsk 31 = .ok (.iload 5, 2) := by decide +kernel
theorem dX3_bestRoleToAsk_33 : decode cX3_bestRoleToAsk 33 = .ok (.invokevirtual 48, 3) := by decide +kernel
theorem dX3_bestRoleToAsk_36 : decode cX3_bestRoleToAsk 36 = .ok (.istore 6, 2) := by decide +kernel
theorem dX3_bestRoleToAsk_38 : decode cX3_bestRoleToAsk 38 = .ok (.iload 6, 2) := by decide +kernel
theorem dX3_bestRoleToAsk_40 : decode cX3_bestRoleToAsk 40 = .ok (.iload 4, 2) := by decide +kernel
theorem dX3_bestRoleToAsk_42 : decode cX3_bestRoleToAsk 42 = .ok (.if_icmp .ge 10, 3) := by decide +kernel
theorem dX3_bestRoleToAsk_45 : decode cX3_bestRoleToAsk 45 = .ok (.iload 6, 2) := by decide +kernel
theorem dX3_bestRoleToAsk_47 : decode cX3_bestRoleToAsk 47 = .ok (.istore 4, 2) := by decide +kernel
theorem dX3_bestRoleToAsk_49 : decode cX3_bestRoleToAsk 49 = .ok (.iload 5, 2) := by decide +kernel
theorem dX3_bestRoleToAsk_51 : decode cX3_bestRoleToAsk 51 = .ok (.istore_n 3, 1) := by decide +kernel
theorem dX3_bestRoleToAsk_52 : decode cX3_bestRoleToAsk 52 = .ok (.iinc 5 1, 3) := by decide +kernel
theorem dX3_bestRoleToAsk_55 : decode cX3_bestRoleToAsk 55 = .ok (.goto (-32), 3) := by decide +kernel
theorem dX3_bestRoleToAsk_58 : decode cX3_bestRoleToAsk 58 = .ok (.iload_n 3, 1) := by decide +kernel
theorem dX3_bestRoleToAsk_59 : decode cX3_bestRoleToAsk 59 = .ok (.ireturn, 1) := by decide +kernel
theorem dX3_leftAtWorst_0 : decode cX3_leftAtWorst 0 = .ok (.iconst 0, 1) := by decide +kernel
theorem dX3_leftAtWorst_1 : decode cX3_leftAtWorst 1 = .ok (.istore_n 3, 1) := by decide +kernel
theorem dX3_leftAtWorst_2 : decode cX3_leftAtWorst 2 = .ok (.iconst 0, 1) := by decide +kernel
theorem dX3_leftAtWorst_3 : decode cX3_leftAtWorst 3 = .ok (.istore 4, 2) := by decide +kernel
theorem dX3_leftAtWorst_5 : decode cX3_leftAtWorst 5 = .ok (.iconst 0, 1) := by decide +kernel
theorem dX3_leftAtWorst_6 : decode cX3_leftAtWorst 6 = .ok (.istore 5, 2) := by decide +kernel
theorem dX3_leftAtWorst_8 : decode cX3_leftAtWorst 8 = .ok (.iload 5, 2) := by decide +kernel
theorem dX3_leftAtWorst_10 : decode cX3_leftAtWorst 10 = .ok (.iconst 5, 1) := by decide +kernel
theorem dX3_leftAtWorst_11 : decode cX3_leftAtWorst 11 = .ok (.if_icmp .ge 41, 3) := by decide +kernel
theorem dX3_leftAtWorst_14 : decode cX3_leftAtWorst 14 = .ok (.iload_n 1, 1) := by decide +kernel
theorem dX3_leftAtWorst_15 : decode cX3_leftAtWorst 15 = .ok (.iload 5, 2) := by decide +kernel
theorem dX3_leftAtWorst_17 : decode cX3_leftAtWorst 17 = .ok (.ishr, 1) := by decide +kernel
theorem dX3_leftAtWorst_18 : decode cX3_leftAtWorst 18 = .ok (.iconst 1, 1) := by decide +kernel
theorem dX3_leftAtWorst_19 : decode cX3_leftAtWorst 19 = .ok (.iand, 1) := by decide +kernel
theorem dX3_leftAtWorst_20 : decode cX3_leftAtWorst 20 = .ok (.istore 6, 2) := by decide +kernel
theorem dX3_leftAtWorst_22 : decode cX3_leftAtWorst 22 = .ok (.iload 5, 2) := by decide +kernel
theorem dX3_leftAtWorst_24 : decode cX3_leftAtWorst 24 = .ok (.iload_n 2, 1) := by decide +kernel
theorem dX3_leftAtWorst_25 : decode cX3_leftAtWorst 25 = .ok (.invokestatic 37, 3) := by decide +kernel
theorem dX3_leftAtWorst_28 : decode cX3_leftAtWorst 28 = .ok (.ifCond .eq 11, 3) := by decide +kernel
theorem dX3_leftAtWorst_31 : decode cX3_leftAtWorst 31 = .ok (.iload_n 3, 1) := by decide +kernel
theorem dX3_leftAtWorst_32 : decode cX3_leftAtWorst 32 = .ok (.iload 6, 2) := by decide +kernel
theorem dX3_leftAtWorst_34 : decode cX3_leftAtWorst 34 = .ok (.iadd, 1) := by decide +kernel
theorem dX3_leftAtWorst_35 : decode cX3_leftAtWorst 35 = .ok (.istore_n 3, 1) := by decide +kernel
theorem dX3_leftAtWorst_36 : decode cX3_leftAtWorst 36 = .ok (.goto 10, 3) := by decide +kernel
theorem dX3_leftAtWorst_39 : decode cX3_leftAtWorst 39 = .ok (.iload 4, 2) := by decide +kernel
theorem dX3_leftAtWorst_41 : decode cX3_leftAtWorst 41 = .ok (.iload 6, 2) := by decide +kernel
theorem dX3_leftAtWorst_43 : decode cX3_leftAtWorst 43 = .ok (.iadd, 1) := by decide +kernel
theorem dX3_leftAtWorst_44 : decode cX3_leftAtWorst 44 = .ok (.istore 4, 2) := by decide +kernel
theorem dX3_leftAtWorst_46 : decode cX3_leftAtWorst 46 = .ok (.iinc 5 1, 3) := by decide +kernel
theorem dX3_leftAtWorst_49 : decode cX3_leftAtWorst 49 = .ok (.goto (-41), 3) := by decide +kernel
theorem dX3_leftAtWorst_52 : decode cX3_leftAtWorst 52 = .ok (.iload_n 3, 1) := by decide +kernel
theorem dX3_leftAtWorst_53 : decode cX3_leftAtWorst 53 = .ok (.iload 4, 2) := by decide +kernel
theorem dX3_leftAtWorst_55 : decode cX3_leftAtWorst 55 = .ok (.invokestatic 52, 3) := by decide +kernel
theorem dX3_leftAtWorst_58 : decode cX3_leftAtWorst 58 = .ok (.ireturn, 1) := by decide +kernel
theorem dX4_init_0 : decode cX4_init 0 = .ok (.aload_n 0, 1) := by decide +kernel
theorem dX4_init_1 : decode cX4_init 1 = .ok (.invokespecial 1, 3) := by decide +kernel
theorem dX4_init_4 : decode cX4_init 4 = .ok (.aload_n 0, 1) := by decide +kernel
theorem dX4_init_5 : decode cX4_init 5 = .ok (.new 7, 3) := by decide +kernel
theorem dX4_init_8 : decode cX4_init 8 = .ok (.dup, 1) := by decide +kernel
theorem dX4_init_9 : decode cX4_init 9 = .ok (.invokespecial 9, 3) := by decide +kernel
theorem dX4_init_12 : decode cX4_init 12 = .ok (.putfield 10, 3) := by decide +kernel
theorem dX4_init_15 : decode cX4_init 15 = .ok (.aload_n 0, 1) := by decide +kernel
theorem dX4_init_16 : decode cX4_init 16 = .ok (.new 16, 3) := by decide +kernel
theorem dX4_init_19 : decode cX4_init 19 = .ok (.dup, 1) := by decide +kernel
theorem dX4_init_20 : decode cX4_init 20 = .ok (.invokespecial 18, 3) := by decide +kernel
theorem dX4_init_23 : decode cX4_init 23 = .ok (.putfield 19, 3) := by decide +kernel
theorem dX4_init_26 : decode cX4_init 26 = .ok (.aload_n 0, 1) := by decide +kernel
theorem dX4_init_27 : decode cX4_init 27 = .ok (.new 23, 3) := by decide +kernel
theorem dX4_init_30 : decode cX4_init 30 = .ok (.dup, 1) := by decide +kernel
theorem dX4_init_31 : decode cX4_init 31 = .ok (.invokespecial 25, 3) := by decide +kernel
theorem dX4_init_34 : decode cX4_init 34 = .ok (.putfield 26, 3) := by decide +kernel
theorem dX4_init_37 : decode cX4_init 37 = .ok (.aload_n 0, 1) := by decide +kernel
theorem dX4_init_38 : decode cX4_init 38 = .ok (.new 30, 3) := by decide +kernel
theorem dX4_init_41 : decode cX4_init 41 = .ok (.dup, 1) := by decide +kernel
theorem dX4_init_42 : decode cX4_init 42 = .ok (.aload_n 0, 1) := by decide +kernel
theorem dX4_init_43 : decode cX4_init 43 = .ok (.getfield 19, 3) := by decide +kernel
theorem dX4_init_46 : decode cX4_init 46 = .ok (.invokespecial 32, 3) := by decide +kernel
theorem dX4_init_49 : decode cX4_init 49 = .ok (.putfield 35, 3) := by decide +kernel
theorem dX4_init_52 : decode cX4_init 52 = .ok (.aload_n 0, 1) := by decide +kernel
theorem dX4_init_53 : decode cX4_init 53 = .ok (.new 16, 3) := by decide +kernel
theorem dX4_init_56 : decode cX4_init 56 = .ok (.dup, 1) := by decide +kernel
theorem dX4_init_57 : decode cX4_init 57 = .ok (.invokespecial 18, 3) := by decide +kernel
theorem dX4_init_60 : decode cX4_init 60 = .ok (.putfield 39, 3) := by decide +kernel
theorem dX4_init_63 : decode cX4_init 63 = .ok (.aload_n 0, 1) := by decide +kernel
theorem dX4_init_64 : decode cX4_init 64 = .ok (.new 23, 3) := by decide +kernel
theorem dX4_init_67 : decode cX4_init 67 = .ok (.dup, 1) := by decide +kernel
theorem dX4_init_68 : decode cX4_init 68 = .ok (.invokespecial 25, 3) := by decide +kernel
theorem dX4_init_71 : decode cX4_init 71 = .ok (.putfield 42, 3) := by decide +kernel
theorem dX4_init_74 : decode cX4_init 74 = .ok (.aload_n 0, 1) := by decide +kernel
theorem dX4_init_75 : decode cX4_init 75 = .ok (.iconst 0, 1) := by decide +kernel
theorem dX4_init_76 : decode cX4_init 76 = .ok (.putfield 45, 3) := by decide +kernel
theorem dX4_init_79 : decode cX4_init 79 = .ok (.aload_n 0, 1) := by decide +kernel
theorem dX4_init_80 : decode cX4_init 80 = .ok (.iconst 0, 1) := by decide +kernel
theorem dX4_init_81 : decode cX4_init 81 = .ok (.putfield 49, 3) := by decide +kernel
theorem dX4_init_84 : decode cX4_init 84 = .ok (.return_, 1) := by decide +kernel
theorem dX4_letter_0 : decode cX4_letter 0 = .ok (.iload_n 1, 1) := by decide +kernel
theorem dX4_letter_1 : decode cX4_letter 1 = .ok (.bipush 32, 2) := by decide +kernel
theorem dX4_letter_3 : decode cX4_letter 3 = .ok (.if_icmp .lt 9, 3) := by decide +kernel
theorem dX4_letter_6 : decode cX4_letter 6 = .ok (.iload_n 1, 1) := by decide +kernel
theorem dX4_letter_7 : decode cX4_letter 7 = .ok (.bipush 126, 2) := by decide +kernel
theorem dX4_letter_9 : decode cX4_letter 9 = .ok (.if_icmp .le 6, 3) := by decide +kernel
theorem dX4_letter_12 : decode cX4_letter 12 = .ok (.bipush (-102), 2) := by decide +kernel
theorem dX4_letter_14 : decode cX4_letter 14 = .ok (.ireturn, 1) := by decide +kernel
theorem dX4_letter_15 : decode cX4_letter 15 = .ok (.aload_n 0, 1) := by decide +kernel
theorem dX4_letter_16 : decode cX4_letter 16 = .ok (.getfield 10, 3) := by decide +kernel
theorem dX4_letter_19 : decode cX4_letter 19 = .ok (.getfield 53, 3) := by decide +kernel
theorem dX4_letter_22 : decode cX4_letter 22 = .ok (.bipush 26, 2) := by decide +kernel
theorem dX4_letter_24 : decode cX4_letter 24 = .ok (.if_icmp .lt 6, 3) := by decide +kernel
theorem dX4_letter_27 : decode cX4_letter 27 = .ok (.bipush (-104), 2) := by decide +kernel
theorem dX4_letter_29 : decode cX4_letter 29 = .ok (.ireturn, 1) := by decide +kernel
theorem dX4_letter_30 : decode cX4_letter 30 = .ok (.aload_n 0, 1) := by decide +kernel
theorem dX4_letter_31 : decode cX4_letter 31 = .ok (.getfield 10, 3) := by decide +kernel
theorem dX4_letter_34 : decode cX4_letter 34 = .ok (.iload_n 1, 1) := by decide +kernel
theorem dX4_letter_35 : decode cX4_letter 35 = .ok (.invokevirtual 56, 3) := by decide +kernel
theorem dX4_letter_38 : decode cX4_letter 38 = .ok (.aload_n 0, 1) := by decide +kernel
theorem dX4_letter_39 : decode cX4_letter 39 = .ok (.getfield 10, 3) := by decide +kernel
theorem dX4_letter_42 : decode cX4_letter 42 = .ok (.getfield 53, 3) := by decide +kernel
theorem dX4_letter_45 : decode cX4_letter 45 = .ok (.ireturn, 1) := by decide +kernel
theorem dX4_blank_0 : decode cX4_blank 0 = .ok (.aload_n 0, 1) := by decide +kernel
theorem dX4_blank_1 : decode cX4_blank 1 = .ok (.getfield 10, 3) := by decide +kernel
theorem dX4_blank_4 : decode cX4_blank 4 = .ok (.getfield 53, 3) := by decide +kernel
theorem dX4_blank_7 : decode cX4_blank 7 = .ok (.istore_n 1, 1) := by decide +kernel
theorem dX4_blank_8 : decode cX4_blank 8 = .ok (.aload_n 0, 1) := by decide +kernel
theorem dX4_blank_9 : decode cX4_blank 9 = .ok (.getfield 10, 3) := by decide +kernel
theorem dX4_blank_12 : decode cX4_blank 12 = .ok (.iconst 0, 1) := by decide +kernel
theorem dX4_blank_13 : decode cX4_blank 13 = .ok (.putfield 53, 3) := by decide +kernel
theorem dX4_blank_16 : decode cX4_blank 16 = .ok (.iload_n 1, 1) := by decide +kernel
theorem dX4_blank_17 : decode cX4_blank 17 = .ok (.ireturn, 1) := by decide +kernel
theorem dX4_fault_0 : decode cX4_fault 0 = .ok (.aload_n 0, 1) := by decide +kernel
theorem dX4_fault_1 : decode cX4_fault 1 = .ok (.getfield 10, 3) := by decide +kernel
theorem dX4_fault_4 : decode cX4_fault 4 = .ok (.invokevirtual 60, 3) := by decide +kernel
theorem dX4_fault_7 : decode cX4_fault 7 = .ok (.ireturn, 1) := by decide +kernel
theorem dX4_board_0 : decode cX4_board 0 = .ok (.aload_n 0, 1) := by decide +kernel
theorem dX4_board_1 : decode cX4_board 1 = .ok (.getfield 10, 3) := by decide +kernel
theorem dX4_board_4 : decode cX4_board 4 = .ok (.invokevirtual 64, 3) := by decide +kernel
theorem dX4_board_7 : decode cX4_board 7 = .ok (.ifCond .ne 6, 3) := by decide +kernel
theorem dX4_board_10 : decode cX4_board 10 = .ok (.bipush (-103), 2) := by decide +kernel
theorem dX4_board_12 : decode cX4_board 12 = .ok (.ireturn, 1) := by decide +kernel
theorem dX4_board_13 : decode cX4_board 13 = .ok (.aload_n 0, 1) := by decide +kernel
theorem dX4_board_14 : decode cX4_board 14 = .ok (.getfield 19, 3) := by decide +kernel
theorem dX4_board_17 : decode cX4_board 17 = .ok (.aload_n 0, 1) := by decide +kernel
theorem dX4_board_18 : decode cX4_board 18 = .ok (.getfield 10, 3) := by decide +kernel
theorem dX4_board_21 : decode cX4_board 21 = .ok (.invokevirtual 68, 3) := by decide +kernel
theorem dX4_board_24 : decode cX4_board 24 = .ok (.aload_n 0, 1) := by decide +kernel
theorem dX4_board_25 : decode cX4_board 25 = .ok (.getfield 10, 3) := by decide +kernel
theorem dX4_board_28 : decode cX4_board 28 = .ok (.iconst 0, 1) := by decide +kernel
theorem dX4_board_29 : decode cX4_board 29 = .ok (.putfield 53, 3) := by decide +kernel
theorem dX4_board_32 : decode cX4_board 32 = .ok (.aload_n 0, 1) := by decide +kernel
theorem dX4_board_33 : decode cX4_board 33 = .ok (.getfield 26, 3) := by decide +kernel
theorem dX4_board_36 : decode cX4_board 36 = .ok (.iconst 0, 1) := by decide +kernel
theorem dX4_board_37 : decode cX4_board 37 = .ok (.putfield 72, 3) := by decide +kernel
theorem dX4_board_40 : decode cX4_board 40 = .ok (.aload_n 0, 1) := by decide +kernel
theorem dX4_board_41 : decode cX4_board 41 = .ok (.getfield 35, 3) := by decide +kernel
theorem dX4_board_44 : decode cX4_board 44 = .ok (.iconst 1, 1) := by decide +kernel
theorem dX4_board_45 : decode cX4_board 45 = .ok (.putfield 75, 3) := by decide +kernel
theorem dX4_board_48 : decode cX4_board 48 = .ok (.aload_n 0, 1) := by decide +kernel
theorem dX4_board_49 : decode cX4_board 49 = .ok (.iconst 0, 1) := by decide +kernel
theorem dX4_board_50 : decode cX4_board 50 = .ok (.putfield 45, 3) := by decide +kernel
theorem dX4_board_53 : decode cX4_board 53 = .ok (.aload_n 0, 1) := by decide +kernel
theorem dX4_board_54 : decode cX4_board 54 = .ok (.dup, 1) := by decide +kernel
theorem dX4_board_55 : decode cX4_board 55 = .ok (.getfield 49, 3) := by decide +kernel
theorem dX4_board_58 : decode cX4_board 58 = .ok (.iconst 1, 1) := by decide +kernel
theorem dX4_board_59 : decode cX4_board 59 = .ok (.iadd, 1) := by decide +kernel
theorem dX4_board_60 : decode cX4_board 60 = .ok (.putfield 49, 3) := by decide +kernel
theorem dX4_board_63 : decode cX4_board 63 = .ok (.aload_n 0, 1) := by decide +kernel
theorem dX4_board_64 : decode cX4_board 64 = .ok (.getfield 19, 3) := by decide +kernel
theorem dX4_board_67 : decode cX4_board 67 = .ok (.getfield 78, 3) := by decide +kernel
theorem dX4_board_70 : decode cX4_board 70 = .ok (.ireturn, 1) := by decide +kernel
theorem dX4_number_0 : decode cX4_number 0 = .ok (.aload_n 0, 1) := by decide +kernel
theorem dX4_number_1 : decode cX4_number 1 = .ok (.getfield 19, 3) := by decide +kernel
theorem dX4_number_4 : decode cX4_number 4 = .ok (.iload_n 1, 1) := by decide +kernel
theorem dX4_number_5 : decode cX4_number 5 = .ok (.invokevirtual 81, 3) := by decide +kernel
theorem dX4_number_8 : decode cX4_number 8 = .ok (.ifCond .ne 6, 3) := by decide +kernel
theorem dX4_number_11 : decode cX4_number 11 = .ok (.bipush (-101), 2) := by decide +kernel
theorem dX4_number_13 : decode cX4_number 13 = .ok (.ireturn, 1) := by decide +kernel
theorem dX4_number_14 : decode cX4_number 14 = .ok (.iload_n 2, 1) := by decide +kernel
theorem dX4_number_15 : decode cX4_number 15 = .ok (.tableswitch 111 0 5 #[37, 49, 61, 77, 86, 95], 37) := by decide +kernel
theorem dX4_number_52 : decode cX4_number 52 = .ok (.aload_n 0, 1) := by decide +kernel
theorem dX4_number_53 : decode cX4_number 53 = .ok (.getfield 19, 3) := by decide +kernel
theorem dX4_number_56 : decode cX4_number 56 = .ok (.getfield 85, 3) := by decide +kernel
theorem dX4_number_59 : decode cX4_number 59 = .ok (.iload_n 1, 1) := by decide +kernel
theorem dX4_number_60 : decode cX4_number 60 = .ok (.invokestatic 89, 3) := by decide +kernel
theorem dX4_number_63 : decode cX4_number 63 = .ok (.ireturn, 1) := by decide +kernel
theorem dX4_number_64 : decode cX4_number 64 = .ok (.aload_n 0, 1) := by decide +kernel
theorem dX4_number_65 : decode cX4_number 65 = .ok (.getfield 19, 3) := by decide +kernel
theorem dX4_number_68 : decode cX4_number 68 = .ok (.getfield 93, 3) := by decide +kernel
theorem dX4_number_71 : decode cX4_number 71 = .ok (.iload_n 1, 1) := by decide +kernel
theorem dX4_number_72 : decode cX4_number 72 = .ok (.invokestatic 89, 3) := by decide +kernel
theorem dX4_number_75 : decode cX4_number 75 = .ok (.ireturn, 1) := by decide +kernel
theorem dX4_number_76 : decode cX4_number 76 = .ok (.aload_n 0, 1) := by decide +kernel
theorem dX4_number_77 : decode cX4_number 77 = .ok (.getfield 35, 3) := by decide +kernel
theorem dX4_number_80 : decode cX4_number 80 = .ok (.invokevirtual 96, 3) := by decide +kernel
theorem dX4_number_83 : decode cX4_number 83 = .ok (.aload_n 0, 1) := by decide +kernel
theorem dX4_number_84 : decode cX4_number 84 = .ok (.getfield 35, 3) := by decide +kernel
theorem dX4_number_87 : decode cX4_number 87 = .ok (.iload_n 1, 1) := by decide +kernel
theorem dX4_number_88 : decode cX4_number 88 = .ok (.invokevirtual 99, 3) := by decide +kernel
theorem dX4_number_91 : decode cX4_number 91 = .ok (.ireturn, 1) := by decide +kernel
theorem dX4_number_92 : decode cX4_number 92 = .ok (.aload_n 0, 1) := by decide +kernel
theorem dX4_number_93 : decode cX4_number 93 = .ok (.getfield 26, 3) := by decide +kernel
theorem dX4_number_96 : decode cX4_number 96 = .ok (.iload_n 1, 1) := by decide +kernel
theorem dX4_number_97 : decode cX4_number 97 = .ok (.invokevirtual 103, 3) := by decide +kernel
theorem dX4_number_100 : decode cX4_number 100 = .ok (.ireturn, 1) := by decide +kernel
theorem dX4_number_101 : decode cX4_number 101 = .ok (.aload_n 0, 1) := by decide +kernel
theorem dX4_number_102 : decode cX4_number 102 = .ok (.getfield 26, 3) := by decide +kernel
theorem dX4_number_105 : decode cX4_number 105 = .ok (.iload_n 1, 1) := by decide +kernel
theorem dX4_number_106 : decode cX4_number 106 = .ok (.invokevirtual 106, 3) := by decide +kernel
theorem dX4_number_109 : decode cX4_number 109 = .ok (.ireturn, 1) := by decide +kernel
theorem dX4_number_110 : decode cX4_number 110 = .ok (.aload_n 0, 1) := by decide +kernel
theorem dX4_number_111 : decode cX4_number 111 = .ok (.getfield 19, 3) := by decide +kernel
theorem dX4_number_114 : decode cX4_number 114 = .ok (.aload_n 0, 1) := by decide +kernel
theorem dX4_number_115 : decode cX4_number 115 = .ok (.getfield 19, 3) := by decide +kernel
theorem dX4_number_118 : decode cX4_number 118 = .ok (.getfield 93, 3) := by decide +kernel
theorem dX4_number_121 : decode cX4_number 121 = .ok (.iload_n 1, 1) := by decide +kernel
theorem dX4_number_122 : decode cX4_number 122 = .ok (.invokevirtual 109, 3) := by decide +kernel
theorem dX4_number_125 : decode cX4_number 125 = .ok (.ireturn, 1) := by decide +kernel
theorem dX4_number_126 : decode cX4_number 126 = .ok (.bipush (-102), 2) := by decide +kernel
theorem dX4_number_128 : decode cX4_number 128 = .ok (.ireturn, 1) := by decide +kernel
theorem dX4_as_0 : decode cX4_as 0 = .ok (.aload_n 0, 1) := by decide +kernel
theorem dX4_as_1 : decode cX4_as 1 = .ok (.getfield 19, 3) := by decide +kernel
theorem dX4_as_4 : decode cX4_as 4 = .ok (.iload_n 1, 1) := by decide +kernel
theorem dX4_as_5 : decode cX4_as 5 = .ok (.invokevirtual 81, 3) := by decide +kernel
theorem dX4_as_8 : decode cX4_as 8 = .ok (.ifCond .ne 6, 3) := by decide +kernel
theorem dX4_as_11 : decode cX4_as 11 = .ok (.bipush (-101), 2) := by decide +kernel
theorem dX4_as_13 : decode cX4_as 13 = .ok (.ireturn, 1) := by decide +kernel
theorem dX4_as_14 : decode cX4_as 14 = .ok (.iload_n 2, 1) := by decide +kernel
theorem dX4_as_15 : decode cX4_as 15 = .ok (.invokestatic 112, 3) := by decide +kernel
theorem dX4_as_18 : decode cX4_as 18 = .ok (.ifCond .ne 6, 3) := by decide +kernel
theorem dX4_as_21 : decode cX4_as 21 = .ok (.bipush (-102), 2) := by decide +kernel
theorem dX4_as_23 : decode cX4_as 23 = .ok (.ireturn, 1) := by decide +kernel
theorem dX4_as_24 : decode cX4_as 24 = .ok (.aload_n 0, 1) := by decide +kernel
theorem dX4_as_25 : decode cX4_as 25 = .ok (.getfield 19, 3) := by decide +kernel
theorem dX4_as_28 : decode cX4_as 28 = .ok (.getfield 85, 3) := by decide +kernel
theorem dX4_as_31 : decode cX4_as 31 = .ok (.iload_n 1, 1) := by decide +kernel
theorem dX4_as_32 : decode cX4_as 32 = .ok (.invokestatic 89, 3) := by decide +kernel
theorem dX4_as_35 : decode cX4_as 35 = .ok (.istore_n 3, 1) := by decide +kernel
theorem dX4_as_36 : decode cX4_as 36 = .ok (.iload_n 2, 1) := by decide +kernel
theorem dX4_as_37 : decode cX4_as 37 = .ok (.ifCond .eq 18, 3) := by decide +kernel
theorem dX4_as_40 : decode cX4_as 40 = .ok (.iload_n 2, 1) := by decide +kernel
theorem dX4_as_41 : decode cX4_as 41 = .ok (.iload_n 3, 1) := by decide +kernel
theorem dX4_as_42 : decode cX4_as 42 = .ok (.if_icmp .eq 13, 3) := by decide +kernel
theorem dX4_as_45 : decode cX4_as 45 = .ok (.iload_n 2, 1) := by decide +kernel
theorem dX4_as_46 : decode cX4_as 46 = .ok (.iconst 3, 1) := by decide +kernel
theorem dX4_as_47 : decode cX4_as 47 = .ok (.if_icmp .ne 12, 3) := by decide +kernel
theorem dX4_as_50 : decode cX4_as 50 = .ok (.iload_n 3, 1) := by decide +kernel
theorem dX4_as_51 : decode cX4_as 51 = .ok (.iconst 4, 1) := by decide +kernel
theorem dX4_as_52 : decode cX4_as 52 = .ok (.if_icmp .ne 7, 3) := by decide +kernel
theorem dX4_as_55 : decode cX4_as 55 = .ok (.iconst 1, 1) := by decide +kernel
theorem dX4_as_56 : decode cX4_as 56 = .ok (.goto 4, 3) := by decide +kernel
theorem dX4_as_59 : decode cX4_as 59 = .ok (.iconst 0, 1) := by decide +kernel
theorem dX4_as_60 : decode cX4_as 60 = .ok (.istore 4, 2) := by decide +kernel
theorem dX4_as_62 : decode cX4_as 62 = .ok (.iload 4, 2) := by decide +kernel
theorem dX4_as_64 : decode cX4_as 64 = .ok (.ifCond .eq 7, 3) := by decide +kernel
theorem dX4_as_67 : decode cX4_as 67 = .ok (.iload_n 1, 1) := by decide +kernel
theorem dX4_as_68 : decode cX4_as 68 = .ok (.goto 4, 3) := by decide +kernel
theorem dX4_as_71 : decode cX4_as 71 = .ok (.iconst (-1), 1) := by decide +kernel
theorem dX4_as_72 : decode cX4_as 72 = .ok (.ireturn, 1) := by decide +kernel
theorem dX4_way_0 : decode cX4_way 0 = .ok (.iload_n 1, 1) := by decide +kernel
theorem dX4_way_1 : decode cX4_way 1 = .ok (.ifCond .lt 14, 3) := by decide +kernel
theorem dX4_way_4 : decode cX4_way 4 = .ok (.aload_n 0, 1) := by decide +kernel
theorem dX4_way_5 : decode cX4_way 5 = .ok (.getfield 19, 3) := by decide +kernel
theorem dX4_way_8 : decode cX4_way 8 = .ok (.iload_n 2, 1) := by decide +kernel
theorem dX4_way_9 : decode cX4_way 9 = .ok (.invokevirtual 81, 3) := by decide +kernel
theorem dX4_way_12 : decode cX4_way 12 = .ok (.ifCond .ne 6, 3) := by decide +kernel
theorem dX4_way_15 : decode cX4_way 15 = .ok (.bipush (-101), 2) := by decide +kernel
theorem dX4_way_17 : decode cX4_way 17 = .ok (.ireturn, 1) := by decide +kernel
theorem dX4_way_18 : decode cX4_way 18 = .ok (.aload_n 0, 1) := by decide +kernel
theorem dX4_way_19 : decode cX4_way 19 = .ok (.getfield 35, 3) := by decide +kernel
theorem dX4_way_22 : decode cX4_way 22 = .ok (.invokevirtual 96, 3) := by decide +kernel
theorem dX4_way_25 : decode cX4_way 25 = .ok (.iload_n 1, 1) := by decide +kernel
theorem dX4_way_26 : decode cX4_way 26 = .ok (.aload_n 0, 1) := by decide +kernel
theorem dX4_way_27 : decode cX4_way 27 = .ok (.getfield 35, 3) := by decide +kernel
theorem dX4_way_30 : decode cX4_way 30 = .ok (.getfield 115, 3) := by decide +kernel
theorem dX4_way_33 : decode cX4_way 33 = .ok (.if_icmp .lt 6, 3) := by decide +kernel
theorem dX4_way_36 : decode cX4_way 36 = .ok (.bipush (-101), 2) := by decide +kernel
theorem dX4_way_38 : decode cX4_way 38 = .ok (.ireturn, 1) := by decide +kernel
theorem dX4_way_39 : decode cX4_way 39 = .ok (.aload_n 0, 1) := by decide +kernel
theorem dX4_way_40 : decode cX4_way 40 = .ok (.getfield 35, 3) := by decide +kernel
theorem dX4_way_43 : decode cX4_way 43 = .ok (.iload_n 1, 1) := by decide +kernel
theorem dX4_way_44 : decode cX4_way 44 = .ok (.iload_n 2, 1) := by decide +kernel
theorem dX4_way_45 : decode cX4_way 45 = .ok (.invokevirtual 118, 3) := by decide +kernel
theorem dX4_way_48 : decode cX4_way 48 = .ok (.ireturn, 1) := by decide +kernel
theorem dX4_paint_0 : decode cX4_paint 0 = .ok (.aload_n 0, 1) := by decide +kernel
theorem dX4_paint_1 : decode cX4_paint 1 = .ok (.getfield 19, 3) := by decide +kernel
theorem dX4_paint_4 : decode cX4_paint 4 = .ok (.iload_n 1, 1) := by decide +kernel
theorem dX4_paint_5 : decode cX4_paint 5 = .ok (.invokevirtual 81, 3) := by decide +kernel
theorem dX4_paint_8 : decode cX4_paint 8 = .ok (.ifCond .ne 6, 3) := by decide +kernel
theorem dX4_paint_11 : decode cX4_paint 11 = .ok (.bipush (-101), 2) := by decide +kernel
theorem dX4_paint_13 : decode cX4_paint 13 = .ok (.ireturn, 1) := by decide +kernel
theorem dX4_paint_14 : decode cX4_paint 14 = .ok (.aload_n 0, 1) := by decide +kernel
theorem dX4_paint_15 : decode cX4_paint 15 = .ok (.getfield 19, 3) := by decide +kernel
theorem dX4_paint_18 : decode cX4_paint 18 = .ok (.iload_n 2, 1) := by decide +kernel
theorem dX4_paint_19 : decode cX4_paint 19 = .ok (.invokevirtual 122, 3) := by decide +kernel
theorem dX4_paint_22 : decode cX4_paint 22 = .ok (.ifCond .ne 6, 3) := by decide +kernel
theorem dX4_paint_25 : decode cX4_paint 25 = .ok (.bipush (-102), 2) := by decide +kernel
theorem dX4_paint_27 : decode cX4_paint 27 = .ok (.ireturn, 1) := by decide +kernel
theorem dX4_paint_28 : decode cX4_paint 28 = .ok (.aload_n 0, 1) := by decide +kernel
theorem dX4_paint_29 : decode cX4_paint 29 = .ok (.getfield 19, 3) := by decide +kernel
theorem dX4_paint_32 : decode cX4_paint 32 = .ok (.getfield 125, 3) := by decide +kernel
theorem dX4_paint_35 : decode cX4_paint 35 = .ok (.sipush 999, 3) := by decide +kernel
theorem dX4_paint_38 : decode cX4_paint 38 = .ok (.if_icmp .lt 6, 3) := by decide +kernel
theorem dX4_paint_41 : decode cX4_paint 41 = .ok (.bipush (-104), 2) := by decide +kernel
theorem dX4_paint_43 : decode cX4_paint 43 = .ok (.ireturn, 1) := by decide +kernel
theorem dX4_paint_44 : decode cX4_paint 44 = .ok (.aload_n 0, 1) := by decide +kernel
theorem dX4_paint_45 : decode cX4_paint 45 = .ok (.iload_n 1, 1) := by decide +kernel
theorem dX4_paint_46 : decode cX4_paint 46 = .ok (.iload_n 2, 1) := by decide +kernel
theorem dX4_paint_47 : decode cX4_paint 47 = .ok (.invokevirtual 128, 3) := by decide +kernel
theorem dX4_paint_50 : decode cX4_paint 50 = .ok (.aload_n 0, 1) := by decide +kernel
theorem dX4_paint_51 : decode cX4_paint 51 = .ok (.getfield 19, 3) := by decide +kernel
theorem dX4_paint_54 : decode cX4_paint 54 = .ok (.aload_n 0, 1) := by decide +kernel
theorem dX4_paint_55 : decode cX4_paint 55 = .ok (.getfield 19, 3) := by decide +kernel
theorem dX4_paint_58 : decode cX4_paint 58 = .ok (.getfield 93, 3) := by decide +kernel
theorem dX4_paint_61 : decode cX4_paint 61 = .ok (.invokevirtual 132, 3) := by decide +kernel
theorem dX4_paint_64 : decode cX4_paint 64 = .ok (.ireturn, 1) := by decide +kernel
theorem dX4_wipe_0 : decode cX4_wipe 0 = .ok (.aload_n 0, 1) := by decide +kernel
theorem dX4_wipe_1 : decode cX4_wipe 1 = .ok (.getfield 19, 3) := by decide +kernel
theorem dX4_wipe_4 : decode cX4_wipe 4 = .ok (.iload_n 1, 1) := by decide +kernel
theorem dX4_wipe_5 : decode cX4_wipe 5 = .ok (.invokevirtual 81, 3) := by decide +kernel
theorem dX4_wipe_8 : decode cX4_wipe 8 = .ok (.ifCond .ne 6, 3) := by decide +kernel
theorem dX4_wipe_11 : decode cX4_wipe 11 = .ok (.bipush (-101), 2) := by decide +kernel
theorem dX4_wipe_13 : decode cX4_wipe 13 = .ok (.ireturn, 1) := by decide +kernel
theorem dX4_wipe_14 : decode cX4_wipe 14 = .ok (.aload_n 0, 1) := by decide +kernel
theorem dX4_wipe_15 : decode cX4_wipe 15 = .ok (.getfield 19, 3) := by decide +kernel
theorem dX4_wipe_18 : decode cX4_wipe 18 = .ok (.getfield 93, 3) := by decide +kernel
theorem dX4_wipe_21 : decode cX4_wipe 21 = .ok (.iload_n 1, 1) := by decide +kernel
theorem dX4_wipe_22 : decode cX4_wipe 22 = .ok (.invokestatic 89, 3) := by decide +kernel
theorem dX4_wipe_25 : decode cX4_wipe 25 = .ok (.istore_n 2, 1) := by decide +kernel
theorem dX4_wipe_26 : decode cX4_wipe 26 = .ok (.iload_n 2, 1) := by decide +kernel
theorem dX4_wipe_27 : decode cX4_wipe 27 = .ok (.iconst (-1), 1) := by decide +kernel
theorem dX4_wipe_28 : decode cX4_wipe 28 = .ok (.if_icmp .ne 6, 3) := by decide +kernel
theorem dX4_wipe_31 : decode cX4_wipe 31 = .ok (.bipush (-103), 2) := by decide +kernel
theorem dX4_wipe_33 : decode cX4_wipe 33 = .ok (.ireturn, 1) := by decide +kernel
theorem dX4_wipe_34 : decode cX4_wipe 34 = .ok (.aload_n 0, 1) := by decide +kernel
theorem dX4_wipe_35 : decode cX4_wipe 35 = .ok (.getfield 19, 3) := by decide +kernel
theorem dX4_wipe_38 : decode cX4_wipe 38 = .ok (.getfield 125, 3) := by decide +kernel
theorem dX4_wipe_41 : decode cX4_wipe 41 = .ok (.sipush 999, 3) := by decide +kernel
theorem dX4_wipe_44 : decode cX4_wipe 44 = .ok (.if_icmp .lt 6, 3) := by decide +kernel
theorem dX4_wipe_47 : decode cX4_wipe 47 = .ok (.bipush (-104), 2) := by decide +kernel
theorem dX4_wipe_49 : decode cX4_wipe 49 = .ok (.ireturn, 1) := by decide +kernel
theorem dX4_wipe_50 : decode cX4_wipe 50 = .ok (.aload_n 0, 1) := by decide +kernel
theorem dX4_wipe_51 : decode cX4_wipe 51 = .ok (.iload_n 1, 1) := by decide +kernel
theorem dX4_wipe_52 : decode cX4_wipe 52 = .ok (.iconst (-1), 1) := by decide +kernel
theorem dX4_wipe_53 : decode cX4_wipe 53 = .ok (.invokevirtual 128, 3) := by decide +kernel
theorem dX4_wipe_56 : decode cX4_wipe 56 = .ok (.iload_n 2, 1) := by decide +kernel
theorem dX4_wipe_57 : decode cX4_wipe 57 = .ok (.ireturn, 1) := by decide +kernel
theorem dX4_changeColour_0 : decode cX4_changeColour 0 = .ok (.aload_n 0, 1) := by decide +kernel
theorem dX4_changeColour_1 : decode cX4_changeColour 1 = .ok (.getfield 19, 3) := by decide +kernel
theorem dX4_changeColour_4 : decode cX4_changeColour 4 = .ok (.getfield 93, 3) := by decide +kernel
theorem dX4_changeColour_7 : decode cX4_changeColour 7 = .ok (.iload_n 1, 1) := by decide +kernel
theorem dX4_changeColour_8 : decode cX4_changeColour 8 = .ok (.iload_n 2, 1) := by decide +kernel
theorem dX4_changeColour_9 : decode cX4_changeColour 9 = .ok (.invokestatic 136, 3) := by decide +kernel
theorem dX4_changeColour_12 : decode cX4_changeColour 12 = .ok (.aload_n 0, 1) := by decide +kernel
theorem dX4_changeColour_13 : decode cX4_changeColour 13 = .ok (.getfield 19, 3) := by decide +kernel
theorem dX4_changeColour_16 : decode cX4_changeColour 16 = .ok (.dup, 1) := by decide +kernel
theorem dX4_changeColour_17 : decode cX4_changeColour 17 = .ok (.getfield 125, 3) := by decide +kernel
theorem dX4_changeColour_20 : decode cX4_changeColour 20 = .ok (.iconst 1, 1) := by decide +kernel
theorem dX4_changeColour_21 : decode cX4_changeColour 21 = .ok (.iadd, 1) := by decide +kernel
theorem dX4_changeColour_22 : decode cX4_changeColour 22 = .ok (.putfield 125, 3) := by decide +kernel
theorem dX4_changeColour_25 : decode cX4_changeColour 25 = .ok (.aload_n 0, 1) := by decide +kernel
theorem dX4_changeColour_26 : decode cX4_changeColour 26 = .ok (.getfield 35, 3) := by decide +kernel
theorem dX4_changeColour_29 : decode cX4_changeColour 29 = .ok (.iconst 1, 1) := by decide +kernel
theorem dX4_changeColour_30 : decode cX4_changeColour 30 = .ok (.putfield 75, 3) := by decide +kernel
theorem dX4_changeColour_33 : decode cX4_changeColour 33 = .ok (.return_, 1) := by decide +kernel
theorem dX4_be_0 : decode cX4_be 0 = .ok (.aload_n 0, 1) := by decide +kernel
theorem dX4_be_1 : decode cX4_be 1 = .ok (.getfield 19, 3) := by decide +kernel
theorem dX4_be_4 : decode cX4_be 4 = .ok (.iload_n 1, 1) := by decide +kernel
theorem dX4_be_5 : decode cX4_be 5 = .ok (.invokevirtual 81, 3) := by decide +kernel
theorem dX4_be_8 : decode cX4_be 8 = .ok (.ifCond .ne 6, 3) := by decide +kernel
theorem dX4_be_11 : decode cX4_be 11 = .ok (.bipush (-101), 2) := by decide +kernel
theorem dX4_be_13 : decode cX4_be 13 = .ok (.ireturn, 1) := by decide +kernel
theorem dX4_be_14 : decode cX4_be 14 = .ok (.iload_n 2, 1) := by decide +kernel
theorem dX4_be_15 : decode cX4_be 15 = .ok (.invokestatic 112, 3) := by decide +kernel
theorem dX4_be_18 : decode cX4_be 18 = .ok (.ifCond .ne 6, 3) := by decide +kernel
theorem dX4_be_21 : decode cX4_be 21 = .ok (.bipush (-102), 2) := by decide +kernel
theorem dX4_be_23 : decode cX4_be 23 = .ok (.ireturn, 1) := by decide +kernel
theorem dX4_be_24 : decode cX4_be 24 = .ok (.aload_n 0, 1) := by decide +kernel
theorem dX4_be_25 : decode cX4_be 25 = .ok (.getfield 19, 3) := by decide +kernel
theorem dX4_be_28 : decode cX4_be 28 = .ok (.getfield 85, 3) := by decide +kernel
theorem dX4_be_31 : decode cX4_be 31 = .ok (.iload_n 1, 1) := by decide +kernel
theorem dX4_be_32 : decode cX4_be 32 = .ok (.invokestatic 89, 3) := by decide +kernel
theorem dX4_be_35 : decode cX4_be 35 = .ok (.istore_n 3, 1) := by decide +kernel
theorem dX4_be_36 : decode cX4_be 36 = .ok (.aload_n 0, 1) := by decide +kernel
theorem dX4_be_37 : decode cX4_be 37 = .ok (.getfield 19, 3) := by decide +kernel
theorem dX4_be_40 : decode cX4_be 40 = .ok (.getfield 85, 3) := by decide +kernel
theorem dX4_be_43 : decode cX4_be 43 = .ok (.iload_n 1, 1) := by decide +kernel
theorem dX4_be_44 : decode cX4_be 44 = .ok (.iload_n 2, 1) := by decide +kernel
theorem dX4_be_45 : decode cX4_be 45 = .ok (.invokestatic 136, 3) := by decide +kernel
theorem dX4_be_48 : decode cX4_be 48 = .ok (.aload_n 0, 1) := by decide +kernel
theorem dX4_be_49 : decode cX4_be 49 = .ok (.getfield 35, 3) := by decide +kernel
theorem dX4_be_52 : decode cX4_be 52 = .ok (.iconst 1, 1) := by decide +kernel
theorem dX4_be_53 : decode cX4_be 53 = .ok (.putfield 75, 3) := by decide +kernel
theorem dX4_be_56 : decode cX4_be 56 = .ok (.iload_n 3, 1) := by decide +kernel
theorem dX4_be_57 : decode cX4_be 57 = .ok (.ireturn, 1) := by decide +kernel
theorem dX4_ways_0 : decode cX4_ways 0 = .ok (.iload_n 1, 1) := by decide +kernel
theorem dX4_ways_1 : decode cX4_ways 1 = .ok (.ifCond .lt 8, 3) := by decide +kernel
theorem dX4_ways_4 : decode cX4_ways 4 = .ok (.iload_n 1, 1) := by decide +kernel
theorem dX4_ways_5 : decode cX4_ways 5 = .ok (.iconst 2, 1) := by decide +kernel
theorem dX4_ways_6 : decode cX4_ways 6 = .ok (.if_icmp .le 6, 3) := by decide +kernel
theorem dX4_ways_9 : decode cX4_ways 9 = .ok (.bipush (-102), 2) := by decide +kernel
theorem dX4_ways_11 : decode cX4_ways 11 = .ok (.ireturn, 1) := by decide +kernel
theorem dX4_ways_12 : decode cX4_ways 12 = .ok (.aload_n 0, 1) := by decide +kernel
theorem dX4_ways_13 : decode cX4_ways 13 = .ok (.getfield 19, 3) := by decide +kernel
theorem dX4_ways_16 : decode cX4_ways 16 = .ok (.invokevirtual 140, 3) := by decide +kernel
theorem dX4_ways_19 : decode cX4_ways 19 = .ok (.ifCond .ne 6, 3) := by decide +kernel
theorem dX4_ways_22 : decode cX4_ways 22 = .ok (.bipush (-103), 2) := by decide +kernel
theorem dX4_ways_24 : decode cX4_ways 24 = .ok (.ireturn, 1) := by decide +kernel
theorem dX4_ways_25 : decode cX4_ways 25 = .ok (.aload_n 0, 1) := by decide +kernel
theorem dX4_ways_26 : decode cX4_ways 26 = .ok (.getfield 35, 3) := by decide +kernel
theorem dX4_ways_29 : decode cX4_ways 29 = .ok (.invokevirtual 96, 3) := by decide +kernel
theorem dX4_ways_32 : decode cX4_ways 32 = .ok (.iload_n 1, 1) := by decide +kernel
theorem dX4_ways_33 : decode cX4_ways 33 = .ok (.ifCond .ne 13, 3) := by decide +kernel
theorem dX4_ways_36 : decode cX4_ways 36 = .ok (.aload_n 0, 1) := by decide +kernel
theorem dX4_ways_37 : decode cX4_ways 37 = .ok (.getfield 35, 3) := by decide +kernel
theorem dX4_ways_40 : decode cX4_ways 40 = .ok (.getfield 115, 3) := by decide +kernel
theorem dX4_ways_43 : decode cX4_ways 43 = .ok (.goto 25, 3) := by decide +kernel
theorem dX4_ways_46 : decode cX4_ways 46 = .ok (.iload_n 1, 1) := by decide +kernel
theorem dX4_ways_47 : decode cX4_ways 47 = .ok (.iconst 1, 1) := by decide +kernel
theorem dX4_ways_48 : decode cX4_ways 48 = .ok (.if_icmp .ne 13, 3) := by decide +kernel
theorem dX4_ways_51 : decode cX4_ways 51 = .ok (.aload_n 0, 1) := by decide +kernel
theorem dX4_ways_52 : decode cX4_ways 52 = .ok (.getfield 35, 3) := by decide +kernel
theorem dX4_ways_55 : decode cX4_ways 55 = .ok (.invokevirtual 143, 3) := by decide +kernel
theorem dX4_ways_58 : decode cX4_ways 58 = .ok (.goto 10, 3) := by decide +kernel
theorem dX4_ways_61 : decode cX4_ways 61 = .ok (.aload_n 0, 1) := by decide +kernel
theorem dX4_ways_62 : decode cX4_ways 62 = .ok (.getfield 35, 3) := by decide +kernel
theorem dX4_ways_65 : decode cX4_ways 65 = .ok (.getfield 146, 3) := by decide +kernel
theorem dX4_ways_68 : decode cX4_ways 68 = .ok (.ireturn, 1) := by decide +kernel
theorem dX4_mend_0 : decode cX4_mend 0 = .ok (.aload_n 0, 1) := by decide +kernel
theorem dX4_mend_1 : decode cX4_mend 1 = .ok (.getfield 19, 3) := by decide +kernel
theorem dX4_mend_4 : decode cX4_mend 4 = .ok (.invokevirtual 140, 3) := by decide +kernel
theorem dX4_mend_7 : decode cX4_mend 7 = .ok (.ifCond .ne 6, 3) := by decide +kernel
theorem dX4_mend_10 : decode cX4_mend 10 = .ok (.bipush (-103), 2) := by decide +kernel
theorem dX4_mend_12 : decode cX4_mend 12 = .ok (.ireturn, 1) := by decide +kernel
theorem dX4_mend_13 : decode cX4_mend 13 = .ok (.aload_n 0, 1) := by decide +kernel
theorem dX4_mend_14 : decode cX4_mend 14 = .ok (.getfield 35, 3) := by decide +kernel
theorem dX4_mend_17 : decode cX4_mend 17 = .ok (.invokevirtual 149, 3) := by decide +kernel
theorem dX4_mend_20 : decode cX4_mend 20 = .ok (.ireturn, 1) := by decide +kernel
theorem dX4_wins_0 : decode cX4_wins 0 = .ok (.iload_n 1, 1) := by decide +kernel
theorem dX4_wins_1 : decode cX4_wins 1 = .ok (.ifCond .lt 8, 3) := by decide +kernel
theorem dX4_wins_4 : decode cX4_wins 4 = .ok (.iload_n 1, 1) := by decide +kernel
theorem dX4_wins_5 : decode cX4_wins 5 = .ok (.iconst 1, 1) := by decide +kernel
theorem dX4_wins_6 : decode cX4_wins 6 = .ok (.if_icmp .le 6, 3) := by decide +kernel
theorem dX4_wins_9 : decode cX4_wins 9 = .ok (.bipush (-102), 2) := by decide +kernel
theorem dX4_wins_11 : decode cX4_wins 11 = .ok (.ireturn, 1) := by decide +kernel
theorem dX4_wins_12 : decode cX4_wins 12 = .ok (.aload_n 0, 1) := by decide +kernel
theorem dX4_wins_13 : decode cX4_wins 13 = .ok (.getfield 19, 3) := by decide +kernel
theorem dX4_wins_16 : decode cX4_wins 16 = .ok (.invokevirtual 140, 3) := by decide +kernel
theorem dX4_wins_19 : decode cX4_wins 19 = .ok (.ifCond .ne 6, 3) := by decide +kernel
theorem dX4_wins_22 : decode cX4_wins 22 = .ok (.bipush (-103), 2) := by decide +kernel
theorem dX4_wins_24 : decode cX4_wins 24 = .ok (.ireturn, 1) := by decide +kernel
theorem dX4_wins_25 : decode cX4_wins 25 = .ok (.aload_n 0, 1) := by decide +kernel
theorem dX4_wins_26 : decode cX4_wins 26 = .ok (.getfield 35, 3) := by decide +kernel
theorem dX4_wins_29 : decode cX4_wins 29 = .ok (.invokevirtual 152, 3) := by decide +kernel
theorem dX4_wins_32 : decode cX4_wins 32 = .ok (.istore_n 2, 1) := by decide +kernel
theorem dX4_wins_33 : decode cX4_wins 33 = .ok (.iload_n 1, 1) := by decide +kernel
theorem dX4_wins_34 : decode cX4_wins 34 = .ok (.iconst 1, 1) := by decide +kernel
theorem dX4_wins_35 : decode cX4_wins 35 = .ok (.if_icmp .ne 5, 3) := by decide +kernel
theorem dX4_wins_38 : decode cX4_wins 38 = .ok (.iload_n 2, 1) := by decide +kernel
theorem dX4_wins_39 : decode cX4_wins 39 = .ok (.ireturn, 1) := by decide +kernel
theorem dX4_wins_40 : decode cX4_wins 40 = .ok (.iload_n 2, 1) := by decide +kernel
theorem dX4_wins_41 : decode cX4_wins 41 = .ok (.iconst (-1), 1) := by decide +kernel
theorem dX4_wins_42 : decode cX4_wins 42 = .ok (.if_icmp .ne 7, 3) := by decide +kernel
theorem dX4_wins_45 : decode cX4_wins 45 = .ok (.iconst 0, 1) := by decide +kernel
theorem dX4_wins_46 : decode cX4_wins 46 = .ok (.goto 4, 3) := by decide +kernel
theorem dX4_wins_49 : decode cX4_wins 49 = .ok (.iconst 1, 1) := by decide +kernel
theorem dX4_wins_50 : decode cX4_wins 50 = .ok (.ireturn, 1) := by decide +kernel
theorem dX4_odds_0 : decode cX4_odds 0 = .ok (.aload_n 0, 1) := by decide +kernel
theorem dX4_odds_1 : decode cX4_odds 1 = .ok (.getfield 19, 3) := by decide +kernel
theorem dX4_odds_4 : decode cX4_odds 4 = .ok (.iload_n 1, 1) := by decide +kernel
theorem dX4_odds_5 : decode cX4_odds 5 = .ok (.invokevirtual 81, 3) := by decide +kernel
theorem dX4_odds_8 : decode cX4_odds 8 = .ok (.ifCond .ne 6, 3) := by decide +kernel
theorem dX4_odds_11 : decode cX4_odds 11 = .ok (.bipush (-101), 2) := by decide +kernel
theorem dX4_odds_13 : decode cX4_odds 13 = .ok (.ireturn, 1) := by decide +kernel
theorem dX4_odds_14 : decode cX4_odds 14 = .ok (.aload_n 0, 1) := by decide +kernel
theorem dX4_odds_15 : decode cX4_odds 15 = .ok (.getfield 19, 3) := by decide +kernel
theorem dX4_odds_18 : decode cX4_odds 18 = .ok (.iload_n 2, 1) := by decide +kernel
theorem dX4_odds_19 : decode cX4_odds 19 = .ok (.invokevirtual 122, 3) := by decide +kernel
theorem dX4_odds_22 : decode cX4_odds 22 = .ok (.ifCond .eq 12, 3) := by decide +kernel
theorem dX4_odds_25 : decode cX4_odds 25 = .ok (.iload_n 3, 1) := by decide +kernel
theorem dX4_odds_26 : decode cX4_odds 26 = .ok (.ifCond .lt 8, 3) := by decide +kernel
theorem dX4_odds_29 : decode cX4_odds 29 = .ok (.iload_n 3, 1) := by decide +kernel
theorem dX4_odds_30 : decode cX4_odds 30 = .ok (.iconst 1, 1) := by decide +kernel
theorem dX4_odds_31 : decode cX4_odds 31 = .ok (.if_icmp .le 6, 3) := by decide +kernel
theorem dX4_odds_34 : decode cX4_odds 34 = .ok (.bipush (-102), 2) := by decide +kernel
theorem dX4_odds_36 : decode cX4_odds 36 = .ok (.ireturn, 1) := by decide +kernel
theorem dX4_odds_37 : decode cX4_odds 37 = .ok (.aload_n 0, 1) := by decide +kernel
theorem dX4_odds_38 : decode cX4_odds 38 = .ok (.getfield 35, 3) := by decide +kernel
theorem dX4_odds_41 : decode cX4_odds 41 = .ok (.invokevirtual 96, 3) := by decide +kernel
theorem dX4_odds_44 : decode cX4_odds 44 = .ok (.aload_n 0, 1) := by decide +kernel
theorem dX4_odds_45 : decode cX4_odds 45 = .ok (.getfield 35, 3) := by decide +kernel
theorem dX4_odds_48 : decode cX4_odds 48 = .ok (.iload_n 1, 1) := by decide +kernel
theorem dX4_odds_49 : decode cX4_odds 49 = .ok (.iload_n 2, 1) := by decide +kernel
theorem dX4_odds_50 : decode cX4_odds 50 = .ok (.invokevirtual 155, 3) := by decide +kernel
theorem dX4_odds_53 : decode cX4_odds 53 = .ok (.istore 4, 2) := by decide +kernel
theorem dX4_odds_55 : decode cX4_odds 55 = .ok (.aload_n 0, 1) := by decide +kernel
theorem dX4_odds_56 : decode cX4_odds 56 = .ok (.getfield 35, 3) := by decide +kernel
theorem dX4_odds_59 : decode cX4_odds 59 = .ok (.getfield 115, 3) := by decide +kernel
theorem dX4_odds_62 : decode cX4_odds 62 = .ok (.iload 4, 2) := by decide +kernel
theorem dX4_odds_64 : decode cX4_odds 64 = .ok (.invokestatic 158, 3) := by decide +kernel
theorem dX4_odds_67 : decode cX4_odds 67 = .ok (.istore 5, 2) := by decide +kernel
theorem dX4_odds_69 : decode cX4_odds 69 = .ok (.iload 4, 2) := by decide +kernel
theorem dX4_odds_71 : decode cX4_odds 71 = .ok (.ifCond .eq 8, 3) := by decide +kernel
theorem dX4_odds_74 : decode cX4_odds 74 = .ok (.iload 5, 2) := by decide +kernel
theorem dX4_odds_76 : decode cX4_odds 76 = .ok (.ifCond .ne 13, 3) := by decide +kernel
theorem dX4_odds_79 : decode cX4_odds 79 = .ok (.iload_n 3, 1) := by decide +kernel
theorem dX4_odds_80 : decode cX4_odds 80 = .ok (.ifCond .ne 7, 3) := by decide +kernel
theorem dX4_odds_83 : decode cX4_odds 83 = .ok (.iconst 0, 1) := by decide +kernel
theorem dX4_odds_84 : decode cX4_odds 84 = .ok (.goto 4, 3) := by decide +kernel
theorem dX4_odds_87 : decode cX4_odds 87 = .ok (.iconst 1, 1) := by decide +kernel
theorem dX4_odds_88 : decode cX4_odds 88 = .ok (.ireturn, 1) := by decide +kernel
theorem dX4_odds_89 : decode cX4_odds 89 = .ok (.iload_n 3, 1) := by decide +kernel
theorem dX4_odds_90 : decode cX4_odds 90 = .ok (.ifCond .ne 11, 3) := by decide +kernel
theorem dX4_odds_93 : decode cX4_odds 93 = .ok (.iload 4, 2) := by decide +kernel
theorem dX4_odds_95 : decode cX4_odds 95 = .ok (.iload 5, 2) := by decide +kernel
theorem dX4_odds_97 : decode cX4_odds 97 = .ok (.idiv, 1) := by decide +kernel
theorem dX4_odds_98 : decode cX4_odds 98 = .ok (.goto 13, 3) := by decide +kernel
theorem dX4_odds_101 : decode cX4_odds 101 = .ok (.aload_n 0, 1) := by decide +kernel
theorem dX4_odds_102 : decode cX4_odds 102 = .ok (.getfield 35, 3) := by decide +kernel
theorem dX4_odds_105 : decode cX4_odds 105 = .ok (.getfield 115, 3) := by decide +kernel
theorem dX4_odds_108 : decode cX4_odds 108 = .ok (.iload 5, 2) := by decide +kernel
theorem dX4_odds_110 : decode cX4_odds 110 = .ok (.idiv, 1) := by decide +kernel
theorem dX4_odds_111 : decode cX4_odds 111 = .ok (.ireturn, 1) := by decide +kernel
theorem dX4_see_0 : decode cX4_see 0 = .ok (.aload_n 0, 1) := by decide +kernel
theorem dX4_see_1 : decode cX4_see 1 = .ok (.getfield 19, 3) := by decide +kernel
theorem dX4_see_4 : decode cX4_see 4 = .ok (.iload_n 1, 1) := by decide +kernel
theorem dX4_see_5 : decode cX4_see 5 = .ok (.invokevirtual 81, 3) := by decide +kernel
theorem dX4_see_8 : decode cX4_see 8 = .ok (.ifCond .ne 6, 3) := by decide +kernel
theorem dX4_see_11 : decode cX4_see 11 = .ok (.bipush (-101), 2) := by decide +kernel
theorem dX4_see_13 : decode cX4_see 13 = .ok (.ireturn, 1) := by decide +kernel
theorem dX4_see_14 : decode cX4_see 14 = .ok (.iload_n 2, 1) := by decide +kernel
theorem dX4_see_15 : decode cX4_see 15 = .ok (.ifCond .lt 8, 3) := by decide +kernel
theorem dX4_see_18 : decode cX4_see 18 = .ok (.iload_n 2, 1) := by decide +kernel
theorem dX4_see_19 : decode cX4_see 19 = .ok (.iconst 3, 1) := by decide +kernel
theorem dX4_see_20 : decode cX4_see 20 = .ok (.if_icmp .lt 6, 3) := by decide +kernel
theorem dX4_see_23 : decode cX4_see 23 = .ok (.bipush (-102), 2) := by decide +kernel
theorem dX4_see_25 : decode cX4_see 25 = .ok (.ireturn, 1) := by decide +kernel
theorem dX4_see_26 : decode cX4_see 26 = .ok (.aload_n 0, 1) := by decide +kernel
theorem dX4_see_27 : decode cX4_see 27 = .ok (.getfield 26, 3) := by decide +kernel
theorem dX4_see_30 : decode cX4_see 30 = .ok (.getfield 72, 3) := by decide +kernel
theorem dX4_see_33 : decode cX4_see 33 = .ok (.bipush 6, 2) := by decide +kernel
theorem dX4_see_35 : decode cX4_see 35 = .ok (.if_icmp .lt 6, 3) := by decide +kernel
theorem dX4_see_38 : decode cX4_see 38 = .ok (.bipush (-104), 2) := by decide +kernel
theorem dX4_see_40 : decode cX4_see 40 = .ok (.ireturn, 1) := by decide +kernel
theorem dX4_see_41 : decode cX4_see 41 = .ok (.aload_n 0, 1) := by decide +kernel
theorem dX4_see_42 : decode cX4_see 42 = .ok (.getfield 26, 3) := by decide +kernel
theorem dX4_see_45 : decode cX4_see 45 = .ok (.iload_n 1, 1) := by decide +kernel
theorem dX4_see_46 : decode cX4_see 46 = .ok (.iload_n 2, 1) := by decide +kernel
theorem dX4_see_47 : decode cX4_see 47 = .ok (.iload_n 3, 1) := by decide +kernel
theorem dX4_see_48 : decode cX4_see 48 = .ok (.invokevirtual 161, 3) := by decide +kernel
theorem dX4_see_51 : decode cX4_see 51 = .ok (.aload_n 0, 1) := by decide +kernel
theorem dX4_see_52 : decode cX4_see 52 = .ok (.getfield 26, 3) := by decide +kernel
theorem dX4_see_55 : decode cX4_see 55 = .ok (.getfield 72, 3) := by decide +kernel
theorem dX4_see_58 : decode cX4_see 58 = .ok (.ireturn, 1) := by decide +kernel
theorem dX4_forget_0 : decode cX4_forget 0 = .ok (.aload_n 0, 1) := by decide +kernel
theorem dX4_forget_1 : decode cX4_forget 1 = .ok (.getfield 26, 3) := by decide +kernel
theorem dX4_forget_4 : decode cX4_forget 4 = .ok (.getfield 72, 3) := by decide +kernel
theorem dX4_forget_7 : decode cX4_forget 7 = .ok (.istore_n 1, 1) := by decide +kernel
theorem dX4_forget_8 : decode cX4_forget 8 = .ok (.aload_n 0, 1) := by decide +kernel
theorem dX4_forget_9 : decode cX4_forget 9 = .ok (.getfield 26, 3) := by decide +kernel
theorem dX4_forget_12 : decode cX4_forget 12 = .ok (.iconst 0, 1) := by decide +kernel
theorem dX4_forget_13 : decode cX4_forget 13 = .ok (.putfield 72, 3) := by decide +kernel
theorem dX4_forget_16 : decode cX4_forget 16 = .ok (.iload_n 1, 1) := by decide +kernel
theorem dX4_forget_17 : decode cX4_forget 17 = .ok (.ireturn, 1) := by decide +kernel
theorem dX4_paintings_0 : decode cX4_paintings 0 = .ok (.iload_n 1, 1) := by decide +kernel
theorem dX4_paintings_1 : decode cX4_paintings 1 = .ok (.iconst 1, 1) := by decide +kernel
theorem dX4_paintings_2 : decode cX4_paintings 2 = .ok (.if_icmp .lt 22, 3) := by decide +kernel
theorem dX4_paintings_5 : decode cX4_paintings 5 = .ok (.iload_n 1, 1) := by decide +kernel
theorem dX4_paintings_6 : decode cX4_paintings 6 = .ok (.bipush 40, 2) := by decide +kernel
theorem dX4_paintings_8 : decode cX4_paintings 8 = .ok (.if_icmp .gt 16, 3) := by decide +kernel
theorem dX4_paintings_11 : decode cX4_paintings 11 = .ok (.iload_n 2, 1) := by decide +kernel
theorem dX4_paintings_12 : decode cX4_paintings 12 = .ok (.ifCond .lt 12, 3) := by decide +kernel
theorem dX4_paintings_15 : decode cX4_paintings 15 = .ok (.iload_n 3, 1) := by decide +kernel
theorem dX4_paintings_16 : decode cX4_paintings 16 = .ok (.ifCond .lt 8, 3) := by decide +kernel
theorem dX4_paintings_19 : decode cX4_paintings 19 = .ok (.iload_n 3, 1) := by decide +kernel
theorem dX4_paintings_20 : decode cX4_paintings 20 = .ok (.iconst 2, 1) := by decide +kernel
theorem dX4_paintings_21 : decode cX4_paintings 21 = .ok (.if_icmp .le 6, 3) := by decide +kernel
theorem dX4_paintings_24 : decode cX4_paintings 24 = .ok (.bipush (-102), 2) := by decide +kernel
theorem dX4_paintings_26 : decode cX4_paintings 26 = .ok (.ireturn, 1) := by decide +kernel
theorem dX4_paintings_27 : decode cX4_paintings 27 = .ok (.aload_n 0, 1) := by decide +kernel
theorem dX4_paintings_28 : decode cX4_paintings 28 = .ok (.getfield 19, 3) := by decide +kernel
theorem dX4_paintings_31 : decode cX4_paintings 31 = .ok (.invokevirtual 140, 3) := by decide +kernel
theorem dX4_paintings_34 : decode cX4_paintings 34 = .ok (.ifCond .ne 6, 3) := by decide +kernel
theorem dX4_paintings_37 : decode cX4_paintings 37 = .ok (.bipush (-103), 2) := by decide +kernel
theorem dX4_paintings_39 : decode cX4_paintings 39 = .ok (.ireturn, 1) := by decide +kernel
theorem dX4_paintings_40 : decode cX4_paintings 40 = .ok (.iload_n 2, 1) := by decide +kernel
theorem dX4_paintings_41 : decode cX4_paintings 41 = .ok (.istore 4, 2) := by decide +kernel
theorem dX4_paintings_43 : decode cX4_paintings 43 = .ok (.iconst 0, 1) := by decide +kernel
theorem dX4_paintings_44 : decode cX4_paintings 44 = .ok (.istore 5, 2) := by decide +kernel
theorem dX4_paintings_46 : decode cX4_paintings 46 = .ok (.iconst 0, 1) := by decide +kernel
theorem dX4_paintings_47 : decode cX4_paintings 47 = .ok (.istore 6, 2) := by decide +kernel
theorem dX4_paintings_49 : decode cX4_paintings 49 = .ok (.iconst 0, 1) := by decide +kernel
theorem dX4_paintings_50 : decode cX4_paintings 50 = .ok (.istore 7, 2) := by decide +kernel
theorem dX4_paintings_52 : decode cX4_paintings 52 = .ok (.iload 7, 2) := by decide +kernel
theorem dX4_paintings_54 : decode cX4_paintings 54 = .ok (.iload_n 1, 1) := by decide +kernel
theorem dX4_paintings_55 : decode cX4_paintings 55 = .ok (.if_icmp .ge 58, 3) := by decide +kernel
theorem dX4_paintings_58 : decode cX4_paintings 58 = .ok (.aload_n 0, 1) := by decide +kernel
theorem dX4_paintings_59 : decode cX4_paintings 59 = .ok (.getfield 35, 3) := by decide +kernel
theorem dX4_paintings_62 : decode cX4_paintings 62 = .ok (.iload 4, 2) := by decide +kernel
theorem dX4_paintings_64 : decode cX4_paintings 64 = .ok (.invokevirtual 164, 3) := by decide +kernel
theorem dX4_paintings_67 : decode cX4_paintings 67 = .ok (.istore 4, 2) := by decide +kernel
theorem dX4_paintings_69 : decode cX4_paintings 69 = .ok (.aload_n 0, 1) := by decide +kernel
theorem dX4_paintings_70 : decode cX4_paintings 70 = .ok (.getfield 19, 3) := by decide +kernel
theorem dX4_paintings_73 : decode cX4_paintings 73 = .ok (.aload_n 0, 1) := by decide +kernel
theorem dX4_paintings_74 : decode cX4_paintings 74 = .ok (.getfield 35, 3) := by decide +kernel
theorem dX4_paintings_77 : decode cX4_paintings 77 = .ok (.getfield 167, 3) := by decide +kernel
theorem dX4_paintings_80 : decode cX4_paintings 80 = .ok (.invokevirtual 132, 3) := by decide +kernel
theorem dX4_paintings_83 : decode cX4_paintings 83 = .ok (.istore 8, 2) := by decide +kernel
theorem dX4_paintings_85 : decode cX4_paintings 85 = .ok (.iload 6, 2) := by decide +kernel
theorem dX4_paintings_87 : decode cX4_paintings 87 = .ok (.iload 8, 2) := by decide +kernel
theorem dX4_paintings_89 : decode cX4_paintings 89 = .ok (.iadd, 1) := by decide +kernel
theorem dX4_paintings_90 : decode cX4_paintings 90 = .ok (.istore 6, 2) := by decide +kernel
theorem dX4_paintings_92 : decode cX4_paintings 92 = .ok (.iload 5, 2) := by decide +kernel
theorem dX4_paintings_94 : decode cX4_paintings 94 = .ok (.iload 8, 2) := by decide +kernel
theorem dX4_paintings_96 : decode cX4_paintings 96 = .ok (.ifCond .ne 7, 3) := by decide +kernel
theorem dX4_paintings_99 : decode cX4_paintings 99 = .ok (.iconst 1, 1) := by decide +kernel
theorem dX4_paintings_100 : decode cX4_paintings 100 = .ok (.goto 4, 3) := by decide +kernel
theorem dX4_paintings_103 : decode cX4_paintings 103 = .ok (.iconst 0, 1) := by decide +kernel
theorem dX4_paintings_104 : decode cX4_paintings 104 = .ok (.iadd, 1) := by decide +kernel
theorem dX4_paintings_105 : decode cX4_paintings 105 = .ok (.istore 5, 2) := by decide +kernel
theorem dX4_paintings_107 : decode cX4_paintings 107 = .ok (.iinc 7 1, 3) := by decide +kernel
theorem dX4_paintings_110 : decode cX4_paintings 110 = .ok (.goto (-58), 3) := by decide +kernel
theorem dX4_paintings_113 : decode cX4_paintings 113 = .ok (.iload_n 3, 1) := by decide +kernel
theorem dX4_paintings_114 : decode cX4_paintings 114 = .ok (.ifCond .ne 8, 3) := by decide +kernel
theorem dX4_paintings_117 : decode cX4_paintings 117 = .ok (.iload 5, 2) := by decide +kernel
theorem dX4_paintings_119 : decode cX4_paintings 119 = .ok (.goto 15, 3) := by decide +kernel
theorem dX4_paintings_122 : decode cX4_paintings 122 = .ok (.iload_n 3, 1) := by decide +kernel
theorem dX4_paintings_123 : decode cX4_paintings 123 = .ok (.iconst 1, 1) := by decide +kernel
theorem dX4_paintings_124 : decode cX4_paintings 124 = .ok (.if_icmp .ne 8, 3) := by decide +kernel
theorem dX4_paintings_127 : decode cX4_paintings 127 = .ok (.iload 6, 2) := by decide +kernel
theorem dX4_paintings_129 : decode cX4_paintings 129 = .ok (.goto 5, 3) := by decide +kernel
theorem dX4_paintings_132 : decode cX4_paintings 132 = .ok (.iload 4, 2) := by decide +kernel
theorem dX4_paintings_134 : decode cX4_paintings 134 = .ok (.ireturn, 1) := by decide +kernel
theorem dX4_image_0 : decode cX4_image 0 = .ok (.aload_n 0, 1) := by decide +kernel
theorem dX4_image_1 : decode cX4_image 1 = .ok (.getfield 19, 3) := by decide +kernel
theorem dX4_image_4 : decode cX4_image 4 = .ok (.invokevirtual 140, 3) := by decide +kernel
theorem dX4_image_7 : decode cX4_image 7 = .ok (.ifCond .ne 6, 3) := by decide +kernel
theorem dX4_image_10 : decode cX4_image 10 = .ok (.bipush (-103), 2) := by decide +kernel
theorem dX4_image_12 : decode cX4_image 12 = .ok (.ireturn, 1) := by decide +kernel
theorem dX4_image_13 : decode cX4_image 13 = .ok (.aload_n 0, 1) := by decide +kernel
theorem dX4_image_14 : decode cX4_image 14 = .ok (.getfield 39, 3) := by decide +kernel
theorem dX4_image_17 : decode cX4_image 17 = .ok (.aload_n 0, 1) := by decide +kernel
theorem dX4_image_18 : decode cX4_image 18 = .ok (.getfield 19, 3) := by decide +kernel
theorem dX4_image_21 : decode cX4_image 21 = .ok (.invokevirtual 170, 3) := by decide +kernel
theorem dX4_image_24 : decode cX4_image 24 = .ok (.aload_n 0, 1) := by decide +kernel
theorem dX4_image_25 : decode cX4_image 25 = .ok (.getfield 42, 3) := by decide +kernel
theorem dX4_image_28 : decode cX4_image 28 = .ok (.aload_n 0, 1) := by decide +kernel
theorem dX4_image_29 : decode cX4_image 29 = .ok (.getfield 26, 3) := by decide +kernel
theorem dX4_image_32 : decode cX4_image 32 = .ok (.invokevirtual 173, 3) := by decide +kernel
theorem dX4_image_35 : decode cX4_image 35 = .ok (.aload_n 0, 1) := by decide +kernel
theorem dX4_image_36 : decode cX4_image 36 = .ok (.iconst 1, 1) := by decide +kernel
theorem dX4_image_37 : decode cX4_image 37 = .ok (.putfield 45, 3) := by decide +kernel
theorem dX4_image_40 : decode cX4_image 40 = .ok (.aload_n 0, 1) := by decide +kernel
theorem dX4_image_41 : decode cX4_image 41 = .ok (.getfield 19, 3) := by decide +kernel
theorem dX4_image_44 : decode cX4_image 44 = .ok (.getfield 125, 3) := by decide +kernel
theorem dX4_image_47 : decode cX4_image 47 = .ok (.ireturn, 1) := by decide +kernel
theorem dX4_restore_0 : decode cX4_restore 0 = .ok (.aload_n 0, 1) := by decide +kernel
theorem dX4_restore_1 : decode cX4_restore 1 = .ok (.getfield 45, 3) := by decide +kernel
theorem dX4_restore_4 : decode cX4_restore 4 = .ok (.ifCond .ne 6, 3) := by decide +kernel
theorem dX4_restore_7 : decode cX4_restore 7 = .ok (.bipush (-103), 2) := by decide +kernel
theorem dX4_restore_9 : decode cX4_restore 9 = .ok (.ireturn, 1) := by decide +kernel
theorem dX4_restore_10 : decode cX4_restore 10 = .ok (.aload_n 0, 1) := by decide +kernel
theorem dX4_restore_11 : decode cX4_restore 11 = .ok (.getfield 19, 3) := by decide +kernel
theorem dX4_restore_14 : decode cX4_restore 14 = .ok (.aload_n 0, 1) := by decide +kernel
theorem dX4_restore_15 : decode cX4_restore 15 = .ok (.getfield 39, 3) := by decide +kernel
theorem dX4_restore_18 : decode cX4_restore 18 = .ok (.invokevirtual 170, 3) := by decide +kernel
theorem dX4_restore_21 : decode cX4_restore 21 = .ok (.aload_n 0, 1) := by decide +kernel
theorem dX4_restore_22 : decode cX4_restore 22 = .ok (.getfield 26, 3) := by decide +kernel
theorem dX4_restore_25 : decode cX4_restore 25 = .ok (.aload_n 0, 1) := by decide +kernel
theorem dX4_restore_26 : decode cX4_restore 26 = .ok (.getfield 42, 3) := by decide +kernel
theorem dX4_restore_29 : decode cX4_restore 29 = .ok (.invokevirtual 173, 3) := by decide +kernel
theorem dX4_restore_32 : decode cX4_restore 32 = .ok (.aload_n 0, 1) := by decide +kernel
theorem dX4_restore_33 : decode cX4_restore 33 = .ok (.getfield 35, 3) := by decide +kernel
theorem dX4_restore_36 : decode cX4_restore 36 = .ok (.iconst 1, 1) := by decide +kernel
theorem dX4_restore_37 : decode cX4_restore 37 = .ok (.putfield 75, 3) := by decide +kernel
theorem dX4_restore_40 : decode cX4_restore 40 = .ok (.aload_n 0, 1) := by decide +kernel
theorem dX4_restore_41 : decode cX4_restore 41 = .ok (.getfield 19, 3) := by decide +kernel
theorem dX4_restore_44 : decode cX4_restore 44 = .ok (.getfield 125, 3) := by decide +kernel
theorem dX4_restore_47 : decode cX4_restore 47 = .ok (.ireturn, 1) := by decide +kernel
theorem dX4_count_0 : decode cX4_count 0 = .ok (.iload_n 1, 1) := by decide +kernel
theorem dX4_count_1 : decode cX4_count 1 = .ok (.tableswitch 127 0 8 #[51, 59, 67, 75, 90, 98, 106, 114, 122], 51) := by decide +kernel
theorem dX4_count_52 : decode cX4_count 52 = .ok (.aload_n 0, 1) := by decide +kernel
theorem dX4_count_53 : decode cX4_count 53 = .ok (.getfield 19, 3) := by decide +kernel
theorem dX4_count_56 : decode cX4_count 56 = .ok (.getfield 78, 3) := by decide +kernel
theorem dX4_count_59 : decode cX4_count 59 = .ok (.ireturn, 1) := by decide +kernel
theorem dX4_count_60 : decode cX4_count 60 = .ok (.aload_n 0, 1) := by decide +kernel
theorem dX4_count_61 : decode cX4_count 61 = .ok (.getfield 19, 3) := by decide +kernel
theorem dX4_count_64 : decode cX4_count 64 = .ok (.getfield 176, 3) := by decide +kernel
theorem dX4_count_67 : decode cX4_count 67 = .ok (.ireturn, 1) := by decide +kernel
theorem dX4_count_68 : decode cX4_count 68 = .ok (.aload_n 0, 1) := by decide +kernel
theorem dX4_count_69 : decode cX4_count 69 = .ok (.getfield 19, 3) := by decide +kernel
theorem dX4_count_72 : decode cX4_count 72 = .ok (.invokevirtual 179, 3) := by decide +kernel
theorem dX4_count_75 : decode cX4_count 75 = .ok (.ireturn, 1) := by decide +kernel
theorem dX4_count_76 : decode cX4_count 76 = .ok (.aload_n 0, 1) := by decide +kernel
theorem dX4_count_77 : decode cX4_count 77 = .ok (.getfield 19, 3) := by decide +kernel
theorem dX4_count_80 : decode cX4_count 80 = .ok (.aload_n 0, 1) := by decide +kernel
theorem dX4_count_81 : decode cX4_count 81 = .ok (.getfield 19, 3) := by decide +kernel
theorem dX4_count_84 : decode cX4_count 84 = .ok (.getfield 93, 3) := by decide +kernel
theorem dX4_count_87 : decode cX4_count 87 = .ok (.invokevirtual 132, 3) := by decide +kernel
theorem dX4_count_90 : decode cX4_count 90 = .ok (.ireturn, 1) := by decide +kernel
theorem dX4_count_91 : decode cX4_count 91 = .ok (.aload_n 0, 1) := by decide +kernel
theorem dX4_count_92 : decode cX4_count 92 = .ok (.getfield 19, 3) := by decide +kernel
theorem dX4_count_95 : decode cX4_count 95 = .ok (.invokevirtual 182, 3) := by decide +kernel
theorem dX4_count_98 : decode cX4_count 98 = .ok (.ireturn, 1) := by decide +kernel
theorem dX4_count_99 : decode cX4_count 99 = .ok (.aload_n 0, 1) := by decide +kernel
theorem dX4_count_100 : decode cX4_count 100 = .ok (.getfield 19, 3) := by decide +kernel
theorem dX4_count_103 : decode cX4_count 103 = .ok (.getfield 125, 3) := by decide +kernel
theorem dX4_count_106 : decode cX4_count 106 = .ok (.ireturn, 1) := by decide +kernel
theorem dX4_count_107 : decode cX4_count 107 = .ok (.aload_n 0, 1) := by decide +kernel
theorem dX4_count_108 : decode cX4_count 108 = .ok (.getfield 26, 3) := by decide +kernel
theorem dX4_count_111 : decode cX4_count 111 = .ok (.getfield 72, 3) := by decide +kernel
theorem dX4_count_114 : decode cX4_count 114 = .ok (.ireturn, 1) := by decide +kernel
theorem dX4_count_115 : decode cX4_count 115 = .ok (.aload_n 0, 1) := by decide +kernel
theorem dX4_count_116 : decode cX4_count 116 = .ok (.getfield 10, 3) := by decide +kernel
theorem dX4_count_119 : decode cX4_count 119 = .ok (.getfield 53, 3) := by decide +kernel
theorem dX4_count_122 : decode cX4_count 122 = .ok (.ireturn, 1) := by decide +kernel
theorem dX4_count_123 : decode cX4_count 123 = .ok (.aload_n 0, 1) := by decide +kernel
theorem dX4_count_124 : decode cX4_count 124 = .ok (.getfield 49, 3) := by decide +kernel
theorem dX4_count_127 : decode cX4_count 127 = .ok (.ireturn, 1) := by decide +kernel
theorem dX4_count_128 : decode cX4_count 128 = .ok (.bipush (-102), 2) := by decide +kernel
theorem dX4_count_130 : decode cX4_count 130 = .ok (.ireturn, 1) := by decide +kernel
theorem dX4_digest_0 : decode cX4_digest 0 = .ok (.ldc2_w 185, 3) := by decide +kernel
theorem dX4_digest_3 : decode cX4_digest 3 = .ok (.lstore_n 1, 1) := by decide +kernel
theorem dX4_digest_4 : decode cX4_digest 4 = .ok (.iconst 1, 1) := by decide +kernel
theorem dX4_digest_5 : decode cX4_digest 5 = .ok (.istore_n 3, 1) := by decide +kernel
theorem dX4_digest_6 : decode cX4_digest 6 = .ok (.iload_n 3, 1) := by decide +kernel
theorem dX4_digest_7 : decode cX4_digest 7 = .ok (.aload_n 0, 1) := by decide +kernel
theorem dX4_digest_8 : decode cX4_digest 8 = .ok (.getfield 19, 3) := by decide +kernel
theorem dX4_digest_11 : decode cX4_digest 11 = .ok (.getfield 78, 3) := by decide +kernel
theorem dX4_digest_14 : decode cX4_digest 14 = .ok (.if_icmp .gt 69, 3) := by decide +kernel
theorem dX4_digest_17 : decode cX4_digest 17 = .ok (.iconst 0, 1) := by decide +kernel
theorem dX4_digest_18 : decode cX4_digest 18 = .ok (.istore 4, 2) := by decide +kernel
theorem dX4_digest_20 : decode cX4_digest 20 = .ok (.iload 4, 2) := by decide +kernel
theorem dX4_digest_22 : decode cX4_digest 22 = .ok (.iconst 5, 1) := by decide +kernel
theorem dX4_digest_23 : decode cX4_digest 23 = .ok (.if_icmp .gt 24, 3) := by decide +kernel
theorem dX4_digest_26 : decode cX4_digest 26 = .ok (.ldc2_w 187, 3) := by decide +kernel
theorem dX4_digest_29 : decode cX4_digest 29 = .ok (.lload_n 1, 1) := by decide +kernel
theorem dX4_digest_30 : decode cX4_digest 30 = .ok (.lmul, 1) := by decide +kernel
theorem dX4_digest_31 : decode cX4_digest 31 = .ok (.aload_n 0, 1) := by decide +kernel
theorem dX4_digest_32 : decode cX4_digest 32 = .ok (.iload_n 3, 1) := by decide +kernel
theorem dX4_digest_33 : decode cX4_digest 33 = .ok (.iload 4, 2) := by decide +kernel
theorem dX4_digest_35 : decode cX4_digest 35 = .ok (.invokevirtual 189, 3) := by decide +kernel
theorem dX4_digest_38 : decode cX4_digest 38 = .ok (.i2l, 1) := by decide +kernel
theorem dX4_digest_39 : decode cX4_digest 39 = .ok (.ladd, 1) := by decide +kernel
theorem dX4_digest_40 : decode cX4_digest 40 = .ok (.lstore_n 1, 1) := by decide +kernel
theorem dX4_digest_41 : decode cX4_digest 41 = .ok (.iinc 4 1, 3) := by decide +kernel
theorem dX4_digest_44 : decode cX4_digest 44 = .ok (.goto (-24), 3) := by decide +kernel
theorem dX4_digest_47 : decode cX4_digest 47 = .ok (.ldc2_w 187, 3) := by decide +kernel
theorem dX4_digest_50 : decode cX4_digest 50 = .ok (.lload_n 1, 1) := by decide +kernel
theorem dX4_digest_51 : decode cX4_digest 51 = .ok (.lmul, 1) := by decide +kernel
theorem dX4_digest_52 : decode cX4_digest 52 = .ok (.aload_n 0, 1) := by decide +kernel
theorem dX4_digest_53 : decode cX4_digest 53 = .ok (.iload_n 3, 1) := by decide +kernel
theorem dX4_digest_54 : decode cX4_digest 54 = .ok (.iconst 0, 1) := by decide +kernel
theorem dX4_digest_55 : decode cX4_digest 55 = .ok (.iconst 0, 1) := by decide +kernel
theorem dX4_digest_56 : decode cX4_digest 56 = .ok (.invokevirtual 192, 3) := by decide +kernel
theorem dX4_digest_59 : decode cX4_digest 59 = .ok (.i2l, 1) := by decide +kernel
theorem dX4_digest_60 : decode cX4_digest 60 = .ok (.ladd, 1) := by decide +kernel
theorem dX4_digest_61 : decode cX4_digest 61 = .ok (.lstore_n 1, 1) := by decide +kernel
theorem dX4_digest_62 : decode cX4_digest 62 = .ok (.ldc2_w 187, 3) := by decide +kernel
theorem dX4_digest_65 : decode cX4_digest 65 = .ok (.lload_n 1, 1) := by decide +kernel
theorem dX4_digest_66 : decode cX4_digest 66 = .ok (.lmul, 1) := by decide +kernel
theorem dX4_digest_67 : decode cX4_digest 67 = .ok (.aload_n 0, 1) := by decide +kernel
theorem dX4_digest_68 : decode cX4_digest 68 = .ok (.iload_n 3, 1) := by decide +kernel
theorem dX4_digest_69 : decode cX4_digest 69 = .ok (.iconst 0, 1) := by decide +kernel
theorem dX4_digest_70 : decode cX4_digest 70 = .ok (.iconst 1, 1) := by decide +kernel
theorem dX4_digest_71 : decode cX4_digest 71 = .ok (.invokevirtual 192, 3) := by decide +kernel
theorem dX4_digest_74 : decode cX4_digest 74 = .ok (.i2l, 1) := by decide +kernel
theorem dX4_digest_75 : decode cX4_digest 75 = .ok (.ladd, 1) := by decide +kernel
theorem dX4_digest_76 : decode cX4_digest 76 = .ok (.lstore_n 1, 1) := by decide +kernel
theorem dX4_digest_77 : decode cX4_digest 77 = .ok (.iinc 3 1, 3) := by decide +kernel
theorem dX4_digest_80 : decode cX4_digest 80 = .ok (.goto (-74), 3) := by decide +kernel
theorem dX4_digest_83 : decode cX4_digest 83 = .ok (.aload_n 0, 1) := by decide +kernel
theorem dX4_digest_84 : decode cX4_digest 84 = .ok (.getfield 19, 3) := by decide +kernel
theorem dX4_digest_87 : decode cX4_digest 87 = .ok (.invokevirtual 140, 3) := by decide +kernel
theorem dX4_digest_90 : decode cX4_digest 90 = .ok (.ifCond .eq 67, 3) := by decide +kernel
theorem dX4_digest_93 : decode cX4_digest 93 = .ok (.iconst 0, 1) := by decide +kernel
theorem dX4_digest_94 : decode cX4_digest 94 = .ok (.istore_n 3, 1) := by decide +kernel
theorem dX4_digest_95 : decode cX4_digest 95 = .ok (.iload_n 3, 1) := by decide +kernel
theorem dX4_digest_96 : decode cX4_digest 96 = .ok (.iconst 2, 1) := by decide +kernel
theorem dX4_digest_97 : decode cX4_digest 97 = .ok (.if_icmp .gt 22, 3) := by decide +kernel
theorem dX4_digest_100 : decode cX4_digest 100 = .ok (.ldc2_w 187, 3) := by decide +kernel
theorem dX4_digest_103 : decode cX4_digest 103 = .ok (.lload_n 1, 1) := by decide +kernel
theorem dX4_digest_104 : decode cX4_digest 104 = .ok (.lmul, 1) := by decide +kernel
theorem dX4_digest_105 : decode cX4_digest 105 = .ok (.aload_n 0, 1) := by decide +kernel
theorem dX4_digest_106 : decode cX4_digest 106 = .ok (.iload_n 3, 1) := by decide +kernel
theorem dX4_digest_107 : decode cX4_digest 107 = .ok (.invokevirtual 196, 3) := by decide +kernel
theorem dX4_digest_110 : decode cX4_digest 110 = .ok (.i2l, 1) := by decide +kernel
theorem dX4_digest_111 : decode cX4_digest 111 = .ok (.ladd, 1) := by decide +kernel
theorem dX4_digest_112 : decode cX4_digest 112 = .ok (.lstore_n 1, 1) := by decide +kernel
theorem dX4_digest_113 : decode cX4_digest 113 = .ok (.iinc 3 1, 3) := by decide +kernel
theorem dX4_digest_116 : decode cX4_digest 116 = .ok (.goto (-21), 3) := by decide +kernel
theorem dX4_digest_119 : decode cX4_digest 119 = .ok (.ldc2_w 187, 3) := by decide +kernel
theorem dX4_digest_122 : decode cX4_digest 122 = .ok (.lload_n 1, 1) := by decide +kernel
theorem dX4_digest_123 : decode cX4_digest 123 = .ok (.lmul, 1) := by decide +kernel
theorem dX4_digest_124 : decode cX4_digest 124 = .ok (.aload_n 0, 1) := by decide +kernel
theorem dX4_digest_125 : decode cX4_digest 125 = .ok (.invokevirtual 198, 3) := by decide +kernel
theorem dX4_digest_128 : decode cX4_digest 128 = .ok (.i2l, 1) := by decide +kernel
theorem dX4_digest_129 : decode cX4_digest 129 = .ok (.ladd, 1) := by decide +kernel
theorem dX4_digest_130 : decode cX4_digest 130 = .ok (.lstore_n 1, 1) := by decide +kernel
theorem dX4_digest_131 : decode cX4_digest 131 = .ok (.ldc2_w 187, 3) := by decide +kernel
theorem dX4_digest_134 : decode cX4_digest 134 = .ok (.lload_n 1, 1) := by decide +kernel
theorem dX4_digest_135 : decode cX4_digest 135 = .ok (.lmul, 1) := by decide +kernel
theorem dX4_digest_136 : decode cX4_digest 136 = .ok (.aload_n 0, 1) := by decide +kernel
theorem dX4_digest_137 : decode cX4_digest 137 = .ok (.iconst 0, 1) := by decide +kernel
theorem dX4_digest_138 : decode cX4_digest 138 = .ok (.invokevirtual 201, 3) := by decide +kernel
theorem dX4_digest_141 : decode cX4_digest 141 = .ok (.i2l, 1) := by decide +kernel
theorem dX4_digest_142 : decode cX4_digest 142 = .ok (.ladd, 1) := by decide +kernel
theorem dX4_digest_143 : decode cX4_digest 143 = .ok (.lstore_n 1, 1) := by decide +kernel
theorem dX4_digest_144 : decode cX4_digest 144 = .ok (.ldc2_w 187, 3) := by decide +kernel
theorem dX4_digest_147 : decode cX4_digest 147 = .ok (.lload_n 1, 1) := by decide +kernel
theorem dX4_digest_148 : decode cX4_digest 148 = .ok (.lmul, 1) := by decide +kernel
theorem dX4_digest_149 : decode cX4_digest 149 = .ok (.aload_n 0, 1) := by decide +kernel
theorem dX4_digest_150 : decode cX4_digest 150 = .ok (.iconst 1, 1) := by decide +kernel
theorem dX4_digest_151 : decode cX4_digest 151 = .ok (.invokevirtual 201, 3) := by decide +kernel
theorem dX4_digest_154 : decode cX4_digest 154 = .ok (.i2l, 1) := by decide +kernel
theorem dX4_digest_155 : decode cX4_digest 155 = .ok (.ladd, 1) := by decide +kernel
theorem dX4_digest_156 : decode cX4_digest 156 = .ok (.lstore_n 1, 1) := by decide +kernel
theorem dX4_digest_157 : decode cX4_digest 157 = .ok (.iconst 0, 1) := by decide +kernel
theorem dX4_digest_158 : decode cX4_digest 158 = .ok (.istore_n 3, 1) := by decide +kernel
theorem dX4_digest_159 : decode cX4_digest 159 = .ok (.iload_n 3, 1) := by decide +kernel
theorem dX4_digest_160 : decode cX4_digest 160 = .ok (.aload_n 0, 1) := by decide +kernel
theorem dX4_digest_161 : decode cX4_digest 161 = .ok (.getfield 10, 3) := by decide +kernel
theorem dX4_digest_164 : decode cX4_digest 164 = .ok (.getfield 53, 3) := by decide +kernel
theorem dX4_digest_167 : decode cX4_digest 167 = .ok (.if_icmp .ge 25, 3) := by decide +kernel
theorem dX4_digest_170 : decode cX4_digest 170 = .ok (.ldc2_w 187, 3) := by decide +kernel
theorem dX4_digest_173 : decode cX4_digest 173 = .ok (.lload_n 1, 1) := by decide +kernel
theorem dX4_digest_174 : decode cX4_digest 174 = .ok (.lmul, 1) := by decide +kernel
theorem dX4_digest_175 : decode cX4_digest 175 = .ok (.aload_n 0, 1) := by decide +kernel
theorem dX4_digest_176 : decode cX4_digest 176 = .ok (.getfield 10, 3) := by decide +kernel
theorem dX4_digest_179 : decode cX4_digest 179 = .ok (.iload_n 3, 1) := by decide +kernel
theorem dX4_digest_180 : decode cX4_digest 180 = .ok (.invokevirtual 204, 3) := by decide +kernel
theorem dX4_digest_183 : decode cX4_digest 183 = .ok (.i2l, 1) := by decide +kernel
theorem dX4_digest_184 : decode cX4_digest 184 = .ok (.ladd, 1) := by decide +kernel
theorem dX4_digest_185 : decode cX4_digest 185 = .ok (.lstore_n 1, 1) := by decide +kernel
theorem dX4_digest_186 : decode cX4_digest 186 = .ok (.iinc 3 1, 3) := by decide +kernel
theorem dX4_digest_189 : decode cX4_digest 189 = .ok (.goto (-30), 3) := by decide +kernel
theorem dX4_digest_192 : decode cX4_digest 192 = .ok (.iconst 0, 1) := by decide +kernel
theorem dX4_digest_193 : decode cX4_digest 193 = .ok (.istore_n 3, 1) := by decide +kernel
theorem dX4_digest_194 : decode cX4_digest 194 = .ok (.iload_n 3, 1) := by decide +kernel
theorem dX4_digest_195 : decode cX4_digest 195 = .ok (.bipush 8, 2) := by decide +kernel
theorem dX4_digest_197 : decode cX4_digest 197 = .ok (.if_icmp .gt 22, 3) := by decide +kernel
theorem dX4_digest_200 : decode cX4_digest 200 = .ok (.ldc2_w 187, 3) := by decide +kernel
theorem dX4_digest_203 : decode cX4_digest 203 = .ok (.lload_n 1, 1) := by decide +kernel
theorem dX4_digest_204 : decode cX4_digest 204 = .ok (.lmul, 1) := by decide +kernel
theorem dX4_digest_205 : decode cX4_digest 205 = .ok (.aload_n 0, 1) := by decide +kernel
theorem dX4_digest_206 : decode cX4_digest 206 = .ok (.iload_n 3, 1) := by decide +kernel
theorem dX4_digest_207 : decode cX4_digest 207 = .ok (.invokevirtual 207, 3) := by decide +kernel
theorem dX4_digest_210 : decode cX4_digest 210 = .ok (.i2l, 1) := by decide +kernel
theorem dX4_digest_211 : decode cX4_digest 211 = .ok (.ladd, 1) := by decide +kernel
theorem dX4_digest_212 : decode cX4_digest 212 = .ok (.lstore_n 1, 1) := by decide +kernel
theorem dX4_digest_213 : decode cX4_digest 213 = .ok (.iinc 3 1, 3) := by decide +kernel
theorem dX4_digest_216 : decode cX4_digest 216 = .ok (.goto (-22), 3) := by decide +kernel
theorem dX4_digest_219 : decode cX4_digest 219 = .ok (.lload_n 1, 1) := by decide +kernel
theorem dX4_digest_220 : decode cX4_digest 220 = .ok (.lreturn, 1) := by decide +kernel
theorem dX4_at_0 : decode cX4_at 0 = .ok (.iload_n 1, 1) := by decide +kernel
theorem dX4_at_1 : decode cX4_at 1 = .ok (.ifCond .lt 15, 3) := by decide +kernel
theorem dX4_at_4 : decode cX4_at 4 = .ok (.iload_n 1, 1) := by decide +kernel
theorem dX4_at_5 : decode cX4_at 5 = .ok (.aload_n 0, 1) := by decide +kernel
theorem dX4_at_6 : decode cX4_at 6 = .ok (.arraylength, 1) := by decide +kernel
theorem dX4_at_7 : decode cX4_at 7 = .ok (.if_icmp .ge 9, 3) := by decide +kernel
theorem dX4_at_10 : decode cX4_at 10 = .ok (.aload_n 0, 1) := by decide +kernel
theorem dX4_at_11 : decode cX4_at 11 = .ok (.iload_n 1, 1) := by decide +kernel
theorem dX4_at_12 : decode cX4_at 12 = .ok (.iaload, 1) := by decide +kernel
theorem dX4_at_13 : decode cX4_at 13 = .ok (.goto 4, 3) := by decide +kernel
theorem dX4_at_16 : decode cX4_at 16 = .ok (.iconst 0, 1) := by decide +kernel
theorem dX4_at_17 : decode cX4_at 17 = .ok (.ireturn, 1) := by decide +kernel
theorem dX4_put_0 : decode cX4_put 0 = .ok (.iload_n 1, 1) := by decide +kernel
theorem dX4_put_1 : decode cX4_put 1 = .ok (.ifCond .lt 13, 3) := by decide +kernel
theorem dX4_put_4 : decode cX4_put 4 = .ok (.iload_n 1, 1) := by decide +kernel
theorem dX4_put_5 : decode cX4_put 5 = .ok (.aload_n 0, 1) := by decide +kernel
theorem dX4_put_6 : decode cX4_put 6 = .ok (.arraylength, 1) := by decide +kernel
theorem dX4_put_7 : decode cX4_put 7 = .ok (.if_icmp .ge 7, 3) := by decide +kernel
theorem dX4_put_10 : decode cX4_put 10 = .ok (.aload_n 0, 1) := by decide +kernel
theorem dX4_put_11 : decode cX4_put 11 = .ok (.iload_n 1, 1) := by decide +kernel
theorem dX4_put_12 : decode cX4_put 12 = .ok (.iload_n 2, 1) := by decide +kernel
theorem dX4_put_13 : decode cX4_put 13 = .ok (.iastore, 1) := by decide +kernel
theorem dX4_put_14 : decode cX4_put 14 = .ok (.return_, 1) := by decide +kernel
theorem dX4_copyRow_0 : decode cX4_copyRow 0 = .ok (.aload_n 0, 1) := by decide +kernel
theorem dX4_copyRow_1 : decode cX4_copyRow 1 = .ok (.iconst 0, 1) := by decide +kernel
theorem dX4_copyRow_2 : decode cX4_copyRow 2 = .ok (.aload_n 1, 1) := by decide +kernel
theorem dX4_copyRow_3 : decode cX4_copyRow 3 = .ok (.iconst 0, 1) := by decide +kernel
theorem dX4_copyRow_4 : decode cX4_copyRow 4 = .ok (.aload_n 0, 1) := by decide +kernel
theorem dX4_copyRow_5 : decode cX4_copyRow 5 = .ok (.arraylength, 1) := by decide +kernel
theorem dX4_copyRow_6 : decode cX4_copyRow 6 = .ok (.aload_n 1, 1) := by decide +kernel
theorem dX4_copyRow_7 : decode cX4_copyRow 7 = .ok (.arraylength, 1) := by decide +kernel
theorem dX4_copyRow_8 : decode cX4_copyRow 8 = .ok (.invokestatic 210, 3) := by decide +kernel
theorem dX4_copyRow_11 : decode cX4_copyRow 11 = .ok (.invokestatic 215, 3) := by decide +kernel
theorem dX4_copyRow_14 : decode cX4_copyRow 14 = .ok (.return_, 1) := by decide +kernel
theorem dX4_isKind_0 : decode cX4_isKind 0 = .ok (.iload_n 0, 1) := by decide +kernel
theorem dX4_isKind_1 : decode cX4_isKind 1 = .ok (.ifCond .lt 12, 3) := by decide +kernel
theorem dX4_isKind_4 : decode cX4_isKind 4 = .ok (.iload_n 0, 1) := by decide +kernel
theorem dX4_isKind_5 : decode cX4_isKind 5 = .ok (.iconst 5, 1) := by decide +kernel
theorem dX4_isKind_6 : decode cX4_isKind 6 = .ok (.if_icmp .ge 7, 3) := by decide +kernel
theorem dX4_isKind_9 : decode cX4_isKind 9 = .ok (.iconst 1, 1) := by decide +kernel
theorem dX4_isKind_10 : decode cX4_isKind 10 = .ok (.goto 4, 3) := by decide +kernel
theorem dX4_isKind_13 : decode cX4_isKind 13 = .ok (.iconst 0, 1) := by decide +kernel
theorem dX4_isKind_14 : decode cX4_isKind 14 = .ok (.ireturn, 1) := by decide +kernel
theorem dX4_kindHasRole_0 : decode cX4_kindHasRole 0 = .ok (.getstatic 221, 3) := by decide +kernel
theorem dX4_kindHasRole_3 : decode cX4_kindHasRole 3 = .ok (.iload_n 0, 1) := by decide +kernel
theorem dX4_kindHasRole_4 : decode cX4_kindHasRole 4 = .ok (.invokestatic 89, 3) := by decide +kernel
theorem dX4_kindHasRole_7 : decode cX4_kindHasRole 7 = .ok (.iconst 1, 1) := by decide +kernel
theorem dX4_kindHasRole_8 : decode cX4_kindHasRole 8 = .ok (.iload_n 1, 1) := by decide +kernel
theorem dX4_kindHasRole_9 : decode cX4_kindHasRole 9 = .ok (.ishl, 1) := by decide +kernel
theorem dX4_kindHasRole_10 : decode cX4_kindHasRole 10 = .ok (.iand, 1) := by decide +kernel
theorem dX4_kindHasRole_11 : decode cX4_kindHasRole 11 = .ok (.ifCond .eq 7, 3) := by decide +kernel
theorem dX4_kindHasRole_14 : decode cX4_kindHasRole 14 = .ok (.iconst 1, 1) := by decide +kernel
theorem dX4_kindHasRole_15 : decode cX4_kindHasRole 15 = .ok (.goto 4, 3) := by decide +kernel
theorem dX4_kindHasRole_18 : decode cX4_kindHasRole 18 = .ok (.iconst 0, 1) := by decide +kernel
theorem dX4_kindHasRole_19 : decode cX4_kindHasRole 19 = .ok (.ireturn, 1) := by decide +kernel
theorem dX4_greatestCommonDivisor_0 : decode cX4_greatestCommonDivisor 0 = .ok (.iload_n 0, 1) := by decide +kernel
theorem dX4_greatestCommonDivisor_1 : decode cX4_greatestCommonDivisor 1 = .ok (.istore_n 2, 1) := by decide +kernel
theorem dX4_greatestCommonDivisor_2 : decode cX4_greatestCommonDivisor 2 = .ok (.iload_n 1, 1) := by decide +kernel
theorem dX4_greatestCommonDivisor_3 : decode cX4_greatestCommonDivisor 3 = .ok (.istore_n 3, 1) := by decide +kernel
theorem dX4_greatestCommonDivisor_4 : decode cX4_greatestCommonDivisor 4 = .ok (.iconst 0, 1) := by decide +kernel
theorem dX4_greatestCommonDivisor_5 : decode cX4_greatestCommonDivisor 5 = .ok (.istore 4, 2) := by decide +kernel
theorem dX4_greatestCommonDivisor_7 : decode cX4_greatestCommonDivisor 7 = .ok (.iload 4, 2) := by decide +kernel
theorem dX4_greatestCommonDivisor_9 : decode cX4_greatestCommonDivisor 9 = .ok (.bipush 64, 2) := by decide +kernel
theorem dX4_greatestCommonDivisor_11 : decode cX4_greatestCommonDivisor 11 = .ok (.if_icmp .ge 23, 3) := by decide +kernel
theorem dX4_greatestCommonDivisor_14 : decode cX4_greatestCommonDivisor 14 = .ok (.iload_n 3, 1) := by decide +kernel
theorem dX4_greatestCommonDivisor_15 : decode cX4_greatestCommonDivisor 15 = .ok (.ifCond .le 19, 3) := by decide +kernel
theorem dX4_greatestCommonDivisor_18 : decode cX4_greatestCommonDivisor 18 = .ok (.iload_n 2, 1) := by decide +kernel
theorem dX4_greatestCommonDivisor_19 : decode cX4_greatestCommonDivisor 19 = .ok (.iload_n 3, 1) := by decide +kernel
theorem dX4_greatestCommonDivisor_20 : decode cX4_greatestCommonDivisor 20 = .ok (.irem, 1) := by decide +kernel
theorem dX4_greatestCommonDivisor_21 : decode cX4_greatestCommonDivisor 21 = .ok (.istore 5, 2) := by decide +kernel
theorem dX4_greatestCommonDivisor_23 : decode cX4_greatestCommonDivisor 23 = .ok (.iload_n 3, 1) := by decide +kernel
theorem dX4_greatestCommonDivisor_24 : decode cX4_greatestCommonDivisor 24 = .ok (.istore_n 2, 1) := by decide +kernel
theorem dX4_greatestCommonDivisor_25 : decode cX4_greatestCommonDivisor 25 = .ok (.iload 5, 2) := by decide +kernel
theorem dX4_greatestCommonDivisor_27 : decode cX4_greatestCommonDivisor 27 = .ok (.istore_n 3, 1) := by decide +kernel
theorem dX4_greatestCommonDivisor_28 : decode cX4_greatestCommonDivisor 28 = .ok (.iinc 4 1, 3) := by decide +kernel
theorem dX4_greatestCommonDivisor_31 : decode cX4_greatestCommonDivisor 31 = .ok (.goto (-24), 3) := by decide +kernel
theorem dX4_greatestCommonDivisor_34 : decode cX4_greatestCommonDivisor 34 = .ok (.iload_n 2, 1) := by decide +kernel
theorem dX4_greatestCommonDivisor_35 : decode cX4_greatestCommonDivisor 35 = .ok (.ireturn, 1) := by decide +kernel
end
section
theorem dX5_init_0 : decode cX5_init 0 = .ok (.aload_n 0, 1) := by decide +kernel
theorem dX5_init_1 : decode cX5_init 1 = .ok (.invokespecial 1, 3) := by decide +kernel
theorem dX5_init_4 : decode cX5_init 4 = .ok (.aload_n 0, 1) := by decide +kernel
theorem dX5_init_5 : decode cX5_init 5 = .ok (.bipush 11, 2) := by decide +kernel
theorem dX5_init_7 : decode cX5_init 7 = .ok (.newarray .int, 2) := by decide +kernel
theorem dX5_init_9 : decode cX5_init 9 = .ok (.putfield 7, 3) := by decide +kernel
theorem dX5_init_12 : decode cX5_init 12 = .ok (.aload_n 0, 1) := by decide +kernel
theorem dX5_init_13 : decode cX5_init 13 = .ok (.bipush 11, 2) := by decide +kernel
theorem dX5_init_15 : decode cX5_init 15 = .ok (.newarray .int, 2) := by decide +kernel
theorem dX5_init_17 : decode cX5_init 17 = .ok (.putfield 13, 3) := by decide +kernel
theorem dX5_init_20 : decode cX5_init 20 = .ok (.aload_n 0, 1) := by decide +kernel
theorem dX5_init_21 : decode cX5_init 21 = .ok (.bipush 6, 2) := by decide +kernel
theorem dX5_init_23 : decode cX5_init 23 = .ok (.newarray .int, 2) := by decide +kernel
theorem dX5_init_25 : decode cX5_init 25 = .ok (.putfield 16, 3) := by decide +kernel
theorem dX5_init_28 : decode cX5_init 28 = .ok (.aload_n 0, 1) := by decide +kernel
theorem dX5_init_29 : decode cX5_init 29 = .ok (.bipush 6, 2) := by decide +kernel
theorem dX5_init_31 : decode cX5_init 31 = .ok (.newarray .int, 2) := by decide +kernel
theorem dX5_init_33 : decode cX5_init 33 = .ok (.putfield 19, 3) := by decide +kernel
theorem dX5_init_36 : decode cX5_init 36 = .ok (.aload_n 0, 1) := by decide +kernel
theorem dX5_init_37 : decode cX5_init 37 = .ok (.bipush 6, 2) := by decide +kernel
theorem dX5_init_39 : decode cX5_init 39 = .ok (.newarray .int, 2) := by decide +kernel
theorem dX5_init_41 : decode cX5_init 41 = .ok (.putfield 22, 3) := by decide +kernel
theorem dX5_init_44 : decode cX5_init 44 = .ok (.aload_n 0, 1) := by decide +kernel
theorem dX5_init_45 : decode cX5_init 45 = .ok (.bipush 26, 2) := by decide +kernel
theorem dX5_init_47 : decode cX5_init 47 = .ok (.newarray .byte, 2) := by decide +kernel
theorem dX5_init_49 : decode cX5_init 49 = .ok (.putfield 25, 3) := by decide +kernel
theorem dX5_init_52 : decode cX5_init 52 = .ok (.aload_n 0, 1) := by decide +kernel
theorem dX5_init_53 : decode cX5_init 53 = .ok (.bipush 11, 2) := by decide +kernel
theorem dX5_init_55 : decode cX5_init 55 = .ok (.newarray .int, 2) := by decide +kernel
theorem dX5_init_57 : decode cX5_init 57 = .ok (.putfield 29, 3) := by decide +kernel
theorem dX5_init_60 : decode cX5_init 60 = .ok (.aload_n 0, 1) := by decide +kernel
theorem dX5_init_61 : decode cX5_init 61 = .ok (.bipush 33, 2) := by decide +kernel
theorem dX5_init_63 : decode cX5_init 63 = .ok (.newarray .int, 2) := by decide +kernel
theorem dX5_init_65 : decode cX5_init 65 = .ok (.putfield 32, 3) := by decide +kernel
theorem dX5_init_68 : decode cX5_init 68 = .ok (.aload_n 0, 1) := by decide +kernel
theorem dX5_init_69 : decode cX5_init 69 = .ok (.bipush 11, 2) := by decide +kernel
theorem dX5_init_71 : decode cX5_init 71 = .ok (.newarray .int, 2) := by decide +kernel
theorem dX5_init_73 : decode cX5_init 73 = .ok (.putfield 35, 3) := by decide +kernel
theorem dX5_init_76 : decode cX5_init 76 = .ok (.aload_n 0, 1) := by decide +kernel
theorem dX5_init_77 : decode cX5_init 77 = .ok (.bipush 11, 2) := by decide +kernel
theorem dX5_init_79 : decode cX5_init 79 = .ok (.newarray .int, 2) := by decide +kernel
theorem dX5_init_81 : decode cX5_init 81 = .ok (.putfield 38, 3) := by decide +kernel
theorem dX5_init_84 : decode cX5_init 84 = .ok (.aload_n 0, 1) := by decide +kernel
theorem dX5_init_85 : decode cX5_init 85 = .ok (.bipush 11, 2) := by decide +kernel
theorem dX5_init_87 : decode cX5_init 87 = .ok (.newarray .int, 2) := by decide +kernel
theorem dX5_init_89 : decode cX5_init 89 = .ok (.putfield 41, 3) := by decide +kernel
theorem dX5_init_92 : decode cX5_init 92 = .ok (.aload_n 0, 1) := by decide +kernel
theorem dX5_init_93 : decode cX5_init 93 = .ok (.bipush 11, 2) := by decide +kernel
theorem dX5_init_95 : decode cX5_init 95 = .ok (.newarray .int, 2) := by decide +kernel
theorem dX5_init_97 : decode cX5_init 97 = .ok (.putfield 44, 3) := by decide +kernel
theorem dX5_init_100 : decode cX5_init 100 = .ok (.aload_n 0, 1) := by decide +kernel
theorem dX5_init_101 : decode cX5_init 101 = .ok (.bipush 11, 2) := by decide +kernel
theorem dX5_init_103 : decode cX5_init 103 = .ok (.newarray .int, 2) := by decide +kernel
theorem dX5_init_105 : decode cX5_init 105 = .ok (.putfield 47, 3) := by decide +kernel
theorem dX5_init_108 : decode cX5_init 108 = .ok (.aload_n 0, 1) := by decide +kernel
theorem dX5_init_109 : decode cX5_init 109 = .ok (.bipush 11, 2) := by decide +kernel
theorem dX5_init_111 : decode cX5_init 111 = .ok (.newarray .int, 2) := by decide +kernel
theorem dX5_init_113 : decode cX5_init 113 = .ok (.putfield 50, 3) := by decide +kernel
theorem dX5_init_116 : decode cX5_init 116 = .ok (.aload_n 0, 1) := by decide +kernel
theorem dX5_init_117 : decode cX5_init 117 = .ok (.bipush 11, 2) := by decide +kernel
theorem dX5_init_119 : decode cX5_init 119 = .ok (.newarray .int, 2) := by decide +kernel
theorem dX5_init_121 : decode cX5_init 121 = .ok (.putfield 53, 3) := by decide +kernel
theorem dX5_init_124 : decode cX5_init 124 = .ok (.aload_n 0, 1) := by decide +kernel
theorem dX5_init_125 : decode cX5_init 125 = .ok (.bipush 6, 2) := by decide +kernel
theorem dX5_init_127 : decode cX5_init 127 = .ok (.newarray .int, 2) := by decide +kernel
theorem dX5_init_129 : decode cX5_init 129 = .ok (.putfield 56, 3) := by decide +kernel
theorem dX5_init_132 : decode cX5_init 132 = .ok (.aload_n 0, 1) := by decide +kernel
theorem dX5_init_133 : decode cX5_init 133 = .ok (.bipush 6, 2) := by decide +kernel
theorem dX5_init_135 : decode cX5_init 135 = .ok (.newarray .int, 2) := by decide +kernel
theorem dX5_init_137 : decode cX5_init 137 = .ok (.putfield 59, 3) := by decide +kernel
theorem dX5_init_140 : decode cX5_init 140 = .ok (.aload_n 0, 1) := by decide +kernel
theorem dX5_init_141 : decode cX5_init 141 = .ok (.bipush 6, 2) := by decide +kernel
theorem dX5_init_143 : decode cX5_init 143 = .ok (.newarray .int, 2) := by decide +kernel
theorem dX5_init_145 : decode cX5_init 145 = .ok (.putfield 62, 3) := by decide +kernel
theorem dX5_init_148 : decode cX5_init 148 = .ok (.return_, 1) := by decide +kernel
theorem dX5_within_0 : decode cX5_within 0 = .ok (.iload_n 0, 1) := by decide +kernel
theorem dX5_within_1 : decode cX5_within 1 = .ok (.iload_n 1, 1) := by decide +kernel
theorem dX5_within_2 : decode cX5_within 2 = .ok (.if_icmp .lt 12, 3) := by decide +kernel
theorem dX5_within_5 : decode cX5_within 5 = .ok (.iload_n 0, 1) := by decide +kernel
theorem dX5_within_6 : decode cX5_within 6 = .ok (.iload_n 2, 1) := by decide +kernel
theorem dX5_within_7 : decode cX5_within 7 = .ok (.if_icmp .gt 7, 3) := by decide +kernel
theorem dX5_within_10 : decode cX5_within 10 = .ok (.iconst 1, 1) := by decide +kernel
theorem dX5_within_11 : decode cX5_within 11 = .ok (.goto 4, 3) := by decide +kernel
theorem dX5_within_14 : decode cX5_within 14 = .ok (.iconst 0, 1) := by decide +kernel
theorem dX5_within_15 : decode cX5_within 15 = .ok (.ireturn, 1) := by decide +kernel
theorem dX5_isIn_0 : decode cX5_isIn 0 = .ok (.iload_n 0, 1) := by decide +kernel
theorem dX5_isIn_1 : decode cX5_isIn 1 = .ok (.iload_n 1, 1) := by decide +kernel
theorem dX5_isIn_2 : decode cX5_isIn 2 = .ok (.ishr, 1) := by decide +kernel
theorem dX5_isIn_3 : decode cX5_isIn 3 = .ok (.iconst 1, 1) := by decide +kernel
theorem dX5_isIn_4 : decode cX5_isIn 4 = .ok (.iand, 1) := by decide +kernel
theorem dX5_isIn_5 : decode cX5_isIn 5 = .ok (.iconst 1, 1) := by decide +kernel
theorem dX5_isIn_6 : decode cX5_isIn 6 = .ok (.if_icmp .ne 7, 3) := by decide +kernel
theorem dX5_isIn_9 : decode cX5_isIn 9 = .ok (.iconst 1, 1) := by decide +kernel
theorem dX5_isIn_10 : decode cX5_isIn 10 = .ok (.goto 4, 3) := by decide +kernel
theorem dX5_isIn_13 : decode cX5_isIn 13 = .ok (.iconst 0, 1) := by decide +kernel
theorem dX5_isIn_14 : decode cX5_isIn 14 = .ok (.ireturn, 1) := by decide +kernel
theorem dX5_divisor_0 : decode cX5_divisor 0 = .ok (.iload_n 0, 1) := by decide +kernel
theorem dX5_divisor_1 : decode cX5_divisor 1 = .ok (.istore_n 2, 1) := by decide +kernel
theorem dX5_divisor_2 : decode cX5_divisor 2 = .ok (.iload_n 1, 1) := by decide +kernel
theorem dX5_divisor_3 : decode cX5_divisor 3 = .ok (.istore_n 3, 1) := by decide +kernel
theorem dX5_divisor_4 : decode cX5_divisor 4 = .ok (.iload_n 3, 1) := by decide +kernel
theorem dX5_divisor_5 : decode cX5_divisor 5 = .ok (.ifCond .eq 16, 3) := by decide +kernel
theorem dX5_divisor_8 : decode cX5_divisor 8 = .ok (.iload_n 2, 1) := by decide +kernel
theorem dX5_divisor_9 : decode cX5_divisor 9 = .ok (.iload_n 3, 1) := by decide +kernel
theorem dX5_divisor_10 : decode cX5_divisor 10 = .ok (.irem, 1) := by decide +kernel
theorem dX5_divisor_11 : decode cX5_divisor 11 = .ok (.istore 4, 2) := by decide +kernel
theorem dX5_divisor_13 : decode cX5_divisor 13 = .ok (.iload_n 3, 1) := by decide +kernel
theorem dX5_divisor_14 : decode cX5_divisor 14 = .ok (.istore_n 2, 1) := by decide +kernel
theorem dX5_divisor_15 : decode cX5_divisor 15 = .ok (.iload 4, 2) := by decide +kernel
theorem dX5_divisor_17 : decode cX5_divisor 17 = .ok (.istore_n 3, 1) := by decide +kernel
theorem dX5_divisor_18 : decode cX5_divisor 18 = .ok (.goto (-14), 3) := by decide +kernel
theorem dX5_divisor_21 : decode cX5_divisor 21 = .ok (.iload_n 2, 1) := by decide +kernel
theorem dX5_divisor_22 : decode cX5_divisor 22 = .ok (.ireturn, 1) := by decide +kernel
theorem dX5_letter_0 : decode cX5_letter 0 = .ok (.iload_n 1, 1) := by decide +kernel
theorem dX5_letter_1 : decode cX5_letter 1 = .ok (.bipush 32, 2) := by decide +kernel
theorem dX5_letter_3 : decode cX5_letter 3 = .ok (.bipush 126, 2) := by decide +kernel
theorem dX5_letter_5 : decode cX5_letter 5 = .ok (.invokestatic 65, 3) := by decide +kernel
theorem dX5_letter_8 : decode cX5_letter 8 = .ok (.ifCond .ne 6, 3) := by decide +kernel
theorem dX5_letter_11 : decode cX5_letter 11 = .ok (.bipush (-102), 2) := by decide +kernel
theorem dX5_letter_13 : decode cX5_letter 13 = .ok (.ireturn, 1) := by decide +kernel
theorem dX5_letter_14 : decode cX5_letter 14 = .ok (.aload_n 0, 1) := by decide +kernel
theorem dX5_letter_15 : decode cX5_letter 15 = .ok (.getfield 69, 3) := by decide +kernel
theorem dX5_letter_18 : decode cX5_letter 18 = .ok (.bipush 26, 2) := by decide +kernel
theorem dX5_letter_20 : decode cX5_letter 20 = .ok (.if_icmp .ne 6, 3) := by decide +kernel
theorem dX5_letter_23 : decode cX5_letter 23 = .ok (.bipush (-104), 2) := by decide +kernel
theorem dX5_letter_25 : decode cX5_letter 25 = .ok (.ireturn, 1) := by decide +kernel
theorem dX5_letter_26 : decode cX5_letter 26 = .ok (.aload_n 0, 1) := by decide +kernel
theorem dX5_letter_27 : decode cX5_letter 27 = .ok (.getfield 25, 3) := by decide +kernel
theorem dX5_letter_30 : decode cX5_letter 30 = .ok (.aload_n 0, 1) := by decide +kernel
theorem dX5_letter_31 : decode cX5_letter 31 = .ok (.getfield 69, 3) := by decide +kernel
theorem dX5_letter_34 : decode cX5_letter 34 = .ok (.iload_n 1, 1) := by decide +kernel
theorem dX5_letter_35 : decode cX5_letter 35 = .ok (.i2b, 1) := by decide +kernel
theorem dX5_letter_36 : decode cX5_letter 36 = .ok (.bastore, 1) := by decide +kernel
theorem dX5_letter_37 : decode cX5_letter 37 = .ok (.aload_n 0, 1) := by decide +kernel
theorem dX5_letter_38 : decode cX5_letter 38 = .ok (.dup, 1) := by decide +kernel
theorem dX5_letter_39 : decode cX5_letter 39 = .ok (.getfield 69, 3) := by decide +kernel
theorem dX5_letter_42 : decode cX5_letter 42 = .ok (.iconst 1, 1) := by decide +kernel
theorem dX5_letter_43 : decode cX5_letter 43 = .ok (.iadd, 1) := by decide +kernel
theorem dX5_letter_44 : decode cX5_letter 44 = .ok (.putfield 69, 3) := by decide +kernel
theorem dX5_letter_47 : decode cX5_letter 47 = .ok (.aload_n 0, 1) := by decide +kernel
theorem dX5_letter_48 : decode cX5_letter 48 = .ok (.getfield 69, 3) := by decide +kernel
theorem dX5_letter_51 : decode cX5_letter 51 = .ok (.ireturn, 1) := by decide +kernel
theorem dX5_blank_0 : decode cX5_blank 0 = .ok (.aload_n 0, 1) := by decide +kernel
theorem dX5_blank_1 : decode cX5_blank 1 = .ok (.getfield 69, 3) := by decide +kernel
theorem dX5_blank_4 : decode cX5_blank 4 = .ok (.istore_n 1, 1) := by decide +kernel
theorem dX5_blank_5 : decode cX5_blank 5 = .ok (.aload_n 0, 1) := by decide +kernel
theorem dX5_blank_6 : decode cX5_blank 6 = .ok (.iconst 0, 1) := by decide +kernel
theorem dX5_blank_7 : decode cX5_blank 7 = .ok (.putfield 69, 3) := by decide +kernel
theorem dX5_blank_10 : decode cX5_blank 10 = .ok (.iload_n 1, 1) := by decide +kernel
theorem dX5_blank_11 : decode cX5_blank 11 = .ok (.ireturn, 1) := by decide +kernel
theorem dX5_kindBy_0 : decode cX5_kindBy 0 = .ok (.iload_n 0, 1) := by decide +kernel
theorem dX5_kindBy_1 : decode cX5_kindBy 1 = .ok (.tableswitch 81 102 115 #[75, 81, 81, 81, 81, 81, 73, 81, 71, 79, 81, 81, 81, 77], 71) := by decide +kernel
theorem dX5_kindBy_72 : decode cX5_kindBy 72 = .ok (.iconst 0, 1) := by decide +kernel
theorem dX5_kindBy_73 : decode cX5_kindBy 73 = .ok (.ireturn, 1) := by decide +kernel
theorem dX5_kindBy_74 : decode cX5_kindBy 74 = .ok (.iconst 1, 1) := by decide +kernel
theorem dX5_kindBy_75 : decode cX5_kindBy 75 = .ok (.ireturn, 1) := by decide +kernel
theorem dX5_kindBy_76 : decode cX5_kindBy 76 = .ok (.iconst 2, 1) := by decide +kernel
theorem dX5_kindBy_77 : decode cX5_kindBy 77 = .ok (.ireturn, 1) := by decide +kernel
theorem dX5_kindBy_78 : decode cX5_kindBy 78 = .ok (.iconst 3, 1) := by decide +kernel
theorem dX5_kindBy_79 : decode cX5_kindBy 79 = .ok (.ireturn, 1) := by decide +kernel
theorem dX5_kindBy_80 : decode cX5_kindBy 80 = .ok (.iconst 4, 1) := by decide +kernel
theorem dX5_kindBy_81 : decode cX5_kindBy 81 = .ok (.ireturn, 1) := by decide +kernel
theorem dX5_kindBy_82 : decode cX5_kindBy 82 = .ok (.iconst (-1), 1) := by decide +kernel
theorem dX5_kindBy_83 : decode cX5_kindBy 83 = .ok (.ireturn, 1) := by decide +kernel
theorem dX5_at_0 : decode cX5_at 0 = .ok (.iload_n 1, 1) := by decide +kernel
theorem dX5_at_1 : decode cX5_at 1 = .ok (.aload_n 0, 1) := by decide +kernel
theorem dX5_at_2 : decode cX5_at 2 = .ok (.getfield 69, 3) := by decide +kernel
theorem dX5_at_5 : decode cX5_at 5 = .ok (.if_icmp .ge 12, 3) := by decide +kernel
theorem dX5_at_8 : decode cX5_at 8 = .ok (.aload_n 0, 1) := by decide +kernel
theorem dX5_at_9 : decode cX5_at 9 = .ok (.getfield 25, 3) := by decide +kernel
theorem dX5_at_12 : decode cX5_at 12 = .ok (.iload_n 1, 1) := by decide +kernel
theorem dX5_at_13 : decode cX5_at 13 = .ok (.baload, 1) := by decide +kernel
theorem dX5_at_14 : decode cX5_at 14 = .ok (.goto 4, 3) := by decide +kernel
theorem dX5_at_17 : decode cX5_at 17 = .ok (.iconst 0, 1) := by decide +kernel
theorem dX5_at_18 : decode cX5_at 18 = .ok (.ireturn, 1) := by decide +kernel
theorem dX5_readKinds_0 : decode cX5_readKinds 0 = .ok (.iconst 2, 1) := by decide +kernel
theorem dX5_readKinds_1 : decode cX5_readKinds 1 = .ok (.istore_n 1, 1) := by decide +kernel
theorem dX5_readKinds_2 : decode cX5_readKinds 2 = .ok (.aload_n 0, 1) := by decide +kernel
theorem dX5_readKinds_3 : decode cX5_readKinds 3 = .ok (.getfield 73, 3) := by decide +kernel
theorem dX5_readKinds_6 : decode cX5_readKinds 6 = .ok (.bipush 10, 2) := by decide +kernel
theorem dX5_readKinds_8 : decode cX5_readKinds 8 = .ok (.if_icmp .ge 31, 3) := by decide +kernel
theorem dX5_readKinds_11 : decode cX5_readKinds 11 = .ok (.aload_n 0, 1) := by decide +kernel
theorem dX5_readKinds_12 : decode cX5_readKinds 12 = .ok (.iload_n 1, 1) := by decide +kernel
theorem dX5_readKinds_13 : decode cX5_readKinds 13 = .ok (.invokevirtual 76, 3) := by decide +kernel
theorem dX5_readKinds_16 : decode cX5_readKinds 16 = .ok (.invokestatic 80, 3) := by decide +kernel
theorem dX5_readKinds_19 : decode cX5_readKinds 19 = .ok (.iconst (-1), 1) := by decide +kernel
theorem dX5_readKinds_20 : decode cX5_readKinds 20 = .ok (.if_icmp .eq 19, 3) := by decide +kernel
theorem dX5_readKinds_23 : decode cX5_readKinds 23 = .ok (.aload_n 0, 1) := by decide +kernel
theorem dX5_readKinds_24 : decode cX5_readKinds 24 = .ok (.dup, 1) := by decide +kernel
theorem dX5_readKinds_25 : decode cX5_readKinds 25 = .ok (.getfield 73, 3) := by decide +kernel
theorem dX5_readKinds_28 : decode cX5_readKinds 28 = .ok (.iconst 1, 1) := by decide +kernel
theorem dX5_readKinds_29 : decode cX5_readKinds 29 = .ok (.iadd, 1) := by decide +kernel
theorem dX5_readKinds_30 : decode cX5_readKinds 30 = .ok (.putfield 73, 3) := by decide +kernel
theorem dX5_readKinds_33 : decode cX5_readKinds 33 = .ok (.iinc 1 1, 3) := by decide +kernel
theorem dX5_readKinds_36 : decode cX5_readKinds 36 = .ok (.goto (-34), 3) := by decide +kernel
theorem dX5_readKinds_39 : decode cX5_readKinds 39 = .ok (.iload_n 1, 1) := by decide +kernel
theorem dX5_readKinds_40 : decode cX5_readKinds 40 = .ok (.ireturn, 1) := by decide +kernel
theorem dX5_readSigns_0 : decode cX5_readSigns 0 = .ok (.iload_n 1, 1) := by decide +kernel
theorem dX5_readSigns_1 : decode cX5_readSigns 1 = .ok (.istore_n 3, 1) := by decide +kernel
theorem dX5_readSigns_2 : decode cX5_readSigns 2 = .ok (.iload_n 3, 1) := by decide +kernel
theorem dX5_readSigns_3 : decode cX5_readSigns 3 = .ok (.iload_n 1, 1) := by decide +kernel
theorem dX5_readSigns_4 : decode cX5_readSigns 4 = .ok (.aload_n 0, 1) := by decide +kernel
theorem dX5_readSigns_5 : decode cX5_readSigns 5 = .ok (.getfield 73, 3) := by decide +kernel
theorem dX5_readSigns_8 : decode cX5_readSigns 8 = .ok (.iadd, 1) := by decide +kernel
theorem dX5_readSigns_9 : decode cX5_readSigns 9 = .ok (.if_icmp .ge 37, 3) := by decide +kernel
theorem dX5_readSigns_12 : decode cX5_readSigns 12 = .ok (.aload_n 0, 1) := by decide +kernel
theorem dX5_readSigns_13 : decode cX5_readSigns 13 = .ok (.iload_n 3, 1) := by decide +kernel
theorem dX5_readSigns_14 : decode cX5_readSigns 14 = .ok (.invokevirtual 76, 3) := by decide +kernel
theorem dX5_readSigns_17 : decode cX5_readSigns 17 = .ok (.bipush 46, 2) := by decide +kernel
theorem dX5_readSigns_19 : decode cX5_readSigns 19 = .ok (.if_icmp .eq 21, 3) := by decide +kernel
theorem dX5_readSigns_22 : decode cX5_readSigns 22 = .ok (.aload_n 0, 1) := by decide +kernel
theorem dX5_readSigns_23 : decode cX5_readSigns 23 = .ok (.iload_n 3, 1) := by decide +kernel
theorem dX5_readSigns_24 : decode cX5_readSigns 24 = .ok (.invokevirtual 76, 3) := by decide +kernel
theorem dX5_readSigns_27 : decode cX5_readSigns 27 = .ok (.bipush 97, 2) := by decide +kernel
theorem dX5_readSigns_29 : decode cX5_readSigns 29 = .ok (.isub, 1) := by decide +kernel
theorem dX5_readSigns_30 : decode cX5_readSigns 30 = .ok (.iconst 0, 1) := by decide +kernel
theorem dX5_readSigns_31 : decode cX5_readSigns 31 = .ok (.iload_n 2, 1) := by decide +kernel
theorem dX5_readSigns_32 : decode cX5_readSigns 32 = .ok (.iconst 1, 1) := by decide +kernel
theorem dX5_readSigns_33 : decode cX5_readSigns 33 = .ok (.isub, 1) := by decide +kernel
theorem dX5_readSigns_34 : decode cX5_readSigns 34 = .ok (.invokestatic 65, 3) := by decide +kernel
theorem dX5_readSigns_37 : decode cX5_readSigns 37 = .ok (.ifCond .eq 9, 3) := by decide +kernel
theorem dX5_readSigns_40 : decode cX5_readSigns 40 = .ok (.iinc 3 1, 3) := by decide +kernel
theorem dX5_readSigns_43 : decode cX5_readSigns 43 = .ok (.goto (-41), 3) := by decide +kernel
theorem dX5_readSigns_46 : decode cX5_readSigns 46 = .ok (.aload_n 0, 1) := by decide +kernel
theorem dX5_readSigns_47 : decode cX5_readSigns 47 = .ok (.iload_n 3, 1) := by decide +kernel
theorem dX5_readSigns_48 : decode cX5_readSigns 48 = .ok (.iload_n 1, 1) := by decide +kernel
theorem dX5_readSigns_49 : decode cX5_readSigns 49 = .ok (.aload_n 0, 1) := by decide +kernel
theorem dX5_readSigns_50 : decode cX5_readSigns 50 = .ok (.getfield 73, 3) := by decide +kernel
theorem dX5_readSigns_53 : decode cX5_readSigns 53 = .ok (.iadd, 1) := by decide +kernel
theorem dX5_readSigns_54 : decode cX5_readSigns 54 = .ok (.if_icmp .ne 15, 3) := by decide +kernel
theorem dX5_readSigns_57 : decode cX5_readSigns 57 = .ok (.iload_n 3, 1) := by decide +kernel
theorem dX5_readSigns_58 : decode cX5_readSigns 58 = .ok (.aload_n 0, 1) := by decide +kernel
theorem dX5_readSigns_59 : decode cX5_readSigns 59 = .ok (.getfield 69, 3) := by decide +kernel
theorem dX5_readSigns_62 : decode cX5_readSigns 62 = .ok (.if_icmp .ne 7, 3) := by decide +kernel
theorem dX5_readSigns_65 : decode cX5_readSigns 65 = .ok (.iconst 1, 1) := by decide +kernel
theorem dX5_readSigns_66 : decode cX5_readSigns 66 = .ok (.goto 4, 3) := by decide +kernel
theorem dX5_readSigns_69 : decode cX5_readSigns 69 = .ok (.iconst 0, 1) := by decide +kernel
theorem dX5_readSigns_70 : decode cX5_readSigns 70 = .ok (.putfield 83, 3) := by decide +kernel
theorem dX5_readSigns_73 : decode cX5_readSigns 73 = .ok (.iload_n 3, 1) := by decide +kernel
theorem dX5_readSigns_74 : decode cX5_readSigns 74 = .ok (.ireturn, 1) := by decide +kernel
theorem dX5_read_0 : decode cX5_read 0 = .ok (.aload_n 0, 1) := by decide +kernel
theorem dX5_read_1 : decode cX5_read 1 = .ok (.iconst 0, 1) := by decide +kernel
theorem dX5_read_2 : decode cX5_read 2 = .ok (.putfield 83, 3) := by decide +kernel
theorem dX5_read_5 : decode cX5_read 5 = .ok (.aload_n 0, 1) := by decide +kernel
theorem dX5_read_6 : decode cX5_read 6 = .ok (.iconst 0, 1) := by decide +kernel
theorem dX5_read_7 : decode cX5_read 7 = .ok (.putfield 73, 3) := by decide +kernel
theorem dX5_read_10 : decode cX5_read 10 = .ok (.aload_n 0, 1) := by decide +kernel
theorem dX5_read_11 : decode cX5_read 11 = .ok (.iconst 0, 1) := by decide +kernel
theorem dX5_read_12 : decode cX5_read 12 = .ok (.invokevirtual 76, 3) := by decide +kernel
theorem dX5_read_15 : decode cX5_read 15 = .ok (.bipush 48, 2) := by decide +kernel
theorem dX5_read_17 : decode cX5_read 17 = .ok (.isub, 1) := by decide +kernel
theorem dX5_read_18 : decode cX5_read 18 = .ok (.istore_n 1, 1) := by decide +kernel
theorem dX5_read_19 : decode cX5_read 19 = .ok (.iload_n 1, 1) := by decide +kernel
theorem dX5_read_20 : decode cX5_read 20 = .ok (.iconst 2, 1) := by decide +kernel
theorem dX5_read_21 : decode cX5_read 21 = .ok (.iconst 3, 1) := by decide +kernel
theorem dX5_read_22 : decode cX5_read 22 = .ok (.invokestatic 65, 3) := by decide +kernel
theorem dX5_read_25 : decode cX5_read 25 = .ok (.ifCond .ne 5, 3) := by decide +kernel
theorem dX5_read_28 : decode cX5_read 28 = .ok (.iconst 0, 1) := by decide +kernel
theorem dX5_read_29 : decode cX5_read 29 = .ok (.ireturn, 1) := by decide +kernel
theorem dX5_read_30 : decode cX5_read 30 = .ok (.aload_n 0, 1) := by decide +kernel
theorem dX5_read_31 : decode cX5_read 31 = .ok (.iconst 1, 1) := by decide +kernel
theorem dX5_read_32 : decode cX5_read 32 = .ok (.invokevirtual 76, 3) := by decide +kernel
theorem dX5_read_35 : decode cX5_read 35 = .ok (.bipush 59, 2) := by decide +kernel
theorem dX5_read_37 : decode cX5_read 37 = .ok (.if_icmp .eq 5, 3) := by decide +kernel
theorem dX5_read_40 : decode cX5_read 40 = .ok (.iconst 1, 1) := by decide +kernel
theorem dX5_read_41 : decode cX5_read 41 = .ok (.ireturn, 1) := by decide +kernel
theorem dX5_read_42 : decode cX5_read 42 = .ok (.aload_n 0, 1) := by decide +kernel
theorem dX5_read_43 : decode cX5_read 43 = .ok (.invokevirtual 87, 3) := by decide +kernel
theorem dX5_read_46 : decode cX5_read 46 = .ok (.istore_n 2, 1) := by decide +kernel
theorem dX5_read_47 : decode cX5_read 47 = .ok (.aload_n 0, 1) := by decide +kernel
theorem dX5_read_48 : decode cX5_read 48 = .ok (.getfield 73, 3) := by decide +kernel
theorem dX5_read_51 : decode cX5_read 51 = .ok (.iconst 4, 1) := by decide +kernel
theorem dX5_read_52 : decode cX5_read 52 = .ok (.if_icmp .lt 13, 3) := by decide +kernel
theorem dX5_read_55 : decode cX5_read 55 = .ok (.aload_n 0, 1) := by decide +kernel
theorem dX5_read_56 : decode cX5_read 56 = .ok (.iload_n 2, 1) := by decide +kernel
theorem dX5_read_57 : decode cX5_read 57 = .ok (.invokevirtual 76, 3) := by decide +kernel
theorem dX5_read_60 : decode cX5_read 60 = .ok (.bipush 59, 2) := by decide +kernel
theorem dX5_read_62 : decode cX5_read 62 = .ok (.if_icmp .eq 5, 3) := by decide +kernel
theorem dX5_read_65 : decode cX5_read 65 = .ok (.iload_n 2, 1) := by decide +kernel
theorem dX5_read_66 : decode cX5_read 66 = .ok (.ireturn, 1) := by decide +kernel
theorem dX5_read_67 : decode cX5_read 67 = .ok (.aload_n 0, 1) := by decide +kernel
theorem dX5_read_68 : decode cX5_read 68 = .ok (.iload_n 2, 1) := by decide +kernel
theorem dX5_read_69 : decode cX5_read 69 = .ok (.iconst 1, 1) := by decide +kernel
theorem dX5_read_70 : decode cX5_read 70 = .ok (.iadd, 1) := by decide +kernel
theorem dX5_read_71 : decode cX5_read 71 = .ok (.iload_n 1, 1) := by decide +kernel
theorem dX5_read_72 : decode cX5_read 72 = .ok (.invokevirtual 91, 3) := by decide +kernel
theorem dX5_read_75 : decode cX5_read 75 = .ok (.ireturn, 1) := by decide +kernel
theorem dX5_fault_0 : decode cX5_fault 0 = .ok (.aload_n 0, 1) := by decide +kernel
theorem dX5_fault_1 : decode cX5_fault 1 = .ok (.invokevirtual 95, 3) := by decide +kernel
theorem dX5_fault_4 : decode cX5_fault 4 = .ok (.ireturn, 1) := by decide +kernel
theorem dX5_board_0 : decode cX5_board 0 = .ok (.aload_n 0, 1) := by decide +kernel
theorem dX5_board_1 : decode cX5_board 1 = .ok (.invokevirtual 95, 3) := by decide +kernel
theorem dX5_board_4 : decode cX5_board 4 = .ok (.pop, 1) := by decide +kernel
theorem dX5_board_5 : decode cX5_board 5 = .ok (.aload_n 0, 1) := by decide +kernel
theorem dX5_board_6 : decode cX5_board 6 = .ok (.getfield 83, 3) := by decide +kernel
theorem dX5_board_9 : decode cX5_board 9 = .ok (.ifCond .ne 6, 3) := by decide +kernel
theorem dX5_board_12 : decode cX5_board 12 = .ok (.bipush (-103), 2) := by decide +kernel
theorem dX5_board_14 : decode cX5_board 14 = .ok (.ireturn, 1) := by decide +kernel
theorem dX5_board_15 : decode cX5_board 15 = .ok (.aload_n 0, 1) := by decide +kernel
theorem dX5_board_16 : decode cX5_board 16 = .ok (.aload_n 0, 1) := by decide +kernel
theorem dX5_board_17 : decode cX5_board 17 = .ok (.getfield 25, 3) := by decide +kernel
theorem dX5_board_20 : decode cX5_board 20 = .ok (.iconst 0, 1) := by decide +kernel
theorem dX5_board_21 : decode cX5_board 21 = .ok (.baload, 1) := by decide +kernel
theorem dX5_board_22 : decode cX5_board 22 = .ok (.bipush 48, 2) := by decide +kernel
theorem dX5_board_24 : decode cX5_board 24 = .ok (.isub, 1) := by decide +kernel
theorem dX5_board_25 : decode cX5_board 25 = .ok (.putfield 98, 3) := by decide +kernel
theorem dX5_board_28 : decode cX5_board 28 = .ok (.aload_n 0, 1) := by decide +kernel
theorem dX5_board_29 : decode cX5_board 29 = .ok (.aload_n 0, 1) := by decide +kernel
theorem dX5_board_30 : decode cX5_board 30 = .ok (.getfield 73, 3) := by decide +kernel
theorem dX5_board_33 : decode cX5_board 33 = .ok (.putfield 101, 3) := by decide +kernel
theorem dX5_board_36 : decode cX5_board 36 = .ok (.iconst 1, 1) := by decide +kernel
theorem dX5_board_37 : decode cX5_board 37 = .ok (.istore_n 1, 1) := by decide +kernel
theorem dX5_board_38 : decode cX5_board 38 = .ok (.iload_n 1, 1) := by decide +kernel
theorem dX5_board_39 : decode cX5_board 39 = .ok (.aload_n 0, 1) := by decide +kernel
theorem dX5_board_40 : decode cX5_board 40 = .ok (.getfield 101, 3) := by decide +kernel
theorem dX5_board_43 : decode cX5_board 43 = .ok (.if_icmp .gt 60, 3) := by decide +kernel
theorem dX5_board_46 : decode cX5_board 46 = .ok (.aload_n 0, 1) := by decide +kernel
theorem dX5_board_47 : decode cX5_board 47 = .ok (.getfield 25, 3) := by decide +kernel
theorem dX5_board_50 : decode cX5_board 50 = .ok (.iconst 2, 1) := by decide +kernel
theorem dX5_board_51 : decode cX5_board 51 = .ok (.aload_n 0, 1) := by decide +kernel
theorem dX5_board_52 : decode cX5_board 52 = .ok (.getfield 101, 3) := by decide +kernel
theorem dX5_board_55 : decode cX5_board 55 = .ok (.iadd, 1) := by decide +kernel
theorem dX5_board_56 : decode cX5_board 56 = .ok (.iload_n 1, 1) := by decide +kernel
theorem dX5_board_57 : decode cX5_board 57 = .ok (.iadd, 1) := by decide +kernel
theorem dX5_board_58 : decode cX5_board 58 = .ok (.baload, 1) := by decide +kernel
theorem dX5_board_59 : decode cX5_board 59 = .ok (.istore_n 2, 1) := by decide +kernel
theorem dX5_board_60 : decode cX5_board 60 = .ok (.aload_n 0, 1) := by decide +kernel
theorem dX5_board_61 : decode cX5_board 61 = .ok (.getfield 7, 3) := by decide +kernel
theorem dX5_board_64 : decode cX5_board 64 = .ok (.iload_n 1, 1) := by decide +kernel
theorem dX5_board_65 : decode cX5_board 65 = .ok (.aload_n 0, 1) := by decide +kernel
theorem dX5_board_66 : decode cX5_board 66 = .ok (.getfield 25, 3) := by decide +kernel
theorem dX5_board_69 : decode cX5_board 69 = .ok (.iconst 1, 1) := by decide +kernel
theorem dX5_board_70 : decode cX5_board 70 = .ok (.iload_n 1, 1) := by decide +kernel
theorem dX5_board_71 : decode cX5_board 71 = .ok (.iadd, 1) := by decide +kernel
theorem dX5_board_72 : decode cX5_board 72 = .ok (.baload, 1) := by decide +kernel
theorem dX5_board_73 : decode cX5_board 73 = .ok (.invokestatic 80, 3) := by decide +kernel
theorem dX5_board_76 : decode cX5_board 76 = .ok (.iastore, 1) := by decide +kernel
theorem dX5_board_77 : decode cX5_board 77 = .ok (.aload_n 0, 1) := by decide +kernel
theorem dX5_board_78 : decode cX5_board 78 = .ok (.getfield 13, 3) := by decide +kernel
theorem dX5_board_81 : decode cX5_board 81 = .ok (.iload_n 1, 1) := by decide +kernel
theorem dX5_board_82 : decode cX5_board 82 = .ok (.iload_n 2, 1) := by decide +kernel
theorem dX5_board_83 : decode cX5_board 83 = .ok (.bipush 46, 2) := by decide +kernel
theorem dX5_board_85 : decode cX5_board 85 = .ok (.if_icmp .ne 7, 3) := by decide +kernel
theorem dX5_board_88 : decode cX5_board 88 = .ok (.iconst (-1), 1) := by decide +kernel
theorem dX5_board_89 : decode cX5_board 89 = .ok (.goto 7, 3) := by decide +kernel
theorem dX5_board_92 : decode cX5_board 92 = .ok (.iload_n 2, 1) := by decide +kernel
theorem dX5_board_93 : decode cX5_board 93 = .ok (.bipush 97, 2) := by decide +kernel
theorem dX5_board_95 : decode cX5_board 95 = .ok (.isub, 1) := by decide +kernel
theorem dX5_board_96 : decode cX5_board 96 = .ok (.iastore, 1) := by decide +kernel
theorem dX5_board_97 : decode cX5_board 97 = .ok (.iinc 1 1, 3) := by decide +kernel
theorem dX5_board_100 : decode cX5_board 100 = .ok (.goto (-62), 3) := by decide +kernel
theorem dX5_board_103 : decode cX5_board 103 = .ok (.aload_n 0, 1) := by decide +kernel
theorem dX5_board_104 : decode cX5_board 104 = .ok (.iconst 0, 1) := by decide +kernel
theorem dX5_board_105 : decode cX5_board 105 = .ok (.putfield 104, 3) := by decide +kernel
theorem dX5_board_108 : decode cX5_board 108 = .ok (.aload_n 0, 1) := by decide +kernel
theorem dX5_board_109 : decode cX5_board 109 = .ok (.dup, 1) := by decide +kernel
theorem dX5_board_110 : decode cX5_board 110 = .ok (.getfield 107, 3) := by decide +kernel
theorem dX5_board_113 : decode cX5_board 113 = .ok (.iconst 1, 1) := by decide +kernel
theorem dX5_board_114 : decode cX5_board 114 = .ok (.iadd, 1) := by decide +kernel
theorem dX5_board_115 : decode cX5_board 115 = .ok (.putfield 107, 3) := by decide +kernel
theorem dX5_board_118 : decode cX5_board 118 = .ok (.aload_n 0, 1) := by decide +kernel
theorem dX5_board_119 : decode cX5_board 119 = .ok (.iconst 0, 1) := by decide +kernel
theorem dX5_board_120 : decode cX5_board 120 = .ok (.putfield 110, 3) := by decide +kernel
theorem dX5_board_123 : decode cX5_board 123 = .ok (.aload_n 0, 1) := by decide +kernel
theorem dX5_board_124 : decode cX5_board 124 = .ok (.iconst 0, 1) := by decide +kernel
theorem dX5_board_125 : decode cX5_board 125 = .ok (.putfield 69, 3) := by decide +kernel
theorem dX5_board_128 : decode cX5_board 128 = .ok (.aload_n 0, 1) := by decide +kernel
theorem dX5_board_129 : decode cX5_board 129 = .ok (.getfield 101, 3) := by decide +kernel
theorem dX5_board_132 : decode cX5_board 132 = .ok (.ireturn, 1) := by decide +kernel
theorem dX5_isNumber_0 : decode cX5_isNumber 0 = .ok (.iload_n 1, 1) := by decide +kernel
theorem dX5_isNumber_1 : decode cX5_isNumber 1 = .ok (.iconst 1, 1) := by decide +kernel
theorem dX5_isNumber_2 : decode cX5_isNumber 2 = .ok (.aload_n 0, 1) := by decide +kernel
theorem dX5_isNumber_3 : decode cX5_isNumber 3 = .ok (.getfield 101, 3) := by decide +kernel
theorem dX5_isNumber_6 : decode cX5_isNumber 6 = .ok (.invokestatic 65, 3) := by decide +kernel
theorem dX5_isNumber_9 : decode cX5_isNumber 9 = .ok (.ireturn, 1) := by decide +kernel
theorem dX5_isColour_0 : decode cX5_isColour 0 = .ok (.iload_n 1, 1) := by decide +kernel
theorem dX5_isColour_1 : decode cX5_isColour 1 = .ok (.iconst 0, 1) := by decide +kernel
theorem dX5_isColour_2 : decode cX5_isColour 2 = .ok (.aload_n 0, 1) := by decide +kernel
theorem dX5_isColour_3 : decode cX5_isColour 3 = .ok (.getfield 98, 3) := by decide +kernel
theorem dX5_isColour_6 : decode cX5_isColour 6 = .ok (.iconst 1, 1) := by decide +kernel
theorem dX5_isColour_7 : decode cX5_isColour 7 = .ok (.isub, 1) := by decide +kernel
theorem dX5_isColour_8 : decode cX5_isColour 8 = .ok (.invokestatic 65, 3) := by decide +kernel
theorem dX5_isColour_11 : decode cX5_isColour 11 = .ok (.ireturn, 1) := by decide +kernel
theorem dX5_isPart_0 : decode cX5_isPart 0 = .ok (.iload_n 0, 1) := by decide +kernel
theorem dX5_isPart_1 : decode cX5_isPart 1 = .ok (.iconst 3, 1) := by decide +kernel
theorem dX5_isPart_2 : decode cX5_isPart 2 = .ok (.if_icmp .eq 12, 3) := by decide +kernel
theorem dX5_isPart_5 : decode cX5_isPart 5 = .ok (.iload_n 0, 1) := by decide +kernel
theorem dX5_isPart_6 : decode cX5_isPart 6 = .ok (.iconst 4, 1) := by decide +kernel
theorem dX5_isPart_7 : decode cX5_isPart 7 = .ok (.if_icmp .eq 7, 3) := by decide +kernel
theorem dX5_isPart_10 : decode cX5_isPart 10 = .ok (.iconst 1, 1) := by decide +kernel
theorem dX5_isPart_11 : decode cX5_isPart 11 = .ok (.goto 4, 3) := by decide +kernel
theorem dX5_isPart_14 : decode cX5_isPart 14 = .ok (.iconst 0, 1) := by decide +kernel
theorem dX5_isPart_15 : decode cX5_isPart 15 = .ok (.ireturn, 1) := by decide +kernel
theorem dX5_minds_0 : decode cX5_minds 0 = .ok (.iload_n 0, 1) := by decide +kernel
theorem dX5_minds_1 : decode cX5_minds 1 = .ok (.ifCond .eq 17, 3) := by decide +kernel
theorem dX5_minds_4 : decode cX5_minds 4 = .ok (.iload_n 0, 1) := by decide +kernel
theorem dX5_minds_5 : decode cX5_minds 5 = .ok (.iconst 3, 1) := by decide +kernel
theorem dX5_minds_6 : decode cX5_minds 6 = .ok (.if_icmp .eq 12, 3) := by decide +kernel
theorem dX5_minds_9 : decode cX5_minds 9 = .ok (.iload_n 0, 1) := by decide +kernel
theorem dX5_minds_10 : decode cX5_minds 10 = .ok (.iconst 1, 1) := by decide +kernel
theorem dX5_minds_11 : decode cX5_minds 11 = .ok (.if_icmp .ne 11, 3) := by decide +kernel
theorem dX5_minds_14 : decode cX5_minds 14 = .ok (.iload_n 1, 1) := by decide +kernel
theorem dX5_minds_15 : decode cX5_minds 15 = .ok (.ifCond .eq 7, 3) := by decide +kernel
theorem dX5_minds_18 : decode cX5_minds 18 = .ok (.iconst 1, 1) := by decide +kernel
theorem dX5_minds_19 : decode cX5_minds 19 = .ok (.goto 4, 3) := by decide +kernel
theorem dX5_minds_22 : decode cX5_minds 22 = .ok (.iconst 0, 1) := by decide +kernel
theorem dX5_minds_23 : decode cX5_minds 23 = .ok (.ireturn, 1) := by decide +kernel
theorem dX5_layNow_0 : decode cX5_layNow 0 = .ok (.iconst 1, 1) := by decide +kernel
theorem dX5_layNow_1 : decode cX5_layNow 1 = .ok (.istore_n 1, 1) := by decide +kernel
theorem dX5_layNow_2 : decode cX5_layNow 2 = .ok (.iload_n 1, 1) := by decide +kernel
theorem dX5_layNow_3 : decode cX5_layNow 3 = .ok (.bipush 10, 2) := by decide +kernel
theorem dX5_layNow_5 : decode cX5_layNow 5 = .ok (.if_icmp .gt 33, 3) := by decide +kernel
theorem dX5_layNow_8 : decode cX5_layNow 8 = .ok (.aload_n 0, 1) := by decide +kernel
theorem dX5_layNow_9 : decode cX5_layNow 9 = .ok (.getfield 29, 3) := by decide +kernel
theorem dX5_layNow_12 : decode cX5_layNow 12 = .ok (.iload_n 1, 1) := by decide +kernel
theorem dX5_layNow_13 : decode cX5_layNow 13 = .ok (.iload_n 1, 1) := by decide +kernel
theorem dX5_layNow_14 : decode cX5_layNow 14 = .ok (.aload_n 0, 1) := by decide +kernel
theorem dX5_layNow_15 : decode cX5_layNow 15 = .ok (.getfield 101, 3) := by decide +kernel
theorem dX5_layNow_18 : decode cX5_layNow 18 = .ok (.if_icmp .gt 12, 3) := by decide +kernel
theorem dX5_layNow_21 : decode cX5_layNow 21 = .ok (.aload_n 0, 1) := by decide +kernel
theorem dX5_layNow_22 : decode cX5_layNow 22 = .ok (.getfield 13, 3) := by decide +kernel
theorem dX5_layNow_25 : decode cX5_layNow 25 = .ok (.iload_n 1, 1) := by decide +kernel
theorem dX5_layNow_26 : decode cX5_layNow 26 = .ok (.iaload, 1) := by decide +kernel
theorem dX5_layNow_27 : decode cX5_layNow 27 = .ok (.goto 4, 3) := by decide +kernel
theorem dX5_layNow_30 : decode cX5_layNow 30 = .ok (.iconst (-1), 1) := by decide +kernel
theorem dX5_layNow_31 : decode cX5_layNow 31 = .ok (.iastore, 1) := by decide +kernel
theorem dX5_layNow_32 : decode cX5_layNow 32 = .ok (.iinc 1 1, 3) := by decide +kernel
theorem dX5_layNow_35 : decode cX5_layNow 35 = .ok (.goto (-33), 3) := by decide +kernel
theorem dX5_layNow_38 : decode cX5_layNow 38 = .ok (.return_, 1) := by decide +kernel
theorem dX5_isBad_0 : decode cX5_isBad 0 = .ok (.iload_n 1, 1) := by decide +kernel
theorem dX5_isBad_1 : decode cX5_isBad 1 = .ok (.iload_n 2, 1) := by decide +kernel
theorem dX5_isBad_2 : decode cX5_isBad 2 = .ok (.iadd, 1) := by decide +kernel
theorem dX5_isBad_3 : decode cX5_isBad 3 = .ok (.istore_n 3, 1) := by decide +kernel
theorem dX5_isBad_4 : decode cX5_isBad 4 = .ok (.aload_n 0, 1) := by decide +kernel
theorem dX5_isBad_5 : decode cX5_isBad 5 = .ok (.getfield 29, 3) := by decide +kernel
theorem dX5_isBad_8 : decode cX5_isBad 8 = .ok (.iload_n 1, 1) := by decide +kernel
theorem dX5_isBad_9 : decode cX5_isBad 9 = .ok (.iaload, 1) := by decide +kernel
theorem dX5_isBad_10 : decode cX5_isBad 10 = .ok (.iconst (-1), 1) := by decide +kernel
theorem dX5_isBad_11 : decode cX5_isBad 11 = .ok (.if_icmp .eq 37, 3) := by decide +kernel
theorem dX5_isBad_14 : decode cX5_isBad 14 = .ok (.aload_n 0, 1) := by decide +kernel
theorem dX5_isBad_15 : decode cX5_isBad 15 = .ok (.getfield 29, 3) := by decide +kernel
theorem dX5_isBad_18 : decode cX5_isBad 18 = .ok (.iload_n 1, 1) := by decide +kernel
theorem dX5_isBad_19 : decode cX5_isBad 19 = .ok (.iaload, 1) := by decide +kernel
theorem dX5_isBad_20 : decode cX5_isBad 20 = .ok (.aload_n 0, 1) := by decide +kernel
theorem dX5_isBad_21 : decode cX5_isBad 21 = .ok (.getfield 29, 3) := by decide +kernel
theorem dX5_isBad_24 : decode cX5_isBad 24 = .ok (.iload_n 2, 1) := by decide +kernel
theorem dX5_isBad_25 : decode cX5_isBad 25 = .ok (.iaload, 1) := by decide +kernel
theorem dX5_isBad_26 : decode cX5_isBad 26 = .ok (.if_icmp .ne 22, 3) := by decide +kernel
theorem dX5_isBad_29 : decode cX5_isBad 29 = .ok (.aload_n 0, 1) := by decide +kernel
theorem dX5_isBad_30 : decode cX5_isBad 30 = .ok (.getfield 29, 3) := by decide +kernel
theorem dX5_isBad_33 : decode cX5_isBad 33 = .ok (.iload_n 1, 1) := by decide +kernel
theorem dX5_isBad_34 : decode cX5_isBad 34 = .ok (.iaload, 1) := by decide +kernel
theorem dX5_isBad_35 : decode cX5_isBad 35 = .ok (.aload_n 0, 1) := by decide +kernel
theorem dX5_isBad_36 : decode cX5_isBad 36 = .ok (.getfield 29, 3) := by decide +kernel
theorem dX5_isBad_39 : decode cX5_isBad 39 = .ok (.iload_n 3, 1) := by decide +kernel
theorem dX5_isBad_40 : decode cX5_isBad 40 = .ok (.iaload, 1) := by decide +kernel
theorem dX5_isBad_41 : decode cX5_isBad 41 = .ok (.if_icmp .ne 7, 3) := by decide +kernel
theorem dX5_isBad_44 : decode cX5_isBad 44 = .ok (.iconst 1, 1) := by decide +kernel
theorem dX5_isBad_45 : decode cX5_isBad 45 = .ok (.goto 4, 3) := by decide +kernel
theorem dX5_isBad_48 : decode cX5_isBad 48 = .ok (.iconst 0, 1) := by decide +kernel
theorem dX5_isBad_49 : decode cX5_isBad 49 = .ok (.istore 4, 2) := by decide +kernel
theorem dX5_isBad_51 : decode cX5_isBad 51 = .ok (.iload 4, 2) := by decide +kernel
theorem dX5_isBad_53 : decode cX5_isBad 53 = .ok (.ifCond .eq 53, 3) := by decide +kernel
theorem dX5_isBad_56 : decode cX5_isBad 56 = .ok (.aload_n 0, 1) := by decide +kernel
theorem dX5_isBad_57 : decode cX5_isBad 57 = .ok (.getfield 7, 3) := by decide +kernel
theorem dX5_isBad_60 : decode cX5_isBad 60 = .ok (.iload_n 1, 1) := by decide +kernel
theorem dX5_isBad_61 : decode cX5_isBad 61 = .ok (.iaload, 1) := by decide +kernel
theorem dX5_isBad_62 : decode cX5_isBad 62 = .ok (.invokestatic 113, 3) := by decide +kernel
theorem dX5_isBad_65 : decode cX5_isBad 65 = .ok (.ifCond .eq 41, 3) := by decide +kernel
theorem dX5_isBad_68 : decode cX5_isBad 68 = .ok (.aload_n 0, 1) := by decide +kernel
theorem dX5_isBad_69 : decode cX5_isBad 69 = .ok (.getfield 7, 3) := by decide +kernel
theorem dX5_isBad_72 : decode cX5_isBad 72 = .ok (.iload_n 2, 1) := by decide +kernel
theorem dX5_isBad_73 : decode cX5_isBad 73 = .ok (.iaload, 1) := by decide +kernel
theorem dX5_isBad_74 : decode cX5_isBad 74 = .ok (.invokestatic 113, 3) := by decide +kernel
theorem dX5_isBad_77 : decode cX5_isBad 77 = .ok (.ifCond .eq 29, 3) := by decide +kernel
theorem dX5_isBad_80 : decode cX5_isBad 80 = .ok (.aload_n 0, 1) := by decide +kernel
theorem dX5_isBad_81 : decode cX5_isBad 81 = .ok (.getfield 7, 3) := by decide +kernel
theorem dX5_isBad_84 : decode cX5_isBad 84 = .ok (.iload_n 3, 1) := by decide +kernel
theorem dX5_isBad_85 : decode cX5_isBad 85 = .ok (.iaload, 1) := by decide +kernel
theorem dX5_isBad_86 : decode cX5_isBad 86 = .ok (.iload_n 1, 1) := by decide +kernel
theorem dX5_isBad_87 : decode cX5_isBad 87 = .ok (.iload_n 2, 1) := by decide +kernel
theorem dX5_isBad_88 : decode cX5_isBad 88 = .ok (.if_icmp .eq 7, 3) := by decide +kernel
theorem dX5_isBad_91 : decode cX5_isBad 91 = .ok (.iconst 1, 1) := by decide +kernel
theorem dX5_isBad_92 : decode cX5_isBad 92 = .ok (.goto 4, 3) := by decide +kernel
theorem dX5_isBad_95 : decode cX5_isBad 95 = .ok (.iconst 0, 1) := by decide +kernel
theorem dX5_isBad_96 : decode cX5_isBad 96 = .ok (.invokestatic 117, 3) := by decide +kernel
theorem dX5_isBad_99 : decode cX5_isBad 99 = .ok (.ifCond .eq 7, 3) := by decide +kernel
theorem dX5_isBad_102 : decode cX5_isBad 102 = .ok (.iconst 1, 1) := by decide +kernel
theorem dX5_isBad_103 : decode cX5_isBad 103 = .ok (.goto 4, 3) := by decide +kernel
theorem dX5_isBad_106 : decode cX5_isBad 106 = .ok (.iconst 0, 1) := by decide +kernel
theorem dX5_isBad_107 : decode cX5_isBad 107 = .ok (.ireturn, 1) := by decide +kernel
theorem dX5_badWith_0 : decode cX5_badWith 0 = .ok (.iconst 0, 1) := by decide +kernel
theorem dX5_badWith_1 : decode cX5_badWith 1 = .ok (.istore_n 2, 1) := by decide +kernel
theorem dX5_badWith_2 : decode cX5_badWith 2 = .ok (.iconst 1, 1) := by decide +kernel
theorem dX5_badWith_3 : decode cX5_badWith 3 = .ok (.istore_n 3, 1) := by decide +kernel
theorem dX5_badWith_4 : decode cX5_badWith 4 = .ok (.iload_n 3, 1) := by decide +kernel
theorem dX5_badWith_5 : decode cX5_badWith 5 = .ok (.iload_n 1, 1) := by decide +kernel
theorem dX5_badWith_6 : decode cX5_badWith 6 = .ok (.iload_n 3, 1) := by decide +kernel
theorem dX5_badWith_7 : decode cX5_badWith 7 = .ok (.isub, 1) := by decide +kernel
theorem dX5_badWith_8 : decode cX5_badWith 8 = .ok (.if_icmp .gt 28, 3) := by decide +kernel
theorem dX5_badWith_11 : decode cX5_badWith 11 = .ok (.iload_n 2, 1) := by decide +kernel
theorem dX5_badWith_12 : decode cX5_badWith 12 = .ok (.aload_n 0, 1) := by decide +kernel
theorem dX5_badWith_13 : decode cX5_badWith 13 = .ok (.iload_n 3, 1) := by decide +kernel
theorem dX5_badWith_14 : decode cX5_badWith 14 = .ok (.iload_n 1, 1) := by decide +kernel
theorem dX5_badWith_15 : decode cX5_badWith 15 = .ok (.iload_n 3, 1) := by decide +kernel
theorem dX5_badWith_16 : decode cX5_badWith 16 = .ok (.isub, 1) := by decide +kernel
theorem dX5_badWith_17 : decode cX5_badWith 17 = .ok (.invokevirtual 121, 3) := by decide +kernel
theorem dX5_badWith_20 : decode cX5_badWith 20 = .ok (.ifCond .eq 7, 3) := by decide +kernel
theorem dX5_badWith_23 : decode cX5_badWith 23 = .ok (.iconst 1, 1) := by decide +kernel
theorem dX5_badWith_24 : decode cX5_badWith 24 = .ok (.goto 4, 3) := by decide +kernel
theorem dX5_badWith_27 : decode cX5_badWith 27 = .ok (.iconst 0, 1) := by decide +kernel
theorem dX5_badWith_28 : decode cX5_badWith 28 = .ok (.iadd, 1) := by decide +kernel
theorem dX5_badWith_29 : decode cX5_badWith 29 = .ok (.istore_n 2, 1) := by decide +kernel
theorem dX5_badWith_30 : decode cX5_badWith 30 = .ok (.iinc 3 1, 3) := by decide +kernel
theorem dX5_badWith_33 : decode cX5_badWith 33 = .ok (.goto (-29), 3) := by decide +kernel
theorem dX5_badWith_36 : decode cX5_badWith 36 = .ok (.iload_n 2, 1) := by decide +kernel
theorem dX5_badWith_37 : decode cX5_badWith 37 = .ok (.ireturn, 1) := by decide +kernel
theorem dX5_badUpTo_0 : decode cX5_badUpTo 0 = .ok (.iconst 0, 1) := by decide +kernel
theorem dX5_badUpTo_1 : decode cX5_badUpTo 1 = .ok (.istore_n 2, 1) := by decide +kernel
theorem dX5_badUpTo_2 : decode cX5_badUpTo 2 = .ok (.iconst 2, 1) := by decide +kernel
theorem dX5_badUpTo_3 : decode cX5_badUpTo 3 = .ok (.istore_n 3, 1) := by decide +kernel
theorem dX5_badUpTo_4 : decode cX5_badUpTo 4 = .ok (.iload_n 3, 1) := by decide +kernel
theorem dX5_badUpTo_5 : decode cX5_badUpTo 5 = .ok (.iload_n 1, 1) := by decide +kernel
theorem dX5_badUpTo_6 : decode cX5_badUpTo 6 = .ok (.if_icmp .gt 17, 3) := by decide +kernel
theorem dX5_badUpTo_9 : decode cX5_badUpTo 9 = .ok (.iload_n 2, 1) := by decide +kernel
theorem dX5_badUpTo_10 : decode cX5_badUpTo 10 = .ok (.aload_n 0, 1) := by decide +kernel
theorem dX5_badUpTo_11 : decode cX5_badUpTo 11 = .ok (.iload_n 3, 1) := by decide +kernel
theorem dX5_badUpTo_12 : decode cX5_badUpTo 12 = .ok (.invokevirtual 125, 3) := by decide +kernel
theorem dX5_badUpTo_15 : decode cX5_badUpTo 15 = .ok (.iadd, 1) := by decide +kernel
theorem dX5_badUpTo_16 : decode cX5_badUpTo 16 = .ok (.istore_n 2, 1) := by decide +kernel
theorem dX5_badUpTo_17 : decode cX5_badUpTo 17 = .ok (.iinc 3 1, 3) := by decide +kernel
theorem dX5_badUpTo_20 : decode cX5_badUpTo 20 = .ok (.goto (-16), 3) := by decide +kernel
theorem dX5_badUpTo_23 : decode cX5_badUpTo 23 = .ok (.iload_n 2, 1) := by decide +kernel
theorem dX5_badUpTo_24 : decode cX5_badUpTo 24 = .ok (.ireturn, 1) := by decide +kernel
theorem dX5_badNow_0 : decode cX5_badNow 0 = .ok (.aload_n 0, 1) := by decide +kernel
theorem dX5_badNow_1 : decode cX5_badNow 1 = .ok (.invokevirtual 128, 3) := by decide +kernel
theorem dX5_badNow_4 : decode cX5_badNow 4 = .ok (.aload_n 0, 1) := by decide +kernel
theorem dX5_badNow_5 : decode cX5_badNow 5 = .ok (.aload_n 0, 1) := by decide +kernel
theorem dX5_badNow_6 : decode cX5_badNow 6 = .ok (.getfield 101, 3) := by decide +kernel
theorem dX5_badNow_9 : decode cX5_badNow 9 = .ok (.invokevirtual 131, 3) := by decide +kernel
theorem dX5_badNow_12 : decode cX5_badNow 12 = .ok (.ireturn, 1) := by decide +kernel
theorem dX5_badOf_0 : decode cX5_badOf 0 = .ok (.aload_n 0, 1) := by decide +kernel
theorem dX5_badOf_1 : decode cX5_badOf 1 = .ok (.invokevirtual 128, 3) := by decide +kernel
theorem dX5_badOf_4 : decode cX5_badOf 4 = .ok (.aload_n 0, 1) := by decide +kernel
theorem dX5_badOf_5 : decode cX5_badOf 5 = .ok (.iload_n 1, 1) := by decide +kernel
theorem dX5_badOf_6 : decode cX5_badOf 6 = .ok (.invokevirtual 125, 3) := by decide +kernel
theorem dX5_badOf_9 : decode cX5_badOf 9 = .ok (.istore_n 2, 1) := by decide +kernel
theorem dX5_badOf_10 : decode cX5_badOf 10 = .ok (.iload_n 1, 1) := by decide +kernel
theorem dX5_badOf_11 : decode cX5_badOf 11 = .ok (.iconst 1, 1) := by decide +kernel
theorem dX5_badOf_12 : decode cX5_badOf 12 = .ok (.iadd, 1) := by decide +kernel
theorem dX5_badOf_13 : decode cX5_badOf 13 = .ok (.istore_n 3, 1) := by decide +kernel
theorem dX5_badOf_14 : decode cX5_badOf 14 = .ok (.iload_n 3, 1) := by decide +kernel
theorem dX5_badOf_15 : decode cX5_badOf 15 = .ok (.aload_n 0, 1) := by decide +kernel
theorem dX5_badOf_16 : decode cX5_badOf 16 = .ok (.getfield 101, 3) := by decide +kernel
theorem dX5_badOf_19 : decode cX5_badOf 19 = .ok (.if_icmp .gt 52, 3) := by decide +kernel
theorem dX5_badOf_22 : decode cX5_badOf 22 = .ok (.iload_n 2, 1) := by decide +kernel
theorem dX5_badOf_23 : decode cX5_badOf 23 = .ok (.aload_n 0, 1) := by decide +kernel
theorem dX5_badOf_24 : decode cX5_badOf 24 = .ok (.iload_n 1, 1) := by decide +kernel
theorem dX5_badOf_25 : decode cX5_badOf 25 = .ok (.iload_n 3, 1) := by decide +kernel
theorem dX5_badOf_26 : decode cX5_badOf 26 = .ok (.iload_n 1, 1) := by decide +kernel
theorem dX5_badOf_27 : decode cX5_badOf 27 = .ok (.isub, 1) := by decide +kernel
theorem dX5_badOf_28 : decode cX5_badOf 28 = .ok (.if_icmp .ge 7, 3) := by decide +kernel
theorem dX5_badOf_31 : decode cX5_badOf 31 = .ok (.iload_n 1, 1) := by decide +kernel
theorem dX5_badOf_32 : decode cX5_badOf 32 = .ok (.goto 6, 3) := by decide +kernel
theorem dX5_badOf_35 : decode cX5_badOf 35 = .ok (.iload_n 3, 1) := by decide +kernel
theorem dX5_badOf_36 : decode cX5_badOf 36 = .ok (.iload_n 1, 1) := by decide +kernel
theorem dX5_badOf_37 : decode cX5_badOf 37 = .ok (.isub, 1) := by decide +kernel
theorem dX5_badOf_38 : decode cX5_badOf 38 = .ok (.iload_n 1, 1) := by decide +kernel
theorem dX5_badOf_39 : decode cX5_badOf 39 = .ok (.iload_n 3, 1) := by decide +kernel
theorem dX5_badOf_40 : decode cX5_badOf 40 = .ok (.iload_n 1, 1) := by decide +kernel
theorem dX5_badOf_41 : decode cX5_badOf 41 = .ok (.isub, 1) := by decide +kernel
theorem dX5_badOf_42 : decode cX5_badOf 42 = .ok (.if_icmp .ge 9, 3) := by decide +kernel
theorem dX5_badOf_45 : decode cX5_badOf 45 = .ok (.iload_n 3, 1) := by decide +kernel
theorem dX5_badOf_46 : decode cX5_badOf 46 = .ok (.iload_n 1, 1) := by decide +kernel
theorem dX5_badOf_47 : decode cX5_badOf 47 = .ok (.isub, 1) := by decide +kernel
theorem dX5_badOf_48 : decode cX5_badOf 48 = .ok (.goto 4, 3) := by decide +kernel
theorem dX5_badOf_51 : decode cX5_badOf 51 = .ok (.iload_n 1, 1) := by decide +kernel
theorem dX5_badOf_52 : decode cX5_badOf 52 = .ok (.invokevirtual 121, 3) := by decide +kernel
theorem dX5_badOf_55 : decode cX5_badOf 55 = .ok (.ifCond .eq 7, 3) := by decide +kernel
theorem dX5_badOf_58 : decode cX5_badOf 58 = .ok (.iconst 1, 1) := by decide +kernel
theorem dX5_badOf_59 : decode cX5_badOf 59 = .ok (.goto 4, 3) := by decide +kernel
theorem dX5_badOf_62 : decode cX5_badOf 62 = .ok (.iconst 0, 1) := by decide +kernel
theorem dX5_badOf_63 : decode cX5_badOf 63 = .ok (.iadd, 1) := by decide +kernel
theorem dX5_badOf_64 : decode cX5_badOf 64 = .ok (.istore_n 2, 1) := by decide +kernel
theorem dX5_badOf_65 : decode cX5_badOf 65 = .ok (.iinc 3 1, 3) := by decide +kernel
theorem dX5_badOf_68 : decode cX5_badOf 68 = .ok (.goto (-54), 3) := by decide +kernel
theorem dX5_badOf_71 : decode cX5_badOf 71 = .ok (.iload_n 2, 1) := by decide +kernel
theorem dX5_badOf_72 : decode cX5_badOf 72 = .ok (.ireturn, 1) := by decide +kernel
theorem dX5_numberNow_0 : decode cX5_numberNow 0 = .ok (.iload_n 2, 1) := by decide +kernel
theorem dX5_numberNow_1 : decode cX5_numberNow 1 = .ok (.tableswitch 73 0 4 #[35, 42, 49, 61, 67], 35) := by decide +kernel
theorem dX5_numberNow_36 : decode cX5_numberNow 36 = .ok (.aload_n 0, 1) := by decide +kernel
theorem dX5_numberNow_37 : decode cX5_numberNow 37 = .ok (.getfield 7, 3) := by decide +kernel
theorem dX5_numberNow_40 : decode cX5_numberNow 40 = .ok (.iload_n 1, 1) := by decide +kernel
theorem dX5_numberNow_41 : decode cX5_numberNow 41 = .ok (.iaload, 1) := by decide +kernel
theorem dX5_numberNow_42 : decode cX5_numberNow 42 = .ok (.ireturn, 1) := by decide +kernel
theorem dX5_numberNow_43 : decode cX5_numberNow 43 = .ok (.aload_n 0, 1) := by decide +kernel
theorem dX5_numberNow_44 : decode cX5_numberNow 44 = .ok (.getfield 13, 3) := by decide +kernel
theorem dX5_numberNow_47 : decode cX5_numberNow 47 = .ok (.iload_n 1, 1) := by decide +kernel
theorem dX5_numberNow_48 : decode cX5_numberNow 48 = .ok (.iaload, 1) := by decide +kernel
theorem dX5_numberNow_49 : decode cX5_numberNow 49 = .ok (.ireturn, 1) := by decide +kernel
theorem dX5_numberNow_50 : decode cX5_numberNow 50 = .ok (.aload_n 0, 1) := by decide +kernel
theorem dX5_numberNow_51 : decode cX5_numberNow 51 = .ok (.iconst (-1), 1) := by decide +kernel
theorem dX5_numberNow_52 : decode cX5_numberNow 52 = .ok (.invokevirtual 134, 3) := by decide +kernel
theorem dX5_numberNow_55 : decode cX5_numberNow 55 = .ok (.pop, 1) := by decide +kernel
theorem dX5_numberNow_56 : decode cX5_numberNow 56 = .ok (.aload_n 0, 1) := by decide +kernel
theorem dX5_numberNow_57 : decode cX5_numberNow 57 = .ok (.iload_n 1, 1) := by decide +kernel
theorem dX5_numberNow_58 : decode cX5_numberNow 58 = .ok (.invokevirtual 137, 3) := by decide +kernel
theorem dX5_numberNow_61 : decode cX5_numberNow 61 = .ok (.ireturn, 1) := by decide +kernel
theorem dX5_numberNow_62 : decode cX5_numberNow 62 = .ok (.aload_n 0, 1) := by decide +kernel
theorem dX5_numberNow_63 : decode cX5_numberNow 63 = .ok (.iload_n 1, 1) := by decide +kernel
theorem dX5_numberNow_64 : decode cX5_numberNow 64 = .ok (.invokevirtual 140, 3) := by decide +kernel
theorem dX5_numberNow_67 : decode cX5_numberNow 67 = .ok (.ireturn, 1) := by decide +kernel
theorem dX5_numberNow_68 : decode cX5_numberNow 68 = .ok (.aload_n 0, 1) := by decide +kernel
theorem dX5_numberNow_69 : decode cX5_numberNow 69 = .ok (.iload_n 1, 1) := by decide +kernel
theorem dX5_numberNow_70 : decode cX5_numberNow 70 = .ok (.invokevirtual 143, 3) := by decide +kernel
theorem dX5_numberNow_73 : decode cX5_numberNow 73 = .ok (.ireturn, 1) := by decide +kernel
theorem dX5_numberNow_74 : decode cX5_numberNow 74 = .ok (.aload_n 0, 1) := by decide +kernel
theorem dX5_numberNow_75 : decode cX5_numberNow 75 = .ok (.iload_n 1, 1) := by decide +kernel
theorem dX5_numberNow_76 : decode cX5_numberNow 76 = .ok (.invokevirtual 146, 3) := by decide +kernel
theorem dX5_numberNow_79 : decode cX5_numberNow 79 = .ok (.ireturn, 1) := by decide +kernel
theorem dX5_number_0 : decode cX5_number 0 = .ok (.aload_n 0, 1) := by decide +kernel
theorem dX5_number_1 : decode cX5_number 1 = .ok (.iload_n 1, 1) := by decide +kernel
theorem dX5_number_2 : decode cX5_number 2 = .ok (.invokevirtual 149, 3) := by decide +kernel
theorem dX5_number_5 : decode cX5_number 5 = .ok (.ifCond .ne 8, 3) := by decide +kernel
theorem dX5_number_8 : decode cX5_number 8 = .ok (.bipush (-101), 2) := by decide +kernel
theorem dX5_number_10 : decode cX5_number 10 = .ok (.goto 23, 3) := by decide +kernel
theorem dX5_number_13 : decode cX5_number 13 = .ok (.iload_n 2, 1) := by decide +kernel
theorem dX5_number_14 : decode cX5_number 14 = .ok (.iconst 0, 1) := by decide +kernel
theorem dX5_number_15 : decode cX5_number 15 = .ok (.iconst 5, 1) := by decide +kernel
theorem dX5_number_16 : decode cX5_number 16 = .ok (.invokestatic 65, 3) := by decide +kernel
theorem dX5_number_19 : decode cX5_number 19 = .ok (.ifCond .eq 12, 3) := by decide +kernel
theorem dX5_number_22 : decode cX5_number 22 = .ok (.aload_n 0, 1) := by decide +kernel
theorem dX5_number_23 : decode cX5_number 23 = .ok (.iload_n 1, 1) := by decide +kernel
theorem dX5_number_24 : decode cX5_number 24 = .ok (.iload_n 2, 1) := by decide +kernel
theorem dX5_number_25 : decode cX5_number 25 = .ok (.invokevirtual 152, 3) := by decide +kernel
theorem dX5_number_28 : decode cX5_number 28 = .ok (.goto 5, 3) := by decide +kernel
theorem dX5_number_31 : decode cX5_number 31 = .ok (.bipush (-102), 2) := by decide +kernel
theorem dX5_number_33 : decode cX5_number 33 = .ok (.ireturn, 1) := by decide +kernel
theorem dX5_as_0 : decode cX5_as 0 = .ok (.aload_n 0, 1) := by decide +kernel
theorem dX5_as_1 : decode cX5_as 1 = .ok (.iload_n 1, 1) := by decide +kernel
theorem dX5_as_2 : decode cX5_as 2 = .ok (.invokevirtual 149, 3) := by decide +kernel
theorem dX5_as_5 : decode cX5_as 5 = .ok (.ifCond .ne 6, 3) := by decide +kernel
theorem dX5_as_8 : decode cX5_as 8 = .ok (.bipush (-101), 2) := by decide +kernel
theorem dX5_as_10 : decode cX5_as 10 = .ok (.ireturn, 1) := by decide +kernel
theorem dX5_as_11 : decode cX5_as 11 = .ok (.iload_n 2, 1) := by decide +kernel
theorem dX5_as_12 : decode cX5_as 12 = .ok (.iconst 0, 1) := by decide +kernel
theorem dX5_as_13 : decode cX5_as 13 = .ok (.iconst 4, 1) := by decide +kernel
theorem dX5_as_14 : decode cX5_as 14 = .ok (.invokestatic 65, 3) := by decide +kernel
theorem dX5_as_17 : decode cX5_as 17 = .ok (.ifCond .ne 6, 3) := by decide +kernel
theorem dX5_as_20 : decode cX5_as 20 = .ok (.bipush (-102), 2) := by decide +kernel
theorem dX5_as_22 : decode cX5_as 22 = .ok (.ireturn, 1) := by decide +kernel
theorem dX5_as_23 : decode cX5_as 23 = .ok (.aload_n 0, 1) := by decide +kernel
theorem dX5_as_24 : decode cX5_as 24 = .ok (.getfield 7, 3) := by decide +kernel
theorem dX5_as_27 : decode cX5_as 27 = .ok (.iload_n 1, 1) := by decide +kernel
theorem dX5_as_28 : decode cX5_as 28 = .ok (.iaload, 1) := by decide +kernel
theorem dX5_as_29 : decode cX5_as 29 = .ok (.istore_n 3, 1) := by decide +kernel
theorem dX5_as_30 : decode cX5_as 30 = .ok (.iload_n 2, 1) := by decide +kernel
theorem dX5_as_31 : decode cX5_as 31 = .ok (.ifCond .eq 18, 3) := by decide +kernel
theorem dX5_as_34 : decode cX5_as 34 = .ok (.iload_n 3, 1) := by decide +kernel
theorem dX5_as_35 : decode cX5_as 35 = .ok (.iload_n 2, 1) := by decide +kernel
theorem dX5_as_36 : decode cX5_as 36 = .ok (.if_icmp .eq 13, 3) := by decide +kernel
theorem dX5_as_39 : decode cX5_as 39 = .ok (.iload_n 2, 1) := by decide +kernel
theorem dX5_as_40 : decode cX5_as 40 = .ok (.iconst 3, 1) := by decide +kernel
theorem dX5_as_41 : decode cX5_as 41 = .ok (.if_icmp .ne 12, 3) := by decide +kernel
theorem dX5_as_44 : decode cX5_as 44 = .ok (.iload_n 3, 1) := by decide +kernel
theorem dX5_as_45 : decode cX5_as 45 = .ok (.iconst 4, 1) := by decide +kernel
theorem dX5_as_46 : decode cX5_as 46 = .ok (.if_icmp .ne 7, 3) := by decide +kernel
theorem dX5_as_49 : decode cX5_as 49 = .ok (.iload_n 1, 1) := by decide +kernel
theorem dX5_as_50 : decode cX5_as 50 = .ok (.goto 4, 3) := by decide +kernel
theorem dX5_as_53 : decode cX5_as 53 = .ok (.iconst (-1), 1) := by decide +kernel
theorem dX5_as_54 : decode cX5_as 54 = .ok (.ireturn, 1) := by decide +kernel
theorem dX5_turnBack_0 : decode cX5_turnBack 0 = .ok (.iload_n 1, 1) := by decide +kernel
theorem dX5_turnBack_1 : decode cX5_turnBack 1 = .ok (.istore_n 2, 1) := by decide +kernel
theorem dX5_turnBack_2 : decode cX5_turnBack 2 = .ok (.iload_n 2, 1) := by decide +kernel
theorem dX5_turnBack_3 : decode cX5_turnBack 3 = .ok (.ifCond .le 46, 3) := by decide +kernel
theorem dX5_turnBack_6 : decode cX5_turnBack 6 = .ok (.aload_n 0, 1) := by decide +kernel
theorem dX5_turnBack_7 : decode cX5_turnBack 7 = .ok (.getfield 13, 3) := by decide +kernel
theorem dX5_turnBack_10 : decode cX5_turnBack 10 = .ok (.iload_n 2, 1) := by decide +kernel
theorem dX5_turnBack_11 : decode cX5_turnBack 11 = .ok (.iaload, 1) := by decide +kernel
theorem dX5_turnBack_12 : decode cX5_turnBack 12 = .ok (.iconst (-1), 1) := by decide +kernel
theorem dX5_turnBack_13 : decode cX5_turnBack 13 = .ok (.if_icmp .ne 18, 3) := by decide +kernel
theorem dX5_turnBack_16 : decode cX5_turnBack 16 = .ok (.aload_n 0, 1) := by decide +kernel
theorem dX5_turnBack_17 : decode cX5_turnBack 17 = .ok (.getfield 29, 3) := by decide +kernel
theorem dX5_turnBack_20 : decode cX5_turnBack 20 = .ok (.iload_n 2, 1) := by decide +kernel
theorem dX5_turnBack_21 : decode cX5_turnBack 21 = .ok (.iaload, 1) := by decide +kernel
theorem dX5_turnBack_22 : decode cX5_turnBack 22 = .ok (.aload_n 0, 1) := by decide +kernel
theorem dX5_turnBack_23 : decode cX5_turnBack 23 = .ok (.getfield 98, 3) := by decide +kernel
theorem dX5_turnBack_26 : decode cX5_turnBack 26 = .ok (.iconst 1, 1) := by decide +kernel
theorem dX5_turnBack_27 : decode cX5_turnBack 27 = .ok (.isub, 1) := by decide +kernel
theorem dX5_turnBack_28 : decode cX5_turnBack 28 = .ok (.if_icmp .ne 21, 3) := by decide +kernel
theorem dX5_turnBack_31 : decode cX5_turnBack 31 = .ok (.aload_n 0, 1) := by decide +kernel
theorem dX5_turnBack_32 : decode cX5_turnBack 32 = .ok (.getfield 29, 3) := by decide +kernel
theorem dX5_turnBack_35 : decode cX5_turnBack 35 = .ok (.iload_n 2, 1) := by decide +kernel
theorem dX5_turnBack_36 : decode cX5_turnBack 36 = .ok (.aload_n 0, 1) := by decide +kernel
theorem dX5_turnBack_37 : decode cX5_turnBack 37 = .ok (.getfield 13, 3) := by decide +kernel
theorem dX5_turnBack_40 : decode cX5_turnBack 40 = .ok (.iload_n 2, 1) := by decide +kernel
theorem dX5_turnBack_41 : decode cX5_turnBack 41 = .ok (.iaload, 1) := by decide +kernel
theorem dX5_turnBack_42 : decode cX5_turnBack 42 = .ok (.iastore, 1) := by decide +kernel
theorem dX5_turnBack_43 : decode cX5_turnBack 43 = .ok (.iinc 2 (-1), 3) := by decide +kernel
theorem dX5_turnBack_46 : decode cX5_turnBack 46 = .ok (.goto (-44), 3) := by decide +kernel
theorem dX5_turnBack_49 : decode cX5_turnBack 49 = .ok (.iload_n 2, 1) := by decide +kernel
theorem dX5_turnBack_50 : decode cX5_turnBack 50 = .ok (.ifCond .le 13, 3) := by decide +kernel
theorem dX5_turnBack_53 : decode cX5_turnBack 53 = .ok (.aload_n 0, 1) := by decide +kernel
theorem dX5_turnBack_54 : decode cX5_turnBack 54 = .ok (.getfield 29, 3) := by decide +kernel
theorem dX5_turnBack_57 : decode cX5_turnBack 57 = .ok (.iload_n 2, 1) := by decide +kernel
theorem dX5_turnBack_58 : decode cX5_turnBack 58 = .ok (.dup2, 1) := by decide +kernel
theorem dX5_turnBack_59 : decode cX5_turnBack 59 = .ok (.iaload, 1) := by decide +kernel
theorem dX5_turnBack_60 : decode cX5_turnBack 60 = .ok (.iconst 1, 1) := by decide +kernel
theorem dX5_turnBack_61 : decode cX5_turnBack 61 = .ok (.iadd, 1) := by decide +kernel
theorem dX5_turnBack_62 : decode cX5_turnBack 62 = .ok (.iastore, 1) := by decide +kernel
theorem dX5_turnBack_63 : decode cX5_turnBack 63 = .ok (.iload_n 2, 1) := by decide +kernel
theorem dX5_turnBack_64 : decode cX5_turnBack 64 = .ok (.ireturn, 1) := by decide +kernel
theorem dX5_goOn_0 : decode cX5_goOn 0 = .ok (.iload_n 1, 1) := by decide +kernel
theorem dX5_goOn_1 : decode cX5_goOn 1 = .ok (.istore_n 3, 1) := by decide +kernel
theorem dX5_goOn_2 : decode cX5_goOn 2 = .ok (.iload_n 3, 1) := by decide +kernel
theorem dX5_goOn_3 : decode cX5_goOn 3 = .ok (.ifCond .le 48, 3) := by decide +kernel
theorem dX5_goOn_6 : decode cX5_goOn 6 = .ok (.iload_n 3, 1) := by decide +kernel
theorem dX5_goOn_7 : decode cX5_goOn 7 = .ok (.iload_n 2, 1) := by decide +kernel
theorem dX5_goOn_8 : decode cX5_goOn 8 = .ok (.if_icmp .gt 43, 3) := by decide +kernel
theorem dX5_goOn_11 : decode cX5_goOn 11 = .ok (.aload_n 0, 1) := by decide +kernel
theorem dX5_goOn_12 : decode cX5_goOn 12 = .ok (.getfield 29, 3) := by decide +kernel
theorem dX5_goOn_15 : decode cX5_goOn 15 = .ok (.iload_n 3, 1) := by decide +kernel
theorem dX5_goOn_16 : decode cX5_goOn 16 = .ok (.iaload, 1) := by decide +kernel
theorem dX5_goOn_17 : decode cX5_goOn 17 = .ok (.iconst (-1), 1) := by decide +kernel
theorem dX5_goOn_18 : decode cX5_goOn 18 = .ok (.if_icmp .ne 10, 3) := by decide +kernel
theorem dX5_goOn_21 : decode cX5_goOn 21 = .ok (.aload_n 0, 1) := by decide +kernel
theorem dX5_goOn_22 : decode cX5_goOn 22 = .ok (.getfield 29, 3) := by decide +kernel
theorem dX5_goOn_25 : decode cX5_goOn 25 = .ok (.iload_n 3, 1) := by decide +kernel
theorem dX5_goOn_26 : decode cX5_goOn 26 = .ok (.iconst 0, 1) := by decide +kernel
theorem dX5_goOn_27 : decode cX5_goOn 27 = .ok (.iastore, 1) := by decide +kernel
theorem dX5_goOn_28 : decode cX5_goOn 28 = .ok (.aload_n 0, 1) := by decide +kernel
theorem dX5_goOn_29 : decode cX5_goOn 29 = .ok (.iload_n 3, 1) := by decide +kernel
theorem dX5_goOn_30 : decode cX5_goOn 30 = .ok (.invokevirtual 125, 3) := by decide +kernel
theorem dX5_goOn_33 : decode cX5_goOn 33 = .ok (.ifCond .le 11, 3) := by decide +kernel
theorem dX5_goOn_36 : decode cX5_goOn 36 = .ok (.aload_n 0, 1) := by decide +kernel
theorem dX5_goOn_37 : decode cX5_goOn 37 = .ok (.iload_n 3, 1) := by decide +kernel
theorem dX5_goOn_38 : decode cX5_goOn 38 = .ok (.invokevirtual 155, 3) := by decide +kernel
theorem dX5_goOn_41 : decode cX5_goOn 41 = .ok (.goto 6, 3) := by decide +kernel
theorem dX5_goOn_44 : decode cX5_goOn 44 = .ok (.iload_n 3, 1) := by decide +kernel
theorem dX5_goOn_45 : decode cX5_goOn 45 = .ok (.iconst 1, 1) := by decide +kernel
theorem dX5_goOn_46 : decode cX5_goOn 46 = .ok (.iadd, 1) := by decide +kernel
theorem dX5_goOn_47 : decode cX5_goOn 47 = .ok (.istore_n 3, 1) := by decide +kernel
theorem dX5_goOn_48 : decode cX5_goOn 48 = .ok (.goto (-46), 3) := by decide +kernel
theorem dX5_goOn_51 : decode cX5_goOn 51 = .ok (.iload_n 3, 1) := by decide +kernel
theorem dX5_goOn_52 : decode cX5_goOn 52 = .ok (.ireturn, 1) := by decide +kernel
theorem dX5_takeWay_0 : decode cX5_takeWay 0 = .ok (.iconst 1, 1) := by decide +kernel
theorem dX5_takeWay_1 : decode cX5_takeWay 1 = .ok (.istore_n 2, 1) := by decide +kernel
theorem dX5_takeWay_2 : decode cX5_takeWay 2 = .ok (.iload_n 2, 1) := by decide +kernel
theorem dX5_takeWay_3 : decode cX5_takeWay 3 = .ok (.aload_n 0, 1) := by decide +kernel
theorem dX5_takeWay_4 : decode cX5_takeWay 4 = .ok (.getfield 101, 3) := by decide +kernel
theorem dX5_takeWay_7 : decode cX5_takeWay 7 = .ok (.if_icmp .gt 57, 3) := by decide +kernel
theorem dX5_takeWay_10 : decode cX5_takeWay 10 = .ok (.aload_n 0, 1) := by decide +kernel
theorem dX5_takeWay_11 : decode cX5_takeWay 11 = .ok (.getfield 32, 3) := by decide +kernel
theorem dX5_takeWay_14 : decode cX5_takeWay 14 = .ok (.iconst 3, 1) := by decide +kernel
theorem dX5_takeWay_15 : decode cX5_takeWay 15 = .ok (.iload_n 2, 1) := by decide +kernel
theorem dX5_takeWay_16 : decode cX5_takeWay 16 = .ok (.imul, 1) := by decide +kernel
theorem dX5_takeWay_17 : decode cX5_takeWay 17 = .ok (.aload_n 0, 1) := by decide +kernel
theorem dX5_takeWay_18 : decode cX5_takeWay 18 = .ok (.getfield 29, 3) := by decide +kernel
theorem dX5_takeWay_21 : decode cX5_takeWay 21 = .ok (.iload_n 2, 1) := by decide +kernel
theorem dX5_takeWay_22 : decode cX5_takeWay 22 = .ok (.iaload, 1) := by decide +kernel
theorem dX5_takeWay_23 : decode cX5_takeWay 23 = .ok (.iadd, 1) := by decide +kernel
theorem dX5_takeWay_24 : decode cX5_takeWay 24 = .ok (.dup2, 1) := by decide +kernel
theorem dX5_takeWay_25 : decode cX5_takeWay 25 = .ok (.iaload, 1) := by decide +kernel
theorem dX5_takeWay_26 : decode cX5_takeWay 26 = .ok (.iconst 1, 1) := by decide +kernel
theorem dX5_takeWay_27 : decode cX5_takeWay 27 = .ok (.iadd, 1) := by decide +kernel
theorem dX5_takeWay_28 : decode cX5_takeWay 28 = .ok (.iastore, 1) := by decide +kernel
theorem dX5_takeWay_29 : decode cX5_takeWay 29 = .ok (.aload_n 0, 1) := by decide +kernel
theorem dX5_takeWay_30 : decode cX5_takeWay 30 = .ok (.getfield 35, 3) := by decide +kernel
theorem dX5_takeWay_33 : decode cX5_takeWay 33 = .ok (.iload_n 2, 1) := by decide +kernel
theorem dX5_takeWay_34 : decode cX5_takeWay 34 = .ok (.aload_n 0, 1) := by decide +kernel
theorem dX5_takeWay_35 : decode cX5_takeWay 35 = .ok (.getfield 158, 3) := by decide +kernel
theorem dX5_takeWay_38 : decode cX5_takeWay 38 = .ok (.iload_n 1, 1) := by decide +kernel
theorem dX5_takeWay_39 : decode cX5_takeWay 39 = .ok (.if_icmp .ne 12, 3) := by decide +kernel
theorem dX5_takeWay_42 : decode cX5_takeWay 42 = .ok (.aload_n 0, 1) := by decide +kernel
theorem dX5_takeWay_43 : decode cX5_takeWay 43 = .ok (.getfield 29, 3) := by decide +kernel
theorem dX5_takeWay_46 : decode cX5_takeWay 46 = .ok (.iload_n 2, 1) := by decide +kernel
theorem dX5_takeWay_47 : decode cX5_takeWay 47 = .ok (.iaload, 1) := by decide +kernel
theorem dX5_takeWay_48 : decode cX5_takeWay 48 = .ok (.goto 9, 3) := by decide +kernel
theorem dX5_takeWay_51 : decode cX5_takeWay 51 = .ok (.aload_n 0, 1) := by decide +kernel
theorem dX5_takeWay_52 : decode cX5_takeWay 52 = .ok (.getfield 35, 3) := by decide +kernel
theorem dX5_takeWay_55 : decode cX5_takeWay 55 = .ok (.iload_n 2, 1) := by decide +kernel
theorem dX5_takeWay_56 : decode cX5_takeWay 56 = .ok (.iaload, 1) := by decide +kernel
theorem dX5_takeWay_57 : decode cX5_takeWay 57 = .ok (.iastore, 1) := by decide +kernel
theorem dX5_takeWay_58 : decode cX5_takeWay 58 = .ok (.iinc 2 1, 3) := by decide +kernel
theorem dX5_takeWay_61 : decode cX5_takeWay 61 = .ok (.goto (-59), 3) := by decide +kernel
theorem dX5_takeWay_64 : decode cX5_takeWay 64 = .ok (.aload_n 0, 1) := by decide +kernel
theorem dX5_takeWay_65 : decode cX5_takeWay 65 = .ok (.dup, 1) := by decide +kernel
theorem dX5_takeWay_66 : decode cX5_takeWay 66 = .ok (.getfield 158, 3) := by decide +kernel
theorem dX5_takeWay_69 : decode cX5_takeWay 69 = .ok (.iconst 1, 1) := by decide +kernel
theorem dX5_takeWay_70 : decode cX5_takeWay 70 = .ok (.iadd, 1) := by decide +kernel
theorem dX5_takeWay_71 : decode cX5_takeWay 71 = .ok (.putfield 158, 3) := by decide +kernel
theorem dX5_takeWay_74 : decode cX5_takeWay 74 = .ok (.return_, 1) := by decide +kernel
theorem dX5_layWays_0 : decode cX5_layWays 0 = .ok (.iconst 0, 1) := by decide +kernel
theorem dX5_layWays_1 : decode cX5_layWays 1 = .ok (.istore_n 2, 1) := by decide +kernel
theorem dX5_layWays_2 : decode cX5_layWays 2 = .ok (.iload_n 2, 1) := by decide +kernel
theorem dX5_layWays_3 : decode cX5_layWays 3 = .ok (.bipush 33, 2) := by decide +kernel
theorem dX5_layWays_5 : decode cX5_layWays 5 = .ok (.if_icmp .ge 16, 3) := by decide +kernel
theorem dX5_layWays_8 : decode cX5_layWays 8 = .ok (.aload_n 0, 1) := by decide +kernel
theorem dX5_layWays_9 : decode cX5_layWays 9 = .ok (.getfield 32, 3) := by decide +kernel
theorem dX5_layWays_12 : decode cX5_layWays 12 = .ok (.iload_n 2, 1) := by decide +kernel
theorem dX5_layWays_13 : decode cX5_layWays 13 = .ok (.iconst 0, 1) := by decide +kernel
theorem dX5_layWays_14 : decode cX5_layWays 14 = .ok (.iastore, 1) := by decide +kernel
theorem dX5_layWays_15 : decode cX5_layWays 15 = .ok (.iinc 2 1, 3) := by decide +kernel
theorem dX5_layWays_18 : decode cX5_layWays 18 = .ok (.goto (-16), 3) := by decide +kernel
theorem dX5_layWays_21 : decode cX5_layWays 21 = .ok (.aload_n 0, 1) := by decide +kernel
theorem dX5_layWays_22 : decode cX5_layWays 22 = .ok (.iconst 0, 1) := by decide +kernel
theorem dX5_layWays_23 : decode cX5_layWays 23 = .ok (.putfield 158, 3) := by decide +kernel
theorem dX5_layWays_26 : decode cX5_layWays 26 = .ok (.aload_n 0, 1) := by decide +kernel
theorem dX5_layWays_27 : decode cX5_layWays 27 = .ok (.invokevirtual 128, 3) := by decide +kernel
theorem dX5_layWays_30 : decode cX5_layWays 30 = .ok (.aload_n 0, 1) := by decide +kernel
theorem dX5_layWays_31 : decode cX5_layWays 31 = .ok (.iconst 1, 1) := by decide +kernel
theorem dX5_layWays_32 : decode cX5_layWays 32 = .ok (.aload_n 0, 1) := by decide +kernel
theorem dX5_layWays_33 : decode cX5_layWays 33 = .ok (.getfield 101, 3) := by decide +kernel
theorem dX5_layWays_36 : decode cX5_layWays 36 = .ok (.invokevirtual 161, 3) := by decide +kernel
theorem dX5_layWays_39 : decode cX5_layWays 39 = .ok (.istore_n 2, 1) := by decide +kernel
theorem dX5_layWays_40 : decode cX5_layWays 40 = .ok (.iload_n 2, 1) := by decide +kernel
theorem dX5_layWays_41 : decode cX5_layWays 41 = .ok (.ifCond .le 28, 3) := by decide +kernel
theorem dX5_layWays_44 : decode cX5_layWays 44 = .ok (.aload_n 0, 1) := by decide +kernel
theorem dX5_layWays_45 : decode cX5_layWays 45 = .ok (.iload_n 1, 1) := by decide +kernel
theorem dX5_layWays_46 : decode cX5_layWays 46 = .ok (.invokevirtual 164, 3) := by decide +kernel
theorem dX5_layWays_49 : decode cX5_layWays 49 = .ok (.aload_n 0, 1) := by decide +kernel
theorem dX5_layWays_50 : decode cX5_layWays 50 = .ok (.aload_n 0, 1) := by decide +kernel
theorem dX5_layWays_51 : decode cX5_layWays 51 = .ok (.aload_n 0, 1) := by decide +kernel
theorem dX5_layWays_52 : decode cX5_layWays 52 = .ok (.getfield 101, 3) := by decide +kernel
theorem dX5_layWays_55 : decode cX5_layWays 55 = .ok (.invokevirtual 155, 3) := by decide +kernel
theorem dX5_layWays_58 : decode cX5_layWays 58 = .ok (.aload_n 0, 1) := by decide +kernel
theorem dX5_layWays_59 : decode cX5_layWays 59 = .ok (.getfield 101, 3) := by decide +kernel
theorem dX5_layWays_62 : decode cX5_layWays 62 = .ok (.invokevirtual 161, 3) := by decide +kernel
theorem dX5_layWays_65 : decode cX5_layWays 65 = .ok (.istore_n 2, 1) := by decide +kernel
theorem dX5_layWays_66 : decode cX5_layWays 66 = .ok (.goto (-26), 3) := by decide +kernel
theorem dX5_layWays_69 : decode cX5_layWays 69 = .ok (.aload_n 0, 1) := by decide +kernel
theorem dX5_layWays_70 : decode cX5_layWays 70 = .ok (.getfield 158, 3) := by decide +kernel
theorem dX5_layWays_73 : decode cX5_layWays 73 = .ok (.ireturn, 1) := by decide +kernel
theorem dX5_sureOf_0 : decode cX5_sureOf 0 = .ok (.iconst 0, 1) := by decide +kernel
theorem dX5_sureOf_1 : decode cX5_sureOf 1 = .ok (.istore_n 2, 1) := by decide +kernel
theorem dX5_sureOf_2 : decode cX5_sureOf 2 = .ok (.iload_n 2, 1) := by decide +kernel
theorem dX5_sureOf_3 : decode cX5_sureOf 3 = .ok (.aload_n 0, 1) := by decide +kernel
theorem dX5_sureOf_4 : decode cX5_sureOf 4 = .ok (.getfield 98, 3) := by decide +kernel
theorem dX5_sureOf_7 : decode cX5_sureOf 7 = .ok (.if_icmp .ge 35, 3) := by decide +kernel
theorem dX5_sureOf_10 : decode cX5_sureOf 10 = .ok (.aload_n 0, 1) := by decide +kernel
theorem dX5_sureOf_11 : decode cX5_sureOf 11 = .ok (.getfield 158, 3) := by decide +kernel
theorem dX5_sureOf_14 : decode cX5_sureOf 14 = .ok (.ifCond .le 22, 3) := by decide +kernel
theorem dX5_sureOf_17 : decode cX5_sureOf 17 = .ok (.aload_n 0, 1) := by decide +kernel
theorem dX5_sureOf_18 : decode cX5_sureOf 18 = .ok (.getfield 32, 3) := by decide +kernel
theorem dX5_sureOf_21 : decode cX5_sureOf 21 = .ok (.iconst 3, 1) := by decide +kernel
theorem dX5_sureOf_22 : decode cX5_sureOf 22 = .ok (.iload_n 1, 1) := by decide +kernel
theorem dX5_sureOf_23 : decode cX5_sureOf 23 = .ok (.imul, 1) := by decide +kernel
theorem dX5_sureOf_24 : decode cX5_sureOf 24 = .ok (.iload_n 2, 1) := by decide +kernel
theorem dX5_sureOf_25 : decode cX5_sureOf 25 = .ok (.iadd, 1) := by decide +kernel
theorem dX5_sureOf_26 : decode cX5_sureOf 26 = .ok (.iaload, 1) := by decide +kernel
theorem dX5_sureOf_27 : decode cX5_sureOf 27 = .ok (.aload_n 0, 1) := by decide +kernel
theorem dX5_sureOf_28 : decode cX5_sureOf 28 = .ok (.getfield 158, 3) := by decide +kernel
theorem dX5_sureOf_31 : decode cX5_sureOf 31 = .ok (.if_icmp .ne 5, 3) := by decide +kernel
theorem dX5_sureOf_34 : decode cX5_sureOf 34 = .ok (.iload_n 2, 1) := by decide +kernel
theorem dX5_sureOf_35 : decode cX5_sureOf 35 = .ok (.ireturn, 1) := by decide +kernel
theorem dX5_sureOf_36 : decode cX5_sureOf 36 = .ok (.iinc 2 1, 3) := by decide +kernel
theorem dX5_sureOf_39 : decode cX5_sureOf 39 = .ok (.goto (-37), 3) := by decide +kernel
theorem dX5_sureOf_42 : decode cX5_sureOf 42 = .ok (.iconst (-1), 1) := by decide +kernel
theorem dX5_sureOf_43 : decode cX5_sureOf 43 = .ok (.ireturn, 1) := by decide +kernel
theorem dX5_bare_0 : decode cX5_bare 0 = .ok (.iconst 0, 1) := by decide +kernel
theorem dX5_bare_1 : decode cX5_bare 1 = .ok (.istore_n 1, 1) := by decide +kernel
theorem dX5_bare_2 : decode cX5_bare 2 = .ok (.iconst 1, 1) := by decide +kernel
theorem dX5_bare_3 : decode cX5_bare 3 = .ok (.istore_n 2, 1) := by decide +kernel
theorem dX5_bare_4 : decode cX5_bare 4 = .ok (.iload_n 2, 1) := by decide +kernel
theorem dX5_bare_5 : decode cX5_bare 5 = .ok (.aload_n 0, 1) := by decide +kernel
theorem dX5_bare_6 : decode cX5_bare 6 = .ok (.getfield 101, 3) := by decide +kernel
theorem dX5_bare_9 : decode cX5_bare 9 = .ok (.if_icmp .gt 27, 3) := by decide +kernel
theorem dX5_bare_12 : decode cX5_bare 12 = .ok (.iload_n 1, 1) := by decide +kernel
theorem dX5_bare_13 : decode cX5_bare 13 = .ok (.aload_n 0, 1) := by decide +kernel
theorem dX5_bare_14 : decode cX5_bare 14 = .ok (.getfield 13, 3) := by decide +kernel
theorem dX5_bare_17 : decode cX5_bare 17 = .ok (.iload_n 2, 1) := by decide +kernel
theorem dX5_bare_18 : decode cX5_bare 18 = .ok (.iaload, 1) := by decide +kernel
theorem dX5_bare_19 : decode cX5_bare 19 = .ok (.iconst (-1), 1) := by decide +kernel
theorem dX5_bare_20 : decode cX5_bare 20 = .ok (.if_icmp .ne 7, 3) := by decide +kernel
theorem dX5_bare_23 : decode cX5_bare 23 = .ok (.iconst 1, 1) := by decide +kernel
theorem dX5_bare_24 : decode cX5_bare 24 = .ok (.goto 4, 3) := by decide +kernel
theorem dX5_bare_27 : decode cX5_bare 27 = .ok (.iconst 0, 1) := by decide +kernel
theorem dX5_bare_28 : decode cX5_bare 28 = .ok (.iadd, 1) := by decide +kernel
theorem dX5_bare_29 : decode cX5_bare 29 = .ok (.istore_n 1, 1) := by decide +kernel
theorem dX5_bare_30 : decode cX5_bare 30 = .ok (.iinc 2 1, 3) := by decide +kernel
theorem dX5_bare_33 : decode cX5_bare 33 = .ok (.goto (-29), 3) := by decide +kernel
theorem dX5_bare_36 : decode cX5_bare 36 = .ok (.iload_n 1, 1) := by decide +kernel
theorem dX5_bare_37 : decode cX5_bare 37 = .ok (.ireturn, 1) := by decide +kernel
theorem dX5_nextNow_0 : decode cX5_nextNow 0 = .ok (.aload_n 0, 1) := by decide +kernel
theorem dX5_nextNow_1 : decode cX5_nextNow 1 = .ok (.iconst (-1), 1) := by decide +kernel
theorem dX5_nextNow_2 : decode cX5_nextNow 2 = .ok (.invokevirtual 134, 3) := by decide +kernel
theorem dX5_nextNow_5 : decode cX5_nextNow 5 = .ok (.pop, 1) := by decide +kernel
theorem dX5_nextNow_6 : decode cX5_nextNow 6 = .ok (.iconst (-1), 1) := by decide +kernel
theorem dX5_nextNow_7 : decode cX5_nextNow 7 = .ok (.istore_n 1, 1) := by decide +kernel
theorem dX5_nextNow_8 : decode cX5_nextNow 8 = .ok (.iconst 0, 1) := by decide +kernel
theorem dX5_nextNow_9 : decode cX5_nextNow 9 = .ok (.istore_n 2, 1) := by decide +kernel
theorem dX5_nextNow_10 : decode cX5_nextNow 10 = .ok (.iconst 1, 1) := by decide +kernel
theorem dX5_nextNow_11 : decode cX5_nextNow 11 = .ok (.istore_n 3, 1) := by decide +kernel
theorem dX5_nextNow_12 : decode cX5_nextNow 12 = .ok (.iload_n 3, 1) := by decide +kernel
theorem dX5_nextNow_13 : decode cX5_nextNow 13 = .ok (.aload_n 0, 1) := by decide +kernel
theorem dX5_nextNow_14 : decode cX5_nextNow 14 = .ok (.getfield 101, 3) := by decide +kernel
theorem dX5_nextNow_17 : decode cX5_nextNow 17 = .ok (.if_icmp .gt 97, 3) := by decide +kernel
theorem dX5_nextNow_20 : decode cX5_nextNow 20 = .ok (.iconst 0, 1) := by decide +kernel
theorem dX5_nextNow_21 : decode cX5_nextNow 21 = .ok (.istore 4, 2) := by decide +kernel
theorem dX5_nextNow_23 : decode cX5_nextNow 23 = .ok (.iload 4, 2) := by decide +kernel
theorem dX5_nextNow_25 : decode cX5_nextNow 25 = .ok (.aload_n 0, 1) := by decide +kernel
theorem dX5_nextNow_26 : decode cX5_nextNow 26 = .ok (.getfield 98, 3) := by decide +kernel
theorem dX5_nextNow_29 : decode cX5_nextNow 29 = .ok (.if_icmp .ge 79, 3) := by decide +kernel
theorem dX5_nextNow_32 : decode cX5_nextNow 32 = .ok (.aload_n 0, 1) := by decide +kernel
theorem dX5_nextNow_33 : decode cX5_nextNow 33 = .ok (.getfield 13, 3) := by decide +kernel
theorem dX5_nextNow_36 : decode cX5_nextNow 36 = .ok (.iload_n 3, 1) := by decide +kernel
theorem dX5_nextNow_37 : decode cX5_nextNow 37 = .ok (.iaload, 1) := by decide +kernel
theorem dX5_nextNow_38 : decode cX5_nextNow 38 = .ok (.iconst (-1), 1) := by decide +kernel
theorem dX5_nextNow_39 : decode cX5_nextNow 39 = .ok (.if_icmp .ne 22, 3) := by decide +kernel
theorem dX5_nextNow_42 : decode cX5_nextNow 42 = .ok (.aload_n 0, 1) := by decide +kernel
theorem dX5_nextNow_43 : decode cX5_nextNow 43 = .ok (.getfield 32, 3) := by decide +kernel
theorem dX5_nextNow_46 : decode cX5_nextNow 46 = .ok (.iconst 3, 1) := by decide +kernel
theorem dX5_nextNow_47 : decode cX5_nextNow 47 = .ok (.iload_n 3, 1) := by decide +kernel
theorem dX5_nextNow_48 : decode cX5_nextNow 48 = .ok (.imul, 1) := by decide +kernel
theorem dX5_nextNow_49 : decode cX5_nextNow 49 = .ok (.iload 4, 2) := by decide +kernel
theorem dX5_nextNow_51 : decode cX5_nextNow 51 = .ok (.iadd, 1) := by decide +kernel
theorem dX5_nextNow_52 : decode cX5_nextNow 52 = .ok (.iaload, 1) := by decide +kernel
theorem dX5_nextNow_53 : decode cX5_nextNow 53 = .ok (.iload_n 2, 1) := by decide +kernel
theorem dX5_nextNow_54 : decode cX5_nextNow 54 = .ok (.if_icmp .le 7, 3) := by decide +kernel
theorem dX5_nextNow_57 : decode cX5_nextNow 57 = .ok (.iconst 1, 1) := by decide +kernel
theorem dX5_nextNow_58 : decode cX5_nextNow 58 = .ok (.goto 4, 3) := by decide +kernel
theorem dX5_nextNow_61 : decode cX5_nextNow 61 = .ok (.iconst 0, 1) := by decide +kernel
theorem dX5_nextNow_62 : decode cX5_nextNow 62 = .ok (.istore 5, 2) := by decide +kernel
theorem dX5_nextNow_64 : decode cX5_nextNow 64 = .ok (.iload 5, 2) := by decide +kernel
theorem dX5_nextNow_66 : decode cX5_nextNow 66 = .ok (.ifCond .eq 13, 3) := by decide +kernel
theorem dX5_nextNow_69 : decode cX5_nextNow 69 = .ok (.bipush 10, 2) := by decide +kernel
theorem dX5_nextNow_71 : decode cX5_nextNow 71 = .ok (.iload_n 3, 1) := by decide +kernel
theorem dX5_nextNow_72 : decode cX5_nextNow 72 = .ok (.imul, 1) := by decide +kernel
theorem dX5_nextNow_73 : decode cX5_nextNow 73 = .ok (.iload 4, 2) := by decide +kernel
theorem dX5_nextNow_75 : decode cX5_nextNow 75 = .ok (.iadd, 1) := by decide +kernel
theorem dX5_nextNow_76 : decode cX5_nextNow 76 = .ok (.goto 4, 3) := by decide +kernel
theorem dX5_nextNow_79 : decode cX5_nextNow 79 = .ok (.iload_n 1, 1) := by decide +kernel
theorem dX5_nextNow_80 : decode cX5_nextNow 80 = .ok (.istore_n 1, 1) := by decide +kernel
theorem dX5_nextNow_81 : decode cX5_nextNow 81 = .ok (.iload 5, 2) := by decide +kernel
theorem dX5_nextNow_83 : decode cX5_nextNow 83 = .ok (.ifCond .eq 17, 3) := by decide +kernel
theorem dX5_nextNow_86 : decode cX5_nextNow 86 = .ok (.aload_n 0, 1) := by decide +kernel
theorem dX5_nextNow_87 : decode cX5_nextNow 87 = .ok (.getfield 32, 3) := by decide +kernel
theorem dX5_nextNow_90 : decode cX5_nextNow 90 = .ok (.iconst 3, 1) := by decide +kernel
theorem dX5_nextNow_91 : decode cX5_nextNow 91 = .ok (.iload_n 3, 1) := by decide +kernel
theorem dX5_nextNow_92 : decode cX5_nextNow 92 = .ok (.imul, 1) := by decide +kernel
theorem dX5_nextNow_93 : decode cX5_nextNow 93 = .ok (.iload 4, 2) := by decide +kernel
theorem dX5_nextNow_95 : decode cX5_nextNow 95 = .ok (.iadd, 1) := by decide +kernel
theorem dX5_nextNow_96 : decode cX5_nextNow 96 = .ok (.iaload, 1) := by decide +kernel
theorem dX5_nextNow_97 : decode cX5_nextNow 97 = .ok (.goto 4, 3) := by decide +kernel
theorem dX5_nextNow_100 : decode cX5_nextNow 100 = .ok (.iload_n 2, 1) := by decide +kernel
theorem dX5_nextNow_101 : decode cX5_nextNow 101 = .ok (.istore_n 2, 1) := by decide +kernel
theorem dX5_nextNow_102 : decode cX5_nextNow 102 = .ok (.iinc 4 1, 3) := by decide +kernel
theorem dX5_nextNow_105 : decode cX5_nextNow 105 = .ok (.goto (-82), 3) := by decide +kernel
theorem dX5_nextNow_108 : decode cX5_nextNow 108 = .ok (.iinc 3 1, 3) := by decide +kernel
theorem dX5_nextNow_111 : decode cX5_nextNow 111 = .ok (.goto (-99), 3) := by decide +kernel
theorem dX5_nextNow_114 : decode cX5_nextNow 114 = .ok (.iload_n 1, 1) := by decide +kernel
theorem dX5_nextNow_115 : decode cX5_nextNow 115 = .ok (.ireturn, 1) := by decide +kernel
theorem dX5_upNow_0 : decode cX5_upNow 0 = .ok (.iconst 0, 1) := by decide +kernel
theorem dX5_upNow_1 : decode cX5_upNow 1 = .ok (.istore_n 1, 1) := by decide +kernel
theorem dX5_upNow_2 : decode cX5_upNow 2 = .ok (.iconst 1, 1) := by decide +kernel
theorem dX5_upNow_3 : decode cX5_upNow 3 = .ok (.istore_n 2, 1) := by decide +kernel
theorem dX5_upNow_4 : decode cX5_upNow 4 = .ok (.iload_n 2, 1) := by decide +kernel
theorem dX5_upNow_5 : decode cX5_upNow 5 = .ok (.aload_n 0, 1) := by decide +kernel
theorem dX5_upNow_6 : decode cX5_upNow 6 = .ok (.getfield 101, 3) := by decide +kernel
theorem dX5_upNow_9 : decode cX5_upNow 9 = .ok (.if_icmp .gt 28, 3) := by decide +kernel
theorem dX5_upNow_12 : decode cX5_upNow 12 = .ok (.aload_n 0, 1) := by decide +kernel
theorem dX5_upNow_13 : decode cX5_upNow 13 = .ok (.invokevirtual 128, 3) := by decide +kernel
theorem dX5_upNow_16 : decode cX5_upNow 16 = .ok (.aload_n 0, 1) := by decide +kernel
theorem dX5_upNow_17 : decode cX5_upNow 17 = .ok (.iconst 1, 1) := by decide +kernel
theorem dX5_upNow_18 : decode cX5_upNow 18 = .ok (.iload_n 2, 1) := by decide +kernel
theorem dX5_upNow_19 : decode cX5_upNow 19 = .ok (.invokevirtual 161, 3) := by decide +kernel
theorem dX5_upNow_22 : decode cX5_upNow 22 = .ok (.ifCond .le 7, 3) := by decide +kernel
theorem dX5_upNow_25 : decode cX5_upNow 25 = .ok (.iload_n 2, 1) := by decide +kernel
theorem dX5_upNow_26 : decode cX5_upNow 26 = .ok (.goto 4, 3) := by decide +kernel
theorem dX5_upNow_29 : decode cX5_upNow 29 = .ok (.iload_n 1, 1) := by decide +kernel
theorem dX5_upNow_30 : decode cX5_upNow 30 = .ok (.istore_n 1, 1) := by decide +kernel
theorem dX5_upNow_31 : decode cX5_upNow 31 = .ok (.iinc 2 1, 3) := by decide +kernel
theorem dX5_upNow_34 : decode cX5_upNow 34 = .ok (.goto (-30), 3) := by decide +kernel
theorem dX5_upNow_37 : decode cX5_upNow 37 = .ok (.iload_n 1, 1) := by decide +kernel
theorem dX5_upNow_38 : decode cX5_upNow 38 = .ok (.ireturn, 1) := by decide +kernel
theorem dX5_waysNow_0 : decode cX5_waysNow 0 = .ok (.iload_n 1, 1) := by decide +kernel
theorem dX5_waysNow_1 : decode cX5_waysNow 1 = .ok (.ifCond .ne 11, 3) := by decide +kernel
theorem dX5_waysNow_4 : decode cX5_waysNow 4 = .ok (.aload_n 0, 1) := by decide +kernel
theorem dX5_waysNow_5 : decode cX5_waysNow 5 = .ok (.iconst (-1), 1) := by decide +kernel
theorem dX5_waysNow_6 : decode cX5_waysNow 6 = .ok (.invokevirtual 134, 3) := by decide +kernel
theorem dX5_waysNow_9 : decode cX5_waysNow 9 = .ok (.goto 19, 3) := by decide +kernel
theorem dX5_waysNow_12 : decode cX5_waysNow 12 = .ok (.iload_n 1, 1) := by decide +kernel
theorem dX5_waysNow_13 : decode cX5_waysNow 13 = .ok (.iconst 1, 1) := by decide +kernel
theorem dX5_waysNow_14 : decode cX5_waysNow 14 = .ok (.if_icmp .ne 10, 3) := by decide +kernel
theorem dX5_waysNow_17 : decode cX5_waysNow 17 = .ok (.aload_n 0, 1) := by decide +kernel
theorem dX5_waysNow_18 : decode cX5_waysNow 18 = .ok (.invokevirtual 168, 3) := by decide +kernel
theorem dX5_waysNow_21 : decode cX5_waysNow 21 = .ok (.goto 7, 3) := by decide +kernel
theorem dX5_waysNow_24 : decode cX5_waysNow 24 = .ok (.aload_n 0, 1) := by decide +kernel
theorem dX5_waysNow_25 : decode cX5_waysNow 25 = .ok (.invokevirtual 171, 3) := by decide +kernel
theorem dX5_waysNow_28 : decode cX5_waysNow 28 = .ok (.ireturn, 1) := by decide +kernel
theorem dX5_ways_0 : decode cX5_ways 0 = .ok (.iload_n 1, 1) := by decide +kernel
theorem dX5_ways_1 : decode cX5_ways 1 = .ok (.iconst 0, 1) := by decide +kernel
theorem dX5_ways_2 : decode cX5_ways 2 = .ok (.iconst 2, 1) := by decide +kernel
theorem dX5_ways_3 : decode cX5_ways 3 = .ok (.invokestatic 65, 3) := by decide +kernel
theorem dX5_ways_6 : decode cX5_ways 6 = .ok (.ifCond .ne 6, 3) := by decide +kernel
theorem dX5_ways_9 : decode cX5_ways 9 = .ok (.bipush (-102), 2) := by decide +kernel
theorem dX5_ways_11 : decode cX5_ways 11 = .ok (.ireturn, 1) := by decide +kernel
theorem dX5_ways_12 : decode cX5_ways 12 = .ok (.aload_n 0, 1) := by decide +kernel
theorem dX5_ways_13 : decode cX5_ways 13 = .ok (.getfield 101, 3) := by decide +kernel
theorem dX5_ways_16 : decode cX5_ways 16 = .ok (.ifCond .ne 8, 3) := by decide +kernel
theorem dX5_ways_19 : decode cX5_ways 19 = .ok (.bipush (-103), 2) := by decide +kernel
theorem dX5_ways_21 : decode cX5_ways 21 = .ok (.goto 8, 3) := by decide +kernel
theorem dX5_ways_24 : decode cX5_ways 24 = .ok (.aload_n 0, 1) := by decide +kernel
theorem dX5_ways_25 : decode cX5_ways 25 = .ok (.iload_n 1, 1) := by decide +kernel
theorem dX5_ways_26 : decode cX5_ways 26 = .ok (.invokevirtual 174, 3) := by decide +kernel
theorem dX5_ways_29 : decode cX5_ways 29 = .ok (.ireturn, 1) := by decide +kernel
theorem dX5_way_0 : decode cX5_way 0 = .ok (.aload_n 0, 1) := by decide +kernel
theorem dX5_way_1 : decode cX5_way 1 = .ok (.iload_n 2, 1) := by decide +kernel
theorem dX5_way_2 : decode cX5_way 2 = .ok (.invokevirtual 149, 3) := by decide +kernel
theorem dX5_way_5 : decode cX5_way 5 = .ok (.ifCond .eq 16, 3) := by decide +kernel
theorem dX5_way_8 : decode cX5_way 8 = .ok (.iload_n 1, 1) := by decide +kernel
theorem dX5_way_9 : decode cX5_way 9 = .ok (.ifCond .lt 12, 3) := by decide +kernel
theorem dX5_way_12 : decode cX5_way 12 = .ok (.aload_n 0, 1) := by decide +kernel
theorem dX5_way_13 : decode cX5_way 13 = .ok (.iload_n 1, 1) := by decide +kernel
theorem dX5_way_14 : decode cX5_way 14 = .ok (.invokevirtual 134, 3) := by decide +kernel
theorem dX5_way_17 : decode cX5_way 17 = .ok (.iload_n 1, 1) := by decide +kernel
theorem dX5_way_18 : decode cX5_way 18 = .ok (.if_icmp .gt 6, 3) := by decide +kernel
theorem dX5_way_21 : decode cX5_way 21 = .ok (.bipush (-101), 2) := by decide +kernel
theorem dX5_way_23 : decode cX5_way 23 = .ok (.ireturn, 1) := by decide +kernel
theorem dX5_way_24 : decode cX5_way 24 = .ok (.aload_n 0, 1) := by decide +kernel
theorem dX5_way_25 : decode cX5_way 25 = .ok (.getfield 35, 3) := by decide +kernel
theorem dX5_way_28 : decode cX5_way 28 = .ok (.iload_n 2, 1) := by decide +kernel
theorem dX5_way_29 : decode cX5_way 29 = .ok (.iaload, 1) := by decide +kernel
theorem dX5_way_30 : decode cX5_way 30 = .ok (.ireturn, 1) := by decide +kernel
theorem dX5_paint_0 : decode cX5_paint 0 = .ok (.aload_n 0, 1) := by decide +kernel
theorem dX5_paint_1 : decode cX5_paint 1 = .ok (.iload_n 1, 1) := by decide +kernel
theorem dX5_paint_2 : decode cX5_paint 2 = .ok (.invokevirtual 149, 3) := by decide +kernel
theorem dX5_paint_5 : decode cX5_paint 5 = .ok (.ifCond .ne 6, 3) := by decide +kernel
theorem dX5_paint_8 : decode cX5_paint 8 = .ok (.bipush (-101), 2) := by decide +kernel
theorem dX5_paint_10 : decode cX5_paint 10 = .ok (.ireturn, 1) := by decide +kernel
theorem dX5_paint_11 : decode cX5_paint 11 = .ok (.aload_n 0, 1) := by decide +kernel
theorem dX5_paint_12 : decode cX5_paint 12 = .ok (.iload_n 2, 1) := by decide +kernel
theorem dX5_paint_13 : decode cX5_paint 13 = .ok (.invokevirtual 177, 3) := by decide +kernel
theorem dX5_paint_16 : decode cX5_paint 16 = .ok (.ifCond .ne 6, 3) := by decide +kernel
theorem dX5_paint_19 : decode cX5_paint 19 = .ok (.bipush (-102), 2) := by decide +kernel
theorem dX5_paint_21 : decode cX5_paint 21 = .ok (.ireturn, 1) := by decide +kernel
theorem dX5_paint_22 : decode cX5_paint 22 = .ok (.aload_n 0, 1) := by decide +kernel
theorem dX5_paint_23 : decode cX5_paint 23 = .ok (.getfield 104, 3) := by decide +kernel
theorem dX5_paint_26 : decode cX5_paint 26 = .ok (.sipush 999, 3) := by decide +kernel
theorem dX5_paint_29 : decode cX5_paint 29 = .ok (.if_icmp .ne 6, 3) := by decide +kernel
theorem dX5_paint_32 : decode cX5_paint 32 = .ok (.bipush (-104), 2) := by decide +kernel
theorem dX5_paint_34 : decode cX5_paint 34 = .ok (.ireturn, 1) := by decide +kernel
theorem dX5_paint_35 : decode cX5_paint 35 = .ok (.aload_n 0, 1) := by decide +kernel
theorem dX5_paint_36 : decode cX5_paint 36 = .ok (.getfield 13, 3) := by decide +kernel
theorem dX5_paint_39 : decode cX5_paint 39 = .ok (.iload_n 1, 1) := by decide +kernel
theorem dX5_paint_40 : decode cX5_paint 40 = .ok (.iload_n 2, 1) := by decide +kernel
theorem dX5_paint_41 : decode cX5_paint 41 = .ok (.iastore, 1) := by decide +kernel
theorem dX5_paint_42 : decode cX5_paint 42 = .ok (.aload_n 0, 1) := by decide +kernel
theorem dX5_paint_43 : decode cX5_paint 43 = .ok (.dup, 1) := by decide +kernel
theorem dX5_paint_44 : decode cX5_paint 44 = .ok (.getfield 104, 3) := by decide +kernel
theorem dX5_paint_47 : decode cX5_paint 47 = .ok (.iconst 1, 1) := by decide +kernel
theorem dX5_paint_48 : decode cX5_paint 48 = .ok (.iadd, 1) := by decide +kernel
theorem dX5_paint_49 : decode cX5_paint 49 = .ok (.putfield 104, 3) := by decide +kernel
theorem dX5_paint_52 : decode cX5_paint 52 = .ok (.aload_n 0, 1) := by decide +kernel
theorem dX5_paint_53 : decode cX5_paint 53 = .ok (.invokevirtual 180, 3) := by decide +kernel
theorem dX5_paint_56 : decode cX5_paint 56 = .ok (.ireturn, 1) := by decide +kernel
theorem dX5_wipe_0 : decode cX5_wipe 0 = .ok (.aload_n 0, 1) := by decide +kernel
theorem dX5_wipe_1 : decode cX5_wipe 1 = .ok (.iload_n 1, 1) := by decide +kernel
end
section
theorem dX5_wipe_2 : decode cX5_wipe 2 = .ok (.invokevirtual 149, 3) := by decide +kernel
theorem dX5_wipe_5 : decode cX5_wipe 5 = .ok (.ifCond .ne 6, 3) := by decide +kernel
theorem dX5_wipe_8 : decode cX5_wipe 8 = .ok (.bipush (-101), 2) := by decide +kernel
theorem dX5_wipe_10 : decode cX5_wipe 10 = .ok (.ireturn, 1) := by decide +kernel
theorem dX5_wipe_11 : decode cX5_wipe 11 = .ok (.aload_n 0, 1) := by decide +kernel
theorem dX5_wipe_12 : decode cX5_wipe 12 = .ok (.getfield 13, 3) := by decide +kernel
theorem dX5_wipe_15 : decode cX5_wipe 15 = .ok (.iload_n 1, 1) := by decide +kernel
theorem dX5_wipe_16 : decode cX5_wipe 16 = .ok (.iaload, 1) := by decide +kernel
theorem dX5_wipe_17 : decode cX5_wipe 17 = .ok (.iconst (-1), 1) := by decide +kernel
theorem dX5_wipe_18 : decode cX5_wipe 18 = .ok (.if_icmp .ne 6, 3) := by decide +kernel
theorem dX5_wipe_21 : decode cX5_wipe 21 = .ok (.bipush (-103), 2) := by decide +kernel
theorem dX5_wipe_23 : decode cX5_wipe 23 = .ok (.ireturn, 1) := by decide +kernel
theorem dX5_wipe_24 : decode cX5_wipe 24 = .ok (.aload_n 0, 1) := by decide +kernel
theorem dX5_wipe_25 : decode cX5_wipe 25 = .ok (.getfield 104, 3) := by decide +kernel
theorem dX5_wipe_28 : decode cX5_wipe 28 = .ok (.sipush 999, 3) := by decide +kernel
theorem dX5_wipe_31 : decode cX5_wipe 31 = .ok (.if_icmp .ne 6, 3) := by decide +kernel
theorem dX5_wipe_34 : decode cX5_wipe 34 = .ok (.bipush (-104), 2) := by decide +kernel
theorem dX5_wipe_36 : decode cX5_wipe 36 = .ok (.ireturn, 1) := by decide +kernel
theorem dX5_wipe_37 : decode cX5_wipe 37 = .ok (.aload_n 0, 1) := by decide +kernel
theorem dX5_wipe_38 : decode cX5_wipe 38 = .ok (.getfield 13, 3) := by decide +kernel
theorem dX5_wipe_41 : decode cX5_wipe 41 = .ok (.iload_n 1, 1) := by decide +kernel
theorem dX5_wipe_42 : decode cX5_wipe 42 = .ok (.iaload, 1) := by decide +kernel
theorem dX5_wipe_43 : decode cX5_wipe 43 = .ok (.istore_n 2, 1) := by decide +kernel
theorem dX5_wipe_44 : decode cX5_wipe 44 = .ok (.aload_n 0, 1) := by decide +kernel
theorem dX5_wipe_45 : decode cX5_wipe 45 = .ok (.getfield 13, 3) := by decide +kernel
theorem dX5_wipe_48 : decode cX5_wipe 48 = .ok (.iload_n 1, 1) := by decide +kernel
theorem dX5_wipe_49 : decode cX5_wipe 49 = .ok (.iconst (-1), 1) := by decide +kernel
theorem dX5_wipe_50 : decode cX5_wipe 50 = .ok (.iastore, 1) := by decide +kernel
theorem dX5_wipe_51 : decode cX5_wipe 51 = .ok (.aload_n 0, 1) := by decide +kernel
theorem dX5_wipe_52 : decode cX5_wipe 52 = .ok (.dup, 1) := by decide +kernel
theorem dX5_wipe_53 : decode cX5_wipe 53 = .ok (.getfield 104, 3) := by decide +kernel
theorem dX5_wipe_56 : decode cX5_wipe 56 = .ok (.iconst 1, 1) := by decide +kernel
theorem dX5_wipe_57 : decode cX5_wipe 57 = .ok (.iadd, 1) := by decide +kernel
theorem dX5_wipe_58 : decode cX5_wipe 58 = .ok (.putfield 104, 3) := by decide +kernel
theorem dX5_wipe_61 : decode cX5_wipe 61 = .ok (.iload_n 2, 1) := by decide +kernel
theorem dX5_wipe_62 : decode cX5_wipe 62 = .ok (.ireturn, 1) := by decide +kernel
theorem dX5_be_0 : decode cX5_be 0 = .ok (.aload_n 0, 1) := by decide +kernel
theorem dX5_be_1 : decode cX5_be 1 = .ok (.iload_n 1, 1) := by decide +kernel
theorem dX5_be_2 : decode cX5_be 2 = .ok (.invokevirtual 149, 3) := by decide +kernel
theorem dX5_be_5 : decode cX5_be 5 = .ok (.ifCond .ne 6, 3) := by decide +kernel
theorem dX5_be_8 : decode cX5_be 8 = .ok (.bipush (-101), 2) := by decide +kernel
theorem dX5_be_10 : decode cX5_be 10 = .ok (.ireturn, 1) := by decide +kernel
theorem dX5_be_11 : decode cX5_be 11 = .ok (.iload_n 2, 1) := by decide +kernel
theorem dX5_be_12 : decode cX5_be 12 = .ok (.iconst 0, 1) := by decide +kernel
theorem dX5_be_13 : decode cX5_be 13 = .ok (.iconst 4, 1) := by decide +kernel
theorem dX5_be_14 : decode cX5_be 14 = .ok (.invokestatic 65, 3) := by decide +kernel
theorem dX5_be_17 : decode cX5_be 17 = .ok (.ifCond .ne 6, 3) := by decide +kernel
theorem dX5_be_20 : decode cX5_be 20 = .ok (.bipush (-102), 2) := by decide +kernel
theorem dX5_be_22 : decode cX5_be 22 = .ok (.ireturn, 1) := by decide +kernel
theorem dX5_be_23 : decode cX5_be 23 = .ok (.aload_n 0, 1) := by decide +kernel
theorem dX5_be_24 : decode cX5_be 24 = .ok (.getfield 7, 3) := by decide +kernel
theorem dX5_be_27 : decode cX5_be 27 = .ok (.iload_n 1, 1) := by decide +kernel
theorem dX5_be_28 : decode cX5_be 28 = .ok (.iaload, 1) := by decide +kernel
theorem dX5_be_29 : decode cX5_be 29 = .ok (.istore_n 3, 1) := by decide +kernel
theorem dX5_be_30 : decode cX5_be 30 = .ok (.aload_n 0, 1) := by decide +kernel
theorem dX5_be_31 : decode cX5_be 31 = .ok (.getfield 7, 3) := by decide +kernel
theorem dX5_be_34 : decode cX5_be 34 = .ok (.iload_n 1, 1) := by decide +kernel
theorem dX5_be_35 : decode cX5_be 35 = .ok (.iload_n 2, 1) := by decide +kernel
theorem dX5_be_36 : decode cX5_be 36 = .ok (.iastore, 1) := by decide +kernel
theorem dX5_be_37 : decode cX5_be 37 = .ok (.iload_n 3, 1) := by decide +kernel
theorem dX5_be_38 : decode cX5_be 38 = .ok (.ireturn, 1) := by decide +kernel
theorem dX5_mendNow_0 : decode cX5_mendNow 0 = .ok (.ldc 183, 2) := by decide +kernel
theorem dX5_mendNow_2 : decode cX5_mendNow 2 = .ok (.istore_n 1, 1) := by decide +kernel
theorem dX5_mendNow_3 : decode cX5_mendNow 3 = .ok (.iconst 1, 1) := by decide +kernel
theorem dX5_mendNow_4 : decode cX5_mendNow 4 = .ok (.istore_n 2, 1) := by decide +kernel
theorem dX5_mendNow_5 : decode cX5_mendNow 5 = .ok (.iload_n 2, 1) := by decide +kernel
theorem dX5_mendNow_6 : decode cX5_mendNow 6 = .ok (.aload_n 0, 1) := by decide +kernel
theorem dX5_mendNow_7 : decode cX5_mendNow 7 = .ok (.getfield 101, 3) := by decide +kernel
theorem dX5_mendNow_10 : decode cX5_mendNow 10 = .ok (.if_icmp .gt 28, 3) := by decide +kernel
theorem dX5_mendNow_13 : decode cX5_mendNow 13 = .ok (.aload_n 0, 1) := by decide +kernel
theorem dX5_mendNow_14 : decode cX5_mendNow 14 = .ok (.getfield 38, 3) := by decide +kernel
theorem dX5_mendNow_17 : decode cX5_mendNow 17 = .ok (.iload_n 2, 1) := by decide +kernel
theorem dX5_mendNow_18 : decode cX5_mendNow 18 = .ok (.aload_n 0, 1) := by decide +kernel
theorem dX5_mendNow_19 : decode cX5_mendNow 19 = .ok (.getfield 13, 3) := by decide +kernel
theorem dX5_mendNow_22 : decode cX5_mendNow 22 = .ok (.iload_n 2, 1) := by decide +kernel
theorem dX5_mendNow_23 : decode cX5_mendNow 23 = .ok (.iaload, 1) := by decide +kernel
theorem dX5_mendNow_24 : decode cX5_mendNow 24 = .ok (.iastore, 1) := by decide +kernel
theorem dX5_mendNow_25 : decode cX5_mendNow 25 = .ok (.aload_n 0, 1) := by decide +kernel
theorem dX5_mendNow_26 : decode cX5_mendNow 26 = .ok (.getfield 13, 3) := by decide +kernel
theorem dX5_mendNow_29 : decode cX5_mendNow 29 = .ok (.iload_n 2, 1) := by decide +kernel
theorem dX5_mendNow_30 : decode cX5_mendNow 30 = .ok (.iconst (-1), 1) := by decide +kernel
theorem dX5_mendNow_31 : decode cX5_mendNow 31 = .ok (.iastore, 1) := by decide +kernel
theorem dX5_mendNow_32 : decode cX5_mendNow 32 = .ok (.iinc 2 1, 3) := by decide +kernel
theorem dX5_mendNow_35 : decode cX5_mendNow 35 = .ok (.goto (-30), 3) := by decide +kernel
theorem dX5_mendNow_38 : decode cX5_mendNow 38 = .ok (.aload_n 0, 1) := by decide +kernel
theorem dX5_mendNow_39 : decode cX5_mendNow 39 = .ok (.invokevirtual 128, 3) := by decide +kernel
theorem dX5_mendNow_42 : decode cX5_mendNow 42 = .ok (.aload_n 0, 1) := by decide +kernel
theorem dX5_mendNow_43 : decode cX5_mendNow 43 = .ok (.iconst 1, 1) := by decide +kernel
theorem dX5_mendNow_44 : decode cX5_mendNow 44 = .ok (.aload_n 0, 1) := by decide +kernel
theorem dX5_mendNow_45 : decode cX5_mendNow 45 = .ok (.getfield 101, 3) := by decide +kernel
theorem dX5_mendNow_48 : decode cX5_mendNow 48 = .ok (.invokevirtual 161, 3) := by decide +kernel
theorem dX5_mendNow_51 : decode cX5_mendNow 51 = .ok (.istore_n 2, 1) := by decide +kernel
theorem dX5_mendNow_52 : decode cX5_mendNow 52 = .ok (.iload_n 2, 1) := by decide +kernel
theorem dX5_mendNow_53 : decode cX5_mendNow 53 = .ok (.ifCond .le 90, 3) := by decide +kernel
theorem dX5_mendNow_56 : decode cX5_mendNow 56 = .ok (.iconst 0, 1) := by decide +kernel
theorem dX5_mendNow_57 : decode cX5_mendNow 57 = .ok (.istore_n 3, 1) := by decide +kernel
theorem dX5_mendNow_58 : decode cX5_mendNow 58 = .ok (.iconst 1, 1) := by decide +kernel
theorem dX5_mendNow_59 : decode cX5_mendNow 59 = .ok (.istore 4, 2) := by decide +kernel
theorem dX5_mendNow_61 : decode cX5_mendNow 61 = .ok (.iload 4, 2) := by decide +kernel
theorem dX5_mendNow_63 : decode cX5_mendNow 63 = .ok (.aload_n 0, 1) := by decide +kernel
theorem dX5_mendNow_64 : decode cX5_mendNow 64 = .ok (.getfield 101, 3) := by decide +kernel
theorem dX5_mendNow_67 : decode cX5_mendNow 67 = .ok (.if_icmp .gt 45, 3) := by decide +kernel
theorem dX5_mendNow_70 : decode cX5_mendNow 70 = .ok (.iload_n 3, 1) := by decide +kernel
theorem dX5_mendNow_71 : decode cX5_mendNow 71 = .ok (.aload_n 0, 1) := by decide +kernel
theorem dX5_mendNow_72 : decode cX5_mendNow 72 = .ok (.getfield 38, 3) := by decide +kernel
theorem dX5_mendNow_75 : decode cX5_mendNow 75 = .ok (.iload 4, 2) := by decide +kernel
theorem dX5_mendNow_77 : decode cX5_mendNow 77 = .ok (.iaload, 1) := by decide +kernel
theorem dX5_mendNow_78 : decode cX5_mendNow 78 = .ok (.iconst (-1), 1) := by decide +kernel
theorem dX5_mendNow_79 : decode cX5_mendNow 79 = .ok (.if_icmp .eq 24, 3) := by decide +kernel
theorem dX5_mendNow_82 : decode cX5_mendNow 82 = .ok (.aload_n 0, 1) := by decide +kernel
theorem dX5_mendNow_83 : decode cX5_mendNow 83 = .ok (.getfield 38, 3) := by decide +kernel
theorem dX5_mendNow_86 : decode cX5_mendNow 86 = .ok (.iload 4, 2) := by decide +kernel
theorem dX5_mendNow_88 : decode cX5_mendNow 88 = .ok (.iaload, 1) := by decide +kernel
theorem dX5_mendNow_89 : decode cX5_mendNow 89 = .ok (.aload_n 0, 1) := by decide +kernel
theorem dX5_mendNow_90 : decode cX5_mendNow 90 = .ok (.getfield 29, 3) := by decide +kernel
theorem dX5_mendNow_93 : decode cX5_mendNow 93 = .ok (.iload 4, 2) := by decide +kernel
theorem dX5_mendNow_95 : decode cX5_mendNow 95 = .ok (.iaload, 1) := by decide +kernel
theorem dX5_mendNow_96 : decode cX5_mendNow 96 = .ok (.if_icmp .eq 7, 3) := by decide +kernel
theorem dX5_mendNow_99 : decode cX5_mendNow 99 = .ok (.iconst 1, 1) := by decide +kernel
theorem dX5_mendNow_100 : decode cX5_mendNow 100 = .ok (.goto 4, 3) := by decide +kernel
theorem dX5_mendNow_103 : decode cX5_mendNow 103 = .ok (.iconst 0, 1) := by decide +kernel
theorem dX5_mendNow_104 : decode cX5_mendNow 104 = .ok (.iadd, 1) := by decide +kernel
theorem dX5_mendNow_105 : decode cX5_mendNow 105 = .ok (.istore_n 3, 1) := by decide +kernel
theorem dX5_mendNow_106 : decode cX5_mendNow 106 = .ok (.iinc 4 1, 3) := by decide +kernel
theorem dX5_mendNow_109 : decode cX5_mendNow 109 = .ok (.goto (-48), 3) := by decide +kernel
theorem dX5_mendNow_112 : decode cX5_mendNow 112 = .ok (.iload_n 3, 1) := by decide +kernel
theorem dX5_mendNow_113 : decode cX5_mendNow 113 = .ok (.iload_n 1, 1) := by decide +kernel
theorem dX5_mendNow_114 : decode cX5_mendNow 114 = .ok (.if_icmp .ge 7, 3) := by decide +kernel
theorem dX5_mendNow_117 : decode cX5_mendNow 117 = .ok (.iload_n 3, 1) := by decide +kernel
theorem dX5_mendNow_118 : decode cX5_mendNow 118 = .ok (.goto 4, 3) := by decide +kernel
theorem dX5_mendNow_121 : decode cX5_mendNow 121 = .ok (.iload_n 1, 1) := by decide +kernel
theorem dX5_mendNow_122 : decode cX5_mendNow 122 = .ok (.istore_n 1, 1) := by decide +kernel
theorem dX5_mendNow_123 : decode cX5_mendNow 123 = .ok (.aload_n 0, 1) := by decide +kernel
theorem dX5_mendNow_124 : decode cX5_mendNow 124 = .ok (.aload_n 0, 1) := by decide +kernel
theorem dX5_mendNow_125 : decode cX5_mendNow 125 = .ok (.aload_n 0, 1) := by decide +kernel
theorem dX5_mendNow_126 : decode cX5_mendNow 126 = .ok (.getfield 101, 3) := by decide +kernel
theorem dX5_mendNow_129 : decode cX5_mendNow 129 = .ok (.invokevirtual 155, 3) := by decide +kernel
theorem dX5_mendNow_132 : decode cX5_mendNow 132 = .ok (.aload_n 0, 1) := by decide +kernel
theorem dX5_mendNow_133 : decode cX5_mendNow 133 = .ok (.getfield 101, 3) := by decide +kernel
theorem dX5_mendNow_136 : decode cX5_mendNow 136 = .ok (.invokevirtual 161, 3) := by decide +kernel
theorem dX5_mendNow_139 : decode cX5_mendNow 139 = .ok (.istore_n 2, 1) := by decide +kernel
theorem dX5_mendNow_140 : decode cX5_mendNow 140 = .ok (.goto (-88), 3) := by decide +kernel
theorem dX5_mendNow_143 : decode cX5_mendNow 143 = .ok (.iconst 1, 1) := by decide +kernel
theorem dX5_mendNow_144 : decode cX5_mendNow 144 = .ok (.istore_n 3, 1) := by decide +kernel
theorem dX5_mendNow_145 : decode cX5_mendNow 145 = .ok (.iload_n 3, 1) := by decide +kernel
theorem dX5_mendNow_146 : decode cX5_mendNow 146 = .ok (.aload_n 0, 1) := by decide +kernel
theorem dX5_mendNow_147 : decode cX5_mendNow 147 = .ok (.getfield 101, 3) := by decide +kernel
theorem dX5_mendNow_150 : decode cX5_mendNow 150 = .ok (.if_icmp .gt 21, 3) := by decide +kernel
theorem dX5_mendNow_153 : decode cX5_mendNow 153 = .ok (.aload_n 0, 1) := by decide +kernel
theorem dX5_mendNow_154 : decode cX5_mendNow 154 = .ok (.getfield 13, 3) := by decide +kernel
theorem dX5_mendNow_157 : decode cX5_mendNow 157 = .ok (.iload_n 3, 1) := by decide +kernel
theorem dX5_mendNow_158 : decode cX5_mendNow 158 = .ok (.aload_n 0, 1) := by decide +kernel
theorem dX5_mendNow_159 : decode cX5_mendNow 159 = .ok (.getfield 38, 3) := by decide +kernel
theorem dX5_mendNow_162 : decode cX5_mendNow 162 = .ok (.iload_n 3, 1) := by decide +kernel
theorem dX5_mendNow_163 : decode cX5_mendNow 163 = .ok (.iaload, 1) := by decide +kernel
theorem dX5_mendNow_164 : decode cX5_mendNow 164 = .ok (.iastore, 1) := by decide +kernel
theorem dX5_mendNow_165 : decode cX5_mendNow 165 = .ok (.iinc 3 1, 3) := by decide +kernel
theorem dX5_mendNow_168 : decode cX5_mendNow 168 = .ok (.goto (-23), 3) := by decide +kernel
theorem dX5_mendNow_171 : decode cX5_mendNow 171 = .ok (.iload_n 1, 1) := by decide +kernel
theorem dX5_mendNow_172 : decode cX5_mendNow 172 = .ok (.ldc 183, 2) := by decide +kernel
theorem dX5_mendNow_174 : decode cX5_mendNow 174 = .ok (.if_icmp .ne 7, 3) := by decide +kernel
theorem dX5_mendNow_177 : decode cX5_mendNow 177 = .ok (.iconst (-1), 1) := by decide +kernel
theorem dX5_mendNow_178 : decode cX5_mendNow 178 = .ok (.goto 4, 3) := by decide +kernel
theorem dX5_mendNow_181 : decode cX5_mendNow 181 = .ok (.iload_n 1, 1) := by decide +kernel
theorem dX5_mendNow_182 : decode cX5_mendNow 182 = .ok (.ireturn, 1) := by decide +kernel
theorem dX5_mend_0 : decode cX5_mend 0 = .ok (.aload_n 0, 1) := by decide +kernel
theorem dX5_mend_1 : decode cX5_mend 1 = .ok (.getfield 101, 3) := by decide +kernel
theorem dX5_mend_4 : decode cX5_mend 4 = .ok (.ifCond .ne 8, 3) := by decide +kernel
theorem dX5_mend_7 : decode cX5_mend 7 = .ok (.bipush (-103), 2) := by decide +kernel
theorem dX5_mend_9 : decode cX5_mend 9 = .ok (.goto 7, 3) := by decide +kernel
theorem dX5_mend_12 : decode cX5_mend 12 = .ok (.aload_n 0, 1) := by decide +kernel
theorem dX5_mend_13 : decode cX5_mend 13 = .ok (.invokevirtual 184, 3) := by decide +kernel
theorem dX5_mend_16 : decode cX5_mend 16 = .ok (.ireturn, 1) := by decide +kernel
theorem dX5_layTurns_0 : decode cX5_layTurns 0 = .ok (.iconst 0, 1) := by decide +kernel
theorem dX5_layTurns_1 : decode cX5_layTurns 1 = .ok (.istore_n 1, 1) := by decide +kernel
theorem dX5_layTurns_2 : decode cX5_layTurns 2 = .ok (.iconst 1, 1) := by decide +kernel
theorem dX5_layTurns_3 : decode cX5_layTurns 3 = .ok (.istore_n 2, 1) := by decide +kernel
theorem dX5_layTurns_4 : decode cX5_layTurns 4 = .ok (.iload_n 2, 1) := by decide +kernel
theorem dX5_layTurns_5 : decode cX5_layTurns 5 = .ok (.aload_n 0, 1) := by decide +kernel
theorem dX5_layTurns_6 : decode cX5_layTurns 6 = .ok (.getfield 101, 3) := by decide +kernel
theorem dX5_layTurns_9 : decode cX5_layTurns 9 = .ok (.if_icmp .gt 29, 3) := by decide +kernel
theorem dX5_layTurns_12 : decode cX5_layTurns 12 = .ok (.aload_n 0, 1) := by decide +kernel
theorem dX5_layTurns_13 : decode cX5_layTurns 13 = .ok (.getfield 13, 3) := by decide +kernel
theorem dX5_layTurns_16 : decode cX5_layTurns 16 = .ok (.iload_n 2, 1) := by decide +kernel
theorem dX5_layTurns_17 : decode cX5_layTurns 17 = .ok (.iaload, 1) := by decide +kernel
theorem dX5_layTurns_18 : decode cX5_layTurns 18 = .ok (.iconst (-1), 1) := by decide +kernel
theorem dX5_layTurns_19 : decode cX5_layTurns 19 = .ok (.if_icmp .ne 13, 3) := by decide +kernel
theorem dX5_layTurns_22 : decode cX5_layTurns 22 = .ok (.aload_n 0, 1) := by decide +kernel
theorem dX5_layTurns_23 : decode cX5_layTurns 23 = .ok (.getfield 41, 3) := by decide +kernel
theorem dX5_layTurns_26 : decode cX5_layTurns 26 = .ok (.iload_n 1, 1) := by decide +kernel
theorem dX5_layTurns_27 : decode cX5_layTurns 27 = .ok (.iload_n 2, 1) := by decide +kernel
theorem dX5_layTurns_28 : decode cX5_layTurns 28 = .ok (.iastore, 1) := by decide +kernel
theorem dX5_layTurns_29 : decode cX5_layTurns 29 = .ok (.iinc 1 1, 3) := by decide +kernel
theorem dX5_layTurns_32 : decode cX5_layTurns 32 = .ok (.iinc 2 1, 3) := by decide +kernel
theorem dX5_layTurns_35 : decode cX5_layTurns 35 = .ok (.goto (-31), 3) := by decide +kernel
theorem dX5_layTurns_38 : decode cX5_layTurns 38 = .ok (.iload_n 1, 1) := by decide +kernel
theorem dX5_layTurns_39 : decode cX5_layTurns 39 = .ok (.ireturn, 1) := by decide +kernel
theorem dX5_winNow_0 : decode cX5_winNow 0 = .ok (.aload_n 0, 1) := by decide +kernel
theorem dX5_winNow_1 : decode cX5_winNow 1 = .ok (.invokevirtual 128, 3) := by decide +kernel
theorem dX5_winNow_4 : decode cX5_winNow 4 = .ok (.aload_n 0, 1) := by decide +kernel
theorem dX5_winNow_5 : decode cX5_winNow 5 = .ok (.invokevirtual 187, 3) := by decide +kernel
theorem dX5_winNow_8 : decode cX5_winNow 8 = .ok (.istore_n 1, 1) := by decide +kernel
theorem dX5_winNow_9 : decode cX5_winNow 9 = .ok (.iload_n 1, 1) := by decide +kernel
theorem dX5_winNow_10 : decode cX5_winNow 10 = .ok (.ifCond .eq 14, 3) := by decide +kernel
theorem dX5_winNow_13 : decode cX5_winNow 13 = .ok (.aload_n 0, 1) := by decide +kernel
theorem dX5_winNow_14 : decode cX5_winNow 14 = .ok (.aload_n 0, 1) := by decide +kernel
theorem dX5_winNow_15 : decode cX5_winNow 15 = .ok (.getfield 101, 3) := by decide +kernel
theorem dX5_winNow_18 : decode cX5_winNow 18 = .ok (.invokevirtual 131, 3) := by decide +kernel
theorem dX5_winNow_21 : decode cX5_winNow 21 = .ok (.ifCond .le 5, 3) := by decide +kernel
theorem dX5_winNow_24 : decode cX5_winNow 24 = .ok (.iconst (-1), 1) := by decide +kernel
theorem dX5_winNow_25 : decode cX5_winNow 25 = .ok (.ireturn, 1) := by decide +kernel
theorem dX5_winNow_26 : decode cX5_winNow 26 = .ok (.iconst 0, 1) := by decide +kernel
theorem dX5_winNow_27 : decode cX5_winNow 27 = .ok (.istore_n 2, 1) := by decide +kernel
theorem dX5_winNow_28 : decode cX5_winNow 28 = .ok (.aload_n 0, 1) := by decide +kernel
theorem dX5_winNow_29 : decode cX5_winNow 29 = .ok (.getfield 44, 3) := by decide +kernel
theorem dX5_winNow_32 : decode cX5_winNow 32 = .ok (.iconst 0, 1) := by decide +kernel
theorem dX5_winNow_33 : decode cX5_winNow 33 = .ok (.iconst 0, 1) := by decide +kernel
theorem dX5_winNow_34 : decode cX5_winNow 34 = .ok (.iastore, 1) := by decide +kernel
theorem dX5_winNow_35 : decode cX5_winNow 35 = .ok (.aload_n 0, 1) := by decide +kernel
theorem dX5_winNow_36 : decode cX5_winNow 36 = .ok (.getfield 47, 3) := by decide +kernel
theorem dX5_winNow_39 : decode cX5_winNow 39 = .ok (.iconst 0, 1) := by decide +kernel
theorem dX5_winNow_40 : decode cX5_winNow 40 = .ok (.iconst (-1), 1) := by decide +kernel
theorem dX5_winNow_41 : decode cX5_winNow 41 = .ok (.iastore, 1) := by decide +kernel
theorem dX5_winNow_42 : decode cX5_winNow 42 = .ok (.iload_n 2, 1) := by decide +kernel
theorem dX5_winNow_43 : decode cX5_winNow 43 = .ok (.ifCond .lt 152, 3) := by decide +kernel
theorem dX5_winNow_46 : decode cX5_winNow 46 = .ok (.iload_n 2, 1) := by decide +kernel
theorem dX5_winNow_47 : decode cX5_winNow 47 = .ok (.iload_n 1, 1) := by decide +kernel
theorem dX5_winNow_48 : decode cX5_winNow 48 = .ok (.if_icmp .eq 26, 3) := by decide +kernel
theorem dX5_winNow_51 : decode cX5_winNow 51 = .ok (.aload_n 0, 1) := by decide +kernel
theorem dX5_winNow_52 : decode cX5_winNow 52 = .ok (.getfield 44, 3) := by decide +kernel
theorem dX5_winNow_55 : decode cX5_winNow 55 = .ok (.iload_n 2, 1) := by decide +kernel
theorem dX5_winNow_56 : decode cX5_winNow 56 = .ok (.iaload, 1) := by decide +kernel
theorem dX5_winNow_57 : decode cX5_winNow 57 = .ok (.aload_n 0, 1) := by decide +kernel
theorem dX5_winNow_58 : decode cX5_winNow 58 = .ok (.getfield 98, 3) := by decide +kernel
theorem dX5_winNow_61 : decode cX5_winNow 61 = .ok (.if_icmp .eq 13, 3) := by decide +kernel
theorem dX5_winNow_64 : decode cX5_winNow 64 = .ok (.aload_n 0, 1) := by decide +kernel
theorem dX5_winNow_65 : decode cX5_winNow 65 = .ok (.getfield 47, 3) := by decide +kernel
theorem dX5_winNow_68 : decode cX5_winNow 68 = .ok (.iload_n 2, 1) := by decide +kernel
theorem dX5_winNow_69 : decode cX5_winNow 69 = .ok (.iaload, 1) := by decide +kernel
theorem dX5_winNow_70 : decode cX5_winNow 70 = .ok (.iconst (-1), 1) := by decide +kernel
theorem dX5_winNow_71 : decode cX5_winNow 71 = .ok (.if_icmp .eq 7, 3) := by decide +kernel
theorem dX5_winNow_74 : decode cX5_winNow 74 = .ok (.iconst 1, 1) := by decide +kernel
theorem dX5_winNow_75 : decode cX5_winNow 75 = .ok (.goto 4, 3) := by decide +kernel
theorem dX5_winNow_78 : decode cX5_winNow 78 = .ok (.iconst 0, 1) := by decide +kernel
theorem dX5_winNow_79 : decode cX5_winNow 79 = .ok (.istore_n 3, 1) := by decide +kernel
theorem dX5_winNow_80 : decode cX5_winNow 80 = .ok (.iload_n 3, 1) := by decide +kernel
theorem dX5_winNow_81 : decode cX5_winNow 81 = .ok (.ifCond .ne 61, 3) := by decide +kernel
theorem dX5_winNow_84 : decode cX5_winNow 84 = .ok (.aload_n 0, 1) := by decide +kernel
theorem dX5_winNow_85 : decode cX5_winNow 85 = .ok (.getfield 29, 3) := by decide +kernel
theorem dX5_winNow_88 : decode cX5_winNow 88 = .ok (.aload_n 0, 1) := by decide +kernel
theorem dX5_winNow_89 : decode cX5_winNow 89 = .ok (.getfield 41, 3) := by decide +kernel
theorem dX5_winNow_92 : decode cX5_winNow 92 = .ok (.iload_n 2, 1) := by decide +kernel
theorem dX5_winNow_93 : decode cX5_winNow 93 = .ok (.iaload, 1) := by decide +kernel
theorem dX5_winNow_94 : decode cX5_winNow 94 = .ok (.aload_n 0, 1) := by decide +kernel
theorem dX5_winNow_95 : decode cX5_winNow 95 = .ok (.getfield 44, 3) := by decide +kernel
theorem dX5_winNow_98 : decode cX5_winNow 98 = .ok (.iload_n 2, 1) := by decide +kernel
theorem dX5_winNow_99 : decode cX5_winNow 99 = .ok (.iaload, 1) := by decide +kernel
theorem dX5_winNow_100 : decode cX5_winNow 100 = .ok (.iastore, 1) := by decide +kernel
theorem dX5_winNow_101 : decode cX5_winNow 101 = .ok (.aload_n 0, 1) := by decide +kernel
theorem dX5_winNow_102 : decode cX5_winNow 102 = .ok (.getfield 44, 3) := by decide +kernel
theorem dX5_winNow_105 : decode cX5_winNow 105 = .ok (.iload_n 2, 1) := by decide +kernel
theorem dX5_winNow_106 : decode cX5_winNow 106 = .ok (.dup2, 1) := by decide +kernel
theorem dX5_winNow_107 : decode cX5_winNow 107 = .ok (.iaload, 1) := by decide +kernel
theorem dX5_winNow_108 : decode cX5_winNow 108 = .ok (.iconst 1, 1) := by decide +kernel
theorem dX5_winNow_109 : decode cX5_winNow 109 = .ok (.iadd, 1) := by decide +kernel
theorem dX5_winNow_110 : decode cX5_winNow 110 = .ok (.iastore, 1) := by decide +kernel
theorem dX5_winNow_111 : decode cX5_winNow 111 = .ok (.aload_n 0, 1) := by decide +kernel
theorem dX5_winNow_112 : decode cX5_winNow 112 = .ok (.aload_n 0, 1) := by decide +kernel
theorem dX5_winNow_113 : decode cX5_winNow 113 = .ok (.getfield 101, 3) := by decide +kernel
theorem dX5_winNow_116 : decode cX5_winNow 116 = .ok (.invokevirtual 131, 3) := by decide +kernel
theorem dX5_winNow_119 : decode cX5_winNow 119 = .ok (.ifCond .ne 73, 3) := by decide +kernel
theorem dX5_winNow_122 : decode cX5_winNow 122 = .ok (.iinc 2 1, 3) := by decide +kernel
theorem dX5_winNow_125 : decode cX5_winNow 125 = .ok (.aload_n 0, 1) := by decide +kernel
theorem dX5_winNow_126 : decode cX5_winNow 126 = .ok (.getfield 44, 3) := by decide +kernel
theorem dX5_winNow_129 : decode cX5_winNow 129 = .ok (.iload_n 2, 1) := by decide +kernel
theorem dX5_winNow_130 : decode cX5_winNow 130 = .ok (.iconst 0, 1) := by decide +kernel
theorem dX5_winNow_131 : decode cX5_winNow 131 = .ok (.iastore, 1) := by decide +kernel
theorem dX5_winNow_132 : decode cX5_winNow 132 = .ok (.aload_n 0, 1) := by decide +kernel
theorem dX5_winNow_133 : decode cX5_winNow 133 = .ok (.getfield 47, 3) := by decide +kernel
theorem dX5_winNow_136 : decode cX5_winNow 136 = .ok (.iload_n 2, 1) := by decide +kernel
theorem dX5_winNow_137 : decode cX5_winNow 137 = .ok (.iconst (-1), 1) := by decide +kernel
theorem dX5_winNow_138 : decode cX5_winNow 138 = .ok (.iastore, 1) := by decide +kernel
theorem dX5_winNow_139 : decode cX5_winNow 139 = .ok (.goto 53, 3) := by decide +kernel
theorem dX5_winNow_142 : decode cX5_winNow 142 = .ok (.iload_n 2, 1) := by decide +kernel
theorem dX5_winNow_143 : decode cX5_winNow 143 = .ok (.iload_n 1, 1) := by decide +kernel
theorem dX5_winNow_144 : decode cX5_winNow 144 = .ok (.if_icmp .ge 15, 3) := by decide +kernel
theorem dX5_winNow_147 : decode cX5_winNow 147 = .ok (.aload_n 0, 1) := by decide +kernel
theorem dX5_winNow_148 : decode cX5_winNow 148 = .ok (.getfield 29, 3) := by decide +kernel
theorem dX5_winNow_151 : decode cX5_winNow 151 = .ok (.aload_n 0, 1) := by decide +kernel
theorem dX5_winNow_152 : decode cX5_winNow 152 = .ok (.getfield 41, 3) := by decide +kernel
theorem dX5_winNow_155 : decode cX5_winNow 155 = .ok (.iload_n 2, 1) := by decide +kernel
theorem dX5_winNow_156 : decode cX5_winNow 156 = .ok (.iaload, 1) := by decide +kernel
theorem dX5_winNow_157 : decode cX5_winNow 157 = .ok (.iconst (-1), 1) := by decide +kernel
theorem dX5_winNow_158 : decode cX5_winNow 158 = .ok (.iastore, 1) := by decide +kernel
theorem dX5_winNow_159 : decode cX5_winNow 159 = .ok (.iinc 2 (-1), 3) := by decide +kernel
theorem dX5_winNow_162 : decode cX5_winNow 162 = .ok (.iload_n 2, 1) := by decide +kernel
theorem dX5_winNow_163 : decode cX5_winNow 163 = .ok (.ifCond .lt 29, 3) := by decide +kernel
theorem dX5_winNow_166 : decode cX5_winNow 166 = .ok (.aload_n 0, 1) := by decide +kernel
theorem dX5_winNow_167 : decode cX5_winNow 167 = .ok (.getfield 47, 3) := by decide +kernel
theorem dX5_winNow_170 : decode cX5_winNow 170 = .ok (.iload_n 2, 1) := by decide +kernel
theorem dX5_winNow_171 : decode cX5_winNow 171 = .ok (.iconst 1, 1) := by decide +kernel
theorem dX5_winNow_172 : decode cX5_winNow 172 = .ok (.iadd, 1) := by decide +kernel
theorem dX5_winNow_173 : decode cX5_winNow 173 = .ok (.iaload, 1) := by decide +kernel
theorem dX5_winNow_174 : decode cX5_winNow 174 = .ok (.iconst (-1), 1) := by decide +kernel
theorem dX5_winNow_175 : decode cX5_winNow 175 = .ok (.if_icmp .ne 17, 3) := by decide +kernel
theorem dX5_winNow_178 : decode cX5_winNow 178 = .ok (.aload_n 0, 1) := by decide +kernel
theorem dX5_winNow_179 : decode cX5_winNow 179 = .ok (.getfield 47, 3) := by decide +kernel
theorem dX5_winNow_182 : decode cX5_winNow 182 = .ok (.iload_n 2, 1) := by decide +kernel
theorem dX5_winNow_183 : decode cX5_winNow 183 = .ok (.aload_n 0, 1) := by decide +kernel
theorem dX5_winNow_184 : decode cX5_winNow 184 = .ok (.getfield 44, 3) := by decide +kernel
theorem dX5_winNow_187 : decode cX5_winNow 187 = .ok (.iload_n 2, 1) := by decide +kernel
theorem dX5_winNow_188 : decode cX5_winNow 188 = .ok (.iaload, 1) := by decide +kernel
theorem dX5_winNow_189 : decode cX5_winNow 189 = .ok (.iconst 1, 1) := by decide +kernel
theorem dX5_winNow_190 : decode cX5_winNow 190 = .ok (.isub, 1) := by decide +kernel
theorem dX5_winNow_191 : decode cX5_winNow 191 = .ok (.iastore, 1) := by decide +kernel
theorem dX5_winNow_192 : decode cX5_winNow 192 = .ok (.goto (-150), 3) := by decide +kernel
theorem dX5_winNow_195 : decode cX5_winNow 195 = .ok (.aload_n 0, 1) := by decide +kernel
theorem dX5_winNow_196 : decode cX5_winNow 196 = .ok (.getfield 47, 3) := by decide +kernel
theorem dX5_winNow_199 : decode cX5_winNow 199 = .ok (.iconst 0, 1) := by decide +kernel
theorem dX5_winNow_200 : decode cX5_winNow 200 = .ok (.iaload, 1) := by decide +kernel
theorem dX5_winNow_201 : decode cX5_winNow 201 = .ok (.ireturn, 1) := by decide +kernel
theorem dX5_winsNow_0 : decode cX5_winsNow 0 = .ok (.aload_n 0, 1) := by decide +kernel
theorem dX5_winsNow_1 : decode cX5_winsNow 1 = .ok (.invokevirtual 190, 3) := by decide +kernel
theorem dX5_winsNow_4 : decode cX5_winsNow 4 = .ok (.istore_n 2, 1) := by decide +kernel
theorem dX5_winsNow_5 : decode cX5_winsNow 5 = .ok (.iload_n 1, 1) := by decide +kernel
theorem dX5_winsNow_6 : decode cX5_winsNow 6 = .ok (.iconst 1, 1) := by decide +kernel
theorem dX5_winsNow_7 : decode cX5_winsNow 7 = .ok (.if_icmp .ne 7, 3) := by decide +kernel
theorem dX5_winsNow_10 : decode cX5_winsNow 10 = .ok (.iload_n 2, 1) := by decide +kernel
theorem dX5_winsNow_11 : decode cX5_winsNow 11 = .ok (.goto 13, 3) := by decide +kernel
theorem dX5_winsNow_14 : decode cX5_winsNow 14 = .ok (.iload_n 2, 1) := by decide +kernel
theorem dX5_winsNow_15 : decode cX5_winsNow 15 = .ok (.iconst (-1), 1) := by decide +kernel
theorem dX5_winsNow_16 : decode cX5_winsNow 16 = .ok (.if_icmp .ne 7, 3) := by decide +kernel
theorem dX5_winsNow_19 : decode cX5_winsNow 19 = .ok (.iconst 0, 1) := by decide +kernel
theorem dX5_winsNow_20 : decode cX5_winsNow 20 = .ok (.goto 4, 3) := by decide +kernel
theorem dX5_winsNow_23 : decode cX5_winsNow 23 = .ok (.iconst 1, 1) := by decide +kernel
theorem dX5_winsNow_24 : decode cX5_winsNow 24 = .ok (.ireturn, 1) := by decide +kernel
theorem dX5_wins_0 : decode cX5_wins 0 = .ok (.iload_n 1, 1) := by decide +kernel
theorem dX5_wins_1 : decode cX5_wins 1 = .ok (.iconst 0, 1) := by decide +kernel
theorem dX5_wins_2 : decode cX5_wins 2 = .ok (.iconst 1, 1) := by decide +kernel
theorem dX5_wins_3 : decode cX5_wins 3 = .ok (.invokestatic 65, 3) := by decide +kernel
theorem dX5_wins_6 : decode cX5_wins 6 = .ok (.ifCond .ne 6, 3) := by decide +kernel
theorem dX5_wins_9 : decode cX5_wins 9 = .ok (.bipush (-102), 2) := by decide +kernel
theorem dX5_wins_11 : decode cX5_wins 11 = .ok (.ireturn, 1) := by decide +kernel
theorem dX5_wins_12 : decode cX5_wins 12 = .ok (.aload_n 0, 1) := by decide +kernel
theorem dX5_wins_13 : decode cX5_wins 13 = .ok (.getfield 101, 3) := by decide +kernel
theorem dX5_wins_16 : decode cX5_wins 16 = .ok (.ifCond .ne 8, 3) := by decide +kernel
theorem dX5_wins_19 : decode cX5_wins 19 = .ok (.bipush (-103), 2) := by decide +kernel
theorem dX5_wins_21 : decode cX5_wins 21 = .ok (.goto 8, 3) := by decide +kernel
theorem dX5_wins_24 : decode cX5_wins 24 = .ok (.aload_n 0, 1) := by decide +kernel
theorem dX5_wins_25 : decode cX5_wins 25 = .ok (.iload_n 1, 1) := by decide +kernel
theorem dX5_wins_26 : decode cX5_wins 26 = .ok (.invokevirtual 193, 3) := by decide +kernel
theorem dX5_wins_29 : decode cX5_wins 29 = .ok (.ireturn, 1) := by decide +kernel
theorem dX5_oddsNow_0 : decode cX5_oddsNow 0 = .ok (.aload_n 0, 1) := by decide +kernel
theorem dX5_oddsNow_1 : decode cX5_oddsNow 1 = .ok (.iconst (-1), 1) := by decide +kernel
theorem dX5_oddsNow_2 : decode cX5_oddsNow 2 = .ok (.invokevirtual 134, 3) := by decide +kernel
theorem dX5_oddsNow_5 : decode cX5_oddsNow 5 = .ok (.istore 4, 2) := by decide +kernel
theorem dX5_oddsNow_7 : decode cX5_oddsNow 7 = .ok (.aload_n 0, 1) := by decide +kernel
theorem dX5_oddsNow_8 : decode cX5_oddsNow 8 = .ok (.getfield 32, 3) := by decide +kernel
theorem dX5_oddsNow_11 : decode cX5_oddsNow 11 = .ok (.iconst 3, 1) := by decide +kernel
theorem dX5_oddsNow_12 : decode cX5_oddsNow 12 = .ok (.iload_n 1, 1) := by decide +kernel
theorem dX5_oddsNow_13 : decode cX5_oddsNow 13 = .ok (.imul, 1) := by decide +kernel
theorem dX5_oddsNow_14 : decode cX5_oddsNow 14 = .ok (.iload_n 2, 1) := by decide +kernel
theorem dX5_oddsNow_15 : decode cX5_oddsNow 15 = .ok (.iadd, 1) := by decide +kernel
theorem dX5_oddsNow_16 : decode cX5_oddsNow 16 = .ok (.iaload, 1) := by decide +kernel
theorem dX5_oddsNow_17 : decode cX5_oddsNow 17 = .ok (.istore 5, 2) := by decide +kernel
theorem dX5_oddsNow_19 : decode cX5_oddsNow 19 = .ok (.iload 5, 2) := by decide +kernel
theorem dX5_oddsNow_21 : decode cX5_oddsNow 21 = .ok (.ifCond .ne 5, 3) := by decide +kernel
theorem dX5_oddsNow_24 : decode cX5_oddsNow 24 = .ok (.iload_n 3, 1) := by decide +kernel
theorem dX5_oddsNow_25 : decode cX5_oddsNow 25 = .ok (.ireturn, 1) := by decide +kernel
theorem dX5_oddsNow_26 : decode cX5_oddsNow 26 = .ok (.iload 5, 2) := by decide +kernel
theorem dX5_oddsNow_28 : decode cX5_oddsNow 28 = .ok (.iload 4, 2) := by decide +kernel
theorem dX5_oddsNow_30 : decode cX5_oddsNow 30 = .ok (.invokestatic 196, 3) := by decide +kernel
theorem dX5_oddsNow_33 : decode cX5_oddsNow 33 = .ok (.istore 6, 2) := by decide +kernel
theorem dX5_oddsNow_35 : decode cX5_oddsNow 35 = .ok (.iload_n 3, 1) := by decide +kernel
theorem dX5_oddsNow_36 : decode cX5_oddsNow 36 = .ok (.ifCond .ne 11, 3) := by decide +kernel
theorem dX5_oddsNow_39 : decode cX5_oddsNow 39 = .ok (.iload 5, 2) := by decide +kernel
theorem dX5_oddsNow_41 : decode cX5_oddsNow 41 = .ok (.iload 6, 2) := by decide +kernel
theorem dX5_oddsNow_43 : decode cX5_oddsNow 43 = .ok (.idiv, 1) := by decide +kernel
theorem dX5_oddsNow_44 : decode cX5_oddsNow 44 = .ok (.goto 8, 3) := by decide +kernel
theorem dX5_oddsNow_47 : decode cX5_oddsNow 47 = .ok (.iload 4, 2) := by decide +kernel
theorem dX5_oddsNow_49 : decode cX5_oddsNow 49 = .ok (.iload 6, 2) := by decide +kernel
theorem dX5_oddsNow_51 : decode cX5_oddsNow 51 = .ok (.idiv, 1) := by decide +kernel
theorem dX5_oddsNow_52 : decode cX5_oddsNow 52 = .ok (.ireturn, 1) := by decide +kernel
theorem dX5_odds_0 : decode cX5_odds 0 = .ok (.aload_n 0, 1) := by decide +kernel
theorem dX5_odds_1 : decode cX5_odds 1 = .ok (.iload_n 1, 1) := by decide +kernel
theorem dX5_odds_2 : decode cX5_odds 2 = .ok (.invokevirtual 149, 3) := by decide +kernel
theorem dX5_odds_5 : decode cX5_odds 5 = .ok (.ifCond .ne 6, 3) := by decide +kernel
theorem dX5_odds_8 : decode cX5_odds 8 = .ok (.bipush (-101), 2) := by decide +kernel
theorem dX5_odds_10 : decode cX5_odds 10 = .ok (.ireturn, 1) := by decide +kernel
theorem dX5_odds_11 : decode cX5_odds 11 = .ok (.aload_n 0, 1) := by decide +kernel
theorem dX5_odds_12 : decode cX5_odds 12 = .ok (.iload_n 2, 1) := by decide +kernel
theorem dX5_odds_13 : decode cX5_odds 13 = .ok (.invokevirtual 177, 3) := by decide +kernel
theorem dX5_odds_16 : decode cX5_odds 16 = .ok (.ifCond .eq 22, 3) := by decide +kernel
theorem dX5_odds_19 : decode cX5_odds 19 = .ok (.iload_n 3, 1) := by decide +kernel
theorem dX5_odds_20 : decode cX5_odds 20 = .ok (.iconst 0, 1) := by decide +kernel
theorem dX5_odds_21 : decode cX5_odds 21 = .ok (.iconst 1, 1) := by decide +kernel
theorem dX5_odds_22 : decode cX5_odds 22 = .ok (.invokestatic 65, 3) := by decide +kernel
theorem dX5_odds_25 : decode cX5_odds 25 = .ok (.ifCond .eq 13, 3) := by decide +kernel
theorem dX5_odds_28 : decode cX5_odds 28 = .ok (.aload_n 0, 1) := by decide +kernel
theorem dX5_odds_29 : decode cX5_odds 29 = .ok (.iload_n 1, 1) := by decide +kernel
theorem dX5_odds_30 : decode cX5_odds 30 = .ok (.iload_n 2, 1) := by decide +kernel
theorem dX5_odds_31 : decode cX5_odds 31 = .ok (.iload_n 3, 1) := by decide +kernel
theorem dX5_odds_32 : decode cX5_odds 32 = .ok (.invokevirtual 199, 3) := by decide +kernel
theorem dX5_odds_35 : decode cX5_odds 35 = .ok (.goto 5, 3) := by decide +kernel
theorem dX5_odds_38 : decode cX5_odds 38 = .ok (.bipush (-102), 2) := by decide +kernel
theorem dX5_odds_40 : decode cX5_odds 40 = .ok (.ireturn, 1) := by decide +kernel
theorem dX5_could_0 : decode cX5_could 0 = .ok (.iload_n 1, 1) := by decide +kernel
theorem dX5_could_1 : decode cX5_could 1 = .ok (.iconst 2, 1) := by decide +kernel
theorem dX5_could_2 : decode cX5_could 2 = .ok (.if_icmp .ne 10, 3) := by decide +kernel
theorem dX5_could_5 : decode cX5_could 5 = .ok (.iload_n 0, 1) := by decide +kernel
theorem dX5_could_6 : decode cX5_could 6 = .ok (.invokestatic 113, 3) := by decide +kernel
theorem dX5_could_9 : decode cX5_could 9 = .ok (.goto 16, 3) := by decide +kernel
theorem dX5_could_12 : decode cX5_could 12 = .ok (.iload_n 0, 1) := by decide +kernel
theorem dX5_could_13 : decode cX5_could 13 = .ok (.iload_n 1, 1) := by decide +kernel
theorem dX5_could_14 : decode cX5_could 14 = .ok (.ifCond .ne 7, 3) := by decide +kernel
theorem dX5_could_17 : decode cX5_could 17 = .ok (.iconst 1, 1) := by decide +kernel
theorem dX5_could_18 : decode cX5_could 18 = .ok (.goto 4, 3) := by decide +kernel
theorem dX5_could_21 : decode cX5_could 21 = .ok (.iconst 0, 1) := by decide +kernel
theorem dX5_could_22 : decode cX5_could 22 = .ok (.invokestatic 117, 3) := by decide +kernel
theorem dX5_could_25 : decode cX5_could 25 = .ok (.ireturn, 1) := by decide +kernel
theorem dX5_see_0 : decode cX5_see 0 = .ok (.aload_n 0, 1) := by decide +kernel
theorem dX5_see_1 : decode cX5_see 1 = .ok (.iload_n 1, 1) := by decide +kernel
theorem dX5_see_2 : decode cX5_see 2 = .ok (.invokevirtual 149, 3) := by decide +kernel
theorem dX5_see_5 : decode cX5_see 5 = .ok (.ifCond .ne 6, 3) := by decide +kernel
theorem dX5_see_8 : decode cX5_see 8 = .ok (.bipush (-101), 2) := by decide +kernel
theorem dX5_see_10 : decode cX5_see 10 = .ok (.ireturn, 1) := by decide +kernel
theorem dX5_see_11 : decode cX5_see 11 = .ok (.iload_n 2, 1) := by decide +kernel
theorem dX5_see_12 : decode cX5_see 12 = .ok (.iconst 0, 1) := by decide +kernel
theorem dX5_see_13 : decode cX5_see 13 = .ok (.iconst 2, 1) := by decide +kernel
theorem dX5_see_14 : decode cX5_see 14 = .ok (.invokestatic 65, 3) := by decide +kernel
theorem dX5_see_17 : decode cX5_see 17 = .ok (.ifCond .ne 6, 3) := by decide +kernel
theorem dX5_see_20 : decode cX5_see 20 = .ok (.bipush (-102), 2) := by decide +kernel
theorem dX5_see_22 : decode cX5_see 22 = .ok (.ireturn, 1) := by decide +kernel
theorem dX5_see_23 : decode cX5_see 23 = .ok (.aload_n 0, 1) := by decide +kernel
theorem dX5_see_24 : decode cX5_see 24 = .ok (.getfield 110, 3) := by decide +kernel
theorem dX5_see_27 : decode cX5_see 27 = .ok (.bipush 6, 2) := by decide +kernel
theorem dX5_see_29 : decode cX5_see 29 = .ok (.if_icmp .ne 6, 3) := by decide +kernel
theorem dX5_see_32 : decode cX5_see 32 = .ok (.bipush (-104), 2) := by decide +kernel
theorem dX5_see_34 : decode cX5_see 34 = .ok (.ireturn, 1) := by decide +kernel
theorem dX5_see_35 : decode cX5_see 35 = .ok (.aload_n 0, 1) := by decide +kernel
theorem dX5_see_36 : decode cX5_see 36 = .ok (.getfield 16, 3) := by decide +kernel
theorem dX5_see_39 : decode cX5_see 39 = .ok (.aload_n 0, 1) := by decide +kernel
theorem dX5_see_40 : decode cX5_see 40 = .ok (.getfield 110, 3) := by decide +kernel
theorem dX5_see_43 : decode cX5_see 43 = .ok (.iload_n 1, 1) := by decide +kernel
theorem dX5_see_44 : decode cX5_see 44 = .ok (.iastore, 1) := by decide +kernel
theorem dX5_see_45 : decode cX5_see 45 = .ok (.aload_n 0, 1) := by decide +kernel
theorem dX5_see_46 : decode cX5_see 46 = .ok (.getfield 19, 3) := by decide +kernel
theorem dX5_see_49 : decode cX5_see 49 = .ok (.aload_n 0, 1) := by decide +kernel
theorem dX5_see_50 : decode cX5_see 50 = .ok (.getfield 110, 3) := by decide +kernel
theorem dX5_see_53 : decode cX5_see 53 = .ok (.iload_n 2, 1) := by decide +kernel
theorem dX5_see_54 : decode cX5_see 54 = .ok (.iastore, 1) := by decide +kernel
theorem dX5_see_55 : decode cX5_see 55 = .ok (.aload_n 0, 1) := by decide +kernel
theorem dX5_see_56 : decode cX5_see 56 = .ok (.getfield 22, 3) := by decide +kernel
theorem dX5_see_59 : decode cX5_see 59 = .ok (.aload_n 0, 1) := by decide +kernel
theorem dX5_see_60 : decode cX5_see 60 = .ok (.getfield 110, 3) := by decide +kernel
theorem dX5_see_63 : decode cX5_see 63 = .ok (.iload_n 3, 1) := by decide +kernel
theorem dX5_see_64 : decode cX5_see 64 = .ok (.ifCond .eq 7, 3) := by decide +kernel
theorem dX5_see_67 : decode cX5_see 67 = .ok (.iconst 1, 1) := by decide +kernel
theorem dX5_see_68 : decode cX5_see 68 = .ok (.goto 4, 3) := by decide +kernel
theorem dX5_see_71 : decode cX5_see 71 = .ok (.iconst 0, 1) := by decide +kernel
theorem dX5_see_72 : decode cX5_see 72 = .ok (.iastore, 1) := by decide +kernel
theorem dX5_see_73 : decode cX5_see 73 = .ok (.aload_n 0, 1) := by decide +kernel
theorem dX5_see_74 : decode cX5_see 74 = .ok (.dup, 1) := by decide +kernel
theorem dX5_see_75 : decode cX5_see 75 = .ok (.getfield 110, 3) := by decide +kernel
theorem dX5_see_78 : decode cX5_see 78 = .ok (.iconst 1, 1) := by decide +kernel
theorem dX5_see_79 : decode cX5_see 79 = .ok (.iadd, 1) := by decide +kernel
theorem dX5_see_80 : decode cX5_see 80 = .ok (.putfield 110, 3) := by decide +kernel
theorem dX5_see_83 : decode cX5_see 83 = .ok (.aload_n 0, 1) := by decide +kernel
theorem dX5_see_84 : decode cX5_see 84 = .ok (.getfield 110, 3) := by decide +kernel
theorem dX5_see_87 : decode cX5_see 87 = .ok (.ireturn, 1) := by decide +kernel
theorem dX5_forget_0 : decode cX5_forget 0 = .ok (.aload_n 0, 1) := by decide +kernel
theorem dX5_forget_1 : decode cX5_forget 1 = .ok (.getfield 110, 3) := by decide +kernel
theorem dX5_forget_4 : decode cX5_forget 4 = .ok (.istore_n 1, 1) := by decide +kernel
theorem dX5_forget_5 : decode cX5_forget 5 = .ok (.aload_n 0, 1) := by decide +kernel
theorem dX5_forget_6 : decode cX5_forget 6 = .ok (.iconst 0, 1) := by decide +kernel
theorem dX5_forget_7 : decode cX5_forget 7 = .ok (.putfield 110, 3) := by decide +kernel
theorem dX5_forget_10 : decode cX5_forget 10 = .ok (.iload_n 1, 1) := by decide +kernel
theorem dX5_forget_11 : decode cX5_forget 11 = .ok (.ireturn, 1) := by decide +kernel
theorem dX5_sortsOf_0 : decode cX5_sortsOf 0 = .ok (.iconst 0, 1) := by decide +kernel
theorem dX5_sortsOf_1 : decode cX5_sortsOf 1 = .ok (.istore_n 2, 1) := by decide +kernel
theorem dX5_sortsOf_2 : decode cX5_sortsOf 2 = .ok (.iconst 0, 1) := by decide +kernel
theorem dX5_sortsOf_3 : decode cX5_sortsOf 3 = .ok (.istore_n 3, 1) := by decide +kernel
theorem dX5_sortsOf_4 : decode cX5_sortsOf 4 = .ok (.iload_n 3, 1) := by decide +kernel
theorem dX5_sortsOf_5 : decode cX5_sortsOf 5 = .ok (.iconst 4, 1) := by decide +kernel
theorem dX5_sortsOf_6 : decode cX5_sortsOf 6 = .ok (.if_icmp .gt 98, 3) := by decide +kernel
theorem dX5_sortsOf_9 : decode cX5_sortsOf 9 = .ok (.iconst 1, 1) := by decide +kernel
theorem dX5_sortsOf_10 : decode cX5_sortsOf 10 = .ok (.istore 4, 2) := by decide +kernel
theorem dX5_sortsOf_12 : decode cX5_sortsOf 12 = .ok (.iconst 0, 1) := by decide +kernel
theorem dX5_sortsOf_13 : decode cX5_sortsOf 13 = .ok (.istore 5, 2) := by decide +kernel
theorem dX5_sortsOf_15 : decode cX5_sortsOf 15 = .ok (.iload 5, 2) := by decide +kernel
theorem dX5_sortsOf_17 : decode cX5_sortsOf 17 = .ok (.aload_n 0, 1) := by decide +kernel
theorem dX5_sortsOf_18 : decode cX5_sortsOf 18 = .ok (.getfield 110, 3) := by decide +kernel
theorem dX5_sortsOf_21 : decode cX5_sortsOf 21 = .ok (.if_icmp .ge 62, 3) := by decide +kernel
theorem dX5_sortsOf_24 : decode cX5_sortsOf 24 = .ok (.iload 4, 2) := by decide +kernel
theorem dX5_sortsOf_26 : decode cX5_sortsOf 26 = .ok (.ifCond .eq 48, 3) := by decide +kernel
theorem dX5_sortsOf_29 : decode cX5_sortsOf 29 = .ok (.aload_n 0, 1) := by decide +kernel
theorem dX5_sortsOf_30 : decode cX5_sortsOf 30 = .ok (.getfield 16, 3) := by decide +kernel
theorem dX5_sortsOf_33 : decode cX5_sortsOf 33 = .ok (.iload 5, 2) := by decide +kernel
theorem dX5_sortsOf_35 : decode cX5_sortsOf 35 = .ok (.iaload, 1) := by decide +kernel
theorem dX5_sortsOf_36 : decode cX5_sortsOf 36 = .ok (.iload_n 1, 1) := by decide +kernel
theorem dX5_sortsOf_37 : decode cX5_sortsOf 37 = .ok (.if_icmp .ne 33, 3) := by decide +kernel
theorem dX5_sortsOf_40 : decode cX5_sortsOf 40 = .ok (.iload_n 3, 1) := by decide +kernel
theorem dX5_sortsOf_41 : decode cX5_sortsOf 41 = .ok (.aload_n 0, 1) := by decide +kernel
theorem dX5_sortsOf_42 : decode cX5_sortsOf 42 = .ok (.getfield 19, 3) := by decide +kernel
theorem dX5_sortsOf_45 : decode cX5_sortsOf 45 = .ok (.iload 5, 2) := by decide +kernel
theorem dX5_sortsOf_47 : decode cX5_sortsOf 47 = .ok (.iaload, 1) := by decide +kernel
theorem dX5_sortsOf_48 : decode cX5_sortsOf 48 = .ok (.invokestatic 203, 3) := by decide +kernel
theorem dX5_sortsOf_51 : decode cX5_sortsOf 51 = .ok (.aload_n 0, 1) := by decide +kernel
theorem dX5_sortsOf_52 : decode cX5_sortsOf 52 = .ok (.getfield 22, 3) := by decide +kernel
theorem dX5_sortsOf_55 : decode cX5_sortsOf 55 = .ok (.iload 5, 2) := by decide +kernel
theorem dX5_sortsOf_57 : decode cX5_sortsOf 57 = .ok (.iaload, 1) := by decide +kernel
theorem dX5_sortsOf_58 : decode cX5_sortsOf 58 = .ok (.iconst 1, 1) := by decide +kernel
theorem dX5_sortsOf_59 : decode cX5_sortsOf 59 = .ok (.if_icmp .ne 7, 3) := by decide +kernel
theorem dX5_sortsOf_62 : decode cX5_sortsOf 62 = .ok (.iconst 1, 1) := by decide +kernel
theorem dX5_sortsOf_63 : decode cX5_sortsOf 63 = .ok (.goto 4, 3) := by decide +kernel
theorem dX5_sortsOf_66 : decode cX5_sortsOf 66 = .ok (.iconst 0, 1) := by decide +kernel
theorem dX5_sortsOf_67 : decode cX5_sortsOf 67 = .ok (.if_icmp .ne 7, 3) := by decide +kernel
theorem dX5_sortsOf_70 : decode cX5_sortsOf 70 = .ok (.iconst 1, 1) := by decide +kernel
theorem dX5_sortsOf_71 : decode cX5_sortsOf 71 = .ok (.goto 4, 3) := by decide +kernel
theorem dX5_sortsOf_74 : decode cX5_sortsOf 74 = .ok (.iconst 0, 1) := by decide +kernel
theorem dX5_sortsOf_75 : decode cX5_sortsOf 75 = .ok (.istore 4, 2) := by decide +kernel
theorem dX5_sortsOf_77 : decode cX5_sortsOf 77 = .ok (.iinc 5 1, 3) := by decide +kernel
theorem dX5_sortsOf_80 : decode cX5_sortsOf 80 = .ok (.goto (-65), 3) := by decide +kernel
theorem dX5_sortsOf_83 : decode cX5_sortsOf 83 = .ok (.iload_n 2, 1) := by decide +kernel
theorem dX5_sortsOf_84 : decode cX5_sortsOf 84 = .ok (.iload 4, 2) := by decide +kernel
theorem dX5_sortsOf_86 : decode cX5_sortsOf 86 = .ok (.ifCond .eq 9, 3) := by decide +kernel
theorem dX5_sortsOf_89 : decode cX5_sortsOf 89 = .ok (.iconst 1, 1) := by decide +kernel
theorem dX5_sortsOf_90 : decode cX5_sortsOf 90 = .ok (.iload_n 3, 1) := by decide +kernel
theorem dX5_sortsOf_91 : decode cX5_sortsOf 91 = .ok (.ishl, 1) := by decide +kernel
theorem dX5_sortsOf_92 : decode cX5_sortsOf 92 = .ok (.goto 4, 3) := by decide +kernel
theorem dX5_sortsOf_95 : decode cX5_sortsOf 95 = .ok (.iconst 0, 1) := by decide +kernel
theorem dX5_sortsOf_96 : decode cX5_sortsOf 96 = .ok (.ior, 1) := by decide +kernel
theorem dX5_sortsOf_97 : decode cX5_sortsOf 97 = .ok (.istore_n 2, 1) := by decide +kernel
theorem dX5_sortsOf_98 : decode cX5_sortsOf 98 = .ok (.iinc 3 1, 3) := by decide +kernel
theorem dX5_sortsOf_101 : decode cX5_sortsOf 101 = .ok (.goto (-97), 3) := by decide +kernel
theorem dX5_sortsOf_104 : decode cX5_sortsOf 104 = .ok (.iload_n 2, 1) := by decide +kernel
theorem dX5_sortsOf_105 : decode cX5_sortsOf 105 = .ok (.ireturn, 1) := by decide +kernel
theorem dX5_askOf_0 : decode cX5_askOf 0 = .ok (.aload_n 0, 1) := by decide +kernel
theorem dX5_askOf_1 : decode cX5_askOf 1 = .ok (.iload_n 1, 1) := by decide +kernel
theorem dX5_askOf_2 : decode cX5_askOf 2 = .ok (.invokevirtual 140, 3) := by decide +kernel
theorem dX5_askOf_5 : decode cX5_askOf 5 = .ok (.istore_n 2, 1) := by decide +kernel
theorem dX5_askOf_6 : decode cX5_askOf 6 = .ok (.iconst (-1), 1) := by decide +kernel
theorem dX5_askOf_7 : decode cX5_askOf 7 = .ok (.istore_n 3, 1) := by decide +kernel
theorem dX5_askOf_8 : decode cX5_askOf 8 = .ok (.ldc 183, 2) := by decide +kernel
theorem dX5_askOf_10 : decode cX5_askOf 10 = .ok (.istore 4, 2) := by decide +kernel
theorem dX5_askOf_12 : decode cX5_askOf 12 = .ok (.iconst 0, 1) := by decide +kernel
theorem dX5_askOf_13 : decode cX5_askOf 13 = .ok (.istore 5, 2) := by decide +kernel
theorem dX5_askOf_15 : decode cX5_askOf 15 = .ok (.iload 5, 2) := by decide +kernel
theorem dX5_askOf_17 : decode cX5_askOf 17 = .ok (.iconst 3, 1) := by decide +kernel
theorem dX5_askOf_18 : decode cX5_askOf 18 = .ok (.if_icmp .ge 138, 3) := by decide +kernel
theorem dX5_askOf_21 : decode cX5_askOf 21 = .ok (.iload_n 2, 1) := by decide +kernel
theorem dX5_askOf_22 : decode cX5_askOf 22 = .ok (.ifCond .eq 134, 3) := by decide +kernel
theorem dX5_askOf_25 : decode cX5_askOf 25 = .ok (.iconst 0, 1) := by decide +kernel
theorem dX5_askOf_26 : decode cX5_askOf 26 = .ok (.istore 6, 2) := by decide +kernel
theorem dX5_askOf_28 : decode cX5_askOf 28 = .ok (.iconst 0, 1) := by decide +kernel
theorem dX5_askOf_29 : decode cX5_askOf 29 = .ok (.istore 7, 2) := by decide +kernel
theorem dX5_askOf_31 : decode cX5_askOf 31 = .ok (.iconst 0, 1) := by decide +kernel
theorem dX5_askOf_32 : decode cX5_askOf 32 = .ok (.istore 8, 2) := by decide +kernel
theorem dX5_askOf_34 : decode cX5_askOf 34 = .ok (.iload 8, 2) := by decide +kernel
theorem dX5_askOf_36 : decode cX5_askOf 36 = .ok (.iconst 4, 1) := by decide +kernel
theorem dX5_askOf_37 : decode cX5_askOf 37 = .ok (.if_icmp .gt 67, 3) := by decide +kernel
theorem dX5_askOf_40 : decode cX5_askOf 40 = .ok (.iload 6, 2) := by decide +kernel
theorem dX5_askOf_42 : decode cX5_askOf 42 = .ok (.iload_n 2, 1) := by decide +kernel
theorem dX5_askOf_43 : decode cX5_askOf 43 = .ok (.iload 8, 2) := by decide +kernel
theorem dX5_askOf_45 : decode cX5_askOf 45 = .ok (.invokestatic 206, 3) := by decide +kernel
theorem dX5_askOf_48 : decode cX5_askOf 48 = .ok (.ifCond .eq 17, 3) := by decide +kernel
theorem dX5_askOf_51 : decode cX5_askOf 51 = .ok (.iload 8, 2) := by decide +kernel
theorem dX5_askOf_53 : decode cX5_askOf 53 = .ok (.iload 5, 2) := by decide +kernel
theorem dX5_askOf_55 : decode cX5_askOf 55 = .ok (.invokestatic 203, 3) := by decide +kernel
theorem dX5_askOf_58 : decode cX5_askOf 58 = .ok (.ifCond .eq 7, 3) := by decide +kernel
theorem dX5_askOf_61 : decode cX5_askOf 61 = .ok (.iconst 1, 1) := by decide +kernel
theorem dX5_askOf_62 : decode cX5_askOf 62 = .ok (.goto 4, 3) := by decide +kernel
theorem dX5_askOf_65 : decode cX5_askOf 65 = .ok (.iconst 0, 1) := by decide +kernel
theorem dX5_askOf_66 : decode cX5_askOf 66 = .ok (.iadd, 1) := by decide +kernel
theorem dX5_askOf_67 : decode cX5_askOf 67 = .ok (.istore 6, 2) := by decide +kernel
theorem dX5_askOf_69 : decode cX5_askOf 69 = .ok (.iload 7, 2) := by decide +kernel
theorem dX5_askOf_71 : decode cX5_askOf 71 = .ok (.iload_n 2, 1) := by decide +kernel
theorem dX5_askOf_72 : decode cX5_askOf 72 = .ok (.iload 8, 2) := by decide +kernel
theorem dX5_askOf_74 : decode cX5_askOf 74 = .ok (.invokestatic 206, 3) := by decide +kernel
theorem dX5_askOf_77 : decode cX5_askOf 77 = .ok (.ifCond .eq 17, 3) := by decide +kernel
theorem dX5_askOf_80 : decode cX5_askOf 80 = .ok (.iload 8, 2) := by decide +kernel
theorem dX5_askOf_82 : decode cX5_askOf 82 = .ok (.iload 5, 2) := by decide +kernel
theorem dX5_askOf_84 : decode cX5_askOf 84 = .ok (.invokestatic 203, 3) := by decide +kernel
theorem dX5_askOf_87 : decode cX5_askOf 87 = .ok (.ifCond .ne 7, 3) := by decide +kernel
theorem dX5_askOf_90 : decode cX5_askOf 90 = .ok (.iconst 1, 1) := by decide +kernel
theorem dX5_askOf_91 : decode cX5_askOf 91 = .ok (.goto 4, 3) := by decide +kernel
theorem dX5_askOf_94 : decode cX5_askOf 94 = .ok (.iconst 0, 1) := by decide +kernel
theorem dX5_askOf_95 : decode cX5_askOf 95 = .ok (.iadd, 1) := by decide +kernel
theorem dX5_askOf_96 : decode cX5_askOf 96 = .ok (.istore 7, 2) := by decide +kernel
theorem dX5_askOf_98 : decode cX5_askOf 98 = .ok (.iinc 8 1, 3) := by decide +kernel
theorem dX5_askOf_101 : decode cX5_askOf 101 = .ok (.goto (-67), 3) := by decide +kernel
theorem dX5_askOf_104 : decode cX5_askOf 104 = .ok (.iload 6, 2) := by decide +kernel
theorem dX5_askOf_106 : decode cX5_askOf 106 = .ok (.iload 7, 2) := by decide +kernel
theorem dX5_askOf_108 : decode cX5_askOf 108 = .ok (.if_icmp .le 8, 3) := by decide +kernel
theorem dX5_askOf_111 : decode cX5_askOf 111 = .ok (.iload 6, 2) := by decide +kernel
theorem dX5_askOf_113 : decode cX5_askOf 113 = .ok (.goto 5, 3) := by decide +kernel
theorem dX5_askOf_116 : decode cX5_askOf 116 = .ok (.iload 7, 2) := by decide +kernel
theorem dX5_askOf_118 : decode cX5_askOf 118 = .ok (.istore 8, 2) := by decide +kernel
theorem dX5_askOf_120 : decode cX5_askOf 120 = .ok (.iload 8, 2) := by decide +kernel
theorem dX5_askOf_122 : decode cX5_askOf 122 = .ok (.iload 4, 2) := by decide +kernel
theorem dX5_askOf_124 : decode cX5_askOf 124 = .ok (.if_icmp .ge 8, 3) := by decide +kernel
theorem dX5_askOf_127 : decode cX5_askOf 127 = .ok (.iload 5, 2) := by decide +kernel
theorem dX5_askOf_129 : decode cX5_askOf 129 = .ok (.goto 4, 3) := by decide +kernel
theorem dX5_askOf_132 : decode cX5_askOf 132 = .ok (.iload_n 3, 1) := by decide +kernel
theorem dX5_askOf_133 : decode cX5_askOf 133 = .ok (.istore_n 3, 1) := by decide +kernel
theorem dX5_askOf_134 : decode cX5_askOf 134 = .ok (.iload 8, 2) := by decide +kernel
theorem dX5_askOf_136 : decode cX5_askOf 136 = .ok (.iload 4, 2) := by decide +kernel
theorem dX5_askOf_138 : decode cX5_askOf 138 = .ok (.if_icmp .ge 8, 3) := by decide +kernel
theorem dX5_askOf_141 : decode cX5_askOf 141 = .ok (.iload 8, 2) := by decide +kernel
theorem dX5_askOf_143 : decode cX5_askOf 143 = .ok (.goto 5, 3) := by decide +kernel
theorem dX5_askOf_146 : decode cX5_askOf 146 = .ok (.iload 4, 2) := by decide +kernel
theorem dX5_askOf_148 : decode cX5_askOf 148 = .ok (.istore 4, 2) := by decide +kernel
theorem dX5_askOf_150 : decode cX5_askOf 150 = .ok (.iinc 5 1, 3) := by decide +kernel
theorem dX5_askOf_153 : decode cX5_askOf 153 = .ok (.goto (-138), 3) := by decide +kernel
theorem dX5_askOf_156 : decode cX5_askOf 156 = .ok (.iload_n 3, 1) := by decide +kernel
theorem dX5_askOf_157 : decode cX5_askOf 157 = .ok (.ireturn, 1) := by decide +kernel
theorem dX5_draw_0 : decode cX5_draw 0 = .ok (.aload_n 0, 1) := by decide +kernel
theorem dX5_draw_1 : decode cX5_draw 1 = .ok (.ldc2_w 209, 3) := by decide +kernel
theorem dX5_draw_4 : decode cX5_draw 4 = .ok (.aload_n 0, 1) := by decide +kernel
theorem dX5_draw_5 : decode cX5_draw 5 = .ok (.getfield 211, 3) := by decide +kernel
theorem dX5_draw_8 : decode cX5_draw 8 = .ok (.lmul, 1) := by decide +kernel
theorem dX5_draw_9 : decode cX5_draw 9 = .ok (.ldc2_w 215, 3) := by decide +kernel
theorem dX5_draw_12 : decode cX5_draw 12 = .ok (.ladd, 1) := by decide +kernel
theorem dX5_draw_13 : decode cX5_draw 13 = .ok (.ldc2_w 217, 3) := by decide +kernel
theorem dX5_draw_16 : decode cX5_draw 16 = .ok (.land, 1) := by decide +kernel
theorem dX5_draw_17 : decode cX5_draw 17 = .ok (.putfield 211, 3) := by decide +kernel
theorem dX5_draw_20 : decode cX5_draw 20 = .ok (.aload_n 0, 1) := by decide +kernel
theorem dX5_draw_21 : decode cX5_draw 21 = .ok (.getfield 211, 3) := by decide +kernel
theorem dX5_draw_24 : decode cX5_draw 24 = .ok (.ldc2_w 219, 3) := by decide +kernel
theorem dX5_draw_27 : decode cX5_draw 27 = .ok (.ldiv, 1) := by decide +kernel
theorem dX5_draw_28 : decode cX5_draw 28 = .ok (.iload_n 1, 1) := by decide +kernel
theorem dX5_draw_29 : decode cX5_draw 29 = .ok (.i2l, 1) := by decide +kernel
theorem dX5_draw_30 : decode cX5_draw 30 = .ok (.lrem, 1) := by decide +kernel
theorem dX5_draw_31 : decode cX5_draw 31 = .ok (.l2i, 1) := by decide +kernel
theorem dX5_draw_32 : decode cX5_draw 32 = .ok (.ireturn, 1) := by decide +kernel
theorem dX5_paintingsNow_0 : decode cX5_paintingsNow 0 = .ok (.aload_n 0, 1) := by decide +kernel
theorem dX5_paintingsNow_1 : decode cX5_paintingsNow 1 = .ok (.iload_n 2, 1) := by decide +kernel
theorem dX5_paintingsNow_2 : decode cX5_paintingsNow 2 = .ok (.i2l, 1) := by decide +kernel
theorem dX5_paintingsNow_3 : decode cX5_paintingsNow 3 = .ok (.putfield 211, 3) := by decide +kernel
theorem dX5_paintingsNow_6 : decode cX5_paintingsNow 6 = .ok (.iconst 0, 1) := by decide +kernel
theorem dX5_paintingsNow_7 : decode cX5_paintingsNow 7 = .ok (.istore 4, 2) := by decide +kernel
theorem dX5_paintingsNow_9 : decode cX5_paintingsNow 9 = .ok (.iconst 0, 1) := by decide +kernel
theorem dX5_paintingsNow_10 : decode cX5_paintingsNow 10 = .ok (.istore 5, 2) := by decide +kernel
theorem dX5_paintingsNow_12 : decode cX5_paintingsNow 12 = .ok (.iconst 0, 1) := by decide +kernel
theorem dX5_paintingsNow_13 : decode cX5_paintingsNow 13 = .ok (.istore 6, 2) := by decide +kernel
theorem dX5_paintingsNow_15 : decode cX5_paintingsNow 15 = .ok (.iload 6, 2) := by decide +kernel
theorem dX5_paintingsNow_17 : decode cX5_paintingsNow 17 = .ok (.iload_n 1, 1) := by decide +kernel
theorem dX5_paintingsNow_18 : decode cX5_paintingsNow 18 = .ok (.if_icmp .ge 99, 3) := by decide +kernel
theorem dX5_paintingsNow_21 : decode cX5_paintingsNow 21 = .ok (.aload_n 0, 1) := by decide +kernel
theorem dX5_paintingsNow_22 : decode cX5_paintingsNow 22 = .ok (.invokevirtual 128, 3) := by decide +kernel
theorem dX5_paintingsNow_25 : decode cX5_paintingsNow 25 = .ok (.iconst 1, 1) := by decide +kernel
theorem dX5_paintingsNow_26 : decode cX5_paintingsNow 26 = .ok (.istore 7, 2) := by decide +kernel
theorem dX5_paintingsNow_28 : decode cX5_paintingsNow 28 = .ok (.iload 7, 2) := by decide +kernel
theorem dX5_paintingsNow_30 : decode cX5_paintingsNow 30 = .ok (.aload_n 0, 1) := by decide +kernel
theorem dX5_paintingsNow_31 : decode cX5_paintingsNow 31 = .ok (.getfield 101, 3) := by decide +kernel
theorem dX5_paintingsNow_34 : decode cX5_paintingsNow 34 = .ok (.if_icmp .gt 45, 3) := by decide +kernel
theorem dX5_paintingsNow_37 : decode cX5_paintingsNow 37 = .ok (.aload_n 0, 1) := by decide +kernel
theorem dX5_paintingsNow_38 : decode cX5_paintingsNow 38 = .ok (.getfield 29, 3) := by decide +kernel
theorem dX5_paintingsNow_41 : decode cX5_paintingsNow 41 = .ok (.iload 7, 2) := by decide +kernel
theorem dX5_paintingsNow_43 : decode cX5_paintingsNow 43 = .ok (.aload_n 0, 1) := by decide +kernel
theorem dX5_paintingsNow_44 : decode cX5_paintingsNow 44 = .ok (.getfield 29, 3) := by decide +kernel
theorem dX5_paintingsNow_47 : decode cX5_paintingsNow 47 = .ok (.iload 7, 2) := by decide +kernel
theorem dX5_paintingsNow_49 : decode cX5_paintingsNow 49 = .ok (.iaload, 1) := by decide +kernel
theorem dX5_paintingsNow_50 : decode cX5_paintingsNow 50 = .ok (.iconst (-1), 1) := by decide +kernel
theorem dX5_paintingsNow_51 : decode cX5_paintingsNow 51 = .ok (.if_icmp .ne 14, 3) := by decide +kernel
theorem dX5_paintingsNow_54 : decode cX5_paintingsNow 54 = .ok (.aload_n 0, 1) := by decide +kernel
theorem dX5_paintingsNow_55 : decode cX5_paintingsNow 55 = .ok (.aload_n 0, 1) := by decide +kernel
theorem dX5_paintingsNow_56 : decode cX5_paintingsNow 56 = .ok (.getfield 98, 3) := by decide +kernel
theorem dX5_paintingsNow_59 : decode cX5_paintingsNow 59 = .ok (.invokevirtual 221, 3) := by decide +kernel
theorem dX5_paintingsNow_62 : decode cX5_paintingsNow 62 = .ok (.goto 10, 3) := by decide +kernel
theorem dX5_paintingsNow_65 : decode cX5_paintingsNow 65 = .ok (.aload_n 0, 1) := by decide +kernel
theorem dX5_paintingsNow_66 : decode cX5_paintingsNow 66 = .ok (.getfield 29, 3) := by decide +kernel
theorem dX5_paintingsNow_69 : decode cX5_paintingsNow 69 = .ok (.iload 7, 2) := by decide +kernel
theorem dX5_paintingsNow_71 : decode cX5_paintingsNow 71 = .ok (.iaload, 1) := by decide +kernel
theorem dX5_paintingsNow_72 : decode cX5_paintingsNow 72 = .ok (.iastore, 1) := by decide +kernel
theorem dX5_paintingsNow_73 : decode cX5_paintingsNow 73 = .ok (.iinc 7 1, 3) := by decide +kernel
theorem dX5_paintingsNow_76 : decode cX5_paintingsNow 76 = .ok (.goto (-48), 3) := by decide +kernel
theorem dX5_paintingsNow_79 : decode cX5_paintingsNow 79 = .ok (.aload_n 0, 1) := by decide +kernel
theorem dX5_paintingsNow_80 : decode cX5_paintingsNow 80 = .ok (.aload_n 0, 1) := by decide +kernel
theorem dX5_paintingsNow_81 : decode cX5_paintingsNow 81 = .ok (.getfield 101, 3) := by decide +kernel
theorem dX5_paintingsNow_84 : decode cX5_paintingsNow 84 = .ok (.invokevirtual 131, 3) := by decide +kernel
theorem dX5_paintingsNow_87 : decode cX5_paintingsNow 87 = .ok (.istore 7, 2) := by decide +kernel
theorem dX5_paintingsNow_89 : decode cX5_paintingsNow 89 = .ok (.iload 4, 2) := by decide +kernel
theorem dX5_paintingsNow_91 : decode cX5_paintingsNow 91 = .ok (.iload 7, 2) := by decide +kernel
theorem dX5_paintingsNow_93 : decode cX5_paintingsNow 93 = .ok (.ifCond .ne 7, 3) := by decide +kernel
theorem dX5_paintingsNow_96 : decode cX5_paintingsNow 96 = .ok (.iconst 1, 1) := by decide +kernel
theorem dX5_paintingsNow_97 : decode cX5_paintingsNow 97 = .ok (.goto 4, 3) := by decide +kernel
theorem dX5_paintingsNow_100 : decode cX5_paintingsNow 100 = .ok (.iconst 0, 1) := by decide +kernel
theorem dX5_paintingsNow_101 : decode cX5_paintingsNow 101 = .ok (.iadd, 1) := by decide +kernel
theorem dX5_paintingsNow_102 : decode cX5_paintingsNow 102 = .ok (.istore 4, 2) := by decide +kernel
theorem dX5_paintingsNow_104 : decode cX5_paintingsNow 104 = .ok (.iload 5, 2) := by decide +kernel
theorem dX5_paintingsNow_106 : decode cX5_paintingsNow 106 = .ok (.iload 7, 2) := by decide +kernel
theorem dX5_paintingsNow_108 : decode cX5_paintingsNow 108 = .ok (.iadd, 1) := by decide +kernel
theorem dX5_paintingsNow_109 : decode cX5_paintingsNow 109 = .ok (.istore 5, 2) := by decide +kernel
theorem dX5_paintingsNow_111 : decode cX5_paintingsNow 111 = .ok (.iinc 6 1, 3) := by decide +kernel
theorem dX5_paintingsNow_114 : decode cX5_paintingsNow 114 = .ok (.goto (-99), 3) := by decide +kernel
theorem dX5_paintingsNow_117 : decode cX5_paintingsNow 117 = .ok (.iload_n 3, 1) := by decide +kernel
theorem dX5_paintingsNow_118 : decode cX5_paintingsNow 118 = .ok (.ifCond .ne 8, 3) := by decide +kernel
theorem dX5_paintingsNow_121 : decode cX5_paintingsNow 121 = .ok (.iload 4, 2) := by decide +kernel
theorem dX5_paintingsNow_123 : decode cX5_paintingsNow 123 = .ok (.goto 18, 3) := by decide +kernel
theorem dX5_paintingsNow_126 : decode cX5_paintingsNow 126 = .ok (.iload_n 3, 1) := by decide +kernel
theorem dX5_paintingsNow_127 : decode cX5_paintingsNow 127 = .ok (.iconst 1, 1) := by decide +kernel
theorem dX5_paintingsNow_128 : decode cX5_paintingsNow 128 = .ok (.if_icmp .ne 8, 3) := by decide +kernel
theorem dX5_paintingsNow_131 : decode cX5_paintingsNow 131 = .ok (.iload 5, 2) := by decide +kernel
theorem dX5_paintingsNow_133 : decode cX5_paintingsNow 133 = .ok (.goto 8, 3) := by decide +kernel
theorem dX5_paintingsNow_136 : decode cX5_paintingsNow 136 = .ok (.aload_n 0, 1) := by decide +kernel
theorem dX5_paintingsNow_137 : decode cX5_paintingsNow 137 = .ok (.getfield 211, 3) := by decide +kernel
theorem dX5_paintingsNow_140 : decode cX5_paintingsNow 140 = .ok (.l2i, 1) := by decide +kernel
theorem dX5_paintingsNow_141 : decode cX5_paintingsNow 141 = .ok (.ireturn, 1) := by decide +kernel
theorem dX5_paintings_0 : decode cX5_paintings 0 = .ok (.iload_n 1, 1) := by decide +kernel
theorem dX5_paintings_1 : decode cX5_paintings 1 = .ok (.iconst 1, 1) := by decide +kernel
theorem dX5_paintings_2 : decode cX5_paintings 2 = .ok (.bipush 40, 2) := by decide +kernel
theorem dX5_paintings_4 : decode cX5_paintings 4 = .ok (.invokestatic 65, 3) := by decide +kernel
theorem dX5_paintings_7 : decode cX5_paintings 7 = .ok (.ifCond .eq 16, 3) := by decide +kernel
theorem dX5_paintings_10 : decode cX5_paintings 10 = .ok (.iload_n 2, 1) := by decide +kernel
theorem dX5_paintings_11 : decode cX5_paintings 11 = .ok (.ifCond .lt 12, 3) := by decide +kernel
theorem dX5_paintings_14 : decode cX5_paintings 14 = .ok (.iload_n 3, 1) := by decide +kernel
theorem dX5_paintings_15 : decode cX5_paintings 15 = .ok (.iconst 0, 1) := by decide +kernel
theorem dX5_paintings_16 : decode cX5_paintings 16 = .ok (.iconst 2, 1) := by decide +kernel
theorem dX5_paintings_17 : decode cX5_paintings 17 = .ok (.invokestatic 65, 3) := by decide +kernel
theorem dX5_paintings_20 : decode cX5_paintings 20 = .ok (.ifCond .ne 6, 3) := by decide +kernel
theorem dX5_paintings_23 : decode cX5_paintings 23 = .ok (.bipush (-102), 2) := by decide +kernel
theorem dX5_paintings_25 : decode cX5_paintings 25 = .ok (.ireturn, 1) := by decide +kernel
theorem dX5_paintings_26 : decode cX5_paintings 26 = .ok (.aload_n 0, 1) := by decide +kernel
theorem dX5_paintings_27 : decode cX5_paintings 27 = .ok (.getfield 101, 3) := by decide +kernel
theorem dX5_paintings_30 : decode cX5_paintings 30 = .ok (.ifCond .ne 8, 3) := by decide +kernel
theorem dX5_paintings_33 : decode cX5_paintings 33 = .ok (.bipush (-103), 2) := by decide +kernel
theorem dX5_paintings_35 : decode cX5_paintings 35 = .ok (.goto 10, 3) := by decide +kernel
theorem dX5_paintings_38 : decode cX5_paintings 38 = .ok (.aload_n 0, 1) := by decide +kernel
theorem dX5_paintings_39 : decode cX5_paintings 39 = .ok (.iload_n 1, 1) := by decide +kernel
theorem dX5_paintings_40 : decode cX5_paintings 40 = .ok (.iload_n 2, 1) := by decide +kernel
theorem dX5_paintings_41 : decode cX5_paintings 41 = .ok (.iload_n 3, 1) := by decide +kernel
theorem dX5_paintings_42 : decode cX5_paintings 42 = .ok (.invokevirtual 224, 3) := by decide +kernel
theorem dX5_paintings_45 : decode cX5_paintings 45 = .ok (.ireturn, 1) := by decide +kernel
theorem dX5_image_0 : decode cX5_image 0 = .ok (.aload_n 0, 1) := by decide +kernel
theorem dX5_image_1 : decode cX5_image 1 = .ok (.getfield 101, 3) := by decide +kernel
theorem dX5_image_4 : decode cX5_image 4 = .ok (.ifCond .ne 6, 3) := by decide +kernel
theorem dX5_image_7 : decode cX5_image 7 = .ok (.bipush (-103), 2) := by decide +kernel
theorem dX5_image_9 : decode cX5_image 9 = .ok (.ireturn, 1) := by decide +kernel
theorem dX5_image_10 : decode cX5_image 10 = .ok (.aload_n 0, 1) := by decide +kernel
theorem dX5_image_11 : decode cX5_image 11 = .ok (.iconst 1, 1) := by decide +kernel
theorem dX5_image_12 : decode cX5_image 12 = .ok (.putfield 227, 3) := by decide +kernel
theorem dX5_image_15 : decode cX5_image 15 = .ok (.aload_n 0, 1) := by decide +kernel
theorem dX5_image_16 : decode cX5_image 16 = .ok (.aload_n 0, 1) := by decide +kernel
theorem dX5_image_17 : decode cX5_image 17 = .ok (.getfield 107, 3) := by decide +kernel
theorem dX5_image_20 : decode cX5_image 20 = .ok (.putfield 230, 3) := by decide +kernel
theorem dX5_image_23 : decode cX5_image 23 = .ok (.aload_n 0, 1) := by decide +kernel
theorem dX5_image_24 : decode cX5_image 24 = .ok (.aload_n 0, 1) := by decide +kernel
theorem dX5_image_25 : decode cX5_image 25 = .ok (.getfield 104, 3) := by decide +kernel
theorem dX5_image_28 : decode cX5_image 28 = .ok (.putfield 233, 3) := by decide +kernel
theorem dX5_image_31 : decode cX5_image 31 = .ok (.aload_n 0, 1) := by decide +kernel
theorem dX5_image_32 : decode cX5_image 32 = .ok (.aload_n 0, 1) := by decide +kernel
theorem dX5_image_33 : decode cX5_image 33 = .ok (.getfield 110, 3) := by decide +kernel
theorem dX5_image_36 : decode cX5_image 36 = .ok (.putfield 236, 3) := by decide +kernel
theorem dX5_image_39 : decode cX5_image 39 = .ok (.iconst 1, 1) := by decide +kernel
theorem dX5_image_40 : decode cX5_image 40 = .ok (.istore_n 1, 1) := by decide +kernel
theorem dX5_image_41 : decode cX5_image 41 = .ok (.iload_n 1, 1) := by decide +kernel
theorem dX5_image_42 : decode cX5_image 42 = .ok (.aload_n 0, 1) := by decide +kernel
theorem dX5_image_43 : decode cX5_image 43 = .ok (.getfield 101, 3) := by decide +kernel
theorem dX5_image_46 : decode cX5_image 46 = .ok (.if_icmp .gt 33, 3) := by decide +kernel
theorem dX5_image_49 : decode cX5_image 49 = .ok (.aload_n 0, 1) := by decide +kernel
theorem dX5_image_50 : decode cX5_image 50 = .ok (.getfield 50, 3) := by decide +kernel
theorem dX5_image_53 : decode cX5_image 53 = .ok (.iload_n 1, 1) := by decide +kernel
theorem dX5_image_54 : decode cX5_image 54 = .ok (.aload_n 0, 1) := by decide +kernel
theorem dX5_image_55 : decode cX5_image 55 = .ok (.getfield 7, 3) := by decide +kernel
theorem dX5_image_58 : decode cX5_image 58 = .ok (.iload_n 1, 1) := by decide +kernel
theorem dX5_image_59 : decode cX5_image 59 = .ok (.iaload, 1) := by decide +kernel
theorem dX5_image_60 : decode cX5_image 60 = .ok (.iastore, 1) := by decide +kernel
theorem dX5_image_61 : decode cX5_image 61 = .ok (.aload_n 0, 1) := by decide +kernel
theorem dX5_image_62 : decode cX5_image 62 = .ok (.getfield 53, 3) := by decide +kernel
theorem dX5_image_65 : decode cX5_image 65 = .ok (.iload_n 1, 1) := by decide +kernel
theorem dX5_image_66 : decode cX5_image 66 = .ok (.aload_n 0, 1) := by decide +kernel
theorem dX5_image_67 : decode cX5_image 67 = .ok (.getfield 13, 3) := by decide +kernel
theorem dX5_image_70 : decode cX5_image 70 = .ok (.iload_n 1, 1) := by decide +kernel
theorem dX5_image_71 : decode cX5_image 71 = .ok (.iaload, 1) := by decide +kernel
theorem dX5_image_72 : decode cX5_image 72 = .ok (.iastore, 1) := by decide +kernel
theorem dX5_image_73 : decode cX5_image 73 = .ok (.iinc 1 1, 3) := by decide +kernel
theorem dX5_image_76 : decode cX5_image 76 = .ok (.goto (-35), 3) := by decide +kernel
theorem dX5_image_79 : decode cX5_image 79 = .ok (.iconst 0, 1) := by decide +kernel
theorem dX5_image_80 : decode cX5_image 80 = .ok (.istore_n 1, 1) := by decide +kernel
theorem dX5_image_81 : decode cX5_image 81 = .ok (.iload_n 1, 1) := by decide +kernel
theorem dX5_image_82 : decode cX5_image 82 = .ok (.bipush 6, 2) := by decide +kernel
theorem dX5_image_84 : decode cX5_image 84 = .ok (.if_icmp .ge 45, 3) := by decide +kernel
theorem dX5_image_87 : decode cX5_image 87 = .ok (.aload_n 0, 1) := by decide +kernel
theorem dX5_image_88 : decode cX5_image 88 = .ok (.getfield 56, 3) := by decide +kernel
theorem dX5_image_91 : decode cX5_image 91 = .ok (.iload_n 1, 1) := by decide +kernel
theorem dX5_image_92 : decode cX5_image 92 = .ok (.aload_n 0, 1) := by decide +kernel
theorem dX5_image_93 : decode cX5_image 93 = .ok (.getfield 16, 3) := by decide +kernel
theorem dX5_image_96 : decode cX5_image 96 = .ok (.iload_n 1, 1) := by decide +kernel
theorem dX5_image_97 : decode cX5_image 97 = .ok (.iaload, 1) := by decide +kernel
theorem dX5_image_98 : decode cX5_image 98 = .ok (.iastore, 1) := by decide +kernel
theorem dX5_image_99 : decode cX5_image 99 = .ok (.aload_n 0, 1) := by decide +kernel
theorem dX5_image_100 : decode cX5_image 100 = .ok (.getfield 59, 3) := by decide +kernel
theorem dX5_image_103 : decode cX5_image 103 = .ok (.iload_n 1, 1) := by decide +kernel
theorem dX5_image_104 : decode cX5_image 104 = .ok (.aload_n 0, 1) := by decide +kernel
theorem dX5_image_105 : decode cX5_image 105 = .ok (.getfield 19, 3) := by decide +kernel
theorem dX5_image_108 : decode cX5_image 108 = .ok (.iload_n 1, 1) := by decide +kernel
theorem dX5_image_109 : decode cX5_image 109 = .ok (.iaload, 1) := by decide +kernel
theorem dX5_image_110 : decode cX5_image 110 = .ok (.iastore, 1) := by decide +kernel
theorem dX5_image_111 : decode cX5_image 111 = .ok (.aload_n 0, 1) := by decide +kernel
theorem dX5_image_112 : decode cX5_image 112 = .ok (.getfield 62, 3) := by decide +kernel
theorem dX5_image_115 : decode cX5_image 115 = .ok (.iload_n 1, 1) := by decide +kernel
theorem dX5_image_116 : decode cX5_image 116 = .ok (.aload_n 0, 1) := by decide +kernel
theorem dX5_image_117 : decode cX5_image 117 = .ok (.getfield 22, 3) := by decide +kernel
theorem dX5_image_120 : decode cX5_image 120 = .ok (.iload_n 1, 1) := by decide +kernel
theorem dX5_image_121 : decode cX5_image 121 = .ok (.iaload, 1) := by decide +kernel
theorem dX5_image_122 : decode cX5_image 122 = .ok (.iastore, 1) := by decide +kernel
theorem dX5_image_123 : decode cX5_image 123 = .ok (.iinc 1 1, 3) := by decide +kernel
theorem dX5_image_126 : decode cX5_image 126 = .ok (.goto (-45), 3) := by decide +kernel
theorem dX5_image_129 : decode cX5_image 129 = .ok (.aload_n 0, 1) := by decide +kernel
theorem dX5_image_130 : decode cX5_image 130 = .ok (.getfield 104, 3) := by decide +kernel
theorem dX5_image_133 : decode cX5_image 133 = .ok (.ireturn, 1) := by decide +kernel
theorem dX5_restore_0 : decode cX5_restore 0 = .ok (.aload_n 0, 1) := by decide +kernel
theorem dX5_restore_1 : decode cX5_restore 1 = .ok (.getfield 227, 3) := by decide +kernel
theorem dX5_restore_4 : decode cX5_restore 4 = .ok (.ifCond .eq 14, 3) := by decide +kernel
theorem dX5_restore_7 : decode cX5_restore 7 = .ok (.aload_n 0, 1) := by decide +kernel
theorem dX5_restore_8 : decode cX5_restore 8 = .ok (.getfield 230, 3) := by decide +kernel
theorem dX5_restore_11 : decode cX5_restore 11 = .ok (.aload_n 0, 1) := by decide +kernel
theorem dX5_restore_12 : decode cX5_restore 12 = .ok (.getfield 107, 3) := by decide +kernel
theorem dX5_restore_15 : decode cX5_restore 15 = .ok (.if_icmp .eq 6, 3) := by decide +kernel
theorem dX5_restore_18 : decode cX5_restore 18 = .ok (.bipush (-103), 2) := by decide +kernel
theorem dX5_restore_20 : decode cX5_restore 20 = .ok (.ireturn, 1) := by decide +kernel
theorem dX5_restore_21 : decode cX5_restore 21 = .ok (.aload_n 0, 1) := by decide +kernel
theorem dX5_restore_22 : decode cX5_restore 22 = .ok (.aload_n 0, 1) := by decide +kernel
theorem dX5_restore_23 : decode cX5_restore 23 = .ok (.getfield 233, 3) := by decide +kernel
theorem dX5_restore_26 : decode cX5_restore 26 = .ok (.putfield 104, 3) := by decide +kernel
theorem dX5_restore_29 : decode cX5_restore 29 = .ok (.aload_n 0, 1) := by decide +kernel
theorem dX5_restore_30 : decode cX5_restore 30 = .ok (.aload_n 0, 1) := by decide +kernel
theorem dX5_restore_31 : decode cX5_restore 31 = .ok (.getfield 236, 3) := by decide +kernel
theorem dX5_restore_34 : decode cX5_restore 34 = .ok (.putfield 110, 3) := by decide +kernel
theorem dX5_restore_37 : decode cX5_restore 37 = .ok (.iconst 1, 1) := by decide +kernel
theorem dX5_restore_38 : decode cX5_restore 38 = .ok (.istore_n 1, 1) := by decide +kernel
theorem dX5_restore_39 : decode cX5_restore 39 = .ok (.iload_n 1, 1) := by decide +kernel
theorem dX5_restore_40 : decode cX5_restore 40 = .ok (.aload_n 0, 1) := by decide +kernel
theorem dX5_restore_41 : decode cX5_restore 41 = .ok (.getfield 101, 3) := by decide +kernel
theorem dX5_restore_44 : decode cX5_restore 44 = .ok (.if_icmp .gt 33, 3) := by decide +kernel
theorem dX5_restore_47 : decode cX5_restore 47 = .ok (.aload_n 0, 1) := by decide +kernel
theorem dX5_restore_48 : decode cX5_restore 48 = .ok (.getfield 7, 3) := by decide +kernel
theorem dX5_restore_51 : decode cX5_restore 51 = .ok (.iload_n 1, 1) := by decide +kernel
theorem dX5_restore_52 : decode cX5_restore 52 = .ok (.aload_n 0, 1) := by decide +kernel
theorem dX5_restore_53 : decode cX5_restore 53 = .ok (.getfield 50, 3) := by decide +kernel
theorem dX5_restore_56 : decode cX5_restore 56 = .ok (.iload_n 1, 1) := by decide +kernel
theorem dX5_restore_57 : decode cX5_restore 57 = .ok (.iaload, 1) := by decide +kernel
theorem dX5_restore_58 : decode cX5_restore 58 = .ok (.iastore, 1) := by decide +kernel
theorem dX5_restore_59 : decode cX5_restore 59 = .ok (.aload_n 0, 1) := by decide +kernel
theorem dX5_restore_60 : decode cX5_restore 60 = .ok (.getfield 13, 3) := by decide +kernel
theorem dX5_restore_63 : decode cX5_restore 63 = .ok (.iload_n 1, 1) := by decide +kernel
theorem dX5_restore_64 : decode cX5_restore 64 = .ok (.aload_n 0, 1) := by decide +kernel
theorem dX5_restore_65 : decode cX5_restore 65 = .ok (.getfield 53, 3) := by decide +kernel
theorem dX5_restore_68 : decode cX5_restore 68 = .ok (.iload_n 1, 1) := by decide +kernel
theorem dX5_restore_69 : decode cX5_restore 69 = .ok (.iaload, 1) := by decide +kernel
theorem dX5_restore_70 : decode cX5_restore 70 = .ok (.iastore, 1) := by decide +kernel
theorem dX5_restore_71 : decode cX5_restore 71 = .ok (.iinc 1 1, 3) := by decide +kernel
theorem dX5_restore_74 : decode cX5_restore 74 = .ok (.goto (-35), 3) := by decide +kernel
theorem dX5_restore_77 : decode cX5_restore 77 = .ok (.iconst 0, 1) := by decide +kernel
theorem dX5_restore_78 : decode cX5_restore 78 = .ok (.istore_n 1, 1) := by decide +kernel
theorem dX5_restore_79 : decode cX5_restore 79 = .ok (.iload_n 1, 1) := by decide +kernel
theorem dX5_restore_80 : decode cX5_restore 80 = .ok (.bipush 6, 2) := by decide +kernel
theorem dX5_restore_82 : decode cX5_restore 82 = .ok (.if_icmp .ge 45, 3) := by decide +kernel
theorem dX5_restore_85 : decode cX5_restore 85 = .ok (.aload_n 0, 1) := by decide +kernel
theorem dX5_restore_86 : decode cX5_restore 86 = .ok (.getfield 16, 3) := by decide +kernel
theorem dX5_restore_89 : decode cX5_restore 89 = .ok (.iload_n 1, 1) := by decide +kernel
theorem dX5_restore_90 : decode cX5_restore 90 = .ok (.aload_n 0, 1) := by decide +kernel
theorem dX5_restore_91 : decode cX5_restore 91 = .ok (.getfield 56, 3) := by decide +kernel
theorem dX5_restore_94 : decode cX5_restore 94 = .ok (.iload_n 1, 1) := by decide +kernel
theorem dX5_restore_95 : decode cX5_restore 95 = .ok (.iaload, 1) := by decide +kernel
theorem dX5_restore_96 : decode cX5_restore 96 = .ok (.iastore, 1) := by decide +kernel
theorem dX5_restore_97 : decode cX5_restore 97 = .ok (.aload_n 0, 1) := by decide +kernel
theorem dX5_restore_98 : decode cX5_restore 98 = .ok (.getfield 19, 3) := by decide +kernel
theorem dX5_restore_101 : decode cX5_restore 101 = .ok (.iload_n 1, 1) := by decide +kernel
theorem dX5_restore_102 : decode cX5_restore 102 = .ok (.aload_n 0, 1) := by decide +kernel
theorem dX5_restore_103 : decode cX5_restore 103 = .ok (.getfield 59, 3) := by decide +kernel
theorem dX5_restore_106 : decode cX5_restore 106 = .ok (.iload_n 1, 1) := by decide +kernel
theorem dX5_restore_107 : decode cX5_restore 107 = .ok (.iaload, 1) := by decide +kernel
theorem dX5_restore_108 : decode cX5_restore 108 = .ok (.iastore, 1) := by decide +kernel
theorem dX5_restore_109 : decode cX5_restore 109 = .ok (.aload_n 0, 1) := by decide +kernel
theorem dX5_restore_110 : decode cX5_restore 110 = .ok (.getfield 22, 3) := by decide +kernel
theorem dX5_restore_113 : decode cX5_restore 113 = .ok (.iload_n 1, 1) := by decide +kernel
theorem dX5_restore_114 : decode cX5_restore 114 = .ok (.aload_n 0, 1) := by decide +kernel
theorem dX5_restore_115 : decode cX5_restore 115 = .ok (.getfield 62, 3) := by decide +kernel
theorem dX5_restore_118 : decode cX5_restore 118 = .ok (.iload_n 1, 1) := by decide +kernel
theorem dX5_restore_119 : decode cX5_restore 119 = .ok (.iaload, 1) := by decide +kernel
theorem dX5_restore_120 : decode cX5_restore 120 = .ok (.iastore, 1) := by decide +kernel
theorem dX5_restore_121 : decode cX5_restore 121 = .ok (.iinc 1 1, 3) := by decide +kernel
theorem dX5_restore_124 : decode cX5_restore 124 = .ok (.goto (-45), 3) := by decide +kernel
theorem dX5_restore_127 : decode cX5_restore 127 = .ok (.aload_n 0, 1) := by decide +kernel
theorem dX5_restore_128 : decode cX5_restore 128 = .ok (.getfield 104, 3) := by decide +kernel
theorem dX5_restore_131 : decode cX5_restore 131 = .ok (.ireturn, 1) := by decide +kernel
theorem dX5_threes_0 : decode cX5_threes 0 = .ok (.iconst 0, 1) := by decide +kernel
theorem dX5_threes_1 : decode cX5_threes 1 = .ok (.istore_n 1, 1) := by decide +kernel
theorem dX5_threes_2 : decode cX5_threes 2 = .ok (.iconst 2, 1) := by decide +kernel
theorem dX5_threes_3 : decode cX5_threes 3 = .ok (.istore_n 2, 1) := by decide +kernel
theorem dX5_threes_4 : decode cX5_threes 4 = .ok (.iload_n 2, 1) := by decide +kernel
theorem dX5_threes_5 : decode cX5_threes 5 = .ok (.aload_n 0, 1) := by decide +kernel
theorem dX5_threes_6 : decode cX5_threes 6 = .ok (.getfield 101, 3) := by decide +kernel
theorem dX5_threes_9 : decode cX5_threes 9 = .ok (.if_icmp .gt 15, 3) := by decide +kernel
theorem dX5_threes_12 : decode cX5_threes 12 = .ok (.iload_n 1, 1) := by decide +kernel
theorem dX5_threes_13 : decode cX5_threes 13 = .ok (.iload_n 2, 1) := by decide +kernel
theorem dX5_threes_14 : decode cX5_threes 14 = .ok (.iconst 2, 1) := by decide +kernel
theorem dX5_threes_15 : decode cX5_threes 15 = .ok (.idiv, 1) := by decide +kernel
theorem dX5_threes_16 : decode cX5_threes 16 = .ok (.iadd, 1) := by decide +kernel
theorem dX5_threes_17 : decode cX5_threes 17 = .ok (.istore_n 1, 1) := by decide +kernel
theorem dX5_threes_18 : decode cX5_threes 18 = .ok (.iinc 2 1, 3) := by decide +kernel
theorem dX5_threes_21 : decode cX5_threes 21 = .ok (.goto (-17), 3) := by decide +kernel
theorem dX5_threes_24 : decode cX5_threes 24 = .ok (.iload_n 1, 1) := by decide +kernel
theorem dX5_threes_25 : decode cX5_threes 25 = .ok (.ireturn, 1) := by decide +kernel
theorem dX5_howMany_0 : decode cX5_howMany 0 = .ok (.iload_n 1, 1) := by decide +kernel
theorem dX5_howMany_1 : decode cX5_howMany 1 = .ok (.tableswitch 96 0 8 #[51, 56, 61, 66, 71, 76, 81, 86, 91], 51) := by decide +kernel
theorem dX5_howMany_52 : decode cX5_howMany 52 = .ok (.aload_n 0, 1) := by decide +kernel
theorem dX5_howMany_53 : decode cX5_howMany 53 = .ok (.getfield 101, 3) := by decide +kernel
theorem dX5_howMany_56 : decode cX5_howMany 56 = .ok (.ireturn, 1) := by decide +kernel
theorem dX5_howMany_57 : decode cX5_howMany 57 = .ok (.aload_n 0, 1) := by decide +kernel
theorem dX5_howMany_58 : decode cX5_howMany 58 = .ok (.getfield 98, 3) := by decide +kernel
theorem dX5_howMany_61 : decode cX5_howMany 61 = .ok (.ireturn, 1) := by decide +kernel
theorem dX5_howMany_62 : decode cX5_howMany 62 = .ok (.aload_n 0, 1) := by decide +kernel
theorem dX5_howMany_63 : decode cX5_howMany 63 = .ok (.invokevirtual 239, 3) := by decide +kernel
theorem dX5_howMany_66 : decode cX5_howMany 66 = .ok (.ireturn, 1) := by decide +kernel
theorem dX5_howMany_67 : decode cX5_howMany 67 = .ok (.aload_n 0, 1) := by decide +kernel
theorem dX5_howMany_68 : decode cX5_howMany 68 = .ok (.invokevirtual 180, 3) := by decide +kernel
theorem dX5_howMany_71 : decode cX5_howMany 71 = .ok (.ireturn, 1) := by decide +kernel
theorem dX5_howMany_72 : decode cX5_howMany 72 = .ok (.aload_n 0, 1) := by decide +kernel
theorem dX5_howMany_73 : decode cX5_howMany 73 = .ok (.invokevirtual 242, 3) := by decide +kernel
theorem dX5_howMany_76 : decode cX5_howMany 76 = .ok (.ireturn, 1) := by decide +kernel
theorem dX5_howMany_77 : decode cX5_howMany 77 = .ok (.aload_n 0, 1) := by decide +kernel
theorem dX5_howMany_78 : decode cX5_howMany 78 = .ok (.getfield 104, 3) := by decide +kernel
theorem dX5_howMany_81 : decode cX5_howMany 81 = .ok (.ireturn, 1) := by decide +kernel
theorem dX5_howMany_82 : decode cX5_howMany 82 = .ok (.aload_n 0, 1) := by decide +kernel
theorem dX5_howMany_83 : decode cX5_howMany 83 = .ok (.getfield 110, 3) := by decide +kernel
theorem dX5_howMany_86 : decode cX5_howMany 86 = .ok (.ireturn, 1) := by decide +kernel
theorem dX5_howMany_87 : decode cX5_howMany 87 = .ok (.aload_n 0, 1) := by decide +kernel
theorem dX5_howMany_88 : decode cX5_howMany 88 = .ok (.getfield 69, 3) := by decide +kernel
theorem dX5_howMany_91 : decode cX5_howMany 91 = .ok (.ireturn, 1) := by decide +kernel
theorem dX5_howMany_92 : decode cX5_howMany 92 = .ok (.aload_n 0, 1) := by decide +kernel
theorem dX5_howMany_93 : decode cX5_howMany 93 = .ok (.getfield 107, 3) := by decide +kernel
theorem dX5_howMany_96 : decode cX5_howMany 96 = .ok (.ireturn, 1) := by decide +kernel
theorem dX5_howMany_97 : decode cX5_howMany 97 = .ok (.bipush (-102), 2) := by decide +kernel
theorem dX5_howMany_99 : decode cX5_howMany 99 = .ok (.ireturn, 1) := by decide +kernel
theorem dX5_count_0 : decode cX5_count 0 = .ok (.aload_n 0, 1) := by decide +kernel
theorem dX5_count_1 : decode cX5_count 1 = .ok (.iload_n 1, 1) := by decide +kernel
theorem dX5_count_2 : decode cX5_count 2 = .ok (.invokevirtual 245, 3) := by decide +kernel
theorem dX5_count_5 : decode cX5_count 5 = .ok (.ireturn, 1) := by decide +kernel
theorem dX5_mix_0 : decode cX5_mix 0 = .ok (.aload_n 0, 1) := by decide +kernel
theorem dX5_mix_1 : decode cX5_mix 1 = .ok (.ldc2_w 248, 3) := by decide +kernel
theorem dX5_mix_4 : decode cX5_mix 4 = .ok (.aload_n 0, 1) := by decide +kernel
theorem dX5_mix_5 : decode cX5_mix 5 = .ok (.getfield 250, 3) := by decide +kernel
theorem dX5_mix_8 : decode cX5_mix 8 = .ok (.lmul, 1) := by decide +kernel
theorem dX5_mix_9 : decode cX5_mix 9 = .ok (.lload_n 1, 1) := by decide +kernel
theorem dX5_mix_10 : decode cX5_mix 10 = .ok (.ladd, 1) := by decide +kernel
theorem dX5_mix_11 : decode cX5_mix 11 = .ok (.putfield 250, 3) := by decide +kernel
theorem dX5_mix_14 : decode cX5_mix 14 = .ok (.return_, 1) := by decide +kernel
theorem dX5_mixBoard_0 : decode cX5_mixBoard 0 = .ok (.iconst 0, 1) := by decide +kernel
theorem dX5_mixBoard_1 : decode cX5_mixBoard 1 = .ok (.istore_n 1, 1) := by decide +kernel
theorem dX5_mixBoard_2 : decode cX5_mixBoard 2 = .ok (.iload_n 1, 1) := by decide +kernel
theorem dX5_mixBoard_3 : decode cX5_mixBoard 3 = .ok (.iconst 3, 1) := by decide +kernel
theorem dX5_mixBoard_4 : decode cX5_mixBoard 4 = .ok (.if_icmp .ge 19, 3) := by decide +kernel
theorem dX5_mixBoard_7 : decode cX5_mixBoard 7 = .ok (.aload_n 0, 1) := by decide +kernel
theorem dX5_mixBoard_8 : decode cX5_mixBoard 8 = .ok (.aload_n 0, 1) := by decide +kernel
theorem dX5_mixBoard_9 : decode cX5_mixBoard 9 = .ok (.iload_n 1, 1) := by decide +kernel
theorem dX5_mixBoard_10 : decode cX5_mixBoard 10 = .ok (.invokevirtual 174, 3) := by decide +kernel
theorem dX5_mixBoard_13 : decode cX5_mixBoard 13 = .ok (.i2l, 1) := by decide +kernel
theorem dX5_mixBoard_14 : decode cX5_mixBoard 14 = .ok (.invokevirtual 253, 3) := by decide +kernel
theorem dX5_mixBoard_17 : decode cX5_mixBoard 17 = .ok (.iinc 1 1, 3) := by decide +kernel
theorem dX5_mixBoard_20 : decode cX5_mixBoard 20 = .ok (.goto (-18), 3) := by decide +kernel
theorem dX5_mixBoard_23 : decode cX5_mixBoard 23 = .ok (.aload_n 0, 1) := by decide +kernel
theorem dX5_mixBoard_24 : decode cX5_mixBoard 24 = .ok (.aload_n 0, 1) := by decide +kernel
theorem dX5_mixBoard_25 : decode cX5_mixBoard 25 = .ok (.invokevirtual 184, 3) := by decide +kernel
theorem dX5_mixBoard_28 : decode cX5_mixBoard 28 = .ok (.i2l, 1) := by decide +kernel
theorem dX5_mixBoard_29 : decode cX5_mixBoard 29 = .ok (.invokevirtual 253, 3) := by decide +kernel
theorem dX5_mixBoard_32 : decode cX5_mixBoard 32 = .ok (.aload_n 0, 1) := by decide +kernel
theorem dX5_mixBoard_33 : decode cX5_mixBoard 33 = .ok (.aload_n 0, 1) := by decide +kernel
theorem dX5_mixBoard_34 : decode cX5_mixBoard 34 = .ok (.iconst 0, 1) := by decide +kernel
theorem dX5_mixBoard_35 : decode cX5_mixBoard 35 = .ok (.invokevirtual 193, 3) := by decide +kernel
theorem dX5_mixBoard_38 : decode cX5_mixBoard 38 = .ok (.i2l, 1) := by decide +kernel
theorem dX5_mixBoard_39 : decode cX5_mixBoard 39 = .ok (.invokevirtual 253, 3) := by decide +kernel
theorem dX5_mixBoard_42 : decode cX5_mixBoard 42 = .ok (.aload_n 0, 1) := by decide +kernel
theorem dX5_mixBoard_43 : decode cX5_mixBoard 43 = .ok (.aload_n 0, 1) := by decide +kernel
theorem dX5_mixBoard_44 : decode cX5_mixBoard 44 = .ok (.iconst 1, 1) := by decide +kernel
theorem dX5_mixBoard_45 : decode cX5_mixBoard 45 = .ok (.invokevirtual 193, 3) := by decide +kernel
theorem dX5_mixBoard_48 : decode cX5_mixBoard 48 = .ok (.i2l, 1) := by decide +kernel
theorem dX5_mixBoard_49 : decode cX5_mixBoard 49 = .ok (.invokevirtual 253, 3) := by decide +kernel
theorem dX5_mixBoard_52 : decode cX5_mixBoard 52 = .ok (.return_, 1) := by decide +kernel
theorem dX5_digest_0 : decode cX5_digest 0 = .ok (.aload_n 0, 1) := by decide +kernel
theorem dX5_digest_1 : decode cX5_digest 1 = .ok (.ldc2_w 257, 3) := by decide +kernel
theorem dX5_digest_4 : decode cX5_digest 4 = .ok (.putfield 250, 3) := by decide +kernel
theorem dX5_digest_7 : decode cX5_digest 7 = .ok (.iconst 1, 1) := by decide +kernel
theorem dX5_digest_8 : decode cX5_digest 8 = .ok (.istore_n 1, 1) := by decide +kernel
theorem dX5_digest_9 : decode cX5_digest 9 = .ok (.iload_n 1, 1) := by decide +kernel
theorem dX5_digest_10 : decode cX5_digest 10 = .ok (.aload_n 0, 1) := by decide +kernel
theorem dX5_digest_11 : decode cX5_digest 11 = .ok (.getfield 101, 3) := by decide +kernel
theorem dX5_digest_14 : decode cX5_digest 14 = .ok (.if_icmp .gt 58, 3) := by decide +kernel
theorem dX5_digest_17 : decode cX5_digest 17 = .ok (.iconst 0, 1) := by decide +kernel
theorem dX5_digest_18 : decode cX5_digest 18 = .ok (.istore_n 2, 1) := by decide +kernel
theorem dX5_digest_19 : decode cX5_digest 19 = .ok (.iload_n 2, 1) := by decide +kernel
theorem dX5_digest_20 : decode cX5_digest 20 = .ok (.bipush 6, 2) := by decide +kernel
theorem dX5_digest_22 : decode cX5_digest 22 = .ok (.if_icmp .ge 20, 3) := by decide +kernel
theorem dX5_digest_25 : decode cX5_digest 25 = .ok (.aload_n 0, 1) := by decide +kernel
theorem dX5_digest_26 : decode cX5_digest 26 = .ok (.aload_n 0, 1) := by decide +kernel
theorem dX5_digest_27 : decode cX5_digest 27 = .ok (.iload_n 1, 1) := by decide +kernel
theorem dX5_digest_28 : decode cX5_digest 28 = .ok (.iload_n 2, 1) := by decide +kernel
theorem dX5_digest_29 : decode cX5_digest 29 = .ok (.invokevirtual 152, 3) := by decide +kernel
theorem dX5_digest_32 : decode cX5_digest 32 = .ok (.i2l, 1) := by decide +kernel
theorem dX5_digest_33 : decode cX5_digest 33 = .ok (.invokevirtual 253, 3) := by decide +kernel
theorem dX5_digest_36 : decode cX5_digest 36 = .ok (.iinc 2 1, 3) := by decide +kernel
theorem dX5_digest_39 : decode cX5_digest 39 = .ok (.goto (-20), 3) := by decide +kernel
theorem dX5_digest_42 : decode cX5_digest 42 = .ok (.aload_n 0, 1) := by decide +kernel
theorem dX5_digest_43 : decode cX5_digest 43 = .ok (.aload_n 0, 1) := by decide +kernel
theorem dX5_digest_44 : decode cX5_digest 44 = .ok (.iload_n 1, 1) := by decide +kernel
theorem dX5_digest_45 : decode cX5_digest 45 = .ok (.iconst 0, 1) := by decide +kernel
theorem dX5_digest_46 : decode cX5_digest 46 = .ok (.iconst 0, 1) := by decide +kernel
theorem dX5_digest_47 : decode cX5_digest 47 = .ok (.invokevirtual 199, 3) := by decide +kernel
theorem dX5_digest_50 : decode cX5_digest 50 = .ok (.i2l, 1) := by decide +kernel
theorem dX5_digest_51 : decode cX5_digest 51 = .ok (.invokevirtual 253, 3) := by decide +kernel
theorem dX5_digest_54 : decode cX5_digest 54 = .ok (.aload_n 0, 1) := by decide +kernel
theorem dX5_digest_55 : decode cX5_digest 55 = .ok (.aload_n 0, 1) := by decide +kernel
theorem dX5_digest_56 : decode cX5_digest 56 = .ok (.iload_n 1, 1) := by decide +kernel
theorem dX5_digest_57 : decode cX5_digest 57 = .ok (.iconst 0, 1) := by decide +kernel
theorem dX5_digest_58 : decode cX5_digest 58 = .ok (.iconst 1, 1) := by decide +kernel
theorem dX5_digest_59 : decode cX5_digest 59 = .ok (.invokevirtual 199, 3) := by decide +kernel
theorem dX5_digest_62 : decode cX5_digest 62 = .ok (.i2l, 1) := by decide +kernel
theorem dX5_digest_63 : decode cX5_digest 63 = .ok (.invokevirtual 253, 3) := by decide +kernel
theorem dX5_digest_66 : decode cX5_digest 66 = .ok (.iinc 1 1, 3) := by decide +kernel
theorem dX5_digest_69 : decode cX5_digest 69 = .ok (.goto (-60), 3) := by decide +kernel
theorem dX5_digest_72 : decode cX5_digest 72 = .ok (.aload_n 0, 1) := by decide +kernel
theorem dX5_digest_73 : decode cX5_digest 73 = .ok (.getfield 101, 3) := by decide +kernel
theorem dX5_digest_76 : decode cX5_digest 76 = .ok (.ifCond .le 7, 3) := by decide +kernel
theorem dX5_digest_79 : decode cX5_digest 79 = .ok (.aload_n 0, 1) := by decide +kernel
theorem dX5_digest_80 : decode cX5_digest 80 = .ok (.invokevirtual 259, 3) := by decide +kernel
theorem dX5_digest_83 : decode cX5_digest 83 = .ok (.iconst 0, 1) := by decide +kernel
theorem dX5_digest_84 : decode cX5_digest 84 = .ok (.istore_n 1, 1) := by decide +kernel
theorem dX5_digest_85 : decode cX5_digest 85 = .ok (.iload_n 1, 1) := by decide +kernel
theorem dX5_digest_86 : decode cX5_digest 86 = .ok (.aload_n 0, 1) := by decide +kernel
theorem dX5_digest_87 : decode cX5_digest 87 = .ok (.getfield 69, 3) := by decide +kernel
theorem dX5_digest_90 : decode cX5_digest 90 = .ok (.if_icmp .ge 20, 3) := by decide +kernel
theorem dX5_digest_93 : decode cX5_digest 93 = .ok (.aload_n 0, 1) := by decide +kernel
theorem dX5_digest_94 : decode cX5_digest 94 = .ok (.aload_n 0, 1) := by decide +kernel
theorem dX5_digest_95 : decode cX5_digest 95 = .ok (.getfield 25, 3) := by decide +kernel
theorem dX5_digest_98 : decode cX5_digest 98 = .ok (.iload_n 1, 1) := by decide +kernel
theorem dX5_digest_99 : decode cX5_digest 99 = .ok (.baload, 1) := by decide +kernel
theorem dX5_digest_100 : decode cX5_digest 100 = .ok (.i2l, 1) := by decide +kernel
theorem dX5_digest_101 : decode cX5_digest 101 = .ok (.invokevirtual 253, 3) := by decide +kernel
theorem dX5_digest_104 : decode cX5_digest 104 = .ok (.iinc 1 1, 3) := by decide +kernel
theorem dX5_digest_107 : decode cX5_digest 107 = .ok (.goto (-22), 3) := by decide +kernel
theorem dX5_digest_110 : decode cX5_digest 110 = .ok (.iconst 0, 1) := by decide +kernel
theorem dX5_digest_111 : decode cX5_digest 111 = .ok (.istore_n 1, 1) := by decide +kernel
theorem dX5_digest_112 : decode cX5_digest 112 = .ok (.iload_n 1, 1) := by decide +kernel
theorem dX5_digest_113 : decode cX5_digest 113 = .ok (.bipush 9, 2) := by decide +kernel
theorem dX5_digest_115 : decode cX5_digest 115 = .ok (.if_icmp .ge 19, 3) := by decide +kernel
theorem dX5_digest_118 : decode cX5_digest 118 = .ok (.aload_n 0, 1) := by decide +kernel
theorem dX5_digest_119 : decode cX5_digest 119 = .ok (.aload_n 0, 1) := by decide +kernel
theorem dX5_digest_120 : decode cX5_digest 120 = .ok (.iload_n 1, 1) := by decide +kernel
theorem dX5_digest_121 : decode cX5_digest 121 = .ok (.invokevirtual 245, 3) := by decide +kernel
theorem dX5_digest_124 : decode cX5_digest 124 = .ok (.i2l, 1) := by decide +kernel
theorem dX5_digest_125 : decode cX5_digest 125 = .ok (.invokevirtual 253, 3) := by decide +kernel
theorem dX5_digest_128 : decode cX5_digest 128 = .ok (.iinc 1 1, 3) := by decide +kernel
theorem dX5_digest_131 : decode cX5_digest 131 = .ok (.goto (-19), 3) := by decide +kernel
theorem dX5_digest_134 : decode cX5_digest 134 = .ok (.aload_n 0, 1) := by decide +kernel
theorem dX5_digest_135 : decode cX5_digest 135 = .ok (.getfield 250, 3) := by decide +kernel
theorem dX5_digest_138 : decode cX5_digest 138 = .ok (.lreturn, 1) := by decide +kernel
end
section
theorem dJ11_isValidCodePoint_9a6ad_0 : decode cJ11_isValidCodePoint_9a6ad 0 = .ok (.iload_n 0, 1) := by decide +kernel
theorem dJ11_isValidCodePoint_9a6ad_1 : decode cJ11_isValidCodePoint_9a6ad 1 = .ok (.bipush 16, 2) := by decide +kernel
theorem dJ11_isValidCodePoint_9a6ad_3 : decode cJ11_isValidCodePoint_9a6ad 3 = .ok (.iushr, 1) := by decide +kernel
theorem dJ11_isValidCodePoint_9a6ad_4 : decode cJ11_isValidCodePoint_9a6ad 4 = .ok (.istore_n 1, 1) := by decide +kernel
theorem dJ11_isValidCodePoint_9a6ad_5 : decode cJ11_isValidCodePoint_9a6ad 5 = .ok (.iload_n 1, 1) := by decide +kernel
theorem dJ11_isValidCodePoint_9a6ad_6 : decode cJ11_isValidCodePoint_9a6ad 6 = .ok (.bipush 17, 2) := by decide +kernel
theorem dJ11_isValidCodePoint_9a6ad_8 : decode cJ11_isValidCodePoint_9a6ad 8 = .ok (.if_icmp .ge 7, 3) := by decide +kernel
theorem dJ11_isValidCodePoint_9a6ad_11 : decode cJ11_isValidCodePoint_9a6ad 11 = .ok (.iconst 1, 1) := by decide +kernel
theorem dJ11_isValidCodePoint_9a6ad_12 : decode cJ11_isValidCodePoint_9a6ad 12 = .ok (.goto 4, 3) := by decide +kernel
theorem dJ11_isValidCodePoint_9a6ad_15 : decode cJ11_isValidCodePoint_9a6ad 15 = .ok (.iconst 0, 1) := by decide +kernel
theorem dJ11_isValidCodePoint_9a6ad_16 : decode cJ11_isValidCodePoint_9a6ad 16 = .ok (.ireturn, 1) := by decide +kernel
theorem dJ11_highSurrogate_5068e_0 : decode cJ11_highSurrogate_5068e 0 = .ok (.iload_n 0, 1) := by decide +kernel
theorem dJ11_highSurrogate_5068e_1 : decode cJ11_highSurrogate_5068e 1 = .ok (.bipush 10, 2) := by decide +kernel
theorem dJ11_highSurrogate_5068e_3 : decode cJ11_highSurrogate_5068e 3 = .ok (.iushr, 1) := by decide +kernel
theorem dJ11_highSurrogate_5068e_4 : decode cJ11_highSurrogate_5068e 4 = .ok (.ldc 110, 2) := by decide +kernel
theorem dJ11_highSurrogate_5068e_6 : decode cJ11_highSurrogate_5068e 6 = .ok (.iadd, 1) := by decide +kernel
theorem dJ11_highSurrogate_5068e_7 : decode cJ11_highSurrogate_5068e 7 = .ok (.i2c, 1) := by decide +kernel
theorem dJ11_highSurrogate_5068e_8 : decode cJ11_highSurrogate_5068e 8 = .ok (.ireturn, 1) := by decide +kernel
theorem dJ11_lowSurrogate_5068e_0 : decode cJ11_lowSurrogate_5068e 0 = .ok (.iload_n 0, 1) := by decide +kernel
theorem dJ11_lowSurrogate_5068e_1 : decode cJ11_lowSurrogate_5068e 1 = .ok (.sipush 1023, 3) := by decide +kernel
theorem dJ11_lowSurrogate_5068e_4 : decode cJ11_lowSurrogate_5068e 4 = .ok (.iand, 1) := by decide +kernel
theorem dJ11_lowSurrogate_5068e_5 : decode cJ11_lowSurrogate_5068e 5 = .ok (.ldc 76, 2) := by decide +kernel
theorem dJ11_lowSurrogate_5068e_7 : decode cJ11_lowSurrogate_5068e 7 = .ok (.iadd, 1) := by decide +kernel
theorem dJ11_lowSurrogate_5068e_8 : decode cJ11_lowSurrogate_5068e 8 = .ok (.i2c, 1) := by decide +kernel
theorem dJ11_lowSurrogate_5068e_9 : decode cJ11_lowSurrogate_5068e 9 = .ok (.ireturn, 1) := by decide +kernel
theorem dJ9_max_7cf53_0 : decode cJ9_max_7cf53 0 = .ok (.iload_n 0, 1) := by decide +kernel
theorem dJ9_max_7cf53_1 : decode cJ9_max_7cf53 1 = .ok (.iload_n 1, 1) := by decide +kernel
theorem dJ9_max_7cf53_2 : decode cJ9_max_7cf53 2 = .ok (.if_icmp .lt 7, 3) := by decide +kernel
theorem dJ9_max_7cf53_5 : decode cJ9_max_7cf53 5 = .ok (.iload_n 0, 1) := by decide +kernel
theorem dJ9_max_7cf53_6 : decode cJ9_max_7cf53 6 = .ok (.goto 4, 3) := by decide +kernel
theorem dJ9_max_7cf53_9 : decode cJ9_max_7cf53 9 = .ok (.iload_n 1, 1) := by decide +kernel
theorem dJ9_max_7cf53_10 : decode cJ9_max_7cf53 10 = .ok (.ireturn, 1) := by decide +kernel
theorem dJ9_min_7cf53_0 : decode cJ9_min_7cf53 0 = .ok (.iload_n 0, 1) := by decide +kernel
theorem dJ9_min_7cf53_1 : decode cJ9_min_7cf53 1 = .ok (.iload_n 1, 1) := by decide +kernel
theorem dJ9_min_7cf53_2 : decode cJ9_min_7cf53 2 = .ok (.if_icmp .gt 7, 3) := by decide +kernel
theorem dJ9_min_7cf53_5 : decode cJ9_min_7cf53 5 = .ok (.iload_n 0, 1) := by decide +kernel
theorem dJ9_min_7cf53_6 : decode cJ9_min_7cf53 6 = .ok (.goto 4, 3) := by decide +kernel
theorem dJ9_min_7cf53_9 : decode cJ9_min_7cf53 9 = .ok (.iload_n 1, 1) := by decide +kernel
theorem dJ9_min_7cf53_10 : decode cJ9_min_7cf53 10 = .ok (.ireturn, 1) := by decide +kernel
theorem dJ0_length_8abf5_0 : decode cJ0_length_8abf5 0 = .ok (.aload_n 0, 1) := by decide +kernel
theorem dJ0_length_8abf5_1 : decode cJ0_length_8abf5 1 = .ok (.getfield 9, 3) := by decide +kernel
theorem dJ0_length_8abf5_4 : decode cJ0_length_8abf5 4 = .ok (.arraylength, 1) := by decide +kernel
theorem dJ0_length_8abf5_5 : decode cJ0_length_8abf5 5 = .ok (.aload_n 0, 1) := by decide +kernel
theorem dJ0_length_8abf5_6 : decode cJ0_length_8abf5 6 = .ok (.invokevirtual 335, 3) := by decide +kernel
theorem dJ0_length_8abf5_9 : decode cJ0_length_8abf5 9 = .ok (.ishr, 1) := by decide +kernel
theorem dJ0_length_8abf5_10 : decode cJ0_length_8abf5 10 = .ok (.ireturn, 1) := by decide +kernel
theorem dJ0_indexOf_0f7a4_0 : decode cJ0_indexOf_0f7a4 0 = .ok (.aload_n 0, 1) := by decide +kernel
theorem dJ0_indexOf_0f7a4_1 : decode cJ0_indexOf_0f7a4 1 = .ok (.iload_n 1, 1) := by decide +kernel
theorem dJ0_indexOf_0f7a4_2 : decode cJ0_indexOf_0f7a4 2 = .ok (.iconst 0, 1) := by decide +kernel
theorem dJ0_indexOf_0f7a4_3 : decode cJ0_indexOf_0f7a4 3 = .ok (.invokevirtual 633, 3) := by decide +kernel
theorem dJ0_indexOf_0f7a4_6 : decode cJ0_indexOf_0f7a4 6 = .ok (.ireturn, 1) := by decide +kernel
theorem dJ0_indexOf_7cf53_0 : decode cJ0_indexOf_7cf53 0 = .ok (.aload_n 0, 1) := by decide +kernel
theorem dJ0_indexOf_7cf53_1 : decode cJ0_indexOf_7cf53 1 = .ok (.invokevirtual 492, 3) := by decide +kernel
theorem dJ0_indexOf_7cf53_4 : decode cJ0_indexOf_7cf53 4 = .ok (.ifCond .eq 19, 3) := by decide +kernel
theorem dJ0_indexOf_7cf53_7 : decode cJ0_indexOf_7cf53 7 = .ok (.aload_n 0, 1) := by decide +kernel
theorem dJ0_indexOf_7cf53_8 : decode cJ0_indexOf_7cf53 8 = .ok (.getfield 9, 3) := by decide +kernel
theorem dJ0_indexOf_7cf53_11 : decode cJ0_indexOf_7cf53 11 = .ok (.iload_n 1, 1) := by decide +kernel
theorem dJ0_indexOf_7cf53_12 : decode cJ0_indexOf_7cf53 12 = .ok (.iload_n 2, 1) := by decide +kernel
theorem dJ0_indexOf_7cf53_13 : decode cJ0_indexOf_7cf53 13 = .ok (.aload_n 0, 1) := by decide +kernel
theorem dJ0_indexOf_7cf53_14 : decode cJ0_indexOf_7cf53 14 = .ok (.invokevirtual 505, 3) := by decide +kernel
theorem dJ0_indexOf_7cf53_17 : decode cJ0_indexOf_7cf53 17 = .ok (.invokestatic 637, 3) := by decide +kernel
theorem dJ0_indexOf_7cf53_20 : decode cJ0_indexOf_7cf53 20 = .ok (.goto 16, 3) := by decide +kernel
theorem dJ0_indexOf_7cf53_23 : decode cJ0_indexOf_7cf53 23 = .ok (.aload_n 0, 1) := by decide +kernel
theorem dJ0_indexOf_7cf53_24 : decode cJ0_indexOf_7cf53 24 = .ok (.getfield 9, 3) := by decide +kernel
theorem dJ0_indexOf_7cf53_27 : decode cJ0_indexOf_7cf53 27 = .ok (.iload_n 1, 1) := by decide +kernel
theorem dJ0_indexOf_7cf53_28 : decode cJ0_indexOf_7cf53 28 = .ok (.iload_n 2, 1) := by decide +kernel
theorem dJ0_indexOf_7cf53_29 : decode cJ0_indexOf_7cf53 29 = .ok (.aload_n 0, 1) := by decide +kernel
theorem dJ0_indexOf_7cf53_30 : decode cJ0_indexOf_7cf53 30 = .ok (.invokevirtual 505, 3) := by decide +kernel
theorem dJ0_indexOf_7cf53_33 : decode cJ0_indexOf_7cf53 33 = .ok (.invokestatic 640, 3) := by decide +kernel
theorem dJ0_indexOf_7cf53_36 : decode cJ0_indexOf_7cf53 36 = .ok (.ireturn, 1) := by decide +kernel
theorem dJ0_coder_7d493_0 : decode cJ0_coder_7d493 0 = .ok (.getstatic 38, 3) := by decide +kernel
theorem dJ0_coder_7d493_3 : decode cJ0_coder_7d493 3 = .ok (.ifCond .eq 10, 3) := by decide +kernel
theorem dJ0_coder_7d493_6 : decode cJ0_coder_7d493 6 = .ok (.aload_n 0, 1) := by decide +kernel
theorem dJ0_coder_7d493_7 : decode cJ0_coder_7d493 7 = .ok (.getfield 15, 3) := by decide +kernel
theorem dJ0_coder_7d493_10 : decode cJ0_coder_7d493 10 = .ok (.goto 4, 3) := by decide +kernel
theorem dJ0_coder_7d493_13 : decode cJ0_coder_7d493 13 = .ok (.iconst 1, 1) := by decide +kernel
theorem dJ0_coder_7d493_14 : decode cJ0_coder_7d493 14 = .ok (.ireturn, 1) := by decide +kernel
theorem dJ0_isLatin1_aae02_0 : decode cJ0_isLatin1_aae02 0 = .ok (.getstatic 38, 3) := by decide +kernel
theorem dJ0_isLatin1_aae02_3 : decode cJ0_isLatin1_aae02 3 = .ok (.ifCond .eq 14, 3) := by decide +kernel
theorem dJ0_isLatin1_aae02_6 : decode cJ0_isLatin1_aae02 6 = .ok (.aload_n 0, 1) := by decide +kernel
theorem dJ0_isLatin1_aae02_7 : decode cJ0_isLatin1_aae02 7 = .ok (.getfield 15, 3) := by decide +kernel
theorem dJ0_isLatin1_aae02_10 : decode cJ0_isLatin1_aae02 10 = .ok (.ifCond .ne 7, 3) := by decide +kernel
theorem dJ0_isLatin1_aae02_13 : decode cJ0_isLatin1_aae02 13 = .ok (.iconst 1, 1) := by decide +kernel
theorem dJ0_isLatin1_aae02_14 : decode cJ0_isLatin1_aae02 14 = .ok (.goto 4, 3) := by decide +kernel
theorem dJ0_isLatin1_aae02_17 : decode cJ0_isLatin1_aae02 17 = .ok (.iconst 0, 1) := by decide +kernel
theorem dJ0_isLatin1_aae02_18 : decode cJ0_isLatin1_aae02 18 = .ok (.ireturn, 1) := by decide +kernel
theorem dJ0_checkBoundsBeginEnd_23922_0 : decode cJ0_checkBoundsBeginEnd_23922 0 = .ok (.iload_n 0, 1) := by decide +kernel
theorem dJ0_checkBoundsBeginEnd_23922_1 : decode cJ0_checkBoundsBeginEnd_23922 1 = .ok (.iload_n 1, 1) := by decide +kernel
theorem dJ0_checkBoundsBeginEnd_23922_2 : decode cJ0_checkBoundsBeginEnd_23922 2 = .ok (.iload_n 2, 1) := by decide +kernel
theorem dJ0_checkBoundsBeginEnd_23922_3 : decode cJ0_checkBoundsBeginEnd_23922 3 = .ok (.getstatic 1053, 3) := by decide +kernel
theorem dJ0_checkBoundsBeginEnd_23922_6 : decode cJ0_checkBoundsBeginEnd_23922 6 = .ok (.invokestatic 1062, 3) := by decide +kernel
theorem dJ0_checkBoundsBeginEnd_23922_9 : decode cJ0_checkBoundsBeginEnd_23922 9 = .ok (.pop, 1) := by decide +kernel
theorem dJ0_checkBoundsBeginEnd_23922_10 : decode cJ0_checkBoundsBeginEnd_23922 10 = .ok (.return_, 1) := by decide +kernel
theorem dJ1_canEncode_9a6ad_0 : decode cJ1_canEncode_9a6ad 0 = .ok (.iload_n 0, 1) := by decide +kernel
theorem dJ1_canEncode_9a6ad_1 : decode cJ1_canEncode_9a6ad 1 = .ok (.ifCond .lt 14, 3) := by decide +kernel
theorem dJ1_canEncode_9a6ad_4 : decode cJ1_canEncode_9a6ad 4 = .ok (.iload_n 0, 1) := by decide +kernel
theorem dJ1_canEncode_9a6ad_5 : decode cJ1_canEncode_9a6ad 5 = .ok (.sipush 255, 3) := by decide +kernel
theorem dJ1_canEncode_9a6ad_8 : decode cJ1_canEncode_9a6ad 8 = .ok (.if_icmp .gt 7, 3) := by decide +kernel
theorem dJ1_canEncode_9a6ad_11 : decode cJ1_canEncode_9a6ad 11 = .ok (.iconst 1, 1) := by decide +kernel
theorem dJ1_canEncode_9a6ad_12 : decode cJ1_canEncode_9a6ad 12 = .ok (.goto 4, 3) := by decide +kernel
theorem dJ1_canEncode_9a6ad_15 : decode cJ1_canEncode_9a6ad 15 = .ok (.iconst 0, 1) := by decide +kernel
theorem dJ1_canEncode_9a6ad_16 : decode cJ1_canEncode_9a6ad 16 = .ok (.ireturn, 1) := by decide +kernel
theorem dJ1_indexOf_4cfef_0 : decode cJ1_indexOf_4cfef 0 = .ok (.iload_n 1, 1) := by decide +kernel
theorem dJ1_indexOf_4cfef_1 : decode cJ1_indexOf_4cfef 1 = .ok (.invokestatic 88, 3) := by decide +kernel
theorem dJ1_indexOf_4cfef_4 : decode cJ1_indexOf_4cfef 4 = .ok (.ifCond .ne 5, 3) := by decide +kernel
theorem dJ1_indexOf_4cfef_7 : decode cJ1_indexOf_4cfef 7 = .ok (.iconst (-1), 1) := by decide +kernel
theorem dJ1_indexOf_4cfef_8 : decode cJ1_indexOf_4cfef 8 = .ok (.ireturn, 1) := by decide +kernel
theorem dJ1_indexOf_4cfef_9 : decode cJ1_indexOf_4cfef 9 = .ok (.iload_n 2, 1) := by decide +kernel
theorem dJ1_indexOf_4cfef_10 : decode cJ1_indexOf_4cfef 10 = .ok (.iconst 0, 1) := by decide +kernel
theorem dJ1_indexOf_4cfef_11 : decode cJ1_indexOf_4cfef 11 = .ok (.invokestatic 92, 3) := by decide +kernel
theorem dJ1_indexOf_4cfef_14 : decode cJ1_indexOf_4cfef 14 = .ok (.istore_n 2, 1) := by decide +kernel
theorem dJ1_indexOf_4cfef_15 : decode cJ1_indexOf_4cfef 15 = .ok (.iload_n 3, 1) := by decide +kernel
theorem dJ1_indexOf_4cfef_16 : decode cJ1_indexOf_4cfef 16 = .ok (.aload_n 0, 1) := by decide +kernel
theorem dJ1_indexOf_4cfef_17 : decode cJ1_indexOf_4cfef 17 = .ok (.arraylength, 1) := by decide +kernel
theorem dJ1_indexOf_4cfef_18 : decode cJ1_indexOf_4cfef 18 = .ok (.invokestatic 38, 3) := by decide +kernel
theorem dJ1_indexOf_4cfef_21 : decode cJ1_indexOf_4cfef 21 = .ok (.istore_n 3, 1) := by decide +kernel
theorem dJ1_indexOf_4cfef_22 : decode cJ1_indexOf_4cfef 22 = .ok (.iload_n 2, 1) := by decide +kernel
theorem dJ1_indexOf_4cfef_23 : decode cJ1_indexOf_4cfef 23 = .ok (.iload_n 3, 1) := by decide +kernel
theorem dJ1_indexOf_4cfef_24 : decode cJ1_indexOf_4cfef 24 = .ok (.if_icmp .lt 5, 3) := by decide +kernel
theorem dJ1_indexOf_4cfef_27 : decode cJ1_indexOf_4cfef 27 = .ok (.iconst (-1), 1) := by decide +kernel
theorem dJ1_indexOf_4cfef_28 : decode cJ1_indexOf_4cfef 28 = .ok (.ireturn, 1) := by decide +kernel
theorem dJ1_indexOf_4cfef_29 : decode cJ1_indexOf_4cfef 29 = .ok (.aload_n 0, 1) := by decide +kernel
theorem dJ1_indexOf_4cfef_30 : decode cJ1_indexOf_4cfef 30 = .ok (.iload_n 1, 1) := by decide +kernel
theorem dJ1_indexOf_4cfef_31 : decode cJ1_indexOf_4cfef 31 = .ok (.iload_n 2, 1) := by decide +kernel
theorem dJ1_indexOf_4cfef_32 : decode cJ1_indexOf_4cfef 32 = .ok (.iload_n 3, 1) := by decide +kernel
theorem dJ1_indexOf_4cfef_33 : decode cJ1_indexOf_4cfef 33 = .ok (.invokestatic 95, 3) := by decide +kernel
theorem dJ1_indexOf_4cfef_36 : decode cJ1_indexOf_4cfef 36 = .ok (.ireturn, 1) := by decide +kernel
theorem dJ1_indexOfChar_4cfef_0 : decode cJ1_indexOfChar_4cfef 0 = .ok (.iload_n 1, 1) := by decide +kernel
theorem dJ1_indexOfChar_4cfef_1 : decode cJ1_indexOfChar_4cfef 1 = .ok (.i2b, 1) := by decide +kernel
theorem dJ1_indexOfChar_4cfef_2 : decode cJ1_indexOfChar_4cfef 2 = .ok (.istore 4, 2) := by decide +kernel
theorem dJ1_indexOfChar_4cfef_4 : decode cJ1_indexOfChar_4cfef 4 = .ok (.iload_n 2, 1) := by decide +kernel
theorem dJ1_indexOfChar_4cfef_5 : decode cJ1_indexOfChar_4cfef 5 = .ok (.istore 5, 2) := by decide +kernel
theorem dJ1_indexOfChar_4cfef_7 : decode cJ1_indexOfChar_4cfef 7 = .ok (.iload 5, 2) := by decide +kernel
theorem dJ1_indexOfChar_4cfef_9 : decode cJ1_indexOfChar_4cfef 9 = .ok (.iload_n 3, 1) := by decide +kernel
theorem dJ1_indexOfChar_4cfef_10 : decode cJ1_indexOfChar_4cfef 10 = .ok (.if_icmp .ge 21, 3) := by decide +kernel
theorem dJ1_indexOfChar_4cfef_13 : decode cJ1_indexOfChar_4cfef 13 = .ok (.aload_n 0, 1) := by decide +kernel
theorem dJ1_indexOfChar_4cfef_14 : decode cJ1_indexOfChar_4cfef 14 = .ok (.iload 5, 2) := by decide +kernel
theorem dJ1_indexOfChar_4cfef_16 : decode cJ1_indexOfChar_4cfef 16 = .ok (.baload, 1) := by decide +kernel
theorem dJ1_indexOfChar_4cfef_17 : decode cJ1_indexOfChar_4cfef 17 = .ok (.iload 4, 2) := by decide +kernel
theorem dJ1_indexOfChar_4cfef_19 : decode cJ1_indexOfChar_4cfef 19 = .ok (.if_icmp .ne 6, 3) := by decide +kernel
theorem dJ1_indexOfChar_4cfef_22 : decode cJ1_indexOfChar_4cfef 22 = .ok (.iload 5, 2) := by decide +kernel
theorem dJ1_indexOfChar_4cfef_24 : decode cJ1_indexOfChar_4cfef 24 = .ok (.ireturn, 1) := by decide +kernel
theorem dJ1_indexOfChar_4cfef_25 : decode cJ1_indexOfChar_4cfef 25 = .ok (.iinc 5 1, 3) := by decide +kernel
theorem dJ1_indexOfChar_4cfef_28 : decode cJ1_indexOfChar_4cfef 28 = .ok (.goto (-21), 3) := by decide +kernel
theorem dJ1_indexOfChar_4cfef_31 : decode cJ1_indexOfChar_4cfef 31 = .ok (.iconst (-1), 1) := by decide +kernel
theorem dJ1_indexOfChar_4cfef_32 : decode cJ1_indexOfChar_4cfef 32 = .ok (.ireturn, 1) := by decide +kernel
theorem dJ2_getChar_3b067_0 : decode cJ2_getChar_3b067 0 = .ok (.getstatic 44, 3) := by decide +kernel
theorem dJ2_getChar_3b067_3 : decode cJ2_getChar_3b067 3 = .ok (.ifCond .ne 25, 3) := by decide +kernel
theorem dJ2_getChar_3b067_6 : decode cJ2_getChar_3b067 6 = .ok (.iload_n 1, 1) := by decide +kernel
theorem dJ2_getChar_3b067_7 : decode cJ2_getChar_3b067 7 = .ok (.ifCond .lt 11, 3) := by decide +kernel
theorem dJ2_getChar_3b067_10 : decode cJ2_getChar_3b067 10 = .ok (.iload_n 1, 1) := by decide +kernel
theorem dJ2_getChar_3b067_11 : decode cJ2_getChar_3b067 11 = .ok (.aload_n 0, 1) := by decide +kernel
theorem dJ2_getChar_3b067_12 : decode cJ2_getChar_3b067 12 = .ok (.invokestatic 48, 3) := by decide +kernel
theorem dJ2_getChar_3b067_15 : decode cJ2_getChar_3b067 15 = .ok (.if_icmp .lt 13, 3) := by decide +kernel
theorem dJ2_getChar_3b067_18 : decode cJ2_getChar_3b067 18 = .ok (.new 52, 3) := by decide +kernel
theorem dJ2_getChar_3b067_21 : decode cJ2_getChar_3b067 21 = .ok (.dup, 1) := by decide +kernel
theorem dJ2_getChar_3b067_22 : decode cJ2_getChar_3b067 22 = .ok (.ldc 54, 2) := by decide +kernel
theorem dJ2_getChar_3b067_24 : decode cJ2_getChar_3b067 24 = .ok (.invokespecial 56, 3) := by decide +kernel
theorem dJ2_getChar_3b067_27 : decode cJ2_getChar_3b067 27 = .ok (.athrow, 1) := by decide +kernel
theorem dJ2_getChar_3b067_28 : decode cJ2_getChar_3b067 28 = .ok (.iload_n 1, 1) := by decide +kernel
theorem dJ2_getChar_3b067_29 : decode cJ2_getChar_3b067 29 = .ok (.iconst 1, 1) := by decide +kernel
theorem dJ2_getChar_3b067_30 : decode cJ2_getChar_3b067 30 = .ok (.ishl, 1) := by decide +kernel
theorem dJ2_getChar_3b067_31 : decode cJ2_getChar_3b067 31 = .ok (.istore_n 1, 1) := by decide +kernel
theorem dJ2_getChar_3b067_32 : decode cJ2_getChar_3b067 32 = .ok (.aload_n 0, 1) := by decide +kernel
theorem dJ2_getChar_3b067_33 : decode cJ2_getChar_3b067 33 = .ok (.iload_n 1, 1) := by decide +kernel
theorem dJ2_getChar_3b067_34 : decode cJ2_getChar_3b067 34 = .ok (.iinc 1 1, 3) := by decide +kernel
theorem dJ2_getChar_3b067_37 : decode cJ2_getChar_3b067 37 = .ok (.baload, 1) := by decide +kernel
theorem dJ2_getChar_3b067_38 : decode cJ2_getChar_3b067 38 = .ok (.sipush 255, 3) := by decide +kernel
theorem dJ2_getChar_3b067_41 : decode cJ2_getChar_3b067 41 = .ok (.iand, 1) := by decide +kernel
theorem dJ2_getChar_3b067_42 : decode cJ2_getChar_3b067 42 = .ok (.getstatic 59, 3) := by decide +kernel
theorem dJ2_getChar_3b067_45 : decode cJ2_getChar_3b067 45 = .ok (.ishl, 1) := by decide +kernel
theorem dJ2_getChar_3b067_46 : decode cJ2_getChar_3b067 46 = .ok (.aload_n 0, 1) := by decide +kernel
theorem dJ2_getChar_3b067_47 : decode cJ2_getChar_3b067 47 = .ok (.iload_n 1, 1) := by decide +kernel
theorem dJ2_getChar_3b067_48 : decode cJ2_getChar_3b067 48 = .ok (.baload, 1) := by decide +kernel
theorem dJ2_getChar_3b067_49 : decode cJ2_getChar_3b067 49 = .ok (.sipush 255, 3) := by decide +kernel
theorem dJ2_getChar_3b067_52 : decode cJ2_getChar_3b067 52 = .ok (.iand, 1) := by decide +kernel
theorem dJ2_getChar_3b067_53 : decode cJ2_getChar_3b067 53 = .ok (.getstatic 63, 3) := by decide +kernel
theorem dJ2_getChar_3b067_56 : decode cJ2_getChar_3b067 56 = .ok (.ishl, 1) := by decide +kernel
theorem dJ2_getChar_3b067_57 : decode cJ2_getChar_3b067 57 = .ok (.ior, 1) := by decide +kernel
theorem dJ2_getChar_3b067_58 : decode cJ2_getChar_3b067 58 = .ok (.i2c, 1) := by decide +kernel
theorem dJ2_getChar_3b067_59 : decode cJ2_getChar_3b067 59 = .ok (.ireturn, 1) := by decide +kernel
theorem dJ2_length_9d52b_0 : decode cJ2_length_9d52b 0 = .ok (.aload_n 0, 1) := by decide +kernel
theorem dJ2_length_9d52b_1 : decode cJ2_length_9d52b 1 = .ok (.arraylength, 1) := by decide +kernel
theorem dJ2_length_9d52b_2 : decode cJ2_length_9d52b 2 = .ok (.iconst 1, 1) := by decide +kernel
theorem dJ2_length_9d52b_3 : decode cJ2_length_9d52b 3 = .ok (.ishr, 1) := by decide +kernel
theorem dJ2_length_9d52b_4 : decode cJ2_length_9d52b 4 = .ok (.ireturn, 1) := by decide +kernel
theorem dJ2_indexOf_4cfef_0 : decode cJ2_indexOf_4cfef 0 = .ok (.iload_n 2, 1) := by decide +kernel
theorem dJ2_indexOf_4cfef_1 : decode cJ2_indexOf_4cfef 1 = .ok (.iconst 0, 1) := by decide +kernel
theorem dJ2_indexOf_4cfef_2 : decode cJ2_indexOf_4cfef 2 = .ok (.invokestatic 224, 3) := by decide +kernel
theorem dJ2_indexOf_4cfef_5 : decode cJ2_indexOf_4cfef 5 = .ok (.istore_n 2, 1) := by decide +kernel
theorem dJ2_indexOf_4cfef_6 : decode cJ2_indexOf_4cfef 6 = .ok (.iload_n 3, 1) := by decide +kernel
theorem dJ2_indexOf_4cfef_7 : decode cJ2_indexOf_4cfef 7 = .ok (.aload_n 0, 1) := by decide +kernel
theorem dJ2_indexOf_4cfef_8 : decode cJ2_indexOf_4cfef 8 = .ok (.arraylength, 1) := by decide +kernel
theorem dJ2_indexOf_4cfef_9 : decode cJ2_indexOf_4cfef 9 = .ok (.iconst 1, 1) := by decide +kernel
theorem dJ2_indexOf_4cfef_10 : decode cJ2_indexOf_4cfef 10 = .ok (.ishr, 1) := by decide +kernel
theorem dJ2_indexOf_4cfef_11 : decode cJ2_indexOf_4cfef 11 = .ok (.invokestatic 183, 3) := by decide +kernel
theorem dJ2_indexOf_4cfef_14 : decode cJ2_indexOf_4cfef 14 = .ok (.istore_n 3, 1) := by decide +kernel
theorem dJ2_indexOf_4cfef_15 : decode cJ2_indexOf_4cfef 15 = .ok (.iload_n 2, 1) := by decide +kernel
theorem dJ2_indexOf_4cfef_16 : decode cJ2_indexOf_4cfef 16 = .ok (.iload_n 3, 1) := by decide +kernel
theorem dJ2_indexOf_4cfef_17 : decode cJ2_indexOf_4cfef 17 = .ok (.if_icmp .lt 5, 3) := by decide +kernel
theorem dJ2_indexOf_4cfef_20 : decode cJ2_indexOf_4cfef 20 = .ok (.iconst (-1), 1) := by decide +kernel
theorem dJ2_indexOf_4cfef_21 : decode cJ2_indexOf_4cfef 21 = .ok (.ireturn, 1) := by decide +kernel
theorem dJ2_indexOf_4cfef_22 : decode cJ2_indexOf_4cfef 22 = .ok (.iload_n 1, 1) := by decide +kernel
theorem dJ2_indexOf_4cfef_23 : decode cJ2_indexOf_4cfef 23 = .ok (.ldc 227, 2) := by decide +kernel
theorem dJ2_indexOf_4cfef_25 : decode cJ2_indexOf_4cfef 25 = .ok (.if_icmp .ge 11, 3) := by decide +kernel
theorem dJ2_indexOf_4cfef_28 : decode cJ2_indexOf_4cfef 28 = .ok (.aload_n 0, 1) := by decide +kernel
theorem dJ2_indexOf_4cfef_29 : decode cJ2_indexOf_4cfef 29 = .ok (.iload_n 1, 1) := by decide +kernel
theorem dJ2_indexOf_4cfef_30 : decode cJ2_indexOf_4cfef 30 = .ok (.iload_n 2, 1) := by decide +kernel
theorem dJ2_indexOf_4cfef_31 : decode cJ2_indexOf_4cfef 31 = .ok (.iload_n 3, 1) := by decide +kernel
theorem dJ2_indexOf_4cfef_32 : decode cJ2_indexOf_4cfef 32 = .ok (.invokestatic 228, 3) := by decide +kernel
theorem dJ2_indexOf_4cfef_35 : decode cJ2_indexOf_4cfef 35 = .ok (.ireturn, 1) := by decide +kernel
theorem dJ2_indexOf_4cfef_36 : decode cJ2_indexOf_4cfef 36 = .ok (.aload_n 0, 1) := by decide +kernel
theorem dJ2_indexOf_4cfef_37 : decode cJ2_indexOf_4cfef 37 = .ok (.iload_n 1, 1) := by decide +kernel
theorem dJ2_indexOf_4cfef_38 : decode cJ2_indexOf_4cfef 38 = .ok (.iload_n 2, 1) := by decide +kernel
theorem dJ2_indexOf_4cfef_39 : decode cJ2_indexOf_4cfef 39 = .ok (.iload_n 3, 1) := by decide +kernel
theorem dJ2_indexOf_4cfef_40 : decode cJ2_indexOf_4cfef 40 = .ok (.invokestatic 232, 3) := by decide +kernel
theorem dJ2_indexOf_4cfef_43 : decode cJ2_indexOf_4cfef 43 = .ok (.ireturn, 1) := by decide +kernel
theorem dJ2_indexOfChar_4cfef_0 : decode cJ2_indexOfChar_4cfef 0 = .ok (.iload_n 2, 1) := by decide +kernel
theorem dJ2_indexOfChar_4cfef_1 : decode cJ2_indexOfChar_4cfef 1 = .ok (.iload_n 3, 1) := by decide +kernel
theorem dJ2_indexOfChar_4cfef_2 : decode cJ2_indexOfChar_4cfef 2 = .ok (.aload_n 0, 1) := by decide +kernel
theorem dJ2_indexOfChar_4cfef_3 : decode cJ2_indexOfChar_4cfef 3 = .ok (.invokestatic 96, 3) := by decide +kernel
theorem dJ2_indexOfChar_4cfef_6 : decode cJ2_indexOfChar_4cfef 6 = .ok (.aload_n 0, 1) := by decide +kernel
theorem dJ2_indexOfChar_4cfef_7 : decode cJ2_indexOfChar_4cfef 7 = .ok (.iload_n 1, 1) := by decide +kernel
theorem dJ2_indexOfChar_4cfef_8 : decode cJ2_indexOfChar_4cfef 8 = .ok (.iload_n 2, 1) := by decide +kernel
theorem dJ2_indexOfChar_4cfef_9 : decode cJ2_indexOfChar_4cfef 9 = .ok (.iload_n 3, 1) := by decide +kernel
theorem dJ2_indexOfChar_4cfef_10 : decode cJ2_indexOfChar_4cfef 10 = .ok (.invokestatic 244, 3) := by decide +kernel
theorem dJ2_indexOfChar_4cfef_13 : decode cJ2_indexOfChar_4cfef 13 = .ok (.ireturn, 1) := by decide +kernel
theorem dJ2_indexOfCharUnsafe_4cfef_0 : decode cJ2_indexOfCharUnsafe_4cfef 0 = .ok (.iload_n 2, 1) := by decide +kernel
theorem dJ2_indexOfCharUnsafe_4cfef_1 : decode cJ2_indexOfCharUnsafe_4cfef 1 = .ok (.istore 4, 2) := by decide +kernel
theorem dJ2_indexOfCharUnsafe_4cfef_3 : decode cJ2_indexOfCharUnsafe_4cfef 3 = .ok (.iload 4, 2) := by decide +kernel
theorem dJ2_indexOfCharUnsafe_4cfef_5 : decode cJ2_indexOfCharUnsafe_4cfef 5 = .ok (.iload_n 3, 1) := by decide +kernel
theorem dJ2_indexOfCharUnsafe_4cfef_6 : decode cJ2_indexOfCharUnsafe_4cfef 6 = .ok (.if_icmp .ge 22, 3) := by decide +kernel
theorem dJ2_indexOfCharUnsafe_4cfef_9 : decode cJ2_indexOfCharUnsafe_4cfef 9 = .ok (.aload_n 0, 1) := by decide +kernel
theorem dJ2_indexOfCharUnsafe_4cfef_10 : decode cJ2_indexOfCharUnsafe_4cfef 10 = .ok (.iload 4, 2) := by decide +kernel
theorem dJ2_indexOfCharUnsafe_4cfef_12 : decode cJ2_indexOfCharUnsafe_4cfef 12 = .ok (.invokestatic 71, 3) := by decide +kernel
theorem dJ2_indexOfCharUnsafe_4cfef_15 : decode cJ2_indexOfCharUnsafe_4cfef 15 = .ok (.iload_n 1, 1) := by decide +kernel
theorem dJ2_indexOfCharUnsafe_4cfef_16 : decode cJ2_indexOfCharUnsafe_4cfef 16 = .ok (.if_icmp .ne 6, 3) := by decide +kernel
theorem dJ2_indexOfCharUnsafe_4cfef_19 : decode cJ2_indexOfCharUnsafe_4cfef 19 = .ok (.iload 4, 2) := by decide +kernel
theorem dJ2_indexOfCharUnsafe_4cfef_21 : decode cJ2_indexOfCharUnsafe_4cfef 21 = .ok (.ireturn, 1) := by decide +kernel
theorem dJ2_indexOfCharUnsafe_4cfef_22 : decode cJ2_indexOfCharUnsafe_4cfef 22 = .ok (.iinc 4 1, 3) := by decide +kernel
theorem dJ2_indexOfCharUnsafe_4cfef_25 : decode cJ2_indexOfCharUnsafe_4cfef 25 = .ok (.goto (-22), 3) := by decide +kernel
theorem dJ2_indexOfCharUnsafe_4cfef_28 : decode cJ2_indexOfCharUnsafe_4cfef 28 = .ok (.iconst (-1), 1) := by decide +kernel
theorem dJ2_indexOfCharUnsafe_4cfef_29 : decode cJ2_indexOfCharUnsafe_4cfef 29 = .ok (.ireturn, 1) := by decide +kernel
theorem dJ2_indexOfSupplementary_4cfef_0 : decode cJ2_indexOfSupplementary_4cfef 0 = .ok (.iload_n 1, 1) := by decide +kernel
theorem dJ2_indexOfSupplementary_4cfef_1 : decode cJ2_indexOfSupplementary_4cfef 1 = .ok (.invokestatic 164, 3) := by decide +kernel
theorem dJ2_indexOfSupplementary_4cfef_4 : decode cJ2_indexOfSupplementary_4cfef 4 = .ok (.ifCond .eq 65, 3) := by decide +kernel
theorem dJ2_indexOfSupplementary_4cfef_7 : decode cJ2_indexOfSupplementary_4cfef 7 = .ok (.iload_n 1, 1) := by decide +kernel
theorem dJ2_indexOfSupplementary_4cfef_8 : decode cJ2_indexOfSupplementary_4cfef 8 = .ok (.invokestatic 157, 3) := by decide +kernel
theorem dJ2_indexOfSupplementary_4cfef_11 : decode cJ2_indexOfSupplementary_4cfef 11 = .ok (.istore 4, 2) := by decide +kernel
theorem dJ2_indexOfSupplementary_4cfef_13 : decode cJ2_indexOfSupplementary_4cfef 13 = .ok (.iload_n 1, 1) := by decide +kernel
theorem dJ2_indexOfSupplementary_4cfef_14 : decode cJ2_indexOfSupplementary_4cfef 14 = .ok (.invokestatic 161, 3) := by decide +kernel
theorem dJ2_indexOfSupplementary_4cfef_17 : decode cJ2_indexOfSupplementary_4cfef 17 = .ok (.istore 5, 2) := by decide +kernel
theorem dJ2_indexOfSupplementary_4cfef_19 : decode cJ2_indexOfSupplementary_4cfef 19 = .ok (.iload_n 2, 1) := by decide +kernel
theorem dJ2_indexOfSupplementary_4cfef_20 : decode cJ2_indexOfSupplementary_4cfef 20 = .ok (.iload_n 3, 1) := by decide +kernel
theorem dJ2_indexOfSupplementary_4cfef_21 : decode cJ2_indexOfSupplementary_4cfef 21 = .ok (.aload_n 0, 1) := by decide +kernel
theorem dJ2_indexOfSupplementary_4cfef_22 : decode cJ2_indexOfSupplementary_4cfef 22 = .ok (.invokestatic 96, 3) := by decide +kernel
theorem dJ2_indexOfSupplementary_4cfef_25 : decode cJ2_indexOfSupplementary_4cfef 25 = .ok (.iload_n 2, 1) := by decide +kernel
theorem dJ2_indexOfSupplementary_4cfef_26 : decode cJ2_indexOfSupplementary_4cfef 26 = .ok (.istore 6, 2) := by decide +kernel
theorem dJ2_indexOfSupplementary_4cfef_28 : decode cJ2_indexOfSupplementary_4cfef 28 = .ok (.iload 6, 2) := by decide +kernel
theorem dJ2_indexOfSupplementary_4cfef_30 : decode cJ2_indexOfSupplementary_4cfef 30 = .ok (.iload_n 3, 1) := by decide +kernel
theorem dJ2_indexOfSupplementary_4cfef_31 : decode cJ2_indexOfSupplementary_4cfef 31 = .ok (.iconst 1, 1) := by decide +kernel
theorem dJ2_indexOfSupplementary_4cfef_32 : decode cJ2_indexOfSupplementary_4cfef 32 = .ok (.isub, 1) := by decide +kernel
theorem dJ2_indexOfSupplementary_4cfef_33 : decode cJ2_indexOfSupplementary_4cfef 33 = .ok (.if_icmp .ge 36, 3) := by decide +kernel
theorem dJ2_indexOfSupplementary_4cfef_36 : decode cJ2_indexOfSupplementary_4cfef 36 = .ok (.aload_n 0, 1) := by decide +kernel
theorem dJ2_indexOfSupplementary_4cfef_37 : decode cJ2_indexOfSupplementary_4cfef 37 = .ok (.iload 6, 2) := by decide +kernel
theorem dJ2_indexOfSupplementary_4cfef_39 : decode cJ2_indexOfSupplementary_4cfef 39 = .ok (.invokestatic 71, 3) := by decide +kernel
theorem dJ2_indexOfSupplementary_4cfef_42 : decode cJ2_indexOfSupplementary_4cfef 42 = .ok (.iload 4, 2) := by decide +kernel
theorem dJ2_indexOfSupplementary_4cfef_44 : decode cJ2_indexOfSupplementary_4cfef 44 = .ok (.if_icmp .ne 19, 3) := by decide +kernel
theorem dJ2_indexOfSupplementary_4cfef_47 : decode cJ2_indexOfSupplementary_4cfef 47 = .ok (.aload_n 0, 1) := by decide +kernel
theorem dJ2_indexOfSupplementary_4cfef_48 : decode cJ2_indexOfSupplementary_4cfef 48 = .ok (.iload 6, 2) := by decide +kernel
theorem dJ2_indexOfSupplementary_4cfef_50 : decode cJ2_indexOfSupplementary_4cfef 50 = .ok (.iconst 1, 1) := by decide +kernel
theorem dJ2_indexOfSupplementary_4cfef_51 : decode cJ2_indexOfSupplementary_4cfef 51 = .ok (.iadd, 1) := by decide +kernel
theorem dJ2_indexOfSupplementary_4cfef_52 : decode cJ2_indexOfSupplementary_4cfef 52 = .ok (.invokestatic 71, 3) := by decide +kernel
theorem dJ2_indexOfSupplementary_4cfef_55 : decode cJ2_indexOfSupplementary_4cfef 55 = .ok (.iload 5, 2) := by decide +kernel
theorem dJ2_indexOfSupplementary_4cfef_57 : decode cJ2_indexOfSupplementary_4cfef 57 = .ok (.if_icmp .ne 6, 3) := by decide +kernel
theorem dJ2_indexOfSupplementary_4cfef_60 : decode cJ2_indexOfSupplementary_4cfef 60 = .ok (.iload 6, 2) := by decide +kernel
theorem dJ2_indexOfSupplementary_4cfef_62 : decode cJ2_indexOfSupplementary_4cfef 62 = .ok (.ireturn, 1) := by decide +kernel
theorem dJ2_indexOfSupplementary_4cfef_63 : decode cJ2_indexOfSupplementary_4cfef 63 = .ok (.iinc 6 1, 3) := by decide +kernel
theorem dJ2_indexOfSupplementary_4cfef_66 : decode cJ2_indexOfSupplementary_4cfef 66 = .ok (.goto (-38), 3) := by decide +kernel
theorem dJ2_indexOfSupplementary_4cfef_69 : decode cJ2_indexOfSupplementary_4cfef 69 = .ok (.iconst (-1), 1) := by decide +kernel
theorem dJ2_indexOfSupplementary_4cfef_70 : decode cJ2_indexOfSupplementary_4cfef 70 = .ok (.ireturn, 1) := by decide +kernel
theorem dJ2_checkBoundsBeginEnd_d044e_0 : decode cJ2_checkBoundsBeginEnd_d044e 0 = .ok (.iload_n 0, 1) := by decide +kernel
theorem dJ2_checkBoundsBeginEnd_d044e_1 : decode cJ2_checkBoundsBeginEnd_d044e 1 = .ok (.iload_n 1, 1) := by decide +kernel
theorem dJ2_checkBoundsBeginEnd_d044e_2 : decode cJ2_checkBoundsBeginEnd_d044e 2 = .ok (.aload_n 2, 1) := by decide +kernel
theorem dJ2_checkBoundsBeginEnd_d044e_3 : decode cJ2_checkBoundsBeginEnd_d044e 3 = .ok (.invokestatic 48, 3) := by decide +kernel
theorem dJ2_checkBoundsBeginEnd_d044e_6 : decode cJ2_checkBoundsBeginEnd_d044e 6 = .ok (.invokestatic 241, 3) := by decide +kernel
theorem dJ2_checkBoundsBeginEnd_d044e_9 : decode cJ2_checkBoundsBeginEnd_d044e 9 = .ok (.return_, 1) := by decide +kernel
theorem dJ3_checkFromToIndex_8c36e_0 : decode cJ3_checkFromToIndex_8c36e 0 = .ok (.iload_n 0, 1) := by decide +kernel
theorem dJ3_checkFromToIndex_8c36e_1 : decode cJ3_checkFromToIndex_8c36e 1 = .ok (.ifCond .lt 13, 3) := by decide +kernel
theorem dJ3_checkFromToIndex_8c36e_4 : decode cJ3_checkFromToIndex_8c36e 4 = .ok (.iload_n 0, 1) := by decide +kernel
theorem dJ3_checkFromToIndex_8c36e_5 : decode cJ3_checkFromToIndex_8c36e 5 = .ok (.iload_n 1, 1) := by decide +kernel
theorem dJ3_checkFromToIndex_8c36e_6 : decode cJ3_checkFromToIndex_8c36e 6 = .ok (.if_icmp .gt 8, 3) := by decide +kernel
theorem dJ3_checkFromToIndex_8c36e_9 : decode cJ3_checkFromToIndex_8c36e 9 = .ok (.iload_n 1, 1) := by decide +kernel
theorem dJ3_checkFromToIndex_8c36e_10 : decode cJ3_checkFromToIndex_8c36e 10 = .ok (.iload_n 2, 1) := by decide +kernel
theorem dJ3_checkFromToIndex_8c36e_11 : decode cJ3_checkFromToIndex_8c36e 11 = .ok (.if_icmp .le 11, 3) := by decide +kernel
theorem dJ3_checkFromToIndex_8c36e_14 : decode cJ3_checkFromToIndex_8c36e 14 = .ok (.aload_n 3, 1) := by decide +kernel
theorem dJ3_checkFromToIndex_8c36e_15 : decode cJ3_checkFromToIndex_8c36e 15 = .ok (.iload_n 0, 1) := by decide +kernel
theorem dJ3_checkFromToIndex_8c36e_16 : decode cJ3_checkFromToIndex_8c36e 16 = .ok (.iload_n 1, 1) := by decide +kernel
theorem dJ3_checkFromToIndex_8c36e_17 : decode cJ3_checkFromToIndex_8c36e 17 = .ok (.iload_n 2, 1) := by decide +kernel
theorem dJ3_checkFromToIndex_8c36e_18 : decode cJ3_checkFromToIndex_8c36e 18 = .ok (.invokestatic 99, 3) := by decide +kernel
theorem dJ3_checkFromToIndex_8c36e_21 : decode cJ3_checkFromToIndex_8c36e 21 = .ok (.athrow, 1) := by decide +kernel
theorem dJ3_checkFromToIndex_8c36e_22 : decode cJ3_checkFromToIndex_8c36e 22 = .ok (.iload_n 0, 1) := by decide +kernel
theorem dJ3_checkFromToIndex_8c36e_23 : decode cJ3_checkFromToIndex_8c36e 23 = .ok (.ireturn, 1) := by decide +kernel
theorem dL_law_0 : decode cL_law 0 = .ok (.new 7, 3) := by decide +kernel
theorem dL_law_3 : decode cL_law 3 = .ok (.dup, 1) := by decide +kernel
theorem dL_law_4 : decode cL_law 4 = .ok (.invokespecial 9, 3) := by decide +kernel
theorem dL_law_7 : decode cL_law 7 = .ok (.astore_n 1, 1) := by decide +kernel
theorem dL_law_8 : decode cL_law 8 = .ok (.new 10, 3) := by decide +kernel
theorem dL_law_11 : decode cL_law 11 = .ok (.dup, 1) := by decide +kernel
theorem dL_law_12 : decode cL_law 12 = .ok (.invokespecial 12, 3) := by decide +kernel
theorem dL_law_15 : decode cL_law 15 = .ok (.astore_n 2, 1) := by decide +kernel
theorem dL_law_16 : decode cL_law 16 = .ok (.iconst 0, 1) := by decide +kernel
theorem dL_law_17 : decode cL_law 17 = .ok (.istore_n 3, 1) := by decide +kernel
theorem dL_law_18 : decode cL_law 18 = .ok (.iload_n 3, 1) := by decide +kernel
theorem dL_law_19 : decode cL_law 19 = .ok (.aload_n 0, 1) := by decide +kernel
theorem dL_law_20 : decode cL_law 20 = .ok (.arraylength, 1) := by decide +kernel
theorem dL_law_21 : decode cL_law 21 = .ok (.iconst 4, 1) := by decide +kernel
theorem dL_law_22 : decode cL_law 22 = .ok (.isub, 1) := by decide +kernel
theorem dL_law_23 : decode cL_law 23 = .ok (.if_icmp .gt 645, 3) := by decide +kernel
theorem dL_law_26 : decode cL_law 26 = .ok (.aload_n 0, 1) := by decide +kernel
theorem dL_law_27 : decode cL_law 27 = .ok (.iload_n 3, 1) := by decide +kernel
theorem dL_law_28 : decode cL_law 28 = .ok (.iaload, 1) := by decide +kernel
theorem dL_law_29 : decode cL_law 29 = .ok (.bipush 31, 2) := by decide +kernel
theorem dL_law_31 : decode cL_law 31 = .ok (.iand, 1) := by decide +kernel
theorem dL_law_32 : decode cL_law 32 = .ok (.tableswitch 630 0 20 #[100, 123, 136, 149, 162, 195, 228, 261, 294, 317, 350, 373, 386, 409, 452, 511, 524, 567, 580, 593, 616], 100) := by decide +kernel
theorem dL_law_132 : decode cL_law 132 = .ok (.aload_n 1, 1) := by decide +kernel
theorem dL_law_133 : decode cL_law 133 = .ok (.aload_n 0, 1) := by decide +kernel
theorem dL_law_134 : decode cL_law 134 = .ok (.iload_n 3, 1) := by decide +kernel
theorem dL_law_135 : decode cL_law 135 = .ok (.iconst 1, 1) := by decide +kernel
theorem dL_law_136 : decode cL_law 136 = .ok (.iadd, 1) := by decide +kernel
theorem dL_law_137 : decode cL_law 137 = .ok (.iaload, 1) := by decide +kernel
theorem dL_law_138 : decode cL_law 138 = .ok (.invokevirtual 13, 3) := by decide +kernel
theorem dL_law_141 : decode cL_law 141 = .ok (.aload_n 2, 1) := by decide +kernel
theorem dL_law_142 : decode cL_law 142 = .ok (.aload_n 0, 1) := by decide +kernel
theorem dL_law_143 : decode cL_law 143 = .ok (.iload_n 3, 1) := by decide +kernel
theorem dL_law_144 : decode cL_law 144 = .ok (.iconst 1, 1) := by decide +kernel
theorem dL_law_145 : decode cL_law 145 = .ok (.iadd, 1) := by decide +kernel
theorem dL_law_146 : decode cL_law 146 = .ok (.iaload, 1) := by decide +kernel
theorem dL_law_147 : decode cL_law 147 = .ok (.invokevirtual 17, 3) := by decide +kernel
theorem dL_law_150 : decode cL_law 150 = .ok (.if_icmp .eq 512, 3) := by decide +kernel
theorem dL_law_153 : decode cL_law 153 = .ok (.iconst 0, 1) := by decide +kernel
theorem dL_law_154 : decode cL_law 154 = .ok (.ireturn, 1) := by decide +kernel
theorem dL_law_155 : decode cL_law 155 = .ok (.aload_n 1, 1) := by decide +kernel
theorem dL_law_156 : decode cL_law 156 = .ok (.invokevirtual 18, 3) := by decide +kernel
theorem dL_law_159 : decode cL_law 159 = .ok (.aload_n 2, 1) := by decide +kernel
theorem dL_law_160 : decode cL_law 160 = .ok (.invokevirtual 22, 3) := by decide +kernel
theorem dL_law_163 : decode cL_law 163 = .ok (.if_icmp .eq 499, 3) := by decide +kernel
theorem dL_law_166 : decode cL_law 166 = .ok (.iconst 0, 1) := by decide +kernel
theorem dL_law_167 : decode cL_law 167 = .ok (.ireturn, 1) := by decide +kernel
theorem dL_law_168 : decode cL_law 168 = .ok (.aload_n 1, 1) := by decide +kernel
theorem dL_law_169 : decode cL_law 169 = .ok (.invokevirtual 23, 3) := by decide +kernel
theorem dL_law_172 : decode cL_law 172 = .ok (.aload_n 2, 1) := by decide +kernel
theorem dL_law_173 : decode cL_law 173 = .ok (.invokevirtual 26, 3) := by decide +kernel
theorem dL_law_176 : decode cL_law 176 = .ok (.if_icmp .eq 486, 3) := by decide +kernel
theorem dL_law_179 : decode cL_law 179 = .ok (.iconst 0, 1) := by decide +kernel
theorem dL_law_180 : decode cL_law 180 = .ok (.ireturn, 1) := by decide +kernel
theorem dL_law_181 : decode cL_law 181 = .ok (.aload_n 1, 1) := by decide +kernel
theorem dL_law_182 : decode cL_law 182 = .ok (.invokevirtual 27, 3) := by decide +kernel
theorem dL_law_185 : decode cL_law 185 = .ok (.aload_n 2, 1) := by decide +kernel
theorem dL_law_186 : decode cL_law 186 = .ok (.invokevirtual 30, 3) := by decide +kernel
theorem dL_law_189 : decode cL_law 189 = .ok (.if_icmp .eq 473, 3) := by decide +kernel
theorem dL_law_192 : decode cL_law 192 = .ok (.iconst 0, 1) := by decide +kernel
theorem dL_law_193 : decode cL_law 193 = .ok (.ireturn, 1) := by decide +kernel
theorem dL_law_194 : decode cL_law 194 = .ok (.aload_n 1, 1) := by decide +kernel
theorem dL_law_195 : decode cL_law 195 = .ok (.aload_n 0, 1) := by decide +kernel
theorem dL_law_196 : decode cL_law 196 = .ok (.iload_n 3, 1) := by decide +kernel
theorem dL_law_197 : decode cL_law 197 = .ok (.iconst 1, 1) := by decide +kernel
theorem dL_law_198 : decode cL_law 198 = .ok (.iadd, 1) := by decide +kernel
theorem dL_law_199 : decode cL_law 199 = .ok (.iaload, 1) := by decide +kernel
theorem dL_law_200 : decode cL_law 200 = .ok (.aload_n 0, 1) := by decide +kernel
theorem dL_law_201 : decode cL_law 201 = .ok (.iload_n 3, 1) := by decide +kernel
theorem dL_law_202 : decode cL_law 202 = .ok (.iconst 2, 1) := by decide +kernel
theorem dL_law_203 : decode cL_law 203 = .ok (.iadd, 1) := by decide +kernel
theorem dL_law_204 : decode cL_law 204 = .ok (.iaload, 1) := by decide +kernel
theorem dL_law_205 : decode cL_law 205 = .ok (.invokevirtual 31, 3) := by decide +kernel
theorem dL_law_208 : decode cL_law 208 = .ok (.aload_n 2, 1) := by decide +kernel
theorem dL_law_209 : decode cL_law 209 = .ok (.aload_n 0, 1) := by decide +kernel
theorem dL_law_210 : decode cL_law 210 = .ok (.iload_n 3, 1) := by decide +kernel
theorem dL_law_211 : decode cL_law 211 = .ok (.iconst 1, 1) := by decide +kernel
theorem dL_law_212 : decode cL_law 212 = .ok (.iadd, 1) := by decide +kernel
theorem dL_law_213 : decode cL_law 213 = .ok (.iaload, 1) := by decide +kernel
theorem dL_law_214 : decode cL_law 214 = .ok (.aload_n 0, 1) := by decide +kernel
theorem dL_law_215 : decode cL_law 215 = .ok (.iload_n 3, 1) := by decide +kernel
theorem dL_law_216 : decode cL_law 216 = .ok (.iconst 2, 1) := by decide +kernel
theorem dL_law_217 : decode cL_law 217 = .ok (.iadd, 1) := by decide +kernel
theorem dL_law_218 : decode cL_law 218 = .ok (.iaload, 1) := by decide +kernel
theorem dL_law_219 : decode cL_law 219 = .ok (.invokevirtual 35, 3) := by decide +kernel
theorem dL_law_222 : decode cL_law 222 = .ok (.if_icmp .eq 440, 3) := by decide +kernel
theorem dL_law_225 : decode cL_law 225 = .ok (.iconst 0, 1) := by decide +kernel
theorem dL_law_226 : decode cL_law 226 = .ok (.ireturn, 1) := by decide +kernel
theorem dL_law_227 : decode cL_law 227 = .ok (.aload_n 1, 1) := by decide +kernel
theorem dL_law_228 : decode cL_law 228 = .ok (.aload_n 0, 1) := by decide +kernel
theorem dL_law_229 : decode cL_law 229 = .ok (.iload_n 3, 1) := by decide +kernel
theorem dL_law_230 : decode cL_law 230 = .ok (.iconst 1, 1) := by decide +kernel
theorem dL_law_231 : decode cL_law 231 = .ok (.iadd, 1) := by decide +kernel
theorem dL_law_232 : decode cL_law 232 = .ok (.iaload, 1) := by decide +kernel
theorem dL_law_233 : decode cL_law 233 = .ok (.aload_n 0, 1) := by decide +kernel
theorem dL_law_234 : decode cL_law 234 = .ok (.iload_n 3, 1) := by decide +kernel
theorem dL_law_235 : decode cL_law 235 = .ok (.iconst 2, 1) := by decide +kernel
theorem dL_law_236 : decode cL_law 236 = .ok (.iadd, 1) := by decide +kernel
theorem dL_law_237 : decode cL_law 237 = .ok (.iaload, 1) := by decide +kernel
theorem dL_law_238 : decode cL_law 238 = .ok (.invokevirtual 36, 3) := by decide +kernel
theorem dL_law_241 : decode cL_law 241 = .ok (.aload_n 2, 1) := by decide +kernel
theorem dL_law_242 : decode cL_law 242 = .ok (.aload_n 0, 1) := by decide +kernel
theorem dL_law_243 : decode cL_law 243 = .ok (.iload_n 3, 1) := by decide +kernel
theorem dL_law_244 : decode cL_law 244 = .ok (.iconst 1, 1) := by decide +kernel
theorem dL_law_245 : decode cL_law 245 = .ok (.iadd, 1) := by decide +kernel
theorem dL_law_246 : decode cL_law 246 = .ok (.iaload, 1) := by decide +kernel
theorem dL_law_247 : decode cL_law 247 = .ok (.aload_n 0, 1) := by decide +kernel
theorem dL_law_248 : decode cL_law 248 = .ok (.iload_n 3, 1) := by decide +kernel
theorem dL_law_249 : decode cL_law 249 = .ok (.iconst 2, 1) := by decide +kernel
theorem dL_law_250 : decode cL_law 250 = .ok (.iadd, 1) := by decide +kernel
theorem dL_law_251 : decode cL_law 251 = .ok (.iaload, 1) := by decide +kernel
theorem dL_law_252 : decode cL_law 252 = .ok (.invokevirtual 39, 3) := by decide +kernel
theorem dL_law_255 : decode cL_law 255 = .ok (.if_icmp .eq 407, 3) := by decide +kernel
theorem dL_law_258 : decode cL_law 258 = .ok (.iconst 0, 1) := by decide +kernel
theorem dL_law_259 : decode cL_law 259 = .ok (.ireturn, 1) := by decide +kernel
theorem dL_law_260 : decode cL_law 260 = .ok (.aload_n 1, 1) := by decide +kernel
theorem dL_law_261 : decode cL_law 261 = .ok (.aload_n 0, 1) := by decide +kernel
theorem dL_law_262 : decode cL_law 262 = .ok (.iload_n 3, 1) := by decide +kernel
theorem dL_law_263 : decode cL_law 263 = .ok (.iconst 1, 1) := by decide +kernel
theorem dL_law_264 : decode cL_law 264 = .ok (.iadd, 1) := by decide +kernel
theorem dL_law_265 : decode cL_law 265 = .ok (.iaload, 1) := by decide +kernel
theorem dL_law_266 : decode cL_law 266 = .ok (.aload_n 0, 1) := by decide +kernel
theorem dL_law_267 : decode cL_law 267 = .ok (.iload_n 3, 1) := by decide +kernel
theorem dL_law_268 : decode cL_law 268 = .ok (.iconst 2, 1) := by decide +kernel
theorem dL_law_269 : decode cL_law 269 = .ok (.iadd, 1) := by decide +kernel
theorem dL_law_270 : decode cL_law 270 = .ok (.iaload, 1) := by decide +kernel
theorem dL_law_271 : decode cL_law 271 = .ok (.invokevirtual 40, 3) := by decide +kernel
theorem dL_law_274 : decode cL_law 274 = .ok (.aload_n 2, 1) := by decide +kernel
theorem dL_law_275 : decode cL_law 275 = .ok (.aload_n 0, 1) := by decide +kernel
theorem dL_law_276 : decode cL_law 276 = .ok (.iload_n 3, 1) := by decide +kernel
theorem dL_law_277 : decode cL_law 277 = .ok (.iconst 1, 1) := by decide +kernel
theorem dL_law_278 : decode cL_law 278 = .ok (.iadd, 1) := by decide +kernel
theorem dL_law_279 : decode cL_law 279 = .ok (.iaload, 1) := by decide +kernel
theorem dL_law_280 : decode cL_law 280 = .ok (.aload_n 0, 1) := by decide +kernel
theorem dL_law_281 : decode cL_law 281 = .ok (.iload_n 3, 1) := by decide +kernel
theorem dL_law_282 : decode cL_law 282 = .ok (.iconst 2, 1) := by decide +kernel
theorem dL_law_283 : decode cL_law 283 = .ok (.iadd, 1) := by decide +kernel
theorem dL_law_284 : decode cL_law 284 = .ok (.iaload, 1) := by decide +kernel
theorem dL_law_285 : decode cL_law 285 = .ok (.invokevirtual 43, 3) := by decide +kernel
theorem dL_law_288 : decode cL_law 288 = .ok (.if_icmp .eq 374, 3) := by decide +kernel
theorem dL_law_291 : decode cL_law 291 = .ok (.iconst 0, 1) := by decide +kernel
theorem dL_law_292 : decode cL_law 292 = .ok (.ireturn, 1) := by decide +kernel
theorem dL_law_293 : decode cL_law 293 = .ok (.aload_n 1, 1) := by decide +kernel
theorem dL_law_294 : decode cL_law 294 = .ok (.aload_n 0, 1) := by decide +kernel
theorem dL_law_295 : decode cL_law 295 = .ok (.iload_n 3, 1) := by decide +kernel
theorem dL_law_296 : decode cL_law 296 = .ok (.iconst 1, 1) := by decide +kernel
theorem dL_law_297 : decode cL_law 297 = .ok (.iadd, 1) := by decide +kernel
theorem dL_law_298 : decode cL_law 298 = .ok (.iaload, 1) := by decide +kernel
theorem dL_law_299 : decode cL_law 299 = .ok (.aload_n 0, 1) := by decide +kernel
theorem dL_law_300 : decode cL_law 300 = .ok (.iload_n 3, 1) := by decide +kernel
theorem dL_law_301 : decode cL_law 301 = .ok (.iconst 2, 1) := by decide +kernel
theorem dL_law_302 : decode cL_law 302 = .ok (.iadd, 1) := by decide +kernel
theorem dL_law_303 : decode cL_law 303 = .ok (.iaload, 1) := by decide +kernel
theorem dL_law_304 : decode cL_law 304 = .ok (.invokevirtual 44, 3) := by decide +kernel
theorem dL_law_307 : decode cL_law 307 = .ok (.aload_n 2, 1) := by decide +kernel
theorem dL_law_308 : decode cL_law 308 = .ok (.aload_n 0, 1) := by decide +kernel
theorem dL_law_309 : decode cL_law 309 = .ok (.iload_n 3, 1) := by decide +kernel
theorem dL_law_310 : decode cL_law 310 = .ok (.iconst 1, 1) := by decide +kernel
theorem dL_law_311 : decode cL_law 311 = .ok (.iadd, 1) := by decide +kernel
theorem dL_law_312 : decode cL_law 312 = .ok (.iaload, 1) := by decide +kernel
theorem dL_law_313 : decode cL_law 313 = .ok (.aload_n 0, 1) := by decide +kernel
theorem dL_law_314 : decode cL_law 314 = .ok (.iload_n 3, 1) := by decide +kernel
theorem dL_law_315 : decode cL_law 315 = .ok (.iconst 2, 1) := by decide +kernel
theorem dL_law_316 : decode cL_law 316 = .ok (.iadd, 1) := by decide +kernel
theorem dL_law_317 : decode cL_law 317 = .ok (.iaload, 1) := by decide +kernel
theorem dL_law_318 : decode cL_law 318 = .ok (.invokevirtual 47, 3) := by decide +kernel
theorem dL_law_321 : decode cL_law 321 = .ok (.if_icmp .eq 341, 3) := by decide +kernel
theorem dL_law_324 : decode cL_law 324 = .ok (.iconst 0, 1) := by decide +kernel
theorem dL_law_325 : decode cL_law 325 = .ok (.ireturn, 1) := by decide +kernel
theorem dL_law_326 : decode cL_law 326 = .ok (.aload_n 1, 1) := by decide +kernel
theorem dL_law_327 : decode cL_law 327 = .ok (.aload_n 0, 1) := by decide +kernel
theorem dL_law_328 : decode cL_law 328 = .ok (.iload_n 3, 1) := by decide +kernel
theorem dL_law_329 : decode cL_law 329 = .ok (.iconst 1, 1) := by decide +kernel
theorem dL_law_330 : decode cL_law 330 = .ok (.iadd, 1) := by decide +kernel
theorem dL_law_331 : decode cL_law 331 = .ok (.iaload, 1) := by decide +kernel
theorem dL_law_332 : decode cL_law 332 = .ok (.invokevirtual 48, 3) := by decide +kernel
theorem dL_law_335 : decode cL_law 335 = .ok (.aload_n 2, 1) := by decide +kernel
theorem dL_law_336 : decode cL_law 336 = .ok (.aload_n 0, 1) := by decide +kernel
theorem dL_law_337 : decode cL_law 337 = .ok (.iload_n 3, 1) := by decide +kernel
theorem dL_law_338 : decode cL_law 338 = .ok (.iconst 1, 1) := by decide +kernel
theorem dL_law_339 : decode cL_law 339 = .ok (.iadd, 1) := by decide +kernel
theorem dL_law_340 : decode cL_law 340 = .ok (.iaload, 1) := by decide +kernel
theorem dL_law_341 : decode cL_law 341 = .ok (.invokevirtual 51, 3) := by decide +kernel
theorem dL_law_344 : decode cL_law 344 = .ok (.if_icmp .eq 318, 3) := by decide +kernel
theorem dL_law_347 : decode cL_law 347 = .ok (.iconst 0, 1) := by decide +kernel
theorem dL_law_348 : decode cL_law 348 = .ok (.ireturn, 1) := by decide +kernel
theorem dL_law_349 : decode cL_law 349 = .ok (.aload_n 1, 1) := by decide +kernel
theorem dL_law_350 : decode cL_law 350 = .ok (.aload_n 0, 1) := by decide +kernel
theorem dL_law_351 : decode cL_law 351 = .ok (.iload_n 3, 1) := by decide +kernel
theorem dL_law_352 : decode cL_law 352 = .ok (.iconst 1, 1) := by decide +kernel
theorem dL_law_353 : decode cL_law 353 = .ok (.iadd, 1) := by decide +kernel
theorem dL_law_354 : decode cL_law 354 = .ok (.iaload, 1) := by decide +kernel
theorem dL_law_355 : decode cL_law 355 = .ok (.aload_n 0, 1) := by decide +kernel
theorem dL_law_356 : decode cL_law 356 = .ok (.iload_n 3, 1) := by decide +kernel
theorem dL_law_357 : decode cL_law 357 = .ok (.iconst 2, 1) := by decide +kernel
theorem dL_law_358 : decode cL_law 358 = .ok (.iadd, 1) := by decide +kernel
theorem dL_law_359 : decode cL_law 359 = .ok (.iaload, 1) := by decide +kernel
theorem dL_law_360 : decode cL_law 360 = .ok (.invokevirtual 52, 3) := by decide +kernel
theorem dL_law_363 : decode cL_law 363 = .ok (.aload_n 2, 1) := by decide +kernel
theorem dL_law_364 : decode cL_law 364 = .ok (.aload_n 0, 1) := by decide +kernel
theorem dL_law_365 : decode cL_law 365 = .ok (.iload_n 3, 1) := by decide +kernel
theorem dL_law_366 : decode cL_law 366 = .ok (.iconst 1, 1) := by decide +kernel
theorem dL_law_367 : decode cL_law 367 = .ok (.iadd, 1) := by decide +kernel
theorem dL_law_368 : decode cL_law 368 = .ok (.iaload, 1) := by decide +kernel
theorem dL_law_369 : decode cL_law 369 = .ok (.aload_n 0, 1) := by decide +kernel
theorem dL_law_370 : decode cL_law 370 = .ok (.iload_n 3, 1) := by decide +kernel
theorem dL_law_371 : decode cL_law 371 = .ok (.iconst 2, 1) := by decide +kernel
theorem dL_law_372 : decode cL_law 372 = .ok (.iadd, 1) := by decide +kernel
theorem dL_law_373 : decode cL_law 373 = .ok (.iaload, 1) := by decide +kernel
theorem dL_law_374 : decode cL_law 374 = .ok (.invokevirtual 55, 3) := by decide +kernel
theorem dL_law_377 : decode cL_law 377 = .ok (.if_icmp .eq 285, 3) := by decide +kernel
theorem dL_law_380 : decode cL_law 380 = .ok (.iconst 0, 1) := by decide +kernel
theorem dL_law_381 : decode cL_law 381 = .ok (.ireturn, 1) := by decide +kernel
theorem dL_law_382 : decode cL_law 382 = .ok (.aload_n 1, 1) := by decide +kernel
theorem dL_law_383 : decode cL_law 383 = .ok (.aload_n 0, 1) := by decide +kernel
theorem dL_law_384 : decode cL_law 384 = .ok (.iload_n 3, 1) := by decide +kernel
theorem dL_law_385 : decode cL_law 385 = .ok (.iconst 1, 1) := by decide +kernel
theorem dL_law_386 : decode cL_law 386 = .ok (.iadd, 1) := by decide +kernel
theorem dL_law_387 : decode cL_law 387 = .ok (.iaload, 1) := by decide +kernel
theorem dL_law_388 : decode cL_law 388 = .ok (.invokevirtual 56, 3) := by decide +kernel
theorem dL_law_391 : decode cL_law 391 = .ok (.aload_n 2, 1) := by decide +kernel
theorem dL_law_392 : decode cL_law 392 = .ok (.aload_n 0, 1) := by decide +kernel
theorem dL_law_393 : decode cL_law 393 = .ok (.iload_n 3, 1) := by decide +kernel
theorem dL_law_394 : decode cL_law 394 = .ok (.iconst 1, 1) := by decide +kernel
theorem dL_law_395 : decode cL_law 395 = .ok (.iadd, 1) := by decide +kernel
theorem dL_law_396 : decode cL_law 396 = .ok (.iaload, 1) := by decide +kernel
theorem dL_law_397 : decode cL_law 397 = .ok (.invokevirtual 59, 3) := by decide +kernel
theorem dL_law_400 : decode cL_law 400 = .ok (.if_icmp .eq 262, 3) := by decide +kernel
theorem dL_law_403 : decode cL_law 403 = .ok (.iconst 0, 1) := by decide +kernel
theorem dL_law_404 : decode cL_law 404 = .ok (.ireturn, 1) := by decide +kernel
theorem dL_law_405 : decode cL_law 405 = .ok (.aload_n 1, 1) := by decide +kernel
theorem dL_law_406 : decode cL_law 406 = .ok (.invokevirtual 60, 3) := by decide +kernel
theorem dL_law_409 : decode cL_law 409 = .ok (.aload_n 2, 1) := by decide +kernel
theorem dL_law_410 : decode cL_law 410 = .ok (.invokevirtual 63, 3) := by decide +kernel
theorem dL_law_413 : decode cL_law 413 = .ok (.if_icmp .eq 249, 3) := by decide +kernel
theorem dL_law_416 : decode cL_law 416 = .ok (.iconst 0, 1) := by decide +kernel
theorem dL_law_417 : decode cL_law 417 = .ok (.ireturn, 1) := by decide +kernel
theorem dL_law_418 : decode cL_law 418 = .ok (.aload_n 1, 1) := by decide +kernel
theorem dL_law_419 : decode cL_law 419 = .ok (.aload_n 0, 1) := by decide +kernel
theorem dL_law_420 : decode cL_law 420 = .ok (.iload_n 3, 1) := by decide +kernel
theorem dL_law_421 : decode cL_law 421 = .ok (.iconst 1, 1) := by decide +kernel
theorem dL_law_422 : decode cL_law 422 = .ok (.iadd, 1) := by decide +kernel
theorem dL_law_423 : decode cL_law 423 = .ok (.iaload, 1) := by decide +kernel
theorem dL_law_424 : decode cL_law 424 = .ok (.invokevirtual 64, 3) := by decide +kernel
theorem dL_law_427 : decode cL_law 427 = .ok (.aload_n 2, 1) := by decide +kernel
theorem dL_law_428 : decode cL_law 428 = .ok (.aload_n 0, 1) := by decide +kernel
theorem dL_law_429 : decode cL_law 429 = .ok (.iload_n 3, 1) := by decide +kernel
theorem dL_law_430 : decode cL_law 430 = .ok (.iconst 1, 1) := by decide +kernel
theorem dL_law_431 : decode cL_law 431 = .ok (.iadd, 1) := by decide +kernel
theorem dL_law_432 : decode cL_law 432 = .ok (.iaload, 1) := by decide +kernel
theorem dL_law_433 : decode cL_law 433 = .ok (.invokevirtual 67, 3) := by decide +kernel
theorem dL_law_436 : decode cL_law 436 = .ok (.if_icmp .eq 226, 3) := by decide +kernel
theorem dL_law_439 : decode cL_law 439 = .ok (.iconst 0, 1) := by decide +kernel
theorem dL_law_440 : decode cL_law 440 = .ok (.ireturn, 1) := by decide +kernel
theorem dL_law_441 : decode cL_law 441 = .ok (.aload_n 1, 1) := by decide +kernel
theorem dL_law_442 : decode cL_law 442 = .ok (.aload_n 0, 1) := by decide +kernel
theorem dL_law_443 : decode cL_law 443 = .ok (.iload_n 3, 1) := by decide +kernel
theorem dL_law_444 : decode cL_law 444 = .ok (.iconst 1, 1) := by decide +kernel
theorem dL_law_445 : decode cL_law 445 = .ok (.iadd, 1) := by decide +kernel
theorem dL_law_446 : decode cL_law 446 = .ok (.iaload, 1) := by decide +kernel
theorem dL_law_447 : decode cL_law 447 = .ok (.aload_n 0, 1) := by decide +kernel
theorem dL_law_448 : decode cL_law 448 = .ok (.iload_n 3, 1) := by decide +kernel
theorem dL_law_449 : decode cL_law 449 = .ok (.iconst 2, 1) := by decide +kernel
theorem dL_law_450 : decode cL_law 450 = .ok (.iadd, 1) := by decide +kernel
theorem dL_law_451 : decode cL_law 451 = .ok (.iaload, 1) := by decide +kernel
theorem dL_law_452 : decode cL_law 452 = .ok (.aload_n 0, 1) := by decide +kernel
theorem dL_law_453 : decode cL_law 453 = .ok (.iload_n 3, 1) := by decide +kernel
theorem dL_law_454 : decode cL_law 454 = .ok (.iconst 3, 1) := by decide +kernel
theorem dL_law_455 : decode cL_law 455 = .ok (.iadd, 1) := by decide +kernel
theorem dL_law_456 : decode cL_law 456 = .ok (.iaload, 1) := by decide +kernel
theorem dL_law_457 : decode cL_law 457 = .ok (.invokevirtual 68, 3) := by decide +kernel
theorem dL_law_460 : decode cL_law 460 = .ok (.aload_n 2, 1) := by decide +kernel
theorem dL_law_461 : decode cL_law 461 = .ok (.aload_n 0, 1) := by decide +kernel
theorem dL_law_462 : decode cL_law 462 = .ok (.iload_n 3, 1) := by decide +kernel
theorem dL_law_463 : decode cL_law 463 = .ok (.iconst 1, 1) := by decide +kernel
theorem dL_law_464 : decode cL_law 464 = .ok (.iadd, 1) := by decide +kernel
theorem dL_law_465 : decode cL_law 465 = .ok (.iaload, 1) := by decide +kernel
theorem dL_law_466 : decode cL_law 466 = .ok (.aload_n 0, 1) := by decide +kernel
theorem dL_law_467 : decode cL_law 467 = .ok (.iload_n 3, 1) := by decide +kernel
theorem dL_law_468 : decode cL_law 468 = .ok (.iconst 2, 1) := by decide +kernel
theorem dL_law_469 : decode cL_law 469 = .ok (.iadd, 1) := by decide +kernel
theorem dL_law_470 : decode cL_law 470 = .ok (.iaload, 1) := by decide +kernel
theorem dL_law_471 : decode cL_law 471 = .ok (.aload_n 0, 1) := by decide +kernel
theorem dL_law_472 : decode cL_law 472 = .ok (.iload_n 3, 1) := by decide +kernel
theorem dL_law_473 : decode cL_law 473 = .ok (.iconst 3, 1) := by decide +kernel
theorem dL_law_474 : decode cL_law 474 = .ok (.iadd, 1) := by decide +kernel
theorem dL_law_475 : decode cL_law 475 = .ok (.iaload, 1) := by decide +kernel
theorem dL_law_476 : decode cL_law 476 = .ok (.invokevirtual 72, 3) := by decide +kernel
theorem dL_law_479 : decode cL_law 479 = .ok (.if_icmp .eq 183, 3) := by decide +kernel
theorem dL_law_482 : decode cL_law 482 = .ok (.iconst 0, 1) := by decide +kernel
theorem dL_law_483 : decode cL_law 483 = .ok (.ireturn, 1) := by decide +kernel
theorem dL_law_484 : decode cL_law 484 = .ok (.aload_n 1, 1) := by decide +kernel
theorem dL_law_485 : decode cL_law 485 = .ok (.aload_n 0, 1) := by decide +kernel
theorem dL_law_486 : decode cL_law 486 = .ok (.iload_n 3, 1) := by decide +kernel
theorem dL_law_487 : decode cL_law 487 = .ok (.iconst 1, 1) := by decide +kernel
theorem dL_law_488 : decode cL_law 488 = .ok (.iadd, 1) := by decide +kernel
theorem dL_law_489 : decode cL_law 489 = .ok (.iaload, 1) := by decide +kernel
theorem dL_law_490 : decode cL_law 490 = .ok (.aload_n 0, 1) := by decide +kernel
theorem dL_law_491 : decode cL_law 491 = .ok (.iload_n 3, 1) := by decide +kernel
theorem dL_law_492 : decode cL_law 492 = .ok (.iconst 2, 1) := by decide +kernel
theorem dL_law_493 : decode cL_law 493 = .ok (.iadd, 1) := by decide +kernel
theorem dL_law_494 : decode cL_law 494 = .ok (.iaload, 1) := by decide +kernel
theorem dL_law_495 : decode cL_law 495 = .ok (.aload_n 0, 1) := by decide +kernel
theorem dL_law_496 : decode cL_law 496 = .ok (.iload_n 3, 1) := by decide +kernel
theorem dL_law_497 : decode cL_law 497 = .ok (.iconst 3, 1) := by decide +kernel
theorem dL_law_498 : decode cL_law 498 = .ok (.iadd, 1) := by decide +kernel
theorem dL_law_499 : decode cL_law 499 = .ok (.iaload, 1) := by decide +kernel
theorem dL_law_500 : decode cL_law 500 = .ok (.ifCond .eq 7, 3) := by decide +kernel
theorem dL_law_503 : decode cL_law 503 = .ok (.iconst 1, 1) := by decide +kernel
theorem dL_law_504 : decode cL_law 504 = .ok (.goto 4, 3) := by decide +kernel
theorem dL_law_507 : decode cL_law 507 = .ok (.iconst 0, 1) := by decide +kernel
theorem dL_law_508 : decode cL_law 508 = .ok (.invokevirtual 73, 3) := by decide +kernel
theorem dL_law_511 : decode cL_law 511 = .ok (.aload_n 2, 1) := by decide +kernel
theorem dL_law_512 : decode cL_law 512 = .ok (.aload_n 0, 1) := by decide +kernel
theorem dL_law_513 : decode cL_law 513 = .ok (.iload_n 3, 1) := by decide +kernel
theorem dL_law_514 : decode cL_law 514 = .ok (.iconst 1, 1) := by decide +kernel
theorem dL_law_515 : decode cL_law 515 = .ok (.iadd, 1) := by decide +kernel
theorem dL_law_516 : decode cL_law 516 = .ok (.iaload, 1) := by decide +kernel
theorem dL_law_517 : decode cL_law 517 = .ok (.aload_n 0, 1) := by decide +kernel
theorem dL_law_518 : decode cL_law 518 = .ok (.iload_n 3, 1) := by decide +kernel
theorem dL_law_519 : decode cL_law 519 = .ok (.iconst 2, 1) := by decide +kernel
theorem dL_law_520 : decode cL_law 520 = .ok (.iadd, 1) := by decide +kernel
theorem dL_law_521 : decode cL_law 521 = .ok (.iaload, 1) := by decide +kernel
theorem dL_law_522 : decode cL_law 522 = .ok (.aload_n 0, 1) := by decide +kernel
theorem dL_law_523 : decode cL_law 523 = .ok (.iload_n 3, 1) := by decide +kernel
theorem dL_law_524 : decode cL_law 524 = .ok (.iconst 3, 1) := by decide +kernel
theorem dL_law_525 : decode cL_law 525 = .ok (.iadd, 1) := by decide +kernel
theorem dL_law_526 : decode cL_law 526 = .ok (.iaload, 1) := by decide +kernel
theorem dL_law_527 : decode cL_law 527 = .ok (.ifCond .eq 7, 3) := by decide +kernel
theorem dL_law_530 : decode cL_law 530 = .ok (.iconst 1, 1) := by decide +kernel
theorem dL_law_531 : decode cL_law 531 = .ok (.goto 4, 3) := by decide +kernel
theorem dL_law_534 : decode cL_law 534 = .ok (.iconst 0, 1) := by decide +kernel
theorem dL_law_535 : decode cL_law 535 = .ok (.invokevirtual 77, 3) := by decide +kernel
theorem dL_law_538 : decode cL_law 538 = .ok (.if_icmp .eq 124, 3) := by decide +kernel
theorem dL_law_541 : decode cL_law 541 = .ok (.iconst 0, 1) := by decide +kernel
theorem dL_law_542 : decode cL_law 542 = .ok (.ireturn, 1) := by decide +kernel
theorem dL_law_543 : decode cL_law 543 = .ok (.aload_n 1, 1) := by decide +kernel
theorem dL_law_544 : decode cL_law 544 = .ok (.invokevirtual 78, 3) := by decide +kernel
theorem dL_law_547 : decode cL_law 547 = .ok (.aload_n 2, 1) := by decide +kernel
theorem dL_law_548 : decode cL_law 548 = .ok (.invokevirtual 81, 3) := by decide +kernel
theorem dL_law_551 : decode cL_law 551 = .ok (.if_icmp .eq 111, 3) := by decide +kernel
theorem dL_law_554 : decode cL_law 554 = .ok (.iconst 0, 1) := by decide +kernel
theorem dL_law_555 : decode cL_law 555 = .ok (.ireturn, 1) := by decide +kernel
theorem dL_law_556 : decode cL_law 556 = .ok (.aload_n 1, 1) := by decide +kernel
theorem dL_law_557 : decode cL_law 557 = .ok (.aload_n 0, 1) := by decide +kernel
theorem dL_law_558 : decode cL_law 558 = .ok (.iload_n 3, 1) := by decide +kernel
theorem dL_law_559 : decode cL_law 559 = .ok (.iconst 1, 1) := by decide +kernel
theorem dL_law_560 : decode cL_law 560 = .ok (.iadd, 1) := by decide +kernel
theorem dL_law_561 : decode cL_law 561 = .ok (.iaload, 1) := by decide +kernel
theorem dL_law_562 : decode cL_law 562 = .ok (.aload_n 0, 1) := by decide +kernel
theorem dL_law_563 : decode cL_law 563 = .ok (.iload_n 3, 1) := by decide +kernel
theorem dL_law_564 : decode cL_law 564 = .ok (.iconst 2, 1) := by decide +kernel
theorem dL_law_565 : decode cL_law 565 = .ok (.iadd, 1) := by decide +kernel
theorem dL_law_566 : decode cL_law 566 = .ok (.iaload, 1) := by decide +kernel
theorem dL_law_567 : decode cL_law 567 = .ok (.aload_n 0, 1) := by decide +kernel
theorem dL_law_568 : decode cL_law 568 = .ok (.iload_n 3, 1) := by decide +kernel
theorem dL_law_569 : decode cL_law 569 = .ok (.iconst 3, 1) := by decide +kernel
theorem dL_law_570 : decode cL_law 570 = .ok (.iadd, 1) := by decide +kernel
theorem dL_law_571 : decode cL_law 571 = .ok (.iaload, 1) := by decide +kernel
theorem dL_law_572 : decode cL_law 572 = .ok (.invokevirtual 82, 3) := by decide +kernel
theorem dL_law_575 : decode cL_law 575 = .ok (.aload_n 2, 1) := by decide +kernel
theorem dL_law_576 : decode cL_law 576 = .ok (.aload_n 0, 1) := by decide +kernel
theorem dL_law_577 : decode cL_law 577 = .ok (.iload_n 3, 1) := by decide +kernel
theorem dL_law_578 : decode cL_law 578 = .ok (.iconst 1, 1) := by decide +kernel
theorem dL_law_579 : decode cL_law 579 = .ok (.iadd, 1) := by decide +kernel
theorem dL_law_580 : decode cL_law 580 = .ok (.iaload, 1) := by decide +kernel
theorem dL_law_581 : decode cL_law 581 = .ok (.aload_n 0, 1) := by decide +kernel
theorem dL_law_582 : decode cL_law 582 = .ok (.iload_n 3, 1) := by decide +kernel
theorem dL_law_583 : decode cL_law 583 = .ok (.iconst 2, 1) := by decide +kernel
theorem dL_law_584 : decode cL_law 584 = .ok (.iadd, 1) := by decide +kernel
theorem dL_law_585 : decode cL_law 585 = .ok (.iaload, 1) := by decide +kernel
theorem dL_law_586 : decode cL_law 586 = .ok (.aload_n 0, 1) := by decide +kernel
theorem dL_law_587 : decode cL_law 587 = .ok (.iload_n 3, 1) := by decide +kernel
theorem dL_law_588 : decode cL_law 588 = .ok (.iconst 3, 1) := by decide +kernel
theorem dL_law_589 : decode cL_law 589 = .ok (.iadd, 1) := by decide +kernel
theorem dL_law_590 : decode cL_law 590 = .ok (.iaload, 1) := by decide +kernel
theorem dL_law_591 : decode cL_law 591 = .ok (.invokevirtual 85, 3) := by decide +kernel
theorem dL_law_594 : decode cL_law 594 = .ok (.if_icmp .eq 68, 3) := by decide +kernel
theorem dL_law_597 : decode cL_law 597 = .ok (.iconst 0, 1) := by decide +kernel
theorem dL_law_598 : decode cL_law 598 = .ok (.ireturn, 1) := by decide +kernel
theorem dL_law_599 : decode cL_law 599 = .ok (.aload_n 1, 1) := by decide +kernel
theorem dL_law_600 : decode cL_law 600 = .ok (.invokevirtual 86, 3) := by decide +kernel
theorem dL_law_603 : decode cL_law 603 = .ok (.aload_n 2, 1) := by decide +kernel
theorem dL_law_604 : decode cL_law 604 = .ok (.invokevirtual 89, 3) := by decide +kernel
theorem dL_law_607 : decode cL_law 607 = .ok (.if_icmp .eq 55, 3) := by decide +kernel
theorem dL_law_610 : decode cL_law 610 = .ok (.iconst 0, 1) := by decide +kernel
theorem dL_law_611 : decode cL_law 611 = .ok (.ireturn, 1) := by decide +kernel
theorem dL_law_612 : decode cL_law 612 = .ok (.aload_n 1, 1) := by decide +kernel
theorem dL_law_613 : decode cL_law 613 = .ok (.invokevirtual 90, 3) := by decide +kernel
theorem dL_law_616 : decode cL_law 616 = .ok (.aload_n 2, 1) := by decide +kernel
theorem dL_law_617 : decode cL_law 617 = .ok (.invokevirtual 93, 3) := by decide +kernel
theorem dL_law_620 : decode cL_law 620 = .ok (.if_icmp .eq 42, 3) := by decide +kernel
theorem dL_law_623 : decode cL_law 623 = .ok (.iconst 0, 1) := by decide +kernel
theorem dL_law_624 : decode cL_law 624 = .ok (.ireturn, 1) := by decide +kernel
theorem dL_law_625 : decode cL_law 625 = .ok (.aload_n 1, 1) := by decide +kernel
theorem dL_law_626 : decode cL_law 626 = .ok (.aload_n 0, 1) := by decide +kernel
theorem dL_law_627 : decode cL_law 627 = .ok (.iload_n 3, 1) := by decide +kernel
theorem dL_law_628 : decode cL_law 628 = .ok (.iconst 1, 1) := by decide +kernel
theorem dL_law_629 : decode cL_law 629 = .ok (.iadd, 1) := by decide +kernel
theorem dL_law_630 : decode cL_law 630 = .ok (.iaload, 1) := by decide +kernel
theorem dL_law_631 : decode cL_law 631 = .ok (.invokevirtual 94, 3) := by decide +kernel
theorem dL_law_634 : decode cL_law 634 = .ok (.aload_n 2, 1) := by decide +kernel
theorem dL_law_635 : decode cL_law 635 = .ok (.aload_n 0, 1) := by decide +kernel
theorem dL_law_636 : decode cL_law 636 = .ok (.iload_n 3, 1) := by decide +kernel
theorem dL_law_637 : decode cL_law 637 = .ok (.iconst 1, 1) := by decide +kernel
theorem dL_law_638 : decode cL_law 638 = .ok (.iadd, 1) := by decide +kernel
theorem dL_law_639 : decode cL_law 639 = .ok (.iaload, 1) := by decide +kernel
theorem dL_law_640 : decode cL_law 640 = .ok (.invokevirtual 97, 3) := by decide +kernel
theorem dL_law_643 : decode cL_law 643 = .ok (.if_icmp .eq 19, 3) := by decide +kernel
theorem dL_law_646 : decode cL_law 646 = .ok (.iconst 0, 1) := by decide +kernel
theorem dL_law_647 : decode cL_law 647 = .ok (.ireturn, 1) := by decide +kernel
theorem dL_law_648 : decode cL_law 648 = .ok (.aload_n 1, 1) := by decide +kernel
theorem dL_law_649 : decode cL_law 649 = .ok (.invokevirtual 98, 3) := by decide +kernel
theorem dL_law_652 : decode cL_law 652 = .ok (.aload_n 2, 1) := by decide +kernel
theorem dL_law_653 : decode cL_law 653 = .ok (.invokevirtual 102, 3) := by decide +kernel
theorem dL_law_656 : decode cL_law 656 = .ok (.lcmp, 1) := by decide +kernel
theorem dL_law_657 : decode cL_law 657 = .ok (.ifCond .eq 5, 3) := by decide +kernel
theorem dL_law_660 : decode cL_law 660 = .ok (.iconst 0, 1) := by decide +kernel
theorem dL_law_661 : decode cL_law 661 = .ok (.ireturn, 1) := by decide +kernel
theorem dL_law_662 : decode cL_law 662 = .ok (.iinc 3 4, 3) := by decide +kernel
theorem dL_law_665 : decode cL_law 665 = .ok (.goto (-647), 3) := by decide +kernel
theorem dL_law_668 : decode cL_law 668 = .ok (.iconst 1, 1) := by decide +kernel
theorem dL_law_669 : decode cL_law 669 = .ok (.ireturn, 1) := by decide +kernel
end
