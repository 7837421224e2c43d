section
-- ===== PART A: goes FIRST, ahead of the names: the tables' words, and 'selects' of the private methods out of them =====
/-- a private method of a class that the tables say can be made, by its rows of tables_1 -/
def lw_okq (q : MethodName × Nat) : Prop := (q.1.cls ≠ "java/lang/invoke/MethodHandle" ∧ q.1.cls ≠ "java/lang/invoke/VarHandle") ∧ Cond.instantiable q.1.cls q.2 ∈ tables_1 ∧ Cond.privateMethod q.1 ∈ tables_1 ∧ Cond.instanceMethod q.1 ∈ tables_1
theorem lw_p0 : lw_okq (⟨"MossRings", "putBytes", "(I)V"⟩, 14) := ⟨⟨by decide +kernel, by decide +kernel⟩, List.mem_of_getElem? (i := 17) (by decide +kernel), List.mem_of_getElem? (i := 125) (by decide +kernel), List.mem_of_getElem? (i := 126) (by decide +kernel)⟩
theorem lw_p1 : lw_okq (⟨"MossRings", "takeTape", "()I"⟩, 14) := ⟨⟨by decide +kernel, by decide +kernel⟩, List.mem_of_getElem? (i := 17) (by decide +kernel), List.mem_of_getElem? (i := 137) (by decide +kernel), List.mem_of_getElem? (i := 138) (by decide +kernel)⟩
theorem lw_p2 : lw_okq (⟨"MossRings", "areStates", "(II)Z"⟩, 14) := ⟨⟨by decide +kernel, by decide +kernel⟩, List.mem_of_getElem? (i := 17) (by decide +kernel), List.mem_of_getElem? (i := 152) (by decide +kernel), List.mem_of_getElem? (i := 153) (by decide +kernel)⟩
theorem lw_p3 : lw_okq (⟨"MossRings", "ruleIn", "(I)LMossRings$Rule;"⟩, 14) := ⟨⟨by decide +kernel, by decide +kernel⟩, List.mem_of_getElem? (i := 17) (by decide +kernel), List.mem_of_getElem? (i := 214) (by decide +kernel), List.mem_of_getElem? (i := 215) (by decide +kernel)⟩
theorem lw_p4 : lw_okq (⟨"MossRings$Sets", "learn", "(LMossRings$Rule;)V"⟩, 5) := ⟨⟨by decide +kernel, by decide +kernel⟩, List.mem_of_getElem? (i := 45) (by decide +kernel), List.mem_of_getElem? (i := 222) (by decide +kernel), List.mem_of_getElem? (i := 223) (by decide +kernel)⟩
theorem lw_p5 : lw_okq (⟨"MossRings$Sets", "follow", "(LMossRings$Rule;II)I"⟩, 5) := ⟨⟨by decide +kernel, by decide +kernel⟩, List.mem_of_getElem? (i := 45) (by decide +kernel), List.mem_of_getElem? (i := 233) (by decide +kernel), List.mem_of_getElem? (i := 234) (by decide +kernel)⟩
theorem lw_p6 : lw_okq (⟨"MossRings$Pairs", "begin", "(LMossRings$Rule;)V"⟩, 1) := ⟨⟨by decide +kernel, by decide +kernel⟩, List.mem_of_getElem? (i := 67) (by decide +kernel), List.mem_of_getElem? (i := 241) (by decide +kernel), List.mem_of_getElem? (i := 242) (by decide +kernel)⟩
theorem lw_p7 : lw_okq (⟨"MossRings$Pairs", "setLife", "(IIZ)V"⟩, 1) := ⟨⟨by decide +kernel, by decide +kernel⟩, List.mem_of_getElem? (i := 67) (by decide +kernel), List.mem_of_getElem? (i := 246) (by decide +kernel), List.mem_of_getElem? (i := 247) (by decide +kernel)⟩
theorem lw_p8 : lw_okq (⟨"MossRings$Pairs", "prune", "(LMossRings$Rule;)Z"⟩, 1) := ⟨⟨by decide +kernel, by decide +kernel⟩, List.mem_of_getElem? (i := 67) (by decide +kernel), List.mem_of_getElem? (i := 250) (by decide +kernel), List.mem_of_getElem? (i := 251) (by decide +kernel)⟩
theorem lw_p9 : lw_okq (⟨"MossRings$Pairs", "lives", "(II)Z"⟩, 1) := ⟨⟨by decide +kernel, by decide +kernel⟩, List.mem_of_getElem? (i := 67) (by decide +kernel), List.mem_of_getElem? (i := 254) (by decide +kernel), List.mem_of_getElem? (i := 255) (by decide +kernel)⟩
theorem lw_p10 : lw_okq (⟨"MossRings$Pairs", "goesOn", "(LMossRings$Rule;II)Z"⟩, 1) := ⟨⟨by decide +kernel, by decide +kernel⟩, List.mem_of_getElem? (i := 67) (by decide +kernel), List.mem_of_getElem? (i := 258) (by decide +kernel), List.mem_of_getElem? (i := 259) (by decide +kernel)⟩
theorem lw_p11 : lw_okq (⟨"MossRings$Pairs", "comesFrom", "(LMossRings$Rule;II)Z"⟩, 1) := ⟨⟨by decide +kernel, by decide +kernel⟩, List.mem_of_getElem? (i := 67) (by decide +kernel), List.mem_of_getElem? (i := 262) (by decide +kernel), List.mem_of_getElem? (i := 263) (by decide +kernel)⟩
theorem lw_p12 : lw_okq (⟨"MossRings", "areFewStates", "(II)Z"⟩, 14) := ⟨⟨by decide +kernel, by decide +kernel⟩, List.mem_of_getElem? (i := 17) (by decide +kernel), List.mem_of_getElem? (i := 289) (by decide +kernel), List.mem_of_getElem? (i := 290) (by decide +kernel)⟩
theorem lw_p13 : lw_okq (⟨"MossRings$Walks", "weigh", "([III)V"⟩, 3) := ⟨⟨by decide +kernel, by decide +kernel⟩, List.mem_of_getElem? (i := 27) (by decide +kernel), List.mem_of_getElem? (i := 298) (by decide +kernel), List.mem_of_getElem? (i := 299) (by decide +kernel)⟩
theorem lw_p14 : lw_okq (⟨"MossRings$Walks", "putWays", "(IIJ)V"⟩, 3) := ⟨⟨by decide +kernel, by decide +kernel⟩, List.mem_of_getElem? (i := 27) (by decide +kernel), List.mem_of_getElem? (i := 302) (by decide +kernel), List.mem_of_getElem? (i := 303) (by decide +kernel)⟩
theorem lw_p15 : lw_okq (⟨"MossRings$Walks", "waysOver", "(III)J"⟩, 3) := ⟨⟨by decide +kernel, by decide +kernel⟩, List.mem_of_getElem? (i := 27) (by decide +kernel), List.mem_of_getElem? (i := 307) (by decide +kernel), List.mem_of_getElem? (i := 308) (by decide +kernel)⟩
def lw_privs_1 : List (MethodName × Nat) := [(⟨"MossRings", "putBytes", "(I)V"⟩, 14), (⟨"MossRings", "takeTape", "()I"⟩, 14), (⟨"MossRings", "areStates", "(II)Z"⟩, 14), (⟨"MossRings", "ruleIn", "(I)LMossRings$Rule;"⟩, 14), (⟨"MossRings$Sets", "learn", "(LMossRings$Rule;)V"⟩, 5), (⟨"MossRings$Sets", "follow", "(LMossRings$Rule;II)I"⟩, 5), (⟨"MossRings$Pairs", "begin", "(LMossRings$Rule;)V"⟩, 1), (⟨"MossRings$Pairs", "setLife", "(IIZ)V"⟩, 1), (⟨"MossRings$Pairs", "prune", "(LMossRings$Rule;)Z"⟩, 1), (⟨"MossRings$Pairs", "lives", "(II)Z"⟩, 1), (⟨"MossRings$Pairs", "goesOn", "(LMossRings$Rule;II)Z"⟩, 1), (⟨"MossRings$Pairs", "comesFrom", "(LMossRings$Rule;II)Z"⟩, 1), (⟨"MossRings", "areFewStates", "(II)Z"⟩, 14), (⟨"MossRings$Walks", "weigh", "([III)V"⟩, 3), (⟨"MossRings$Walks", "putWays", "(IIJ)V"⟩, 3), (⟨"MossRings$Walks", "waysOver", "(III)J"⟩, 3)]
theorem lw_r1 : ∀ q ∈ lw_privs_1, lw_okq q := List.forall_mem_cons.mpr ⟨lw_p0, List.forall_mem_cons.mpr ⟨lw_p1, List.forall_mem_cons.mpr ⟨lw_p2, List.forall_mem_cons.mpr ⟨lw_p3, List.forall_mem_cons.mpr ⟨lw_p4, List.forall_mem_cons.mpr ⟨lw_p5, List.forall_mem_cons.mpr ⟨lw_p6, List.forall_mem_cons.mpr ⟨lw_p7, List.forall_mem_cons.mpr ⟨lw_p8, List.forall_mem_cons.mpr ⟨lw_p9, List.forall_mem_cons.mpr ⟨lw_p10, List.forall_mem_cons.mpr ⟨lw_p11, List.forall_mem_cons.mpr ⟨lw_p12, List.forall_mem_cons.mpr ⟨lw_p13, List.forall_mem_cons.mpr ⟨lw_p14, List.forall_mem_cons.mpr ⟨lw_p15, fun _ h => absurd h List.not_mem_nil⟩⟩⟩⟩⟩⟩⟩⟩⟩⟩⟩⟩⟩⟩⟩⟩
theorem lw_p16 : lw_okq (⟨"MossRings$Walks", "waysFrom", "(II)J"⟩, 3) := ⟨⟨by decide +kernel, by decide +kernel⟩, List.mem_of_getElem? (i := 27) (by decide +kernel), List.mem_of_getElem? (i := 312) (by decide +kernel), List.mem_of_getElem? (i := 313) (by decide +kernel)⟩
theorem lw_p17 : lw_okq (⟨"MossRings$Walks", "firstCell", "(III)I"⟩, 3) := ⟨⟨by decide +kernel, by decide +kernel⟩, List.mem_of_getElem? (i := 27) (by decide +kernel), List.mem_of_getElem? (i := 325) (by decide +kernel), List.mem_of_getElem? (i := 326) (by decide +kernel)⟩
theorem lw_p18 : lw_okq (⟨"MossRings$Sets", "before", "(I)I"⟩, 5) := ⟨⟨by decide +kernel, by decide +kernel⟩, List.mem_of_getElem? (i := 45) (by decide +kernel), List.mem_of_getElem? (i := 345) (by decide +kernel), List.mem_of_getElem? (i := 346) (by decide +kernel)⟩
theorem lw_p19 : lw_okq (⟨"MossRings", "turnsBack", "(LMossRings$Rule;II)Z"⟩, 14) := ⟨⟨by decide +kernel, by decide +kernel⟩, List.mem_of_getElem? (i := 17) (by decide +kernel), List.mem_of_getElem? (i := 354) (by decide +kernel), List.mem_of_getElem? (i := 355) (by decide +kernel)⟩
theorem lw_p20 : lw_okq (⟨"MossRings$Trail", "begin", "(LMossRings$Rule;[II)V"⟩, 4) := ⟨⟨by decide +kernel, by decide +kernel⟩, List.mem_of_getElem? (i := 364) (by decide +kernel), List.mem_of_getElem? (i := 388) (by decide +kernel), List.mem_of_getElem? (i := 389) (by decide +kernel)⟩
theorem lw_p21 : lw_okq (⟨"MossRings$Trail", "lengthAt", "(I)I"⟩, 4) := ⟨⟨by decide +kernel, by decide +kernel⟩, List.mem_of_getElem? (i := 364) (by decide +kernel), List.mem_of_getElem? (i := 395) (by decide +kernel), List.mem_of_getElem? (i := 396) (by decide +kernel)⟩
theorem lw_p22 : lw_okq (⟨"MossRings$Trail", "heightBefore", "(II)I"⟩, 4) := ⟨⟨by decide +kernel, by decide +kernel⟩, List.mem_of_getElem? (i := 364) (by decide +kernel), List.mem_of_getElem? (i := 399) (by decide +kernel), List.mem_of_getElem? (i := 400) (by decide +kernel)⟩
theorem lw_p23 : lw_okq (⟨"MossRings$Survey", "lead", "(I)V"⟩, 13) := ⟨⟨by decide +kernel, by decide +kernel⟩, List.mem_of_getElem? (i := 414) (by decide +kernel), List.mem_of_getElem? (i := 464) (by decide +kernel), List.mem_of_getElem? (i := 465) (by decide +kernel)⟩
theorem lw_p24 : lw_okq (⟨"MossRings$Survey", "peel", "(I)I"⟩, 13) := ⟨⟨by decide +kernel, by decide +kernel⟩, List.mem_of_getElem? (i := 414) (by decide +kernel), List.mem_of_getElem? (i := 471) (by decide +kernel), List.mem_of_getElem? (i := 472) (by decide +kernel)⟩
theorem lw_p25 : lw_okq (⟨"MossRings$Survey", "goRound", "(I)V"⟩, 13) := ⟨⟨by decide +kernel, by decide +kernel⟩, List.mem_of_getElem? (i := 414) (by decide +kernel), List.mem_of_getElem? (i := 475) (by decide +kernel), List.mem_of_getElem? (i := 476) (by decide +kernel)⟩
theorem lw_p26 : lw_okq (⟨"MossRings$Survey", "climb", "(I)V"⟩, 13) := ⟨⟨by decide +kernel, by decide +kernel⟩, List.mem_of_getElem? (i := 414) (by decide +kernel), List.mem_of_getElem? (i := 480) (by decide +kernel), List.mem_of_getElem? (i := 481) (by decide +kernel)⟩
theorem lw_p27 : lw_okq (⟨"MossRings$Rule", "level", "(I[I)I"⟩, 5) := ⟨⟨by decide +kernel, by decide +kernel⟩, List.mem_of_getElem? (i := 155) (by decide +kernel), List.mem_of_getElem? (i := 496) (by decide +kernel), List.mem_of_getElem? (i := 497) (by decide +kernel)⟩
theorem lw_p28 : lw_okq (⟨"MossRings$Rule", "gain", "(I[I)I"⟩, 5) := ⟨⟨by decide +kernel, by decide +kernel⟩, List.mem_of_getElem? (i := 155) (by decide +kernel), List.mem_of_getElem? (i := 500) (by decide +kernel), List.mem_of_getElem? (i := 501) (by decide +kernel)⟩
theorem lw_p29 : lw_okq (⟨"MossRings", "isEachOnce", "(I)Z"⟩, 14) := ⟨⟨by decide +kernel, by decide +kernel⟩, List.mem_of_getElem? (i := 17) (by decide +kernel), List.mem_of_getElem? (i := 520) (by decide +kernel), List.mem_of_getElem? (i := 521) (by decide +kernel)⟩
theorem lw_p30 : lw_okq (⟨"MossRings", "placeOnTape", "(II)I"⟩, 14) := ⟨⟨by decide +kernel, by decide +kernel⟩, List.mem_of_getElem? (i := 17) (by decide +kernel), List.mem_of_getElem? (i := 528) (by decide +kernel), List.mem_of_getElem? (i := 529) (by decide +kernel)⟩
theorem lw_p31 : lw_okq (⟨"MossRings", "fullSlots", "()I"⟩, 14) := ⟨⟨by decide +kernel, by decide +kernel⟩, List.mem_of_getElem? (i := 17) (by decide +kernel), List.mem_of_getElem? (i := 558) (by decide +kernel), List.mem_of_getElem? (i := 559) (by decide +kernel)⟩
def lw_privs_2 : List (MethodName × Nat) := [(⟨"MossRings$Walks", "waysFrom", "(II)J"⟩, 3), (⟨"MossRings$Walks", "firstCell", "(III)I"⟩, 3), (⟨"MossRings$Sets", "before", "(I)I"⟩, 5), (⟨"MossRings", "turnsBack", "(LMossRings$Rule;II)Z"⟩, 14), (⟨"MossRings$Trail", "begin", "(LMossRings$Rule;[II)V"⟩, 4), (⟨"MossRings$Trail", "lengthAt", "(I)I"⟩, 4), (⟨"MossRings$Trail", "heightBefore", "(II)I"⟩, 4), (⟨"MossRings$Survey", "lead", "(I)V"⟩, 13), (⟨"MossRings$Survey", "peel", "(I)I"⟩, 13), (⟨"MossRings$Survey", "goRound", "(I)V"⟩, 13), (⟨"MossRings$Survey", "climb", "(I)V"⟩, 13), (⟨"MossRings$Rule", "level", "(I[I)I"⟩, 5), (⟨"MossRings$Rule", "gain", "(I[I)I"⟩, 5), (⟨"MossRings", "isEachOnce", "(I)Z"⟩, 14), (⟨"MossRings", "placeOnTape", "(II)I"⟩, 14), (⟨"MossRings", "fullSlots", "()I"⟩, 14)]
theorem lw_r2 : ∀ q ∈ lw_privs_2, lw_okq q := List.forall_mem_cons.mpr ⟨lw_p16, List.forall_mem_cons.mpr ⟨lw_p17, List.forall_mem_cons.mpr ⟨lw_p18, List.forall_mem_cons.mpr ⟨lw_p19, List.forall_mem_cons.mpr ⟨lw_p20, List.forall_mem_cons.mpr ⟨lw_p21, List.forall_mem_cons.mpr ⟨lw_p22, List.forall_mem_cons.mpr ⟨lw_p23, List.forall_mem_cons.mpr ⟨lw_p24, List.forall_mem_cons.mpr ⟨lw_p25, List.forall_mem_cons.mpr ⟨lw_p26, List.forall_mem_cons.mpr ⟨lw_p27, List.forall_mem_cons.mpr ⟨lw_p28, List.forall_mem_cons.mpr ⟨lw_p29, List.forall_mem_cons.mpr ⟨lw_p30, List.forall_mem_cons.mpr ⟨lw_p31, fun _ h => absurd h List.not_mem_nil⟩⟩⟩⟩⟩⟩⟩⟩⟩⟩⟩⟩⟩⟩⟩⟩
theorem lw_p32 : lw_okq (⟨"java/lang/Throwable", "fillInStackTrace", "(I)Ljava/lang/Throwable;"⟩, 6) := ⟨⟨by decide +kernel, by decide +kernel⟩, List.mem_of_getElem? (i := 606) (by decide +kernel), List.mem_of_getElem? (i := 604) (by decide +kernel), List.mem_of_getElem? (i := 605) (by decide +kernel)⟩
theorem lw_p33 : lw_okq (⟨"MossRingsModel", "four", "(I)V"⟩, 27) := ⟨⟨by decide +kernel, by decide +kernel⟩, List.mem_of_getElem? (i := 636) (by decide +kernel), List.mem_of_getElem? (i := 733) (by decide +kernel), List.mem_of_getElem? (i := 734) (by decide +kernel)⟩
theorem lw_p34 : lw_okq (⟨"MossRingsModel", "taken", "()V"⟩, 27) := ⟨⟨by decide +kernel, by decide +kernel⟩, List.mem_of_getElem? (i := 636) (by decide +kernel), List.mem_of_getElem? (i := 745) (by decide +kernel), List.mem_of_getElem? (i := 746) (by decide +kernel)⟩
theorem lw_p35 : lw_okq (⟨"MossRingsModel", "lay", "(III)V"⟩, 27) := ⟨⟨by decide +kernel, by decide +kernel⟩, List.mem_of_getElem? (i := 636) (by decide +kernel), List.mem_of_getElem? (i := 758) (by decide +kernel), List.mem_of_getElem? (i := 759) (by decide +kernel)⟩
theorem lw_p36 : lw_okq (⟨"MossRingsModel", "throwsIf", "(Z)Z"⟩, 27) := ⟨⟨by decide +kernel, by decide +kernel⟩, List.mem_of_getElem? (i := 636) (by decide +kernel), List.mem_of_getElem? (i := 766) (by decide +kernel), List.mem_of_getElem? (i := 767) (by decide +kernel)⟩
theorem lw_p37 : lw_okq (⟨"MossRingsModel", "has", "(I)Z"⟩, 27) := ⟨⟨by decide +kernel, by decide +kernel⟩, List.mem_of_getElem? (i := 636) (by decide +kernel), List.mem_of_getElem? (i := 774) (by decide +kernel), List.mem_of_getElem? (i := 775) (by decide +kernel)⟩
theorem lw_p38 : lw_okq (⟨"MossRingsModel", "tells", "(II)I"⟩, 27) := ⟨⟨by decide +kernel, by decide +kernel⟩, List.mem_of_getElem? (i := 636) (by decide +kernel), List.mem_of_getElem? (i := 778) (by decide +kernel), List.mem_of_getElem? (i := 779) (by decide +kernel)⟩
theorem lw_p39 : lw_okq (⟨"MossRingsModel", "areStates", "(III)Z"⟩, 27) := ⟨⟨by decide +kernel, by decide +kernel⟩, List.mem_of_getElem? (i := 636) (by decide +kernel), List.mem_of_getElem? (i := 786) (by decide +kernel), List.mem_of_getElem? (i := 787) (by decide +kernel)⟩
theorem lw_p40 : lw_okq (⟨"MossRingsModel", "takeCells", "()V"⟩, 27) := ⟨⟨by decide +kernel, by decide +kernel⟩, List.mem_of_getElem? (i := 636) (by decide +kernel), List.mem_of_getElem? (i := 790) (by decide +kernel), List.mem_of_getElem? (i := 791) (by decide +kernel)⟩
theorem lw_p41 : lw_okq (⟨"MossRingsModel", "leadsTo", "(III)I"⟩, 27) := ⟨⟨by decide +kernel, by decide +kernel⟩, List.mem_of_getElem? (i := 636) (by decide +kernel), List.mem_of_getElem? (i := 794) (by decide +kernel), List.mem_of_getElem? (i := 795) (by decide +kernel)⟩
theorem lw_p42 : lw_okq (⟨"MossRingsModel", "step", "(II)V"⟩, 27) := ⟨⟨by decide +kernel, by decide +kernel⟩, List.mem_of_getElem? (i := 636) (by decide +kernel), List.mem_of_getElem? (i := 802) (by decide +kernel), List.mem_of_getElem? (i := 803) (by decide +kernel)⟩
theorem lw_p43 : lw_okq (⟨"MossRingsModel", "count", "(II)V"⟩, 27) := ⟨⟨by decide +kernel, by decide +kernel⟩, List.mem_of_getElem? (i := 636) (by decide +kernel), List.mem_of_getElem? (i := 811) (by decide +kernel), List.mem_of_getElem? (i := 812) (by decide +kernel)⟩
theorem lw_p44 : lw_okq (⟨"MossRingsModel", "overlaps", "(I)I"⟩, 27) := ⟨⟨by decide +kernel, by decide +kernel⟩, List.mem_of_getElem? (i := 636) (by decide +kernel), List.mem_of_getElem? (i := 815) (by decide +kernel), List.mem_of_getElem? (i := 816) (by decide +kernel)⟩
theorem lw_p45 : lw_okq (⟨"MossRingsModel", "then", "(III)I"⟩, 27) := ⟨⟨by decide +kernel, by decide +kernel⟩, List.mem_of_getElem? (i := 636) (by decide +kernel), List.mem_of_getElem? (i := 819) (by decide +kernel), List.mem_of_getElem? (i := 820) (by decide +kernel)⟩
theorem lw_p46 : lw_okq (⟨"MossRingsModel", "first", "(II)V"⟩, 27) := ⟨⟨by decide +kernel, by decide +kernel⟩, List.mem_of_getElem? (i := 636) (by decide +kernel), List.mem_of_getElem? (i := 823) (by decide +kernel), List.mem_of_getElem? (i := 824) (by decide +kernel)⟩
theorem lw_p47 : lw_okq (⟨"MossRingsModel", "isFull", "(I)Z"⟩, 27) := ⟨⟨by decide +kernel, by decide +kernel⟩, List.mem_of_getElem? (i := 636) (by decide +kernel), List.mem_of_getElem? (i := 835) (by decide +kernel), List.mem_of_getElem? (i := 836) (by decide +kernel)⟩
def lw_privs_3 : List (MethodName × Nat) := [(⟨"java/lang/Throwable", "fillInStackTrace", "(I)Ljava/lang/Throwable;"⟩, 6), (⟨"MossRingsModel", "four", "(I)V"⟩, 27), (⟨"MossRingsModel", "taken", "()V"⟩, 27), (⟨"MossRingsModel", "lay", "(III)V"⟩, 27), (⟨"MossRingsModel", "throwsIf", "(Z)Z"⟩, 27), (⟨"MossRingsModel", "has", "(I)Z"⟩, 27), (⟨"MossRingsModel", "tells", "(II)I"⟩, 27), (⟨"MossRingsModel", "areStates", "(III)Z"⟩, 27), (⟨"MossRingsModel", "takeCells", "()V"⟩, 27), (⟨"MossRingsModel", "leadsTo", "(III)I"⟩, 27), (⟨"MossRingsModel", "step", "(II)V"⟩, 27), (⟨"MossRingsModel", "count", "(II)V"⟩, 27), (⟨"MossRingsModel", "overlaps", "(I)I"⟩, 27), (⟨"MossRingsModel", "then", "(III)I"⟩, 27), (⟨"MossRingsModel", "first", "(II)V"⟩, 27), (⟨"MossRingsModel", "isFull", "(I)Z"⟩, 27)]
theorem lw_r3 : ∀ q ∈ lw_privs_3, lw_okq q := List.forall_mem_cons.mpr ⟨lw_p32, List.forall_mem_cons.mpr ⟨lw_p33, List.forall_mem_cons.mpr ⟨lw_p34, List.forall_mem_cons.mpr ⟨lw_p35, List.forall_mem_cons.mpr ⟨lw_p36, List.forall_mem_cons.mpr ⟨lw_p37, List.forall_mem_cons.mpr ⟨lw_p38, List.forall_mem_cons.mpr ⟨lw_p39, List.forall_mem_cons.mpr ⟨lw_p40, List.forall_mem_cons.mpr ⟨lw_p41, List.forall_mem_cons.mpr ⟨lw_p42, List.forall_mem_cons.mpr ⟨lw_p43, List.forall_mem_cons.mpr ⟨lw_p44, List.forall_mem_cons.mpr ⟨lw_p45, List.forall_mem_cons.mpr ⟨lw_p46, List.forall_mem_cons.mpr ⟨lw_p47, fun _ h => absurd h List.not_mem_nil⟩⟩⟩⟩⟩⟩⟩⟩⟩⟩⟩⟩⟩⟩⟩⟩
theorem lw_p48 : lw_okq (⟨"MossRingsModel", "isEven", "(I)Z"⟩, 27) := ⟨⟨by decide +kernel, by decide +kernel⟩, List.mem_of_getElem? (i := 636) (by decide +kernel), List.mem_of_getElem? (i := 839) (by decide +kernel), List.mem_of_getElem? (i := 840) (by decide +kernel)⟩
theorem lw_p49 : lw_okq (⟨"MossRingsModel", "parts", "(I)Z"⟩, 27) := ⟨⟨by decide +kernel, by decide +kernel⟩, List.mem_of_getElem? (i := 636) (by decide +kernel), List.mem_of_getElem? (i := 843) (by decide +kernel), List.mem_of_getElem? (i := 844) (by decide +kernel)⟩
theorem lw_p50 : lw_okq (⟨"MossRingsModel", "isOne", "(II)Z"⟩, 27) := ⟨⟨by decide +kernel, by decide +kernel⟩, List.mem_of_getElem? (i := 636) (by decide +kernel), List.mem_of_getElem? (i := 847) (by decide +kernel), List.mem_of_getElem? (i := 848) (by decide +kernel)⟩
theorem lw_p51 : lw_okq (⟨"MossRingsModel", "leads", "(III)Z"⟩, 27) := ⟨⟨by decide +kernel, by decide +kernel⟩, List.mem_of_getElem? (i := 636) (by decide +kernel), List.mem_of_getElem? (i := 851) (by decide +kernel), List.mem_of_getElem? (i := 852) (by decide +kernel)⟩
theorem lw_p52 : lw_okq (⟨"MossRingsModel", "losesNothing", "(I)Z"⟩, 27) := ⟨⟨by decide +kernel, by decide +kernel⟩, List.mem_of_getElem? (i := 636) (by decide +kernel), List.mem_of_getElem? (i := 855) (by decide +kernel), List.mem_of_getElem? (i := 856) (by decide +kernel)⟩
theorem lw_p53 : lw_okq (⟨"MossRingsModel", "tellLine", "(I)I"⟩, 27) := ⟨⟨by decide +kernel, by decide +kernel⟩, List.mem_of_getElem? (i := 636) (by decide +kernel), List.mem_of_getElem? (i := 863) (by decide +kernel), List.mem_of_getElem? (i := 864) (by decide +kernel)⟩
theorem lw_p54 : lw_okq (⟨"MossRingsModel", "turns", "(III)Z"⟩, 27) := ⟨⟨by decide +kernel, by decide +kernel⟩, List.mem_of_getElem? (i := 636) (by decide +kernel), List.mem_of_getElem? (i := 871) (by decide +kernel), List.mem_of_getElem? (i := 872) (by decide +kernel)⟩
theorem lw_p55 : lw_okq (⟨"MossRingsModel", "codeOf", "(II)J"⟩, 27) := ⟨⟨by decide +kernel, by decide +kernel⟩, List.mem_of_getElem? (i := 636) (by decide +kernel), List.mem_of_getElem? (i := 879) (by decide +kernel), List.mem_of_getElem? (i := 880) (by decide +kernel)⟩
theorem lw_p56 : lw_okq (⟨"MossRingsModel", "gain", "(II)I"⟩, 27) := ⟨⟨by decide +kernel, by decide +kernel⟩, List.mem_of_getElem? (i := 636) (by decide +kernel), List.mem_of_getElem? (i := 897) (by decide +kernel), List.mem_of_getElem? (i := 898) (by decide +kernel)⟩
theorem lw_p57 : lw_okq (⟨"MossRingsModel", "isIdle", "(IIZ)Z"⟩, 27) := ⟨⟨by decide +kernel, by decide +kernel⟩, List.mem_of_getElem? (i := 636) (by decide +kernel), List.mem_of_getElem? (i := 917) (by decide +kernel), List.mem_of_getElem? (i := 918) (by decide +kernel)⟩
def lw_privs_4 : List (MethodName × Nat) := [(⟨"MossRingsModel", "isEven", "(I)Z"⟩, 27), (⟨"MossRingsModel", "parts", "(I)Z"⟩, 27), (⟨"MossRingsModel", "isOne", "(II)Z"⟩, 27), (⟨"MossRingsModel", "leads", "(III)Z"⟩, 27), (⟨"MossRingsModel", "losesNothing", "(I)Z"⟩, 27), (⟨"MossRingsModel", "tellLine", "(I)I"⟩, 27), (⟨"MossRingsModel", "turns", "(III)Z"⟩, 27), (⟨"MossRingsModel", "codeOf", "(II)J"⟩, 27), (⟨"MossRingsModel", "gain", "(II)I"⟩, 27), (⟨"MossRingsModel", "isIdle", "(IIZ)Z"⟩, 27)]
theorem lw_r4 : ∀ q ∈ lw_privs_4, lw_okq q := List.forall_mem_cons.mpr ⟨lw_p48, List.forall_mem_cons.mpr ⟨lw_p49, List.forall_mem_cons.mpr ⟨lw_p50, List.forall_mem_cons.mpr ⟨lw_p51, List.forall_mem_cons.mpr ⟨lw_p52, List.forall_mem_cons.mpr ⟨lw_p53, List.forall_mem_cons.mpr ⟨lw_p54, List.forall_mem_cons.mpr ⟨lw_p55, List.forall_mem_cons.mpr ⟨lw_p56, List.forall_mem_cons.mpr ⟨lw_p57, fun _ h => absurd h List.not_mem_nil⟩⟩⟩⟩⟩⟩⟩⟩⟩⟩
def lw_privs : List (MethodName × Nat) := lw_privs_1 ++ (lw_privs_2 ++ (lw_privs_3 ++ (lw_privs_4)))
def lw_tbl : List Cond := k2_sels lw_privs ++ tables_1
theorem lw_privs_ok : ∀ q ∈ lw_privs, lw_okq q := by
  show ∀ q ∈ lw_privs_1 ++ (lw_privs_2 ++ (lw_privs_3 ++ (lw_privs_4))), lw_okq q
  exact List.forall_mem_append.mpr ⟨lw_r1, List.forall_mem_append.mpr ⟨lw_r2, List.forall_mem_append.mpr ⟨lw_r3, lw_r4⟩⟩⟩
end
section
/-! ===== BEGIN words of one list among another's, by their places ===== -/
theorem goodIn_r {big : List Cond} (ws : List Cond) (ps : List Nat) (hp : ws = ps.filterMap (fun i => big[i]?)) (h : ws.all goodWord = true) : GoodIn big ws := by
  intro w hw
  have h1 := List.all_eq_true.mp h w hw
  rw [hp] at hw
  obtain ⟨i, -, hi⟩ := List.mem_filterMap.mp hw
  have hm : w ∈ big := by first | exact List.mem_of_getElem? hi | exact List.getElem?_mem hi
  exact ⟨hm, good_of_word h1⟩
theorem goodIn_app {big a b : List Cond} (ha : GoodIn big a) (hb : GoodIn big b) : GoodIn big (a ++ b) := fun w h => (List.mem_append.mp h).elim (ha w) (hb w)
theorem goodIn_ca {big a b : List Cond} {c : Cond} (ha : GoodIn big (c :: a)) (hb : GoodIn big b) : GoodIn big (c :: (a ++ b)) := fun w h => (List.mem_cons.mp h).elim (fun e => ha w (List.mem_cons.mpr (Or.inl e))) (fun h => (List.mem_append.mp h).elim (fun h => ha w (List.mem_cons.mpr (Or.inr h))) (hb w))
theorem goodIn_sub {big ws : List Cond} (hm : ∀ w ∈ ws, w ∈ big) (h : ws.all goodWord = true) : GoodIn big ws := fun w hw => ⟨hm w hw, good_of_word (List.all_eq_true.mp h w hw)⟩
/-! ===== END ===== -/
def RX0 : String := "MossRings$Pairs"
def TX0 : u_T := fun k => match k with
  | _ => ("MossRings$Pairs", "alive", "[Z", true)
def tyX0 : Nat → FieldType := fun k => match k with
  | _ => .array .boolean
abbrev wsX00 : List Cond := u_ws RX0 TX0 1
theorem nmX0 : ∀ a, a < 1 → ∀ b, b < 1 → a ≠ b → (TX0 a).2.1 ≠ (TX0 b).2.1 := by decide +kernel
theorem tyX0_ok : ∀ k, k < 1 → parseFieldDescriptor (TX0 k).2.2.1 = some (tyX0 k) := by decide +kernel
abbrev cX0_init : ByteArray := prog_2_method_1_code
def yX0_init : MethodName := ⟨RX0, "<init>", "()V"⟩
abbrev cX0_losesNothing : ByteArray := prog_2_method_2_code
def yX0_losesNothing : MethodName := ⟨RX0, "losesNothing", "(LMossRings$Rule;)Z"⟩
abbrev cX0_begin : ByteArray := prog_2_method_3_code
def yX0_begin : MethodName := ⟨RX0, "begin", "(LMossRings$Rule;)V"⟩
abbrev cX0_prune : ByteArray := prog_2_method_4_code
def yX0_prune : MethodName := ⟨RX0, "prune", "(LMossRings$Rule;)Z"⟩
abbrev cX0_goesOn : ByteArray := prog_2_method_5_code
def yX0_goesOn : MethodName := ⟨RX0, "goesOn", "(LMossRings$Rule;II)Z"⟩
abbrev cX0_comesFrom : ByteArray := prog_2_method_6_code
def yX0_comesFrom : MethodName := ⟨RX0, "comesFrom", "(LMossRings$Rule;II)Z"⟩
abbrev cX0_lives : ByteArray := prog_2_method_7_code
def yX0_lives : MethodName := ⟨RX0, "lives", "(II)Z"⟩
abbrev cX0_setLife : ByteArray := prog_2_method_8_code
def yX0_setLife : MethodName := ⟨RX0, "setLife", "(IIZ)V"⟩
def RX1 : String := "MossRings$Rule"
def TX1 : u_T := fun k => match k with
  | 0 => ("MossRings$Rule", "states", "I", true)
  | 1 => ("MossRings$Rule", "width", "I", true)
  | 2 => ("MossRings$Rule", "words", "I", true)
  | 3 => ("MossRings$Rule", "nodes", "I", true)
  | _ => ("MossRings$Rule", "told", "[I", true)
def tyX1 : Nat → FieldType := fun k => match k with
  | 0 => .int
  | 1 => .int
  | 2 => .int
  | 3 => .int
  | _ => .array .int
abbrev wsX10 : List Cond := u_ws RX1 TX1 5
theorem nmX1 : ∀ a, a < 5 → ∀ b, b < 5 → a ≠ b → (TX1 a).2.1 ≠ (TX1 b).2.1 := by decide +kernel
theorem tyX1_ok : ∀ k, k < 5 → parseFieldDescriptor (TX1 k).2.2.1 = some (tyX1 k) := by decide +kernel
abbrev cX1_init : ByteArray := prog_3_method_1_code
def yX1_init : MethodName := ⟨RX1, "<init>", "(II[I)V"⟩
abbrev cX1_tells : ByteArray := prog_3_method_2_code
def yX1_tells : MethodName := ⟨RX1, "tells", "(I)I"⟩
abbrev cX1_grow : ByteArray := prog_3_method_3_code
def yX1_grow : MethodName := ⟨RX1, "grow", "([III[I)J"⟩
abbrev cX1_spread : ByteArray := prog_3_method_4_code
def yX1_spread : MethodName := ⟨RX1, "spread", "(II[I)V"⟩
abbrev cX1_backward : ByteArray := prog_3_method_5_code
def yX1_backward : MethodName := ⟨RX1, "backward", "(I)I"⟩
abbrev cX1_translated : ByteArray := prog_3_method_6_code
def yX1_translated : MethodName := ⟨RX1, "translated", "(I[I)I"⟩
abbrev cX1_idlesAhead : ByteArray := prog_3_method_7_code
def yX1_idlesAhead : MethodName := ⟨RX1, "idlesAhead", "()Z"⟩
abbrev cX1_idlesBehind : ByteArray := prog_3_method_8_code
def yX1_idlesBehind : MethodName := ⟨RX1, "idlesBehind", "()Z"⟩
abbrev cX1_withoutAhead : ByteArray := prog_3_method_9_code
def yX1_withoutAhead : MethodName := ⟨RX1, "withoutAhead", "()LMossRings$Rule;"⟩
abbrev cX1_withoutBehind : ByteArray := prog_3_method_10_code
def yX1_withoutBehind : MethodName := ⟨RX1, "withoutBehind", "()LMossRings$Rule;"⟩
abbrev cX1_holds : ByteArray := prog_3_method_11_code
def yX1_holds : MethodName := ⟨RX1, "holds", "([I)Z"⟩
abbrev cX1_level : ByteArray := prog_3_method_12_code
def yX1_level : MethodName := ⟨RX1, "level", "(I[I)I"⟩
abbrev cX1_gain : ByteArray := prog_3_method_13_code
def yX1_gain : MethodName := ⟨RX1, "gain", "(I[I)I"⟩
def RX2 : String := "MossRings$Sets"
def TX2 : u_T := fun k => match k with
  | 0 => ("MossRings$Sets", "queue", "[I", true)
  | 1 => ("MossRings$Sets", "cameFrom", "[I", true)
  | 2 => ("MossRings$Sets", "cameBy", "[I", true)
  | 3 => ("MossRings$Sets", "reached", "[I", true)
  | _ => ("MossRings$Sets", "whole", "I", false)
def tyX2 : Nat → FieldType := fun k => match k with
  | 0 => .array .int
  | 1 => .array .int
  | 2 => .array .int
  | 3 => .array .int
  | _ => .int
abbrev wsX20 : List Cond := u_ws RX2 TX2 5
theorem nmX2 : ∀ a, a < 5 → ∀ b, b < 5 → a ≠ b → (TX2 a).2.1 ≠ (TX2 b).2.1 := by decide +kernel
theorem tyX2_ok : ∀ k, k < 5 → parseFieldDescriptor (TX2 k).2.2.1 = some (tyX2 k) := by decide +kernel
abbrev cX2_init : ByteArray := prog_4_method_1_code
def yX2_init : MethodName := ⟨RX2, "<init>", "()V"⟩
abbrev cX2_missesSome : ByteArray := prog_4_method_2_code
def yX2_missesSome : MethodName := ⟨RX2, "missesSome", "(LMossRings$Rule;)Z"⟩
abbrev cX2_writeMissed : ByteArray := prog_4_method_3_code
def yX2_writeMissed : MethodName := ⟨RX2, "writeMissed", "([I)I"⟩
abbrev cX2_before : ByteArray := prog_4_method_4_code
def yX2_before : MethodName := ⟨RX2, "before", "(I)I"⟩
abbrev cX2_learn : ByteArray := prog_4_method_5_code
def yX2_learn : MethodName := ⟨RX2, "learn", "(LMossRings$Rule;)V"⟩
abbrev cX2_follow : ByteArray := prog_4_method_6_code
def yX2_follow : MethodName := ⟨RX2, "follow", "(LMossRings$Rule;II)I"⟩
def RX3 : String := "MossRings$Survey"
def TX3 : u_T := fun k => match k with
  | 0 => ("MossRings$Survey", "next", "[I", true)
  | 1 => ("MossRings$Survey", "behind", "[I", true)
  | 2 => ("MossRings$Survey", "queue", "[I", true)
  | 3 => ("MossRings$Survey", "heights", "[I", true)
  | 4 => ("MossRings$Survey", "cells", "[I", true)
  | 5 => ("MossRings$Survey", "grown", "[I", true)
  | 6 => ("MossRings$Survey", "rule", "LMossRings$Rule;", false)
  | 7 => ("MossRings$Survey", "n", "I", false)
  | 8 => ("MossRings$Survey", "leaves", "I", false)
  | 9 => ("MossRings$Survey", "onRounds", "I", false)
  | 10 => ("MossRings$Survey", "rounds", "I", false)
  | 11 => ("MossRings$Survey", "greatestHeight", "I", false)
  | _ => ("MossRings$Survey", "greatestLength", "I", false)
def tyX3 : Nat → FieldType := fun k => match k with
  | 0 => .array .int
  | 1 => .array .int
  | 2 => .array .int
  | 3 => .array .int
  | 4 => .array .int
  | 5 => .array .int
  | 6 => .object "MossRings$Rule"
  | 7 => .int
  | 8 => .int
  | 9 => .int
  | 10 => .int
  | 11 => .int
  | _ => .int
abbrev wsX30 : List Cond := u_ws RX3 TX3 13
theorem nmX3 : ∀ a, a < 13 → ∀ b, b < 13 → a ≠ b → (TX3 a).2.1 ≠ (TX3 b).2.1 := by decide +kernel
theorem tyX3_ok : ∀ k, k < 13 → parseFieldDescriptor (TX3 k).2.2.1 = some (tyX3 k) := by decide +kernel
abbrev cX3_init : ByteArray := prog_5_method_1_code
def yX3_init : MethodName := ⟨RX3, "<init>", "()V"⟩
abbrev cX3_tell : ByteArray := prog_5_method_2_code
def yX3_tell : MethodName := ⟨RX3, "tell", "(I)I"⟩
abbrev cX3_look : ByteArray := prog_5_method_3_code
def yX3_look : MethodName := ⟨RX3, "look", "(LMossRings$Rule;II)V"⟩
abbrev cX3_lead : ByteArray := prog_5_method_4_code
def yX3_lead : MethodName := ⟨RX3, "lead", "(I)V"⟩
abbrev cX3_peel : ByteArray := prog_5_method_5_code
def yX3_peel : MethodName := ⟨RX3, "peel", "(I)I"⟩
abbrev cX3_goRound : ByteArray := prog_5_method_6_code
def yX3_goRound : MethodName := ⟨RX3, "goRound", "(I)V"⟩
abbrev cX3_climb : ByteArray := prog_5_method_7_code
def yX3_climb : MethodName := ⟨RX3, "climb", "(I)V"⟩
def RX4 : String := "MossRings$Trail"
def TX4 : u_T := fun k => match k with
  | 0 => ("MossRings$Trail", "codes", "[J", true)
  | 1 => ("MossRings$Trail", "here", "[I", false)
  | 2 => ("MossRings$Trail", "there", "[I", false)
  | _ => ("MossRings$Trail", "roundLength", "I", false)
def tyX4 : Nat → FieldType := fun k => match k with
  | 0 => .array .long
  | 1 => .array .int
  | 2 => .array .int
  | _ => .int
abbrev wsX40 : List Cond := u_ws RX4 TX4 4
theorem nmX4 : ∀ a, a < 4 → ∀ b, b < 4 → a ≠ b → (TX4 a).2.1 ≠ (TX4 b).2.1 := by decide +kernel
theorem tyX4_ok : ∀ k, k < 4 → parseFieldDescriptor (TX4 k).2.2.1 = some (tyX4 k) := by decide +kernel
abbrev cX4_init : ByteArray := prog_6_method_1_code
def yX4_init : MethodName := ⟨RX4, "<init>", "()V"⟩
abbrev cX4_climb : ByteArray := prog_6_method_2_code
def yX4_climb : MethodName := ⟨RX4, "climb", "(LMossRings$Rule;[II)I"⟩
abbrev cX4_begin : ByteArray := prog_6_method_3_code
def yX4_begin : MethodName := ⟨RX4, "begin", "(LMossRings$Rule;[II)V"⟩
abbrev cX4_lengthAt : ByteArray := prog_6_method_4_code
def yX4_lengthAt : MethodName := ⟨RX4, "lengthAt", "(I)I"⟩
abbrev cX4_heightBefore : ByteArray := prog_6_method_5_code
def yX4_heightBefore : MethodName := ⟨RX4, "heightBefore", "(II)I"⟩
def RX5 : String := "MossRings$Walks"
def TX5 : u_T := fun k => match k with
  | 0 => ("MossRings$Walks", "ways", "[J", true)
  | 1 => ("MossRings$Walks", "rule", "LMossRings$Rule;", false)
  | _ => ("MossRings$Walks", "start", "I", false)
def tyX5 : Nat → FieldType := fun k => match k with
  | 0 => .array .long
  | 1 => .object "MossRings$Rule"
  | _ => .int
abbrev wsX50 : List Cond := u_ws RX5 TX5 3
theorem nmX5 : ∀ a, a < 3 → ∀ b, b < 3 → a ≠ b → (TX5 a).2.1 ≠ (TX5 b).2.1 := by decide +kernel
theorem tyX5_ok : ∀ k, k < 3 → parseFieldDescriptor (TX5 k).2.2.1 = some (tyX5 k) := by decide +kernel
abbrev cX5_init : ByteArray := prog_7_method_1_code
def yX5_init : MethodName := ⟨RX5, "<init>", "()V"⟩
abbrev cX5_rowsBehind : ByteArray := prog_7_method_2_code
def yX5_rowsBehind : MethodName := ⟨RX5, "rowsBehind", "(LMossRings$Rule;[II)J"⟩
abbrev cX5_closedBehind : ByteArray := prog_7_method_3_code
def yX5_closedBehind : MethodName := ⟨RX5, "closedBehind", "(LMossRings$Rule;[II)J"⟩
abbrev cX5_writeFirst : ByteArray := prog_7_method_4_code
def yX5_writeFirst : MethodName := ⟨RX5, "writeFirst", "([II[I)I"⟩
abbrev cX5_firstCell : ByteArray := prog_7_method_5_code
def yX5_firstCell : MethodName := ⟨RX5, "firstCell", "(III)I"⟩
abbrev cX5_weigh : ByteArray := prog_7_method_6_code
def yX5_weigh : MethodName := ⟨RX5, "weigh", "([III)V"⟩
abbrev cX5_waysOver : ByteArray := prog_7_method_7_code
def yX5_waysOver : MethodName := ⟨RX5, "waysOver", "(III)J"⟩
abbrev cX5_waysFrom : ByteArray := prog_7_method_8_code
def yX5_waysFrom : MethodName := ⟨RX5, "waysFrom", "(II)J"⟩
abbrev cX5_putWays : ByteArray := prog_7_method_9_code
def yX5_putWays : MethodName := ⟨RX5, "putWays", "(IIJ)V"⟩
def RX6 : String := "MossRings"
def TX6 : u_T := fun k => match k with
  | 0 => ("MossRings", "slots", "[LMossRings$Rule;", true)
  | 1 => ("MossRings", "tape", "[I", true)
  | 2 => ("MossRings", "tapeLength", "I", false)
  | 3 => ("MossRings", "out", "[I", true)
  | 4 => ("MossRings", "outLength", "I", false)
  | 5 => ("MossRings", "roundLength", "I", false)
  | 6 => ("MossRings", "here", "[I", false)
  | 7 => ("MossRings", "there", "[I", false)
  | 8 => ("MossRings", "told", "[I", true)
  | 9 => ("MossRings", "walks", "LMossRings$Walks;", true)
  | 10 => ("MossRings", "sets", "LMossRings$Sets;", true)
  | 11 => ("MossRings", "pairs", "LMossRings$Pairs;", true)
  | 12 => ("MossRings", "trail", "LMossRings$Trail;", false)
  | _ => ("MossRings", "survey", "LMossRings$Survey;", false)
def tyX6 : Nat → FieldType := fun k => match k with
  | 0 => .array (.object "MossRings$Rule")
  | 1 => .array .int
  | 2 => .int
  | 3 => .array .int
  | 4 => .int
  | 5 => .int
  | 6 => .array .int
  | 7 => .array .int
  | 8 => .array .int
  | 9 => .object "MossRings$Walks"
  | 10 => .object "MossRings$Sets"
  | 11 => .object "MossRings$Pairs"
  | 12 => .object "MossRings$Trail"
  | _ => .object "MossRings$Survey"
abbrev wsX60 : List Cond := u_ws RX6 TX6 14
theorem nmX6 : ∀ a, a < 14 → ∀ b, b < 14 → a ≠ b → (TX6 a).2.1 ≠ (TX6 b).2.1 := by decide +kernel
theorem tyX6_ok : ∀ k, k < 14 → parseFieldDescriptor (TX6 k).2.2.1 = some (tyX6 k) := by decide +kernel
abbrev cX6_init : ByteArray := prog_1_method_1_code
def yX6_init : MethodName := ⟨RX6, "<init>", "()V"⟩
abbrev cX6_feed : ByteArray := prog_1_method_2_code
def yX6_feed : MethodName := ⟨RX6, "feed", "(IIIII)I"⟩
abbrev cX6_end : ByteArray := prog_1_method_3_code
def yX6_end : MethodName := ⟨RX6, "end", "(I)Z"⟩
abbrev cX6_rule : ByteArray := prog_1_method_4_code
def yX6_rule : MethodName := ⟨RX6, "rule", "(III)Z"⟩
abbrev cX6_about : ByteArray := prog_1_method_5_code
def yX6_about : MethodName := ⟨RX6, "about", "(II)I"⟩
abbrev cX6_table : ByteArray := prog_1_method_6_code
def yX6_table : MethodName := ⟨RX6, "table", "(I)I"⟩
abbrev cX6_row : ByteArray := prog_1_method_7_code
def yX6_row : MethodName := ⟨RX6, "row", "(I)I"⟩
abbrev cX6_ring : ByteArray := prog_1_method_8_code
def yX6_ring : MethodName := ⟨RX6, "ring", "(II)I"⟩
abbrev cX6_behind : ByteArray := prog_1_method_9_code
def yX6_behind : MethodName := ⟨RX6, "behind", "(I)J"⟩
abbrev cX6_ringsBehind : ByteArray := prog_1_method_10_code
def yX6_ringsBehind : MethodName := ⟨RX6, "ringsBehind", "(I)J"⟩
abbrev cX6_missed : ByteArray := prog_1_method_11_code
def yX6_missed : MethodName := ⟨RX6, "missed", "(I)I"⟩
abbrev cX6_back : ByteArray := prog_1_method_12_code
def yX6_back : MethodName := ⟨RX6, "back", "(II)I"⟩
abbrev cX6_height : ByteArray := prog_1_method_13_code
def yX6_height : MethodName := ⟨RX6, "height", "(I)I"⟩
abbrev cX6_round : ByteArray := prog_1_method_14_code
def yX6_round : MethodName := ⟨RX6, "round", "()I"⟩
abbrev cX6_all : ByteArray := prog_1_method_15_code
def yX6_all : MethodName := ⟨RX6, "all", "(III)I"⟩
abbrev cX6_keeps : ByteArray := prog_1_method_16_code
def yX6_keeps : MethodName := ⟨RX6, "keeps", "(I)I"⟩
abbrev cX6_join : ByteArray := prog_1_method_17_code
def yX6_join : MethodName := ⟨RX6, "join", "(III)I"⟩
abbrev cX6_mirror : ByteArray := prog_1_method_18_code
def yX6_mirror : MethodName := ⟨RX6, "mirror", "(II)Z"⟩
abbrev cX6_rename : ByteArray := prog_1_method_19_code
def yX6_rename : MethodName := ⟨RX6, "rename", "(II)Z"⟩
abbrev cX6_trim : ByteArray := prog_1_method_20_code
def yX6_trim : MethodName := ⟨RX6, "trim", "(II)I"⟩
abbrev cX6_octet : ByteArray := prog_1_method_21_code
def yX6_octet : MethodName := ⟨RX6, "octet", "(I)I"⟩
abbrev cX6_count : ByteArray := prog_1_method_22_code
def yX6_count : MethodName := ⟨RX6, "count", "(I)I"⟩
abbrev cX6_putBytes : ByteArray := prog_1_method_23_code
def yX6_putBytes : MethodName := ⟨RX6, "putBytes", "(I)V"⟩
abbrev cX6_takeTape : ByteArray := prog_1_method_24_code
def yX6_takeTape : MethodName := ⟨RX6, "takeTape", "()I"⟩
abbrev cX6_areStates : ByteArray := prog_1_method_25_code
def yX6_areStates : MethodName := ⟨RX6, "areStates", "(II)Z"⟩
abbrev cX6_areFewStates : ByteArray := prog_1_method_26_code
def yX6_areFewStates : MethodName := ⟨RX6, "areFewStates", "(II)Z"⟩
abbrev cX6_isEachOnce : ByteArray := prog_1_method_27_code
def yX6_isEachOnce : MethodName := ⟨RX6, "isEachOnce", "(I)Z"⟩
abbrev cX6_placeOnTape : ByteArray := prog_1_method_28_code
def yX6_placeOnTape : MethodName := ⟨RX6, "placeOnTape", "(II)I"⟩
abbrev cX6_fullSlots : ByteArray := prog_1_method_29_code
def yX6_fullSlots : MethodName := ⟨RX6, "fullSlots", "()I"⟩
abbrev cX6_ruleIn : ByteArray := prog_1_method_30_code
def yX6_ruleIn : MethodName := ⟨RX6, "ruleIn", "(I)LMossRings$Rule;"⟩
abbrev cX6_turnsBack : ByteArray := prog_1_method_31_code
def yX6_turnsBack : MethodName := ⟨RX6, "turnsBack", "(LMossRings$Rule;II)Z"⟩
abbrev cX6_isSlot : ByteArray := prog_1_method_32_code
def yX6_isSlot : MethodName := ⟨RX6, "isSlot", "(I)Z"⟩
abbrev cX6_mostWidth : ByteArray := prog_1_method_33_code
def yX6_mostWidth : MethodName := ⟨RX6, "mostWidth", "(I)I"⟩
abbrev cX6_power : ByteArray := prog_1_method_34_code
def yX6_power : MethodName := ⟨RX6, "power", "(II)I"⟩
abbrev cX6_ringsOf : ByteArray := prog_1_method_35_code
def yX6_ringsOf : MethodName := ⟨RX6, "ringsOf", "(II)I"⟩
def RX7 : String := "MossRingsModel"
def TX7 : u_T := fun k => match k with
  | 0 => ("MossRingsModel", "thrown", "I", false)
  | 1 => ("MossRingsModel", "tape", "[B", true)
  | 2 => ("MossRingsModel", "length", "I", false)
  | 3 => ("MossRingsModel", "size", "I", false)
  | 4 => ("MossRingsModel", "states", "[I", true)
  | 5 => ("MossRingsModel", "widths", "[I", true)
  | 6 => ("MossRingsModel", "table", "[I", true)
  | 7 => ("MossRingsModel", "out", "[B", true)
  | 8 => ("MossRingsModel", "outMany", "I", false)
  | 9 => ("MossRingsModel", "cells", "[I", true)
  | 10 => ("MossRingsModel", "next", "[I", true)
  | 11 => ("MossRingsModel", "ways", "[J", true)
  | 12 => ("MossRingsModel", "alive", "[Z", true)
  | 13 => ("MossRingsModel", "seen", "[Z", true)
  | 14 => ("MossRingsModel", "line", "[I", true)
  | 15 => ("MossRingsModel", "from", "[I", true)
  | 16 => ("MossRingsModel", "by", "[I", true)
  | 17 => ("MossRingsModel", "met", "[Z", true)
  | 18 => ("MossRingsModel", "made", "[I", true)
  | 19 => ("MossRingsModel", "codes", "[J", true)
  | 20 => ("MossRingsModel", "places", "[I", true)
  | 21 => ("MossRingsModel", "round", "I", false)
  | 22 => ("MossRingsModel", "leads", "[I", true)
  | 23 => ("MossRingsModel", "ahead", "[I", true)
  | 24 => ("MossRingsModel", "heightOf", "[I", true)
  | 25 => ("MossRingsModel", "mark", "[I", true)
  | _ => ("MossRingsModel", "pot", "[I", true)
def tyX7 : Nat → FieldType := fun k => match k with
  | 0 => .int
  | 1 => .array .byte
  | 2 => .int
  | 3 => .int
  | 4 => .array .int
  | 5 => .array .int
  | 6 => .array .int
  | 7 => .array .byte
  | 8 => .int
  | 9 => .array .int
  | 10 => .array .int
  | 11 => .array .long
  | 12 => .array .boolean
  | 13 => .array .boolean
  | 14 => .array .int
  | 15 => .array .int
  | 16 => .array .int
  | 17 => .array .boolean
  | 18 => .array .int
  | 19 => .array .long
  | 20 => .array .int
  | 21 => .int
  | 22 => .array .int
  | 23 => .array .int
  | 24 => .array .int
  | 25 => .array .int
  | _ => .array .int
abbrev wsX70 : List Cond := u_ws RX7 TX7 27
theorem nmX7 : ∀ a, a < 27 → ∀ b, b < 27 → a ≠ b → (TX7 a).2.1 ≠ (TX7 b).2.1 := by decide +kernel
theorem tyX7_ok : ∀ k, k < 27 → parseFieldDescriptor (TX7 k).2.2.1 = some (tyX7 k) := by decide +kernel
abbrev cX7_init : ByteArray := prog_9_method_1_code
def yX7_init : MethodName := ⟨RX7, "<init>", "()V"⟩
abbrev cX7_thrown : ByteArray := prog_9_method_2_code
def yX7_thrown : MethodName := ⟨RX7, "thrown", "()I"⟩
abbrev cX7_throwsIf : ByteArray := prog_9_method_3_code
def yX7_throwsIf : MethodName := ⟨RX7, "throwsIf", "(Z)Z"⟩
abbrev cX7_feed : ByteArray := prog_9_method_4_code
def yX7_feed : MethodName := ⟨RX7, "feed", "(IIIII)I"⟩
abbrev cX7_four : ByteArray := prog_9_method_5_code
def yX7_four : MethodName := ⟨RX7, "four", "(I)V"⟩
abbrev cX7_end : ByteArray := prog_9_method_6_code
def yX7_end : MethodName := ⟨RX7, "end", "(I)Z"⟩
abbrev cX7_taken : ByteArray := prog_9_method_7_code
def yX7_taken : MethodName := ⟨RX7, "taken", "()V"⟩
abbrev cX7_isSlot : ByteArray := prog_9_method_8_code
def yX7_isSlot : MethodName := ⟨RX7, "isSlot", "(I)Z"⟩
abbrev cX7_has : ByteArray := prog_9_method_9_code
def yX7_has : MethodName := ⟨RX7, "has", "(I)Z"⟩
abbrev cX7_power : ByteArray := prog_9_method_10_code
def yX7_power : MethodName := ⟨RX7, "power", "(II)I"⟩
abbrev cX7_widest : ByteArray := prog_9_method_11_code
def yX7_widest : MethodName := ⟨RX7, "widest", "(I)I"⟩
abbrev cX7_lay : ByteArray := prog_9_method_12_code
def yX7_lay : MethodName := ⟨RX7, "lay", "(III)V"⟩
abbrev cX7_rule : ByteArray := prog_9_method_13_code
def yX7_rule : MethodName := ⟨RX7, "rule", "(III)Z"⟩
abbrev cX7_tells : ByteArray := prog_9_method_14_code
def yX7_tells : MethodName := ⟨RX7, "tells", "(II)I"⟩
abbrev cX7_octet : ByteArray := prog_9_method_15_code
def yX7_octet : MethodName := ⟨RX7, "octet", "(I)I"⟩
abbrev cX7_table : ByteArray := prog_9_method_16_code
def yX7_table : MethodName := ⟨RX7, "table", "(I)I"⟩
abbrev cX7_areStates : ByteArray := prog_9_method_17_code
def yX7_areStates : MethodName := ⟨RX7, "areStates", "(III)Z"⟩
abbrev cX7_leadsTo : ByteArray := prog_9_method_18_code
def yX7_leadsTo : MethodName := ⟨RX7, "leadsTo", "(III)I"⟩
abbrev cX7_step : ByteArray := prog_9_method_19_code
def yX7_step : MethodName := ⟨RX7, "step", "(II)V"⟩
abbrev cX7_takeCells : ByteArray := prog_9_method_20_code
def yX7_takeCells : MethodName := ⟨RX7, "takeCells", "()V"⟩
abbrev cX7_row : ByteArray := prog_9_method_21_code
def yX7_row : MethodName := ⟨RX7, "row", "(I)I"⟩
abbrev cX7_ring : ByteArray := prog_9_method_22_code
def yX7_ring : MethodName := ⟨RX7, "ring", "(II)I"⟩
abbrev cX7_overlaps : ByteArray := prog_9_method_23_code
def yX7_overlaps : MethodName := ⟨RX7, "overlaps", "(I)I"⟩
abbrev cX7_then : ByteArray := prog_9_method_24_code
def yX7_then : MethodName := ⟨RX7, "then", "(III)I"⟩
abbrev cX7_count : ByteArray := prog_9_method_25_code
def yX7_count : MethodName := ⟨RX7, "count", "(II)V"⟩
abbrev cX7_first : ByteArray := prog_9_method_26_code
def yX7_first : MethodName := ⟨RX7, "first", "(II)V"⟩
abbrev cX7_behind : ByteArray := prog_9_method_27_code
def yX7_behind : MethodName := ⟨RX7, "behind", "(I)J"⟩
abbrev cX7_ringsBehind : ByteArray := prog_9_method_28_code
def yX7_ringsBehind : MethodName := ⟨RX7, "ringsBehind", "(I)J"⟩
abbrev cX7_leads : ByteArray := prog_9_method_29_code
def yX7_leads : MethodName := ⟨RX7, "leads", "(III)Z"⟩
abbrev cX7_isOne : ByteArray := prog_9_method_30_code
def yX7_isOne : MethodName := ⟨RX7, "isOne", "(II)Z"⟩
abbrev cX7_parts : ByteArray := prog_9_method_31_code
def yX7_parts : MethodName := ⟨RX7, "parts", "(I)Z"⟩
abbrev cX7_isEven : ByteArray := prog_9_method_32_code
def yX7_isEven : MethodName := ⟨RX7, "isEven", "(I)Z"⟩
abbrev cX7_isFull : ByteArray := prog_9_method_33_code
def yX7_isFull : MethodName := ⟨RX7, "isFull", "(I)Z"⟩
abbrev cX7_losesNothing : ByteArray := prog_9_method_34_code
def yX7_losesNothing : MethodName := ⟨RX7, "losesNothing", "(I)Z"⟩
abbrev cX7_about : ByteArray := prog_9_method_35_code
def yX7_about : MethodName := ⟨RX7, "about", "(II)I"⟩
abbrev cX7_missed : ByteArray := prog_9_method_36_code
def yX7_missed : MethodName := ⟨RX7, "missed", "(I)I"⟩
abbrev cX7_tellLine : ByteArray := prog_9_method_37_code
def yX7_tellLine : MethodName := ⟨RX7, "tellLine", "(I)I"⟩
abbrev cX7_turns : ByteArray := prog_9_method_38_code
def yX7_turns : MethodName := ⟨RX7, "turns", "(III)Z"⟩
abbrev cX7_back : ByteArray := prog_9_method_39_code
def yX7_back : MethodName := ⟨RX7, "back", "(II)I"⟩
abbrev cX7_codeOf : ByteArray := prog_9_method_40_code
def yX7_codeOf : MethodName := ⟨RX7, "codeOf", "(II)J"⟩
abbrev cX7_height : ByteArray := prog_9_method_41_code
def yX7_height : MethodName := ⟨RX7, "height", "(I)I"⟩
abbrev cX7_round : ByteArray := prog_9_method_42_code
def yX7_round : MethodName := ⟨RX7, "round", "()I"⟩
abbrev cX7_all : ByteArray := prog_9_method_43_code
def yX7_all : MethodName := ⟨RX7, "all", "(III)I"⟩
abbrev cX7_gain : ByteArray := prog_9_method_44_code
def yX7_gain : MethodName := ⟨RX7, "gain", "(II)I"⟩
abbrev cX7_keeps : ByteArray := prog_9_method_45_code
def yX7_keeps : MethodName := ⟨RX7, "keeps", "(I)I"⟩
abbrev cX7_join : ByteArray := prog_9_method_46_code
def yX7_join : MethodName := ⟨RX7, "join", "(III)I"⟩
abbrev cX7_mirror : ByteArray := prog_9_method_47_code
def yX7_mirror : MethodName := ⟨RX7, "mirror", "(II)Z"⟩
abbrev cX7_rename : ByteArray := prog_9_method_48_code
def yX7_rename : MethodName := ⟨RX7, "rename", "(II)Z"⟩
abbrev cX7_isIdle : ByteArray := prog_9_method_49_code
def yX7_isIdle : MethodName := ⟨RX7, "isIdle", "(IIZ)Z"⟩
abbrev cX7_trim : ByteArray := prog_9_method_50_code
def yX7_trim : MethodName := ⟨RX7, "trim", "(II)I"⟩
abbrev cX7_count_ : ByteArray := prog_9_method_51_code
def yX7_count_ : MethodName := ⟨RX7, "count", "(I)I"⟩
def RJx8e188 : String := "java/lang/Cloneable"
def TJx8e188 : u_T := fun k => match k with
  | _ => ("", "", "", false)
def tyJx8e188 : Nat → FieldType := fun k => match k with
  | _ => .int
abbrev wsJx8e1880 : List Cond := u_ws RJx8e188 TJx8e188 0
theorem nmJx8e188 : ∀ a, a < 0 → ∀ b, b < 0 → a ≠ b → (TJx8e188 a).2.1 ≠ (TJx8e188 b).2.1 := by decide +kernel
theorem tyJx8e188_ok : ∀ k, k < 0 → parseFieldDescriptor (TJx8e188 k).2.2.1 = some (tyJx8e188 k) := by decide +kernel
def RJ9 : String := "java/lang/Math"
def TJ9 : u_T := fun k => match k with
  | _ => ("", "", "", false)
def tyJ9 : Nat → FieldType := fun k => match k with
  | _ => .int
abbrev wsJ90 : List Cond := u_ws RJ9 TJ9 0
theorem nmJ9 : ∀ a, a < 0 → ∀ b, b < 0 → a ≠ b → (TJ9 a).2.1 ≠ (TJ9 b).2.1 := by decide +kernel
theorem tyJ9_ok : ∀ k, k < 0 → parseFieldDescriptor (TJ9 k).2.2.1 = some (tyJ9 k) := by decide +kernel
abbrev cJ9_max_7cf53 : ByteArray := prog_12_method_65_code
def yJ9_max_7cf53 : MethodName := ⟨RJ9, "max", "(II)I"⟩
abbrev cJ9_min_7cf53 : ByteArray := prog_12_method_69_code
def yJ9_min_7cf53 : MethodName := ⟨RJ9, "min", "(II)I"⟩
def RJ0 : String := "java/lang/String"
def TJ0 : u_T := fun k => match k with
  | _ => ("", "", "", false)
def tyJ0 : Nat → FieldType := fun k => match k with
  | _ => .int
abbrev wsJ00 : List Cond := u_ws RJ0 TJ0 0
theorem nmJ0 : ∀ a, a < 0 → ∀ b, b < 0 → a ≠ b → (TJ0 a).2.1 ≠ (TJ0 b).2.1 := by decide +kernel
theorem tyJ0_ok : ∀ k, k < 0 → parseFieldDescriptor (TJ0 k).2.2.1 = some (tyJ0 k) := by decide +kernel
def RJ10 : String := "java/lang/System"
def TJ10 : u_T := fun k => match k with
  | _ => ("", "", "", false)
def tyJ10 : Nat → FieldType := fun k => match k with
  | _ => .int
abbrev wsJ100 : List Cond := u_ws RJ10 TJ10 0
theorem nmJ10 : ∀ a, a < 0 → ∀ b, b < 0 → a ≠ b → (TJ10 a).2.1 ≠ (TJ10 b).2.1 := by decide +kernel
theorem tyJ10_ok : ∀ k, k < 0 → parseFieldDescriptor (TJ10 k).2.2.1 = some (tyJ10 k) := by decide +kernel
def RJ7 : String := "java/util/Arrays"
def TJ7 : u_T := fun k => match k with
  | _ => ("", "", "", false)
def tyJ7 : Nat → FieldType := fun k => match k with
  | _ => .int
abbrev wsJ70 : List Cond := u_ws RJ7 TJ7 0
theorem nmJ7 : ∀ a, a < 0 → ∀ b, b < 0 → a ≠ b → (TJ7 a).2.1 ≠ (TJ7 b).2.1 := by decide +kernel
theorem tyJ7_ok : ∀ k, k < 0 → parseFieldDescriptor (TJ7 k).2.2.1 = some (tyJ7 k) := by decide +kernel
abbrev cJ7_fill_53178 : ByteArray := prog_17_method_103_code
def yJ7_fill_53178 : MethodName := ⟨RJ7, "fill", "([II)V"⟩
abbrev cJ7_copyOf_59c91 : ByteArray := prog_17_method_123_code
def yJ7_copyOf_59c91 : MethodName := ⟨RJ7, "copyOf", "([II)[I"⟩
def RL : String := "MossRingsLaw"
abbrev cL_octet : ByteArray := method_3_code
def yL_octet : MethodName := ⟨RL, "octet", "(LMossRings;I[J)I"⟩
abbrev cL_law : ByteArray := code
def yL_law : MethodName := ⟨RL, "law", "([I)Z"⟩
abbrev vwCl : List vw_C := [(RX0, TX0, 1), (RX1, TX1, 5), (RX2, TX2, 5), (RX3, TX3, 13), (RX4, TX4, 4), (RX5, TX5, 3), (RX6, TX6, 14), (RX7, TX7, 27)]
end
section
/-! My own picture: values, cells, a heap as a list. A reference is a place in the list: 0 is null, 1 the script, 2 and 3 the two static rows, from 4 on what was made since the law began, in the order of its making. -/
abbrev XV : Type := Int32 ⊕ (Int64 ⊕ Nat)
abbrev HC : Type := (Nat × List XV) ⊕ ((Nat × Nat × (Nat → Int32)) ⊕ ((Nat × (Nat → Int64)) ⊕ (Nat × (Nat → Nat))))
abbrev Hp : Type := List HC
abbrev vI (x : Int32) : XV := Sum.inl x
abbrev vL (x : Int64) : XV := Sum.inr (Sum.inl x)
abbrev vR (a : Nat) : XV := Sum.inr (Sum.inr a)
abbrev oC (ci : Nat) (fs : List XV) : HC := Sum.inl (ci, fs)
abbrev aC (tg n : Nat) (f : Nat → Int32) : HC := Sum.inr (Sum.inl (tg, n, f))
abbrev lC (n : Nat) (f : Nat → Int64) : HC := Sum.inr (Sum.inr (Sum.inl (n, f)))
abbrev rC (n : Nat) (f : Nat → Nat) : HC := Sum.inr (Sum.inr (Sum.inr (n, f)))
/-- the surroundings: where the law's cells begin, the old cells' addresses, the array classes, the classes, the script -/
abbrev XG : Type := (Nat × (Nat → Nat)) × ((Nat → ClassId) × va_G) × (Nat × (Nat → Int32))
def x_cl : List vw_C := vwCl ++ [("java/util/NoSuchElementException", fun _ => ("", "", "", false), 0)]
def x_ad (g : XG) (a : Nat) : Nat := if a < 4 then g.1.2 a else g.1.1 + (a - 4)
def x_rv (g : XG) (a : Nat) : Value := if a = 0 then .null else .ref (x_ad g a)
def x_o (g : XG) (a : Nat) : Option Nat := if a = 0 then none else some (x_ad g a)
def x_v (g : XG) (v : XV) : Value := match v with
  | Sum.inl x => .int x
  | Sum.inr (Sum.inl x) => .long x
  | Sum.inr (Sum.inr a) => x_rv g a
def x_tr (g : XG) (c : HC) : va_E := match c with
  | Sum.inl (ci, fs) => .inr (ci, fs.map (x_v g))
  | Sum.inr (Sum.inl (tg, n, f)) => .inl (g.2.1.1 tg, n, .inl f)
  | Sum.inr (Sum.inr (Sum.inl (n, f))) => .inl (g.2.1.1 3, n, .inr (.inl f))
  | Sum.inr (Sum.inr (Sum.inr (n, f))) => .inl (g.2.1.1 4, n, .inr (.inr (.inr (.inr (fun j => x_o g (f j))))))
def x_wd (g : XG) (h : Hp) : va_W := (h.drop 4).mapIdx (fun i c => (g.1.1 + i, x_tr g c))
def x_ty (g : XG) : List (ClassId × FieldType) := [(g.2.1.1 0, .int), (g.2.1.1 1, .byte), (g.2.1.1 2, .boolean), (g.2.1.1 3, .long), (g.2.1.1 4, .object "MossRings$Rule")]
def x_mw (j : Nat) : Int32 := if j = 2 then 4 else if j = 3 then 3 else if j = 4 then 2 else 0
def x_lk (j : Nat) : Int32 := if j = 0 then 32 else if j = 1 then 256 else if j = 2 then 2048 else 20000
def x_st (g : XG) : Hp := [oC 99 [], aC 0 g.2.2.1 g.2.2.2, aC 0 5 x_mw, aC 0 4 x_lk]
def x_A (g : XG) : Nat → Prop := fun q => g.1.1 ≤ q
def x_nest : List Cond := [.methodLinkNest "MossRings$Rule" 22 ⟨"MossRings", "power", "(II)I"⟩ "MossRings", .fieldLinkNest "MossRings$Sets" 43 "MossRings$Rule" "states" "I" "MossRings", .fieldLinkNest "MossRings$Trail" 47 "MossRings$Rule" "states" "I" "MossRings", .fieldLinkNest "MossRings$Walks" 47 "MossRings$Rule" "states" "I" "MossRings", .fieldLinkNest "MossRings$Pairs" 51 "MossRings$Rule" "states" "I" "MossRings", .fieldLinkNest "MossRings" 87 "MossRings$Rule" "states" "I" "MossRings", .fieldLinkNest "MossRings$Walks" 36 "MossRings$Rule" "width" "I" "MossRings", .fieldLinkNest "MossRings" 90 "MossRings$Rule" "width" "I" "MossRings", .fieldLinkNest "MossRings$Pairs" 23 "MossRings$Rule" "words" "I" "MossRings", .fieldLinkNest "MossRings$Sets" 60 "MossRings$Rule" "words" "I" "MossRings", .fieldLinkNest "MossRings" 100 "MossRings$Rule" "words" "I" "MossRings", .fieldLinkNest "MossRings$Sets" 28 "MossRings$Rule" "nodes" "I" "MossRings", .fieldLinkNest "MossRings$Walks" 27 "MossRings$Rule" "nodes" "I" "MossRings", .fieldLinkNest "MossRings$Pairs" 48 "MossRings$Rule" "nodes" "I" "MossRings", .fieldLinkNest "MossRings" 154 "MossRings$Trail" "roundLength" "I" "MossRings"]
/-- what holds of the old cells -/
def x_St (g : XG) (U : State) (H : Heap) : Prop :=
  va_Z "MossRings" "MOST_WIDTH" "[I" (.ref (g.1.2 2)) (x_A g) U H ∧ va_T .int (g.1.2 2) 5 (fun j => .int (x_mw j)) (x_A g) U H ∧ va_Z "MossRings$Trail" "LOOKS" "[I" (.ref (g.1.2 3)) (x_A g) U H ∧ va_T .int (g.1.2 3) 4 (fun j => .int (x_lk j)) (x_A g) U H ∧ g.1.2 1 < g.1.1 ∧ va_X (g.1.2 1) g.2.2.1 g.2.2.2 U H
/-- the heap as the picture has it -/
def x_H (g : XG) (h : Hp) (H : Heap) : Prop := h.take 4 = x_st g ∧ H.size = g.1.1 + (h.length - 4) ∧ va_P g.2.1.2 x_cl (x_wd g h) H
/-- what a method of the system takes as given -/
def x_U (g : XG) (h : Hp) (U : State) : Prop := x_H g h U.heap ∧ va_K g.2.1.2 x_cl (x_ty g) U ∧ x_St g U U.heap ∧ (∀ w ∈ x_nest, va_Nw w U) ∧ va_AO "MossRings$Rule" U ∧ va_Nw (.castable "[I" "java/lang/Cloneable") U
def x_Q (g : XG) (r : Option XV) (h : Hp) : Array Value → State → Outcome → State → Prop := fun _ st oc t => oc = .returned (r.map (x_v g)) ∧ x_H g h t.heap ∧ va_F (x_A g) st t
/-- a method's contract at these arguments and this heap -/
def XM (l : Launch) (g : XG) (y : MethodName) (ws : List Cond) (fr lo mc ms : Nat) (as : List XV) (h : Hp) (r : Option XV) (h' : Hp) : Prop :=
  Met l y ws { frames := fr, cells := mc, slots := ms, locals := lo } (va_Pc (as.map (x_v g)) (x_U g h)) (x_Q g r h') mc ms (x_A g)
/-- the fixed facts of a method's body -/
def x_C (g : XG) (p : Program) (s : State) (m : MethodId) (args : Array Value) (c : Code) (cc : ByteArray) (own : String) (nL : Nat) (Ts : List Cond) : Prop :=
  (p.tables.exec = Jvm.exec ∧ c.code = cc ∧ c.maxLocals = nL ∧ s.vm.findClass own = some m.cls ∧ ∀ w ∈ Ts, w.before args s = true) ∧ (va_K g.2.1.2 x_cl (x_ty g) s ∧ x_St g s s.heap ∧ (∀ w ∈ x_nest, va_Nw w s) ∧ va_AO "MossRings$Rule" s ∧ va_Nw (.castable "[I" "java/lang/Cloneable") s) ∧ g.1.1 ≤ s.heap.size
def x_S (g : XG) (s : State) (h : Hp) (H : Heap) (locs : List Loc) : Prop := x_H g h H ∧ va_S (x_A g) s.heap H locs
def x_L (g : XG) (ls : Array Slot) (nL : Nat) (lv : List (Option XV)) : Prop := ls.size = nL ∧ lv_wf ls ∧ ∀ (i : Nat) (v : XV), lv[i]? = some (some v) → ls[i]? = some (.val (x_v g v))
def XW (g : XG) (p : Program) (l : Launch) (e : Env) (R : Room) (s : State) (m : MethodId) (args : Array Value) (below : List Frame) (meth : Method) (c : Code) (Q : State → Prop) (nL k n : Nat) (h : Hp) (pc : Nat) (lv : List (Option XV)) (st : List XV) : Prop :=
  ∀ (H : Heap) (locs : List Loc) (ls : Array Slot) (cells slots : Nat), x_S g s h H locs → x_L g ls nL lv → cells + k ≤ R.cells → slots + n ≤ R.slots → W p l e R s m args below meth c H locs cells slots Q (F0 m pc ls (st.map (x_v g)))
-- ===== what the functions of the methods are made of =====
def hObj (h : Hp) (a ci : Nat) : Option (List XV) := if a < 4 then none else match h[a]? with
  | some (Sum.inl (c, fs)) => if c = ci then some fs else none
  | _ => none
def gV (h : Hp) (a ci k : Nat) : Option XV := (hObj h a ci).bind fun fs => fs[k]?
def gI (h : Hp) (a ci k : Nat) : Option Int32 := match gV h a ci k with
  | some (Sum.inl x) => some x
  | _ => none
def gR (h : Hp) (a ci k : Nat) : Option Nat := match gV h a ci k with
  | some (Sum.inr (Sum.inr x)) => some x
  | _ => none
def pF (h : Hp) (a ci k : Nat) (v : XV) : Option Hp := (hObj h a ci).bind fun fs => if k < fs.length then some (h.set a (oC ci (fs.set k v))) else none
def hArr (h : Hp) (a tg : Nat) : Option (Nat × (Nat → Int32)) := match h[a]? with
  | some (Sum.inr (Sum.inl (t, n, f))) => if t = tg then some (n, f) else none
  | _ => none
def inB (i : Int32) (n : Nat) : Bool := decide (0 ≤ i) && decide (i.toNatClampNeg < n)
def aI (h : Hp) (a tg : Nat) (i : Int32) : Option Int32 := (hArr h a tg).bind fun q => if inB i q.1 then some (q.2 i.toNatClampNeg) else none
def x_nar (tg : Nat) (x : Int32) : Int32 := if tg = 0 then x else if tg = 1 then vp_nar .byte x else vp_nar .boolean x
def sI (h : Hp) (a tg : Nat) (i x : Int32) : Option Hp := if a < 4 then none else (hArr h a tg).bind fun q => if inB i q.1 then some (h.set a (aC tg q.1 (upd q.2 i.toNatClampNeg (x_nar tg x)))) else none
def hLng (h : Hp) (a : Nat) : Option (Nat × (Nat → Int64)) := if a < 4 then none else match h[a]? with
  | some (Sum.inr (Sum.inr (Sum.inl q))) => some q
  | _ => none
def aL (h : Hp) (a : Nat) (i : Int32) : Option Int64 := (hLng h a).bind fun q => if inB i q.1 then some (q.2 i.toNatClampNeg) else none
def sL (h : Hp) (a : Nat) (i : Int32) (x : Int64) : Option Hp := (hLng h a).bind fun q => if inB i q.1 then some (h.set a (lC q.1 (vp_updL q.2 i.toNatClampNeg x))) else none
def hRow (h : Hp) (a : Nat) : Option (Nat × (Nat → Nat)) := if a < 4 then none else match h[a]? with
  | some (Sum.inr (Sum.inr (Sum.inr q))) => some q
  | _ => none
def aR (h : Hp) (a : Nat) (i : Int32) : Option Nat := (hRow h a).bind fun q => if inB i q.1 then some (q.2 i.toNatClampNeg) else none
def sR (h : Hp) (a : Nat) (i : Int32) (v : Nat) : Option Hp := (hRow h a).bind fun q => if inB i q.1 ∧ (v = 0 ∨ (hObj h v 1).isSome) then some (h.set a (rC q.1 (va_up q.2 i.toNatClampNeg v))) else none
def aN (h : Hp) (a : Nat) : Option Int32 := match h[a]? with
  | some (Sum.inr (Sum.inl (t, n, _))) => if t < 3 then some (Int32.ofNat n) else none
  | some (Sum.inr (Sum.inr (Sum.inl (n, _)))) => if a < 4 then none else some (Int32.ofNat n)
  | some (Sum.inr (Sum.inr (Sum.inr (n, _)))) => if a < 4 then none else some (Int32.ofNat n)
  | _ => none
def mkA (h : Hp) (tg cap : Nat) (n : Int32) {β : Type} (K : Nat → Hp → Option β) : Option β := if n < 0 ∨ cap < n.toNatClampNeg then none else K h.length (h ++ [aC tg n.toNatClampNeg (fun _ => 0)])
def mkL (h : Hp) (cap : Nat) (n : Int32) {β : Type} (K : Nat → Hp → Option β) : Option β := if n < 0 ∨ cap < n.toNatClampNeg then none else K h.length (h ++ [lC n.toNatClampNeg (fun _ => 0)])
def mkR (h : Hp) (cap : Nat) (n : Int32) {β : Type} (K : Nat → Hp → Option β) : Option β := if n < 0 ∨ cap < n.toNatClampNeg then none else K h.length (h ++ [rC n.toNatClampNeg (fun _ => 0)])
def mkO (h : Hp) (ci : Nat) (fs : List XV) {β : Type} (K : Nat → Hp → Option β) : Option β := K h.length (h ++ [oC ci fs])
def iDiv (x y : Int32) {β : Type} (K : Int32 → Option β) : Option β := if y = 0 then none else K (x / y)
def iRem (x y : Int32) {β : Type} (K : Int32 → Option β) : Option β := if y = 0 then none else K (x - x / y * y)
-- ===== plain facts =====
theorem inB_in {i : Int32} {n : Nat} (h : inB i n = true) : vp_in i n := by
  simp only [inB, Bool.and_eq_true, decide_eq_true_eq] at h
  intro q
  rcases q with q | q
  · exact absurd h.1 (by rw [Int32.not_le]; exact q)
  · omega
theorem bind_some {α β : Type} {x : Option α} {K : α → Option β} {r : β} (h : x.bind K = some r) : ∃ v, x = some v ∧ K v = some r := by
  cases x with
  | none => cases h
  | some v => exact ⟨v, rfl, h⟩
theorem hObj_at {h : Hp} {a ci : Nat} {fs : List XV} (q : hObj h a ci = some fs) : 4 ≤ a ∧ h[a]? = some (oC ci fs) := by
  unfold hObj at q
  split at q
  · cases q
  · split at q
    · split at q
      · rename_i h1 _ c fs' h2 h3
        cases q
        subst h3
        exact ⟨by omega, h2⟩
      · cases q
    · cases q
theorem hArr_at {h : Hp} {a tg : Nat} {q : Nat × (Nat → Int32)} (e : hArr h a tg = some q) : h[a]? = some (aC tg q.1 q.2) := by
  unfold hArr at e
  split at e
  · split at e
    · rename_i h2 h3
      cases e
      subst h3
      exact h2
    · cases e
  · cases e
theorem hLng_at {h : Hp} {a : Nat} {q : Nat × (Nat → Int64)} (e : hLng h a = some q) : 4 ≤ a ∧ h[a]? = some (lC q.1 q.2) := by
  unfold hLng at e
  split at e
  · cases e
  · split at e
    · rename_i h2
      cases e
      exact ⟨by omega, h2⟩
    · cases e
theorem hRow_at {h : Hp} {a : Nat} {q : Nat × (Nat → Nat)} (e : hRow h a = some q) : 4 ≤ a ∧ h[a]? = some (rC q.1 q.2) := by
  unfold hRow at e
  split at e
  · cases e
  · split at e
    · rename_i h2
      cases e
      exact ⟨by omega, h2⟩
    · cases e
theorem x_rf (g : XG) (a : Nat) : va_rf (x_o g a) = x_rv g a := by
  unfold x_o x_rv
  split <;> rfl
theorem x_wd_at {g : XG} {h : Hp} {a : Nat} {c : HC} (ha : 4 ≤ a) (hc : h[a]? = some c) : (x_wd g h)[a - 4]? = some (x_ad g a, x_tr g c) := by
  unfold x_wd
  rw [List.getElem?_mapIdx, List.getElem?_drop, show 4 + (a - 4) = a by omega, hc]
  simp [x_ad, Nat.not_lt.mpr ha]
theorem x_rv_pos {g : XG} {a : Nat} (ha : 4 ≤ a) : x_rv g a = .ref (x_ad g a) := by
  unfold x_rv
  rw [if_neg (by omega)]
theorem x_len {g : XG} {h : Hp} (e : h.take 4 = x_st g) : 4 ≤ h.length := by
  have h1 : (h.take 4).length = 4 := by rw [e]; rfl
  rw [List.length_take] at h1
  omega
theorem x_D (g : XG) (h : Hp) : va_D (x_A g) (x_wd g h) := by
  have key : ∀ (k : Nat) (q : Nat × va_E), (x_wd g h)[k]? = some q → q.1 = g.1.1 + k := by
    intro k q hk
    unfold x_wd at hk
    rw [List.getElem?_mapIdx] at hk
    cases hd : (h.drop 4)[k]? with
    | none => rw [hd] at hk; cases hk
    | some c => rw [hd] at hk; cases hk; rfl
  refine ⟨fun i j x y hi hj hxy => ?_, fun k q hk => ?_⟩
  · have := key i x hi; have := key j y hj; omega
  · show g.1.1 ≤ q.1
    rw [key k q hk]; omega
theorem x_wd_set {g : XG} {h : Hp} {a : Nat} {c : HC} (ha : 4 ≤ a) : x_wd g (h.set a c) = (x_wd g h).set (a - 4) (x_ad g a, x_tr g c) := by
  unfold x_wd
  apply List.ext_getElem?
  intro k
  rw [List.getElem?_mapIdx, List.getElem?_drop]
  by_cases e : k = a - 4
  · subst e
    rw [show 4 + (a - 4) = a by omega]
    by_cases hl : a < h.length
    · rw [List.getElem?_set_self hl, List.getElem?_set_self (by simp; omega)]
      simp [x_ad, Nat.not_lt.mpr ha]
    · rw [List.getElem?_eq_none (by simp; omega), List.getElem?_eq_none (by simp; omega)]
      rfl
  · rw [List.getElem?_set_ne (by omega), List.getElem?_set_ne (by omega), List.getElem?_mapIdx, List.getElem?_drop]
theorem x_wd_push {g : XG} {h : Hp} {c : HC} (hl : 4 ≤ h.length) : x_wd g (h ++ [c]) = x_wd g h ++ [(g.1.1 + (h.length - 4), x_tr g c)] := by
  unfold x_wd
  rw [List.drop_append_of_le_length hl, List.mapIdx_append]
  simp
theorem x_take_set {g : XG} {h : Hp} {a : Nat} {c : HC} (ha : 4 ≤ a) (e : h.take 4 = x_st g) : (h.set a c).take 4 = x_st g := by
  rw [List.take_set_of_le ha, e]
theorem x_take_push {g : XG} {h : Hp} {c : HC} (e : h.take 4 = x_st g) : (h ++ [c]).take 4 = x_st g := by
  rw [List.take_append_of_le_length (x_len e), e]
end
section
section XR
variable {g : XG} {p : Program} {l : Launch} {e : Env} {R : Room} {s : State} {m : MethodId} {args : Array Value} {below : List Frame} {meth : Method} {c : Code} {Q : State → Prop} {cc : ByteArray} {own : String} {nL k n : Nat} {Ts : List Cond} {h : Hp} {pc pc' : Nat} {lv : List (Option XV)} {st : List XV}
theorem x_iadd (C : x_C g p s m args c cc own nL Ts) {x y : Int32} (d : decode cc pc = .ok (.iadd, 1)) (e1 : pc + 1 = pc') (K : XW g p l e R s m args below meth c Q nL k n h pc' lv (vI (x + y) :: st)) : XW g p l e R s m args below meth c Q nL k n h pc lv (vI y :: vI x :: st) := by
  subst e1
  intro H locs ls cells slots hS hl hc hn
  exact lv_iadd C.1.1 C.1.2.1 d (K H locs ls cells slots hS hl hc hn)
theorem x_isub (C : x_C g p s m args c cc own nL Ts) {x y : Int32} (d : decode cc pc = .ok (.isub, 1)) (e1 : pc + 1 = pc') (K : XW g p l e R s m args below meth c Q nL k n h pc' lv (vI (x - y) :: st)) : XW g p l e R s m args below meth c Q nL k n h pc lv (vI y :: vI x :: st) := by
  subst e1
  intro H locs ls cells slots hS hl hc hn
  exact lv_isub C.1.1 C.1.2.1 d (K H locs ls cells slots hS hl hc hn)
theorem x_imul (C : x_C g p s m args c cc own nL Ts) {x y : Int32} (d : decode cc pc = .ok (.imul, 1)) (e1 : pc + 1 = pc') (K : XW g p l e R s m args below meth c Q nL k n h pc' lv (vI (x * y) :: st)) : XW g p l e R s m args below meth c Q nL k n h pc lv (vI y :: vI x :: st) := by
  subst e1
  intro H locs ls cells slots hS hl hc hn
  exact lv_imul C.1.1 C.1.2.1 d (K H locs ls cells slots hS hl hc hn)
theorem x_iand (C : x_C g p s m args c cc own nL Ts) {x y : Int32} (d : decode cc pc = .ok (.iand, 1)) (e1 : pc + 1 = pc') (K : XW g p l e R s m args below meth c Q nL k n h pc' lv (vI (x &&& y) :: st)) : XW g p l e R s m args below meth c Q nL k n h pc lv (vI y :: vI x :: st) := by
  subst e1
  intro H locs ls cells slots hS hl hc hn
  exact lv_iand C.1.1 C.1.2.1 d (K H locs ls cells slots hS hl hc hn)
theorem x_ior (C : x_C g p s m args c cc own nL Ts) {x y : Int32} (d : decode cc pc = .ok (.ior, 1)) (e1 : pc + 1 = pc') (K : XW g p l e R s m args below meth c Q nL k n h pc' lv (vI (x ||| y) :: st)) : XW g p l e R s m args below meth c Q nL k n h pc lv (vI y :: vI x :: st) := by
  subst e1
  intro H locs ls cells slots hS hl hc hn
  exact lv_ior C.1.1 C.1.2.1 d (K H locs ls cells slots hS hl hc hn)
theorem x_ishl (C : x_C g p s m args c cc own nL Ts) {x y : Int32} (d : decode cc pc = .ok (.ishl, 1)) (e1 : pc + 1 = pc') (K : XW g p l e R s m args below meth c Q nL k n h pc' lv (vI (x <<< (y &&& 31)) :: st)) : XW g p l e R s m args below meth c Q nL k n h pc lv (vI y :: vI x :: st) := by
  subst e1
  intro H locs ls cells slots hS hl hc hn
  exact lv_ishl C.1.1 C.1.2.1 d (K H locs ls cells slots hS hl hc hn)
theorem x_ishr (C : x_C g p s m args c cc own nL Ts) {x y : Int32} (d : decode cc pc = .ok (.ishr, 1)) (e1 : pc + 1 = pc') (K : XW g p l e R s m args below meth c Q nL k n h pc' lv (vI (x >>> (y &&& 31)) :: st)) : XW g p l e R s m args below meth c Q nL k n h pc lv (vI y :: vI x :: st) := by
  subst e1
  intro H locs ls cells slots hS hl hc hn
  exact lv_ishr C.1.1 C.1.2.1 d (K H locs ls cells slots hS hl hc hn)
theorem x_iushr (C : x_C g p s m args c cc own nL Ts) {x y : Int32} (d : decode cc pc = .ok (.iushr, 1)) (e1 : pc + 1 = pc') (K : XW g p l e R s m args below meth c Q nL k n h pc' lv (vI ((x.toUInt32 >>> (y.toUInt32 &&& Int32.toUInt32 31)).toInt32) :: st)) : XW g p l e R s m args below meth c Q nL k n h pc lv (vI y :: vI x :: st) := by
  subst e1
  intro H locs ls cells slots hS hl hc hn
  exact lv_iushr C.1.1 C.1.2.1 d rfl (K H locs ls cells slots hS hl hc hn)
theorem x_ladd (C : x_C g p s m args c cc own nL Ts) {x y : Int64} (d : decode cc pc = .ok (.ladd, 1)) (e1 : pc + 1 = pc') (K : XW g p l e R s m args below meth c Q nL k n h pc' lv (vL (x + y) :: st)) : XW g p l e R s m args below meth c Q nL k n h pc lv (vL y :: vL x :: st) := by
  subst e1
  intro H locs ls cells slots hS hl hc hn
  exact lv_ladd C.1.1 C.1.2.1 d (K H locs ls cells slots hS hl hc hn)
theorem x_lmul (C : x_C g p s m args c cc own nL Ts) {x y : Int64} (d : decode cc pc = .ok (.lmul, 1)) (e1 : pc + 1 = pc') (K : XW g p l e R s m args below meth c Q nL k n h pc' lv (vL (x * y) :: st)) : XW g p l e R s m args below meth c Q nL k n h pc lv (vL y :: vL x :: st) := by
  subst e1
  intro H locs ls cells slots hS hl hc hn
  exact lv_lmul C.1.1 C.1.2.1 d (K H locs ls cells slots hS hl hc hn)
theorem x_land (C : x_C g p s m args c cc own nL Ts) {x y : Int64} (d : decode cc pc = .ok (.land, 1)) (e1 : pc + 1 = pc') (K : XW g p l e R s m args below meth c Q nL k n h pc' lv (vL (x &&& y) :: st)) : XW g p l e R s m args below meth c Q nL k n h pc lv (vL y :: vL x :: st) := by
  subst e1
  intro H locs ls cells slots hS hl hc hn
  exact lv_land C.1.1 C.1.2.1 d (K H locs ls cells slots hS hl hc hn)
theorem x_lshr (C : x_C g p s m args c cc own nL Ts) {x : Int64} {y : Int32} (d : decode cc pc = .ok (.lshr, 1)) (e1 : pc + 1 = pc') (K : XW g p l e R s m args below meth c Q nL k n h pc' lv (vL (x >>> (y.toInt64 &&& 63)) :: st)) : XW g p l e R s m args below meth c Q nL k n h pc lv (vI y :: vL x :: st) := by
  subst e1
  intro H locs ls cells slots hS hl hc hn
  exact lv_lshr C.1.1 C.1.2.1 d rfl (K H locs ls cells slots hS hl hc hn)
theorem x_lcmp (C : x_C g p s m args c cc own nL Ts) {x y : Int64} (d : decode cc pc = .ok (.lcmp, 1)) (e1 : pc + 1 = pc') (K : XW g p l e R s m args below meth c Q nL k n h pc' lv (vI (lg_cmp x y) :: st)) : XW g p l e R s m args below meth c Q nL k n h pc lv (vL y :: vL x :: st) := by
  subst e1
  intro H locs ls cells slots hS hl hc hn
  exact W.lcmp C.1.1 C.1.2.1 d (K H locs ls cells slots hS hl hc hn)
theorem x_i2l (C : x_C g p s m args c cc own nL Ts) {x : Int32} (d : decode cc pc = .ok (.i2l, 1)) (e1 : pc + 1 = pc') (K : XW g p l e R s m args below meth c Q nL k n h pc' lv (vL x.toInt64 :: st)) : XW g p l e R s m args below meth c Q nL k n h pc lv (vI x :: st) := by
  subst e1
  intro H locs ls cells slots hS hl hc hn
  exact lv_i2l C.1.1 C.1.2.1 d rfl (K H locs ls cells slots hS hl hc hn)
theorem x_l2i (C : x_C g p s m args c cc own nL Ts) {x : Int64} (d : decode cc pc = .ok (.l2i, 1)) (e1 : pc + 1 = pc') (K : XW g p l e R s m args below meth c Q nL k n h pc' lv (vI x.toInt32 :: st)) : XW g p l e R s m args below meth c Q nL k n h pc lv (vL x :: st) := by
  subst e1
  intro H locs ls cells slots hS hl hc hn
  exact lv_l2i C.1.1 C.1.2.1 d rfl (K H locs ls cells slots hS hl hc hn)
theorem x_i2b (C : x_C g p s m args c cc own nL Ts) {x : Int32} (d : decode cc pc = .ok (.i2b, 1)) (e1 : pc + 1 = pc') (K : XW g p l e R s m args below meth c Q nL k n h pc' lv (vI x.toInt8.toInt32 :: st)) : XW g p l e R s m args below meth c Q nL k n h pc lv (vI x :: st) := by
  subst e1
  intro H locs ls cells slots hS hl hc hn
  exact lv_i2b C.1.1 C.1.2.1 d rfl (K H locs ls cells slots hS hl hc hn)
theorem x_iconst (C : x_C g p s m args c cc own nL Ts) {z : Int} {v : Int32} (hv : Int32.ofInt z = v) (d : decode cc pc = .ok (.iconst z, 1)) (e1 : pc + 1 = pc') (K : XW g p l e R s m args below meth c Q nL k n h pc' lv (vI v :: st)) : XW g p l e R s m args below meth c Q nL k n h pc lv (st) := by
  subst e1
  intro H locs ls cells slots hS hl hc hn
  exact lv_iconst C.1.1 C.1.2.1 d hv (K H locs ls cells slots hS hl hc hn)
theorem x_bipush (C : x_C g p s m args c cc own nL Ts) {z : Int} {v : Int32} (hv : (Int8.ofInt z).toInt32 = v) (d : decode cc pc = .ok (.bipush z, 2)) (e1 : pc + 2 = pc') (K : XW g p l e R s m args below meth c Q nL k n h pc' lv (vI v :: st)) : XW g p l e R s m args below meth c Q nL k n h pc lv (st) := by
  subst e1
  intro H locs ls cells slots hS hl hc hn
  exact lv_bipush C.1.1 C.1.2.1 d hv (K H locs ls cells slots hS hl hc hn)
theorem x_sipush (C : x_C g p s m args c cc own nL Ts) {z : Int} {v : Int32} (hv : (Int16.ofInt z).toInt32 = v) (d : decode cc pc = .ok (.sipush z, 3)) (e1 : pc + 3 = pc') (K : XW g p l e R s m args below meth c Q nL k n h pc' lv (vI v :: st)) : XW g p l e R s m args below meth c Q nL k n h pc lv (st) := by
  subst e1
  intro H locs ls cells slots hS hl hc hn
  exact lv_sipush C.1.1 C.1.2.1 d hv (K H locs ls cells slots hS hl hc hn)
theorem x_lconst (C : x_C g p s m args c cc own nL Ts) {z : Fin 2} {v : Int64} (hv : Int64.ofNat (z : Nat) = v) (d : decode cc pc = .ok (.lconst z, 1)) (e1 : pc + 1 = pc') (K : XW g p l e R s m args below meth c Q nL k n h pc' lv (vL v :: st)) : XW g p l e R s m args below meth c Q nL k n h pc lv (st) := by
  subst e1
  intro H locs ls cells slots hS hl hc hn
  exact lv_lconst C.1.1 C.1.2.1 d hv (K H locs ls cells slots hS hl hc hn)
theorem x_ldc (C : x_C g p s m args c cc own nL Ts) {ix : Nat} {v : Int32} (hw : Cond.constant own ix v ∈ Ts) (d : decode cc pc = .ok (.ldc ix, 2)) (e1 : pc + 2 = pc') (K : XW g p l e R s m args below meth c Q nL k n h pc' lv (vI v :: st)) : XW g p l e R s m args below meth c Q nL k n h pc lv st := by
  subst e1
  intro H locs ls cells slots hS hl hc hn
  exact lv_ldc C.1.1 C.1.2.1 C.1.2.2.2.1 (C.1.2.2.2.2 _ hw) d (K H locs ls cells slots hS hl hc hn)
theorem x_ldc2 (C : x_C g p s m args c cc own nL Ts) {ix : Nat} {v : Int64} (hw : Cond.constantLong own ix v ∈ Ts) (d : decode cc pc = .ok (.ldc2_w ix, 3)) (e1 : pc + 3 = pc') (K : XW g p l e R s m args below meth c Q nL k n h pc' lv (vL v :: st)) : XW g p l e R s m args below meth c Q nL k n h pc lv st := by
  subst e1
  intro H locs ls cells slots hS hl hc hn
  exact lv_ldc2 C.1.1 C.1.2.1 C.1.2.2.2.1 (C.1.2.2.2.2 _ hw) d (K H locs ls cells slots hS hl hc hn)
theorem x_cat_R (g : XG) (a : Nat) : (x_v g (vR a)).category = 1 := by
  show (x_rv g a).category = 1
  unfold x_rv
  split <;> rfl
def x_one (v : XV) : Bool := match v with
  | Sum.inr (Sum.inl _) => false
  | _ => true
theorem x_cat1 (g : XG) {v : XV} (h : x_one v = true) : (x_v g v).category = 1 := by
  match v, h with
  | Sum.inl x, _ => rfl
  | Sum.inr (Sum.inr a), _ => exact x_cat_R g a
theorem x_dup (C : x_C g p s m args c cc own nL Ts) {u : XV} (hu : x_one u = true) (d : decode cc pc = .ok (.dup, 1)) (e1 : pc + 1 = pc') (K : XW g p l e R s m args below meth c Q nL k n h pc' lv (u :: u :: st)) : XW g p l e R s m args below meth c Q nL k n h pc lv (u :: st) := by
  subst e1
  intro H locs ls cells slots hS hl hc hn
  exact lv_dup C.1.1 C.1.2.1 d (x_cat1 g hu) (K H locs ls cells slots hS hl hc hn)
theorem x_pop (C : x_C g p s m args c cc own nL Ts) {u : XV} (hu : x_one u = true) (d : decode cc pc = .ok (.pop, 1)) (e1 : pc + 1 = pc') (K : XW g p l e R s m args below meth c Q nL k n h pc' lv (st)) : XW g p l e R s m args below meth c Q nL k n h pc lv (u :: st) := by
  subst e1
  intro H locs ls cells slots hS hl hc hn
  exact lv_pop C.1.1 C.1.2.1 d (x_cat1 g hu) (K H locs ls cells slots hS hl hc hn)
theorem x_dup2 (C : x_C g p s m args c cc own nL Ts) {u v : XV} (hu : x_one u = true) (hv : x_one v = true) (d : decode cc pc = .ok (.dup2, 1)) (e1 : pc + 1 = pc') (K : XW g p l e R s m args below meth c Q nL k n h pc' lv (u :: v :: u :: v :: st)) : XW g p l e R s m args below meth c Q nL k n h pc lv (u :: v :: st) := by
  subst e1
  intro H locs ls cells slots hS hl hc hn
  exact lv_dup2_11 C.1.1 C.1.2.1 d (x_cat1 g hu) (x_cat1 g hv) (K H locs ls cells slots hS hl hc hn)
theorem x_dup2L (C : x_C g p s m args c cc own nL Ts) {x : Int64} (d : decode cc pc = .ok (.dup2, 1)) (e1 : pc + 1 = pc') (K : XW g p l e R s m args below meth c Q nL k n h pc' lv (vL x :: vL x :: st)) : XW g p l e R s m args below meth c Q nL k n h pc lv (vL x :: st) := by
  subst e1
  intro H locs ls cells slots hS hl hc hn
  exact lv_dup2_2 C.1.1 C.1.2.1 d rfl (K H locs ls cells slots hS hl hc hn)
theorem x_pop2L (C : x_C g p s m args c cc own nL Ts) {x : Int64} (d : decode cc pc = .ok (.pop2, 1)) (e1 : pc + 1 = pc') (K : XW g p l e R s m args below meth c Q nL k n h pc' lv (st)) : XW g p l e R s m args below meth c Q nL k n h pc lv (vL x :: st) := by
  subst e1
  intro H locs ls cells slots hS hl hc hn
  exact lv_pop2_2 C.1.1 C.1.2.1 d rfl (K H locs ls cells slots hS hl hc hn)
theorem x_null (C : x_C g p s m args c cc own nL Ts) (d : decode cc pc = .ok (.aconst_null, 1)) (e1 : pc + 1 = pc') (K : XW g p l e R s m args below meth c Q nL k n h pc' lv (vR 0 :: st)) : XW g p l e R s m args below meth c Q nL k n h pc lv st := by
  subst e1
  intro H locs ls cells slots hS hl hc hn
  exact lv_null C.1.1 C.1.2.1 d (K H locs ls cells slots hS hl hc hn)
theorem x_idiv (C : x_C g p s m args c cc own nL Ts) {x y : Int32} {β : Type} {F : Int32 → Option β} {res : β} (hf : iDiv x y F = some res) (d : decode cc pc = .ok (.idiv, 1)) (e1 : pc + 1 = pc') (K : ¬ y = 0 → ∀ z, z = x / y → F z = some res → XW g p l e R s m args below meth c Q nL k n h pc' lv (vI z :: st)) : XW g p l e R s m args below meth c Q nL k n h pc lv (vI y :: vI x :: st) := by
  subst e1
  unfold iDiv at hf
  split at hf
  · cases hf
  · rename_i h0
    intro H locs ls cells slots hS hl hc hn
    exact lv_idiv C.1.1 C.1.2.1 d h0 (K h0 _ rfl hf H locs ls cells slots hS hl hc hn)
theorem x_irem (C : x_C g p s m args c cc own nL Ts) {x y : Int32} {β : Type} {F : Int32 → Option β} {res : β} (hf : iRem x y F = some res) (d : decode cc pc = .ok (.irem, 1)) (e1 : pc + 1 = pc') (K : ¬ y = 0 → ∀ z, z = x - x / y * y → F z = some res → XW g p l e R s m args below meth c Q nL k n h pc' lv (vI z :: st)) : XW g p l e R s m args below meth c Q nL k n h pc lv (vI y :: vI x :: st) := by
  subst e1
  unfold iRem at hf
  split at hf
  · cases hf
  · rename_i h0
    intro H locs ls cells slots hS hl hc hn
    exact lv_irem C.1.1 C.1.2.1 d h0 (K h0 _ rfl hf H locs ls cells slots hS hl hc hn)
theorem x_iload (C : x_C g p s m args c cc own nL Ts) {i : Nat} {x : Int32} (d : decode cc pc = .ok (.iload i, 2)) (e1 : pc + 2 = pc') (hv : lv[i]? = some (some (vI x))) (K : XW g p l e R s m args below meth c Q nL k n h pc' lv (vI x :: st)) : XW g p l e R s m args below meth c Q nL k n h pc lv st := by
  subst e1
  intro H locs ls cells slots hS hl hc hn
  exact lv_iload C.1.1 C.1.2.1 d (hl.2.2 i _ hv) (K H locs ls cells slots hS hl hc hn)
theorem x_iload_n (C : x_C g p s m args c cc own nL Ts) {f : Fin 4} {i : Nat} {x : Int32} (d : decode cc pc = .ok (.iload_n f, 1)) (e1 : pc + 1 = pc') (hi : (f : Nat) = i) (hv : lv[i]? = some (some (vI x))) (K : XW g p l e R s m args below meth c Q nL k n h pc' lv (vI x :: st)) : XW g p l e R s m args below meth c Q nL k n h pc lv st := by
  subst e1
  intro H locs ls cells slots hS hl hc hn
  exact lv_iload_n C.1.1 C.1.2.1 d hi (hl.2.2 i _ hv) (K H locs ls cells slots hS hl hc hn)
theorem x_lload (C : x_C g p s m args c cc own nL Ts) {i : Nat} {x : Int64} (d : decode cc pc = .ok (.lload i, 2)) (e1 : pc + 2 = pc') (hv : lv[i]? = some (some (vL x))) (K : XW g p l e R s m args below meth c Q nL k n h pc' lv (vL x :: st)) : XW g p l e R s m args below meth c Q nL k n h pc lv st := by
  subst e1
  intro H locs ls cells slots hS hl hc hn
  exact lv_lload C.1.1 C.1.2.1 d (hl.2.2 i _ hv) (K H locs ls cells slots hS hl hc hn)
theorem x_lload_n (C : x_C g p s m args c cc own nL Ts) {f : Fin 4} {i : Nat} {x : Int64} (d : decode cc pc = .ok (.lload_n f, 1)) (e1 : pc + 1 = pc') (hi : (f : Nat) = i) (hv : lv[i]? = some (some (vL x))) (K : XW g p l e R s m args below meth c Q nL k n h pc' lv (vL x :: st)) : XW g p l e R s m args below meth c Q nL k n h pc lv st := by
  subst e1
  intro H locs ls cells slots hS hl hc hn
  exact lv_lload_n C.1.1 C.1.2.1 d hi (hl.2.2 i _ hv) (K H locs ls cells slots hS hl hc hn)
theorem x_aload (C : x_C g p s m args c cc own nL Ts) {i : Nat} {a : Nat} (d : decode cc pc = .ok (.aload i, 2)) (e1 : pc + 2 = pc') (hv : lv[i]? = some (some (vR a))) (K : XW g p l e R s m args below meth c Q nL k n h pc' lv (vR a :: st)) : XW g p l e R s m args below meth c Q nL k n h pc lv st := by
  subst e1
  intro H locs ls cells slots hS hl hc hn
  have hz : ls[i]? = some (.val (x_rv g a)) := hl.2.2 i _ hv
  have K1 : W p l e R s m args below meth c H locs cells slots Q (F0 m (pc + 2) ls (x_rv g a :: st.map (x_v g))) := K H locs ls cells slots hS hl hc hn
  unfold x_rv at hz K1
  by_cases ha : a = 0
  · rw [if_pos ha] at hz K1
    exact lv_aloadN C.1.1 C.1.2.1 d hz K1
  · rw [if_neg ha] at hz K1
    exact lv_aload C.1.1 C.1.2.1 d hz K1
theorem x_aload_n (C : x_C g p s m args c cc own nL Ts) {f : Fin 4} {i : Nat} {a : Nat} (d : decode cc pc = .ok (.aload_n f, 1)) (e1 : pc + 1 = pc') (hi : (f : Nat) = i) (hv : lv[i]? = some (some (vR a))) (K : XW g p l e R s m args below meth c Q nL k n h pc' lv (vR a :: st)) : XW g p l e R s m args below meth c Q nL k n h pc lv st := by
  subst e1
  intro H locs ls cells slots hS hl hc hn
  have hz : ls[i]? = some (.val (x_rv g a)) := hl.2.2 i _ hv
  have K1 : W p l e R s m args below meth c H locs cells slots Q (F0 m (pc + 1) ls (x_rv g a :: st.map (x_v g))) := K H locs ls cells slots hS hl hc hn
  unfold x_rv at hz K1
  by_cases ha : a = 0
  · rw [if_pos ha] at hz K1
    exact lv_aload_nN C.1.1 C.1.2.1 d hi hz K1
  · rw [if_neg ha] at hz K1
    exact lv_aload_n C.1.1 C.1.2.1 d hi hz K1
def x_prs (g : XG) (lv : List (Option XV)) : List (Nat × Value) := (lv.mapIdx (fun i o => (i, o))).filterMap (fun q => q.2.map (fun v => (q.1, x_v g v)))
theorem x_prs_mem {g : XG} {lv : List (Option XV)} {q : Nat × Value} : q ∈ x_prs g lv ↔ ∃ v, lv[q.1]? = some (some v) ∧ q.2 = x_v g v := by
  unfold x_prs
  rw [List.mem_filterMap]
  constructor
  · rintro ⟨⟨i, o⟩, hm, hq⟩
    obtain ⟨j, hj⟩ := List.getElem?_of_mem hm
    rw [List.getElem?_mapIdx] at hj
    cases hlj : lv[j]? with
    | none => rw [hlj] at hj; cases hj
    | some o' =>
      rw [hlj] at hj
      cases hj
      cases o with
      | none => cases hq
      | some v =>
        cases hq
        exact ⟨v, hlj, rfl⟩
  · rintro ⟨v, h1, h2⟩
    refine ⟨(q.1, some v), ?_, ?_⟩
    · refine List.mem_of_getElem? (i := q.1) ?_
      rw [List.getElem?_mapIdx, h1]
      rfl
    · obtain ⟨a, b⟩ := q
      simp only at h2
      subst h2
      rfl
theorem x_L_has {g : XG} {ls : Array Slot} {nL : Nat} {lv : List (Option XV)} (h : x_L g ls nL lv) : lv_has ls nL (x_prs g lv) := by
  refine ⟨h.1, h.2.1, fun q hq => ?_⟩
  obtain ⟨v, h1, h2⟩ := x_prs_mem.mp hq
  rw [h2]
  exact h.2.2 _ _ h1
/-- no long lies just below place i -/
def x_ok (lv : List (Option XV)) (i : Nat) : Bool := match i with
  | 0 => true
  | j + 1 => match lv[j]? with
    | some (some (Sum.inr (Sum.inl _))) => false
    | _ => true
theorem x_ok_cat {g : XG} {lv : List (Option XV)} {i j : Nat} {v : XV} (h : x_ok lv i = true) (hj : j + 1 = i) (hv : lv[j]? = some (some v)) : ¬ (x_v g v).category = 2 := by
  subst hj
  simp only [x_ok, hv] at h
  match v, h with
  | Sum.inl x, _ => exact fun q => by cases q
  | Sum.inr (Sum.inr a), _ => rw [x_cat_R]; decide
theorem x_L_set {g : XG} {ls' : Array Slot} {nL : Nat} {lv : List (Option XV)} {i : Nat} {v : XV} (hok : x_ok lv i = true) (h : lv_has ls' nL ((i, x_v g v) :: (x_prs g lv).filter (fun q => !(q.1 == i) && !(q.1 + 1 == i && q.2.category == 2)))) : x_L g ls' nL (lv.set i (some v)) := by
  refine ⟨h.1, h.2.1, fun j w hj => ?_⟩
  by_cases e : j = i
  · subst e
    rw [List.getElem?_set] at hj
    simp only [ite_true] at hj
    split at hj
    · cases hj
      exact h.2.2 (j, x_v g v) List.mem_cons_self
    · cases hj
  · rw [List.getElem?_set_ne (Ne.symm e)] at hj
    refine h.2.2 (j, x_v g w) (List.mem_cons_of_mem _ (List.mem_filter.mpr ⟨x_prs_mem.mpr ⟨w, hj, rfl⟩, ?_⟩))
    simp only [Bool.and_eq_true, Bool.not_eq_true', beq_eq_false_iff_ne, ne_eq, Bool.and_eq_false_iff]
    refine ⟨e, ?_⟩
    by_cases e2 : j + 1 = i
    · exact Or.inr (x_ok_cat hok e2 hj)
    · exact Or.inl e2
theorem x_L_setL {g : XG} {ls' : Array Slot} {nL : Nat} {lv : List (Option XV)} {i : Nat} {v : XV} (hok : x_ok lv i = true) (h : lv_has ls' nL ((i, x_v g v) :: (x_prs g lv).filter (fun q => !(q.1 == i) && (!(q.1 == i + 1) && !(q.1 + 1 == i && q.2.category == 2))))) : x_L g ls' nL ((lv.set i (some v)).set (i + 1) none) := by
  refine ⟨h.1, h.2.1, fun j w hj => ?_⟩
  by_cases e0 : j = i + 1
  · subst e0
    rw [List.getElem?_set] at hj
    simp only [ite_true] at hj
    split at hj <;> cases hj
  · rw [List.getElem?_set_ne (Ne.symm e0)] at hj
    by_cases e : j = i
    · subst e
      rw [List.getElem?_set] at hj
      simp only [ite_true] at hj
      split at hj
      · cases hj
        exact h.2.2 (j, x_v g v) List.mem_cons_self
      · cases hj
    · rw [List.getElem?_set_ne (Ne.symm e)] at hj
      refine h.2.2 (j, x_v g w) (List.mem_cons_of_mem _ (List.mem_filter.mpr ⟨x_prs_mem.mpr ⟨w, hj, rfl⟩, ?_⟩))
      simp only [Bool.and_eq_true, Bool.not_eq_true', beq_eq_false_iff_ne, ne_eq, Bool.and_eq_false_iff]
      refine ⟨e, e0, ?_⟩
      by_cases e2 : j + 1 = i
      · exact Or.inr (x_ok_cat hok e2 hj)
      · exact Or.inl e2
theorem x_istore (C : x_C g p s m args c cc own nL Ts) {i : Nat} {x : Int32} {lv' : List (Option XV)} (d : decode cc pc = .ok (.istore i, 2)) (e1 : pc + 2 = pc') (hn : i < nL) (hok : x_ok lv i = true) (hl' : lv.set i (some (vI x)) = lv') (K : XW g p l e R s m args below meth c Q nL k n h pc' lv' st) : XW g p l e R s m args below meth c Q nL k n h pc lv (vI x :: st) := by
  subst e1; subst hl'
  intro H locs ls cells slots hS hl hc hn2
  exact lv_istore C.1.1 C.1.2.1 d (x_L_has hl) hn rfl (fun ls2 h2 => K H locs ls2 cells slots hS (x_L_set (v := vI x) hok h2) hc hn2)
theorem x_lstore (C : x_C g p s m args c cc own nL Ts) {i : Nat} {x : Int64} {lv' : List (Option XV)} (d : decode cc pc = .ok (.lstore i, 2)) (e1 : pc + 2 = pc') (hn : i + 1 < nL) (hok : x_ok lv i = true) (hl' : (lv.set i (some (vL x))).set (i + 1) none = lv') (K : XW g p l e R s m args below meth c Q nL k n h pc' lv' st) : XW g p l e R s m args below meth c Q nL k n h pc lv (vL x :: st) := by
  subst e1; subst hl'
  intro H locs ls cells slots hS hl hc hn2
  exact lv_lstore C.1.1 C.1.2.1 d (x_L_has hl) hn rfl (fun ls2 h2 => K H locs ls2 cells slots hS (x_L_setL (v := vL x) hok h2) hc hn2)
theorem x_astore (C : x_C g p s m args c cc own nL Ts) {i : Nat} {a : Nat} {lv' : List (Option XV)} (d : decode cc pc = .ok (.astore i, 2)) (e1 : pc + 2 = pc') (hn : i < nL) (hok : x_ok lv i = true) (hl' : lv.set i (some (vR a)) = lv') (K : XW g p l e R s m args below meth c Q nL k n h pc' lv' st) : XW g p l e R s m args below meth c Q nL k n h pc lv (vR a :: st) := by
  subst e1; subst hl'
  intro H locs ls cells slots hS hl hc hn2
  have K1 : ∀ ls2 : Array Slot, lv_has ls2 nL ((i, x_rv g a) :: (x_prs g lv).filter (fun q => !(q.1 == i) && !(q.1 + 1 == i && q.2.category == 2))) → W p l e R s m args below meth c H locs cells slots Q (F0 m (pc + 2) ls2 (st.map (x_v g))) := fun ls2 h2 => K H locs ls2 cells slots hS (x_L_set (v := vR a) hok h2) hc hn2
  show W p l e R s m args below meth c H locs cells slots Q (F0 m pc ls (x_rv g a :: st.map (x_v g)))
  unfold x_rv at K1 ⊢
  by_cases ha : a = 0
  · rw [if_pos ha] at K1 ⊢
    exact lv_astoreN C.1.1 C.1.2.1 d (x_L_has hl) hn rfl K1
  · rw [if_neg ha] at K1 ⊢
    exact lv_astore C.1.1 C.1.2.1 d (x_L_has hl) hn rfl K1
theorem x_istore_n (C : x_C g p s m args c cc own nL Ts) {f : Fin 4} {i : Nat} {x : Int32} {lv' : List (Option XV)} (d : decode cc pc = .ok (.istore_n f, 1)) (e1 : pc + 1 = pc') (hi : (f : Nat) = i) (hn : i < nL) (hok : x_ok lv i = true) (hl' : lv.set i (some (vI x)) = lv') (K : XW g p l e R s m args below meth c Q nL k n h pc' lv' st) : XW g p l e R s m args below meth c Q nL k n h pc lv (vI x :: st) := by
  subst e1; subst hl'
  intro H locs ls cells slots hS hl hc hn2
  exact lv_istore_n C.1.1 C.1.2.1 d hi (x_L_has hl) hn rfl (fun ls2 h2 => K H locs ls2 cells slots hS (x_L_set (v := vI x) hok h2) hc hn2)
theorem x_lstore_n (C : x_C g p s m args c cc own nL Ts) {f : Fin 4} {i : Nat} {x : Int64} {lv' : List (Option XV)} (d : decode cc pc = .ok (.lstore_n f, 1)) (e1 : pc + 1 = pc') (hi : (f : Nat) = i) (hn : i + 1 < nL) (hok : x_ok lv i = true) (hl' : (lv.set i (some (vL x))).set (i + 1) none = lv') (K : XW g p l e R s m args below meth c Q nL k n h pc' lv' st) : XW g p l e R s m args below meth c Q nL k n h pc lv (vL x :: st) := by
  subst e1; subst hl'
  intro H locs ls cells slots hS hl hc hn2
  exact lv_lstore_n C.1.1 C.1.2.1 d hi (x_L_has hl) hn rfl (fun ls2 h2 => K H locs ls2 cells slots hS (x_L_setL (v := vL x) hok h2) hc hn2)
theorem x_astore_n (C : x_C g p s m args c cc own nL Ts) {f : Fin 4} {i : Nat} {a : Nat} {lv' : List (Option XV)} (d : decode cc pc = .ok (.astore_n f, 1)) (e1 : pc + 1 = pc') (hi : (f : Nat) = i) (hn : i < nL) (hok : x_ok lv i = true) (hl' : lv.set i (some (vR a)) = lv') (K : XW g p l e R s m args below meth c Q nL k n h pc' lv' st) : XW g p l e R s m args below meth c Q nL k n h pc lv (vR a :: st) := by
  subst e1; subst hl'
  intro H locs ls cells slots hS hl hc hn2
  have K1 : ∀ ls2 : Array Slot, lv_has ls2 nL ((i, x_rv g a) :: (x_prs g lv).filter (fun q => !(q.1 == i) && !(q.1 + 1 == i && q.2.category == 2))) → W p l e R s m args below meth c H locs cells slots Q (F0 m (pc + 1) ls2 (st.map (x_v g))) := fun ls2 h2 => K H locs ls2 cells slots hS (x_L_set (v := vR a) hok h2) hc hn2
  show W p l e R s m args below meth c H locs cells slots Q (F0 m pc ls (x_rv g a :: st.map (x_v g)))
  unfold x_rv at K1 ⊢
  by_cases ha : a = 0
  · rw [if_pos ha] at K1 ⊢
    exact lv_astore_nN C.1.1 C.1.2.1 d hi (x_L_has hl) hn rfl K1
  · rw [if_neg ha] at K1 ⊢
    exact lv_astore_n C.1.1 C.1.2.1 d hi (x_L_has hl) hn rfl K1
theorem x_iinc (C : x_C g p s m args c cc own nL Ts) {i : Nat} {z : Int} {x v : Int32} {lv' : List (Option XV)} (d : decode cc pc = .ok (.iinc i z, 3)) (e1 : pc + 3 = pc') (hv : lv[i]? = some (some (vI x))) (hz : x + Int32.ofInt z = v) (hn : i < nL) (hok : x_ok lv i = true) (hl' : lv.set i (some (vI v)) = lv') (K : XW g p l e R s m args below meth c Q nL k n h pc' lv' st) : XW g p l e R s m args below meth c Q nL k n h pc lv st := by
  subst e1; subst hl'
  intro H locs ls cells slots hS hl hc hn2
  obtain ⟨k0, hk0⟩ := List.getElem?_of_mem (x_prs_mem (g := g) (q := (i, .int x)).mpr ⟨vI x, hv, rfl⟩)
  exact lv_iinc C.1.1 C.1.2.1 d (x_L_has hl) hk0 hz hn rfl (fun ls2 h2 => K H locs ls2 cells slots hS (x_L_set (v := vI v) hok h2) hc hn2)
def x_msk (bs : List Bool) (lv : List (Option XV)) : List (Option XV) := match bs, lv with
  | b :: bs, v :: lv => (if b then v else none) :: x_msk bs lv
  | _, _ => []
theorem x_msk_at : ∀ (bs : List Bool) (lv : List (Option XV)) (i : Nat) (v : XV), (x_msk bs lv)[i]? = some (some v) → lv[i]? = some (some v)
  | [], lv, i, v, hi => by simp [x_msk] at hi
  | b :: bs, [], i, v, hi => by simp [x_msk] at hi
  | b :: bs, w :: lv, 0, v, hi => by
    simp only [x_msk, List.getElem?_cons_zero] at hi ⊢
    cases b with
    | true => exact hi
    | false => cases hi
  | b :: bs, w :: lv, i + 1, v, hi => by
    simp only [x_msk, List.getElem?_cons_succ] at hi ⊢
    exact x_msk_at bs lv i v hi
theorem x_keep (bs : List Bool) {lv' : List (Option XV)} (hl' : x_msk bs lv = lv') (K : XW g p l e R s m args below meth c Q nL k n h pc lv' st) : XW g p l e R s m args below meth c Q nL k n h pc lv st := by
  subst hl'
  intro H locs ls cells slots hS hl hc hn
  exact K H locs ls cells slots hS ⟨hl.1, hl.2.1, fun i v hi => hl.2.2 i v (x_msk_at bs lv i v hi)⟩ hc hn
theorem x_more {k' n' : Nat} (h1 : k' ≤ k) (h2 : n' ≤ n) (K : XW g p l e R s m args below meth c Q nL k' n' h pc lv st) : XW g p l e R s m args below meth c Q nL k n h pc lv st :=
  fun H locs ls cells slots hS hl hc hn => K H locs ls cells slots hS hl (by omega) (by omega)
theorem x_goto (C : x_C g p s m args c cc own nL Ts) {off : Int} {tgt : Nat} (d : decode cc pc = .ok (.goto off, 3)) (ht : (pc : Int) + off = (tgt : Int)) (K : XW g p l e R s m args below meth c Q nL k n h tgt lv st) : XW g p l e R s m args below meth c Q nL k n h pc lv st := by
  intro H locs ls cells slots hS hl hc hn
  exact lv_goto C.1.1 C.1.2.1 d ht (K H locs ls cells slots hS hl hc hn)
theorem x_icmp_eq (C : x_C g p s m args c cc own nL Ts) {x y : Int32} {off : Int} {tgt : Nat} {β : Type} {A B : Option β} {res : β} (hf : (if x = y then A else B) = some res) (d : decode cc pc = .ok (.if_icmp .eq off, 3)) (e1 : pc + 3 = pc') (ht : (pc : Int) + off = (tgt : Int)) (K1 : x = y → A = some res → XW g p l e R s m args below meth c Q nL k n h tgt lv st) (K2 : ¬ x = y → B = some res → XW g p l e R s m args below meth c Q nL k n h pc' lv st) : XW g p l e R s m args below meth c Q nL k n h pc lv (vI y :: vI x :: st) := by
  subst e1
  intro H locs ls cells slots hS hl hc hn
  exact lv_icmp_eq C.1.1 C.1.2.1 d ht (fun q => K1 q (by rw [if_pos q] at hf; exact hf) H locs ls cells slots hS hl hc hn) (fun q => K2 q (by rw [if_neg q] at hf; exact hf) H locs ls cells slots hS hl hc hn)
theorem x_if_eq (C : x_C g p s m args c cc own nL Ts) {x : Int32} {off : Int} {tgt : Nat} {β : Type} {A B : Option β} {res : β} (hf : (if x = 0 then A else B) = some res) (d : decode cc pc = .ok (.ifCond .eq off, 3)) (e1 : pc + 3 = pc') (ht : (pc : Int) + off = (tgt : Int)) (K1 : x = 0 → A = some res → XW g p l e R s m args below meth c Q nL k n h tgt lv st) (K2 : ¬ x = 0 → B = some res → XW g p l e R s m args below meth c Q nL k n h pc' lv st) : XW g p l e R s m args below meth c Q nL k n h pc lv (vI x :: st) := by
  subst e1
  intro H locs ls cells slots hS hl hc hn
  exact lv_if_eq C.1.1 C.1.2.1 d ht (fun q => K1 q (by rw [if_pos q] at hf; exact hf) H locs ls cells slots hS hl hc hn) (fun q => K2 q (by rw [if_neg q] at hf; exact hf) H locs ls cells slots hS hl hc hn)
theorem x_icmp_ne (C : x_C g p s m args c cc own nL Ts) {x y : Int32} {off : Int} {tgt : Nat} {β : Type} {A B : Option β} {res : β} (hf : (if x = y then A else B) = some res) (d : decode cc pc = .ok (.if_icmp .ne off, 3)) (e1 : pc + 3 = pc') (ht : (pc : Int) + off = (tgt : Int)) (K1 : x = y → A = some res → XW g p l e R s m args below meth c Q nL k n h pc' lv st) (K2 : ¬ x = y → B = some res → XW g p l e R s m args below meth c Q nL k n h tgt lv st) : XW g p l e R s m args below meth c Q nL k n h pc lv (vI y :: vI x :: st) := by
  subst e1
  intro H locs ls cells slots hS hl hc hn
  exact lv_icmp_ne C.1.1 C.1.2.1 d ht (fun q => K2 q (by rw [if_neg q] at hf; exact hf) H locs ls cells slots hS hl hc hn) (fun q => K1 q (by rw [if_pos q] at hf; exact hf) H locs ls cells slots hS hl hc hn)
theorem x_if_ne (C : x_C g p s m args c cc own nL Ts) {x : Int32} {off : Int} {tgt : Nat} {β : Type} {A B : Option β} {res : β} (hf : (if x = 0 then A else B) = some res) (d : decode cc pc = .ok (.ifCond .ne off, 3)) (e1 : pc + 3 = pc') (ht : (pc : Int) + off = (tgt : Int)) (K1 : x = 0 → A = some res → XW g p l e R s m args below meth c Q nL k n h pc' lv st) (K2 : ¬ x = 0 → B = some res → XW g p l e R s m args below meth c Q nL k n h tgt lv st) : XW g p l e R s m args below meth c Q nL k n h pc lv (vI x :: st) := by
  subst e1
  intro H locs ls cells slots hS hl hc hn
  exact lv_if_ne C.1.1 C.1.2.1 d ht (fun q => K2 q (by rw [if_neg q] at hf; exact hf) H locs ls cells slots hS hl hc hn) (fun q => K1 q (by rw [if_pos q] at hf; exact hf) H locs ls cells slots hS hl hc hn)
theorem x_icmp_lt (C : x_C g p s m args c cc own nL Ts) {x y : Int32} {off : Int} {tgt : Nat} {β : Type} {A B : Option β} {res : β} (hf : (if x < y then A else B) = some res) (d : decode cc pc = .ok (.if_icmp .lt off, 3)) (e1 : pc + 3 = pc') (ht : (pc : Int) + off = (tgt : Int)) (K1 : x < y → A = some res → XW g p l e R s m args below meth c Q nL k n h tgt lv st) (K2 : ¬ x < y → B = some res → XW g p l e R s m args below meth c Q nL k n h pc' lv st) : XW g p l e R s m args below meth c Q nL k n h pc lv (vI y :: vI x :: st) := by
  subst e1
  intro H locs ls cells slots hS hl hc hn
  exact lv_icmp_lt C.1.1 C.1.2.1 d ht (fun q => K1 q (by rw [if_pos q] at hf; exact hf) H locs ls cells slots hS hl hc hn) (fun q => K2 q (by rw [if_neg q] at hf; exact hf) H locs ls cells slots hS hl hc hn)
theorem x_if_lt (C : x_C g p s m args c cc own nL Ts) {x : Int32} {off : Int} {tgt : Nat} {β : Type} {A B : Option β} {res : β} (hf : (if x < 0 then A else B) = some res) (d : decode cc pc = .ok (.ifCond .lt off, 3)) (e1 : pc + 3 = pc') (ht : (pc : Int) + off = (tgt : Int)) (K1 : x < 0 → A = some res → XW g p l e R s m args below meth c Q nL k n h tgt lv st) (K2 : ¬ x < 0 → B = some res → XW g p l e R s m args below meth c Q nL k n h pc' lv st) : XW g p l e R s m args below meth c Q nL k n h pc lv (vI x :: st) := by
  subst e1
  intro H locs ls cells slots hS hl hc hn
  exact lv_if_lt C.1.1 C.1.2.1 d ht (fun q => K1 q (by rw [if_pos q] at hf; exact hf) H locs ls cells slots hS hl hc hn) (fun q => K2 q (by rw [if_neg q] at hf; exact hf) H locs ls cells slots hS hl hc hn)
theorem x_icmp_ge (C : x_C g p s m args c cc own nL Ts) {x y : Int32} {off : Int} {tgt : Nat} {β : Type} {A B : Option β} {res : β} (hf : (if y ≤ x then A else B) = some res) (d : decode cc pc = .ok (.if_icmp .ge off, 3)) (e1 : pc + 3 = pc') (ht : (pc : Int) + off = (tgt : Int)) (K1 : y ≤ x → A = some res → XW g p l e R s m args below meth c Q nL k n h tgt lv st) (K2 : ¬ y ≤ x → B = some res → XW g p l e R s m args below meth c Q nL k n h pc' lv st) : XW g p l e R s m args below meth c Q nL k n h pc lv (vI y :: vI x :: st) := by
  subst e1
  intro H locs ls cells slots hS hl hc hn
  exact lv_icmp_ge C.1.1 C.1.2.1 d ht (fun q => K1 q (by rw [if_pos q] at hf; exact hf) H locs ls cells slots hS hl hc hn) (fun q => K2 q (by rw [if_neg q] at hf; exact hf) H locs ls cells slots hS hl hc hn)
theorem x_if_ge (C : x_C g p s m args c cc own nL Ts) {x : Int32} {off : Int} {tgt : Nat} {β : Type} {A B : Option β} {res : β} (hf : (if 0 ≤ x then A else B) = some res) (d : decode cc pc = .ok (.ifCond .ge off, 3)) (e1 : pc + 3 = pc') (ht : (pc : Int) + off = (tgt : Int)) (K1 : 0 ≤ x → A = some res → XW g p l e R s m args below meth c Q nL k n h tgt lv st) (K2 : ¬ 0 ≤ x → B = some res → XW g p l e R s m args below meth c Q nL k n h pc' lv st) : XW g p l e R s m args below meth c Q nL k n h pc lv (vI x :: st) := by
  subst e1
  intro H locs ls cells slots hS hl hc hn
  exact lv_if_ge C.1.1 C.1.2.1 d ht (fun q => K1 q (by rw [if_pos q] at hf; exact hf) H locs ls cells slots hS hl hc hn) (fun q => K2 q (by rw [if_neg q] at hf; exact hf) H locs ls cells slots hS hl hc hn)
theorem x_icmp_gt (C : x_C g p s m args c cc own nL Ts) {x y : Int32} {off : Int} {tgt : Nat} {β : Type} {A B : Option β} {res : β} (hf : (if y < x then A else B) = some res) (d : decode cc pc = .ok (.if_icmp .gt off, 3)) (e1 : pc + 3 = pc') (ht : (pc : Int) + off = (tgt : Int)) (K1 : y < x → A = some res → XW g p l e R s m args below meth c Q nL k n h tgt lv st) (K2 : ¬ y < x → B = some res → XW g p l e R s m args below meth c Q nL k n h pc' lv st) : XW g p l e R s m args below meth c Q nL k n h pc lv (vI y :: vI x :: st) := by
  subst e1
  intro H locs ls cells slots hS hl hc hn
  exact lv_icmp_gt C.1.1 C.1.2.1 d ht (fun q => K1 q (by rw [if_pos q] at hf; exact hf) H locs ls cells slots hS hl hc hn) (fun q => K2 q (by rw [if_neg q] at hf; exact hf) H locs ls cells slots hS hl hc hn)
theorem x_if_gt (C : x_C g p s m args c cc own nL Ts) {x : Int32} {off : Int} {tgt : Nat} {β : Type} {A B : Option β} {res : β} (hf : (if 0 < x then A else B) = some res) (d : decode cc pc = .ok (.ifCond .gt off, 3)) (e1 : pc + 3 = pc') (ht : (pc : Int) + off = (tgt : Int)) (K1 : 0 < x → A = some res → XW g p l e R s m args below meth c Q nL k n h tgt lv st) (K2 : ¬ 0 < x → B = some res → XW g p l e R s m args below meth c Q nL k n h pc' lv st) : XW g p l e R s m args below meth c Q nL k n h pc lv (vI x :: st) := by
  subst e1
  intro H locs ls cells slots hS hl hc hn
  exact lv_if_gt C.1.1 C.1.2.1 d ht (fun q => K1 q (by rw [if_pos q] at hf; exact hf) H locs ls cells slots hS hl hc hn) (fun q => K2 q (by rw [if_neg q] at hf; exact hf) H locs ls cells slots hS hl hc hn)
theorem x_icmp_le (C : x_C g p s m args c cc own nL Ts) {x y : Int32} {off : Int} {tgt : Nat} {β : Type} {A B : Option β} {res : β} (hf : (if x ≤ y then A else B) = some res) (d : decode cc pc = .ok (.if_icmp .le off, 3)) (e1 : pc + 3 = pc') (ht : (pc : Int) + off = (tgt : Int)) (K1 : x ≤ y → A = some res → XW g p l e R s m args below meth c Q nL k n h tgt lv st) (K2 : ¬ x ≤ y → B = some res → XW g p l e R s m args below meth c Q nL k n h pc' lv st) : XW g p l e R s m args below meth c Q nL k n h pc lv (vI y :: vI x :: st) := by
  subst e1
  intro H locs ls cells slots hS hl hc hn
  exact lv_icmp_le C.1.1 C.1.2.1 d ht (fun q => K1 q (by rw [if_pos q] at hf; exact hf) H locs ls cells slots hS hl hc hn) (fun q => K2 q (by rw [if_neg q] at hf; exact hf) H locs ls cells slots hS hl hc hn)
theorem x_if_le (C : x_C g p s m args c cc own nL Ts) {x : Int32} {off : Int} {tgt : Nat} {β : Type} {A B : Option β} {res : β} (hf : (if x ≤ 0 then A else B) = some res) (d : decode cc pc = .ok (.ifCond .le off, 3)) (e1 : pc + 3 = pc') (ht : (pc : Int) + off = (tgt : Int)) (K1 : x ≤ 0 → A = some res → XW g p l e R s m args below meth c Q nL k n h tgt lv st) (K2 : ¬ x ≤ 0 → B = some res → XW g p l e R s m args below meth c Q nL k n h pc' lv st) : XW g p l e R s m args below meth c Q nL k n h pc lv (vI x :: st) := by
  subst e1
  intro H locs ls cells slots hS hl hc hn
  exact lv_if_le C.1.1 C.1.2.1 d ht (fun q => K1 q (by rw [if_pos q] at hf; exact hf) H locs ls cells slots hS hl hc hn) (fun q => K2 q (by rw [if_neg q] at hf; exact hf) H locs ls cells slots hS hl hc hn)
theorem x_ifnull (C : x_C g p s m args c cc own nL Ts) {a : Nat} {off : Int} {tgt : Nat} {β : Type} {A B : Option β} {res : β} (hf : (if a = 0 then A else B) = some res) (d : decode cc pc = .ok (.ifnull off, 3)) (e1 : pc + 3 = pc') (ht : (pc : Int) + off = (tgt : Int)) (K1 : a = 0 → A = some res → XW g p l e R s m args below meth c Q nL k n h tgt lv st) (K2 : ¬ a = 0 → B = some res → XW g p l e R s m args below meth c Q nL k n h pc' lv st) : XW g p l e R s m args below meth c Q nL k n h pc lv (vR a :: st) := by
  subst e1
  intro H locs ls cells slots hS hl hc hn
  show W p l e R s m args below meth c H locs cells slots Q (F0 m pc ls (x_rv g a :: st.map (x_v g)))
  unfold x_rv
  by_cases q : a = 0
  · rw [if_pos q] at hf ⊢
    exact lv_ifnullN C.1.1 C.1.2.1 d ht (K1 q hf H locs ls cells slots hS hl hc hn)
  · rw [if_neg q] at hf ⊢
    exact lv_ifnull C.1.1 C.1.2.1 d (K2 q hf H locs ls cells slots hS hl hc hn)
theorem x_ifnonnull (C : x_C g p s m args c cc own nL Ts) {a : Nat} {off : Int} {tgt : Nat} {β : Type} {A B : Option β} {res : β} (hf : (if a = 0 then A else B) = some res) (d : decode cc pc = .ok (.ifnonnull off, 3)) (e1 : pc + 3 = pc') (ht : (pc : Int) + off = (tgt : Int)) (K1 : a = 0 → A = some res → XW g p l e R s m args below meth c Q nL k n h pc' lv st) (K2 : ¬ a = 0 → B = some res → XW g p l e R s m args below meth c Q nL k n h tgt lv st) : XW g p l e R s m args below meth c Q nL k n h pc lv (vR a :: st) := by
  subst e1
  intro H locs ls cells slots hS hl hc hn
  show W p l e R s m args below meth c H locs cells slots Q (F0 m pc ls (x_rv g a :: st.map (x_v g)))
  unfold x_rv
  by_cases q : a = 0
  · rw [if_pos q] at hf ⊢
    exact lv_ifnonnullN C.1.1 C.1.2.1 d (K1 q hf H locs ls cells slots hS hl hc hn)
  · rw [if_neg q] at hf ⊢
    exact lv_ifnonnull C.1.1 C.1.2.1 d ht (K2 q hf H locs ls cells slots hS hl hc hn)
theorem x_o_inj {g : XG} {a b : Nat} (ha : a = 0 ∨ 4 ≤ a) (hb : b = 0 ∨ 4 ≤ b) : x_o g a = x_o g b ↔ a = b := by
  constructor
  · intro q
    unfold x_o x_ad at q
    by_cases a0 : a = 0 <;> by_cases b0 : b = 0
    · omega
    · rw [if_pos a0, if_neg b0] at q; cases q
    · rw [if_neg a0, if_pos b0] at q; cases q
    · rw [if_neg a0, if_neg b0, if_neg (by omega), if_neg (by omega)] at q
      have := Option.some.inj q
      omega
  · intro q; rw [q]
def aEq (a b : Nat) {β : Type} (A B : Option β) : Option β := if (a = 0 ∨ 4 ≤ a) ∧ (b = 0 ∨ 4 ≤ b) then (if a = b then A else B) else none
theorem x_acmp_ne (C : x_C g p s m args c cc own nL Ts) {a b : Nat} {off : Int} {tgt : Nat} {β : Type} {A B : Option β} {res : β} (hf : aEq a b A B = some res) (d : decode cc pc = .ok (.if_acmp .ne off, 3)) (e1 : pc + 3 = pc') (ht : (pc : Int) + off = (tgt : Int)) (K1 : a = b → A = some res → XW g p l e R s m args below meth c Q nL k n h pc' lv st) (K2 : ¬ a = b → B = some res → XW g p l e R s m args below meth c Q nL k n h tgt lv st) : XW g p l e R s m args below meth c Q nL k n h pc lv (vR b :: vR a :: st) := by
  subst e1
  intro H locs ls cells slots hS hl hc hn
  unfold aEq at hf
  split at hf
  · rename_i hab
    show W p l e R s m args below meth c H locs cells slots Q (F0 m pc ls (x_rv g b :: x_rv g a :: st.map (x_v g)))
    rw [← x_rf g a, ← x_rf g b]
    refine lv_acmp_ne C.1.1 C.1.2.1 d ht (fun q => ?_) (fun q => ?_)
    · rw [x_o_inj hab.1 hab.2] at q
      rw [if_neg q] at hf
      exact K2 q hf H locs ls cells slots hS hl hc hn
    · rw [x_o_inj hab.1 hab.2] at q
      rw [if_pos q] at hf
      exact K1 q hf H locs ls cells slots hS hl hc hn
  · cases hf
theorem x_tswIn (C : x_C g p s m args c cc own nL Ts) {dflt hi : Int} {offs : Array Int} {len : Nat} {x : Int32} {i : Nat} {off : Int} {tgt : Nat} (hx : x = Int32.ofNat i) (hi1 : i < 1000) (hi2 : (i : Int) ≤ hi) (d : decode cc pc = .ok (.tableswitch dflt 0 hi offs, len)) (ho : offs[i]? = some off) (ht : (pc : Int) + off = (tgt : Int)) (K : XW g p l e R s m args below meth c Q nL k n h tgt lv st) : XW g p l e R s m args below meth c Q nL k n h pc lv (vI x :: st) := by
  intro H locs ls cells slots hS hl hc hn
  have e : x.toInt = (i : Int) := by rw [hx]; exact nI_toInt (by omega)
  exact lv_tableIn C.1.1 C.1.2.1 d (by rw [e]; omega) (by rw [e]; omega) (by rw [e]; simpa using ho) ht (K H locs ls cells slots hS hl hc hn)
theorem x_tswOut (C : x_C g p s m args c cc own nL Ts) {dflt hi : Int} {offs : Array Int} {len : Nat} {x : Int32} {tgt : Nat} (cnt : Nat) (hcnt : hi + 1 = (cnt : Int)) (hx : ∀ i, i < cnt → ¬ x = Int32.ofNat i) (d : decode cc pc = .ok (.tableswitch dflt 0 hi offs, len)) (ht : (pc : Int) + dflt = (tgt : Int)) (K : XW g p l e R s m args below meth c Q nL k n h tgt lv st) : XW g p l e R s m args below meth c Q nL k n h pc lv (vI x :: st) := by
  intro H locs ls cells slots hS hl hc hn
  refine lv_tableOut C.1.1 C.1.2.1 d ?_ ht (K H locs ls cells slots hS hl hc hn)
  by_cases h0 : x.toInt < 0
  · exact Or.inl h0
  · by_cases h1 : hi < x.toInt
    · exact Or.inr h1
    · exfalso
      have hlt := x.toInt_lt
      refine hx x.toInt.toNat (by omega) ?_
      apply Int32.toInt_inj.mp
      rw [show Int32.ofNat x.toInt.toNat = nI x.toInt.toNat from rfl, nI_toInt (by omega)]
      omega
end XR
end
section
section XH
variable {g : XG} {p : Program} {l : Launch} {e : Env} {R : Room} {s : State} {m : MethodId} {args : Array Value} {below : List Frame} {meth : Method} {c : Code} {Q : State → Prop} {cc : ByteArray} {own : String} {nL k n : Nat} {Ts : List Cond} {h : Hp} {pc pc' : Nat} {lv : List (Option XV)} {st : List XV}
theorem gI_at {h : Hp} {a ci k : Nat} {x : Int32} (q : gI h a ci k = some x) : ∃ fs, hObj h a ci = some fs ∧ fs[k]? = some (vI x) := by
  unfold gI at q
  split at q
  · rename_i y hy
    cases q
    unfold gV at hy
    obtain ⟨fs, h1, h2⟩ := bind_some hy
    exact ⟨fs, h1, h2⟩
  · cases q
theorem gR_at {h : Hp} {a ci k : Nat} {x : Nat} (q : gR h a ci k = some x) : ∃ fs, hObj h a ci = some fs ∧ fs[k]? = some (vR x) := by
  unfold gR at q
  split at q
  · rename_i y hy
    cases q
    unfold gV at hy
    obtain ⟨fs, h1, h2⟩ := bind_some hy
    exact ⟨fs, h1, h2⟩
  · cases q
theorem pF_at {h h' : Hp} {a ci k : Nat} {v : XV} (q : pF h a ci k v = some h') : ∃ fs, hObj h a ci = some fs ∧ k < fs.length ∧ h' = h.set a (oC ci (fs.set k v)) := by
  unfold pF at q
  obtain ⟨fs, h1, h2⟩ := bind_some q
  split at h2
  · cases h2
    exact ⟨fs, h1, by assumption, rfl⟩
  · cases h2
/-- a cell written -/
theorem x_S_set {H H' : Heap} {locs : List Loc} {a j : Nat} {c0 c' : HC} (hS : x_S g s h H locs) (ha : 4 ≤ a) (hh : h[a]? = some c0) (z : H'.size = H.size) (oq : ∀ q, q ≠ x_ad g a → H'[q]? = H[q]?) (hat : va_at g.2.1.2 x_cl (x_ad g a, x_tr g c') H') : x_S g s (h.set a c') H' (locs ++ [⟨x_ad g a, j⟩]) := by
  obtain ⟨⟨h1, h2, h3⟩, h4⟩ := hS
  refine ⟨⟨x_take_set ha h1, by rw [z, h2, List.length_set], ?_⟩, h4.put z oq ?_⟩
  · rw [x_wd_set ha]
    exact h3.set (x_D g h) (x_wd_at ha hh) hat oq
  · exact (x_D g h).2 _ _ (x_wd_at ha hh)
/-- a cell made -/
theorem x_S_push {H H1 : Heap} {locs : List Loc} {c' : HC} (hs : g.1.1 ≤ s.heap.size) (hS : x_S g s h H locs) (z : H1.size = H.size + 1) (o1 : ∀ q, q < H.size → H1[q]? = H[q]?) (hat : va_at g.2.1.2 x_cl (H.size, x_tr g c') H1) : x_S g s (h ++ [c']) H1 locs ∧ x_rv g h.length = .ref H.size := by
  obtain ⟨⟨h1, h2, h3⟩, h4⟩ := hS
  have hl := x_len h1
  refine ⟨⟨⟨x_take_push h1, by rw [z, h2, List.length_append, List.length_singleton]; omega, ?_⟩, Nat.le_trans h4.1 (by omega), fun q g1 g2 => (o1 q (Nat.lt_of_lt_of_le g1 h4.1)).trans (h4.2.1 q g1 g2), h4.2.2⟩, ?_⟩
  · rw [x_wd_push hl]
    refine va_P.app (h3.kept (fun k x hx => o1 x.1 ((h3 k x hx).lt))) (fun k x hx => ?_)
    have hz : k < 1 := (List.getElem?_eq_some_iff.mp hx).1
    rw [show k = 0 by omega] at hx
    cases hx
    rw [h2] at hat
    exact hat
  · unfold x_rv x_ad
    rw [if_neg (by omega), if_neg (by omega), h2]
-- fields
theorem x_getI (C : x_C g p s m args c cc own nL Ts) {a ci kf ix : Nat} {ref C0 : String} {T : u_T} {N : Nat} (hcl : x_cl[ci]? = some (C0, T, N)) (hk : kf < N) (hin : ∀ w ∈ u_ws C0 T N, w ∈ Ts) (hlk : Cond.fieldLink own ix ref (T kf).2.1 (T kf).2.2.1 ∈ Ts) (href : (T kf).1 = ref) {β : Type} {F : Int32 → Option β} {res : β} (hf : (gI h a ci kf).bind F = some res) (d : decode cc pc = .ok (.getfield ix, 3)) (e1 : pc + 3 = pc') (K : ∀ x, gI h a ci kf = some x → F x = some res → XW g p l e R s m args below meth c Q nL k n h pc' lv (vI x :: st)) : XW g p l e R s m args below meth c Q nL k n h pc lv (vR a :: st) := by
  subst e1
  obtain ⟨x, hx, hf⟩ := bind_some hf
  obtain ⟨fs, h1, h2⟩ := gI_at hx
  obtain ⟨ha, hh⟩ := hObj_at h1
  intro H locs ls cells slots hS hl hc hn
  show W p l e R s m args below meth c H locs cells slots Q (F0 m pc ls (x_rv g a :: st.map (x_v g)))
  rw [x_rv_pos ha]
  exact va_get (D := g.2.1.2) (cl := x_cl) (v := .int x) C.1.1 C.1.2.1 C.1.2.2.2.2 hin C.1.2.2.2.1 C.2.1.1 hS.1.2.2 (a - 4) (x_wd_at ha hh) hcl kf hk (C.1.2.2.2.2 _ hlk) (fun _ q => by rw [← href]; exact q) (by rw [List.getElem?_map, h2]; rfl) d (K x hx hf H locs ls cells slots hS hl hc hn)
theorem x_getR (C : x_C g p s m args c cc own nL Ts) {a ci kf ix : Nat} {ref C0 : String} {T : u_T} {N : Nat} (hcl : x_cl[ci]? = some (C0, T, N)) (hk : kf < N) (hin : ∀ w ∈ u_ws C0 T N, w ∈ Ts) (hlk : Cond.fieldLink own ix ref (T kf).2.1 (T kf).2.2.1 ∈ Ts) (href : (T kf).1 = ref) {β : Type} {F : Nat → Option β} {res : β} (hf : (gR h a ci kf).bind F = some res) (d : decode cc pc = .ok (.getfield ix, 3)) (e1 : pc + 3 = pc') (K : ∀ x, gR h a ci kf = some x → F x = some res → XW g p l e R s m args below meth c Q nL k n h pc' lv (vR x :: st)) : XW g p l e R s m args below meth c Q nL k n h pc lv (vR a :: st) := by
  subst e1
  obtain ⟨x, hx, hf⟩ := bind_some hf
  obtain ⟨fs, h1, h2⟩ := gR_at hx
  obtain ⟨ha, hh⟩ := hObj_at h1
  intro H locs ls cells slots hS hl hc hn
  show W p l e R s m args below meth c H locs cells slots Q (F0 m pc ls (x_rv g a :: st.map (x_v g)))
  rw [x_rv_pos ha]
  exact va_get (D := g.2.1.2) (cl := x_cl) (v := x_rv g x) C.1.1 C.1.2.1 C.1.2.2.2.2 hin C.1.2.2.2.1 C.2.1.1 hS.1.2.2 (a - 4) (x_wd_at ha hh) hcl kf hk (C.1.2.2.2.2 _ hlk) (fun _ q => by rw [← href]; exact q) (by rw [List.getElem?_map, h2]; rfl) d (K x hx hf H locs ls cells slots hS hl hc hn)
theorem x_getIN (C : x_C g p s m args c cc own nL Ts) {a ci kf ix : Nat} {ref C0 host : String} {T : u_T} {N : Nat} (hcl : x_cl[ci]? = some (C0, T, N)) (hk : kf < N) (hin : ∀ w ∈ u_ws C0 T N, w ∈ Ts) (hlk : Cond.fieldLinkNest own ix ref (T kf).2.1 (T kf).2.2.1 host ∈ x_nest) (href : (T kf).1 = ref) {β : Type} {F : Int32 → Option β} {res : β} (hf : (gI h a ci kf).bind F = some res) (d : decode cc pc = .ok (.getfield ix, 3)) (e1 : pc + 3 = pc') (K : ∀ x, gI h a ci kf = some x → F x = some res → XW g p l e R s m args below meth c Q nL k n h pc' lv (vI x :: st)) : XW g p l e R s m args below meth c Q nL k n h pc lv (vR a :: st) := by
  subst e1
  obtain ⟨x, hx, hf⟩ := bind_some hf
  obtain ⟨fs, h1, h2⟩ := gI_at hx
  obtain ⟨ha, hh⟩ := hObj_at h1
  intro H locs ls cells slots hS hl hc hn
  show W p l e R s m args below meth c H locs cells slots Q (F0 m pc ls (x_rv g a :: st.map (x_v g)))
  rw [x_rv_pos ha]
  exact va_getN (D := g.2.1.2) (cl := x_cl) (v := .int x) C.1.1 C.1.2.1 C.1.2.2.2.2 hin C.1.2.2.2.1 C.2.1.1 hS.1.2.2 (a - 4) (x_wd_at ha hh) hcl kf hk (va_Nw.use rfl (C.2.1.2.2.1 _ hlk)) (fun _ q => by rw [← href]; exact q) (by rw [List.getElem?_map, h2]; rfl) d (K x hx hf H locs ls cells slots hS hl hc hn)
/-- a value fits a field of a type -/
def x_fit (ty : FieldType) (v : XV) : Bool := match ty, v with
  | .int, Sum.inl _ => true
  | .object _, Sum.inr (Sum.inr _) => true
  | .array _, Sum.inr (Sum.inr _) => true
  | _, _ => false
theorem x_fit_ok {ty : FieldType} {v : XV} (q : x_fit ty v = true) : narrow ty (x_v g v) = x_v g v ∧ fits ty (x_v g v) = true := by
  unfold x_fit at q
  split at q
  · exact ⟨rfl, rfl⟩
  · show narrow _ (x_rv g _) = x_rv g _ ∧ fits _ (x_rv g _) = true
    unfold x_rv
    split <;> exact ⟨rfl, rfl⟩
  · show narrow _ (x_rv g _) = x_rv g _ ∧ fits _ (x_rv g _) = true
    unfold x_rv
    split <;> exact ⟨rfl, rfl⟩
  · cases q
theorem x_put (C : x_C g p s m args c cc own nL Ts) {a ci kf ix : Nat} {ref C0 : String} {T : u_T} {N : Nat} {v : XV} (hcl : x_cl[ci]? = some (C0, T, N)) (hk : kf < N) (hin : ∀ w ∈ u_ws C0 T N, w ∈ Ts) (ty0 : Nat → FieldType) (hty : ∀ k, k < N → parseFieldDescriptor (T k).2.2.1 = some (ty0 k)) (hnm : ∀ a, a < N → ∀ b, b < N → a ≠ b → (T a).2.1 ≠ (T b).2.1) (hlk : Cond.fieldLink own ix ref (T kf).2.1 (T kf).2.2.1 ∈ Ts) (href : (T kf).1 = ref) (hfin : (T kf).2.2.2 = false ∨ ((T kf).2.2.2 = true ∧ meth.name = "<init>" ∧ (T kf).1 = own)) (hft : x_fit (ty0 kf) v = true) {β : Type} {F : Hp → Option β} {res : β} (hf : (pF h a ci kf v).bind F = some res) (d : decode cc pc = .ok (.putfield ix, 3)) (e1 : pc + 3 = pc') (K : ∀ h', pF h a ci kf v = some h' → F h' = some res → XW g p l e R s m args below meth c Q nL k n h' pc' lv st) : XW g p l e R s m args below meth c Q nL k n h pc lv (v :: vR a :: st) := by
  subst e1
  obtain ⟨h', hp', hf⟩ := bind_some hf
  obtain ⟨fs, h1, hlt, h2⟩ := pF_at hp'
  obtain ⟨ha, hh⟩ := hObj_at h1
  have hK1 := K h' hp' hf
  subst h2
  intro H locs ls cells slots hS hl hc hn
  show W p l e R s m args below meth c H locs cells slots Q (F0 m pc ls (x_v g v :: x_rv g a :: st.map (x_v g)))
  rw [x_rv_pos ha]
  obtain ⟨hn9, hfit⟩ := x_fit_ok (g := g) hft
  have hK := C.2.1.1
  have hts := C.1.2.2.2.2
  have he := x_wd_at (g := g) ha hh
  have hap := va_apart (own := own) hts hin ty0 hty hnm hK hcl
  obtain ⟨r, g1, cell, q1, q2, q3, q4⟩ := hS.1.2.2 (a - 4) _ he
  have hr : r = (C0, T, N) := Option.some.inj (g1.symm.trans hcl)
  subst hr
  obtain ⟨hSl, hfc, kC, hkC, hkind⟩ := hK.1 ci _ hcl
  obtain ⟨cf, kc, fi, f, hi, hsl⟩ := hSl kf hk
  have hlay := hts _ (hin _ (u_in_lay hk))
  unfold u_lay at hlay
  have hst := (u_facts hfc hkC (u_lays hts hin hk) hi).1
  have hsame : s.fieldFound? ref (T kf).2.1 (T kf).2.2.1 = some (cf, kc, fi, f) := by rw [← href]; exact hi
  have fin : ∀ H' : Heap, H'[x_ad g a]? = some (cell.setSlot f.slot (x_v g v)) → H'.size = H.size → (∀ q, q ≠ x_ad g a → H'[q]? = H[q]?) → W p l e R s m args below meth c H' (locs ++ [⟨x_ad g a, f.slot⟩]) cells slots Q (F0 m (pc + 3) ls (st.map (x_v g))) := by
    intro H' e1 e2 e3
    refine hK1 H' _ ls cells slots (x_S_set hS ha hh e2 e3 ?_) hl hc hn
    rw [hsl] at e1
    show ∃ r : vw_C, x_cl[ci]? = some r ∧ t_OB (x_ad g a) (g.2.1.2.1 ci) r.2.2 (g.2.1.2.2 ci) H' (vp_V ((fs.set kf v).map (x_v g)))
    rw [List.map_set]
    exact ⟨_, hcl, t_OB.to (V := updV (vp_V (fs.map (x_v g))) kf (x_v g v)) ⟨_, e1, q2, q3, t_set q4 hap hk (x_v g v)⟩ (fun j _ => vp_updV_set (by rw [List.length_map]; exact hlt) (x_v g v) j)⟩
  rcases hfin with hfin | ⟨hfin, hin2, hdecl⟩
  · rw [if_neg (by rw [hfin]; decide)] at hlay
    have h6 := u_store hfc hkC hkind hlay hi (hty kf hk) hn9 hfit
    exact W.putK C.1.1 C.1.2.1 (f := f) ⟨C.1.2.2.2.1, hts _ hlk, ⟨_, _, _, hsame⟩, hst⟩ (by rw [q2]; exact h6) q1 q3 (by rw [hsl]; exact k2_hasslot (q4 kf hk)) rfl rfl d fin
  · rw [if_pos hfin] at hlay
    have hcf : m.cls = cf := by
      obtain ⟨_, _, c', _, _, _, -, -, hf', -, -, -, hown2, -⟩ := Cond.laysFinal_spec hlay
      have e1 : c' = cf := by have := hi.symm.trans hf'; simp at this; exact this.1.symm
      rw [hdecl] at hown2
      rw [← e1]; exact Option.some.inj (C.1.2.2.2.1.symm.trans hown2)
    have h6 := u_fits hfc hkC hkind (Or.inr hlay) hi (hty kf hk) hn9 hfit
    exact W.putFinK C.1.1 C.1.2.1 C.1.2.2.2.1 (hts _ hlk) hsame hst hcf hin2 (by rw [q2]; exact h6) q1 q3 (by rw [hsl]; exact k2_hasslot (q4 kf hk)) rfl rfl d fin
-- arrays
theorem x_old {a : Nat} (ha : a < 4) (e : h.take 4 = x_st g) : h[a]? = (x_st g)[a]? := by
  rw [← e, List.getElem?_take_of_lt ha]
theorem aI_at {h : Hp} {a tg : Nat} {i x : Int32} (q : aI h a tg i = some x) : ∃ (n : Nat) (f : Nat → Int32), h[a]? = some (aC tg n f) ∧ vp_in i n ∧ x = f i.toNatClampNeg := by
  unfold aI at q
  obtain ⟨w, h1, h2⟩ := bind_some q
  split at h2
  · rename_i hb
    cases h2
    exact ⟨w.1, w.2, hArr_at h1, inB_in hb, rfl⟩
  · cases h2
theorem x_iaload (C : x_C g p s m args c cc own nL Ts) {a : Nat} {i : Int32} {β : Type} {F : Int32 → Option β} {res : β} (hf : (aI h a 0 i).bind F = some res) (d : decode cc pc = .ok (.iaload, 1)) (e1 : pc + 1 = pc') (K : ∀ x, aI h a 0 i = some x → F x = some res → XW g p l e R s m args below meth c Q nL k n h pc' lv (vI x :: st)) : XW g p l e R s m args below meth c Q nL k n h pc lv (vI i :: vR a :: st) := by
  subst e1
  obtain ⟨x, hx, hf⟩ := bind_some hf
  obtain ⟨nn, f, hh, hb, rfl⟩ := aI_at hx
  intro H locs ls cells slots hS hl hc hn
  have K1 := K _ hx hf H locs ls cells slots hS hl hc hn
  show W p l e R s m args below meth c H locs cells slots Q (F0 m pc ls (.int i :: x_rv g a :: st.map (x_v g)))
  by_cases ha : 4 ≤ a
  · rw [x_rv_pos ha]
    exact va_iald (D := g.2.1.2) (cl := x_cl) (tys := x_ty g) C.1.1 C.1.2.1 C.2.1.1 hS.1.2.2 (a - 4) 0 (x_wd_at ha hh) rfl hb d K1
  · obtain ⟨z1, z2, z3, z4, z5, z6⟩ := C.2.1.2.1
    have hold := x_old (g := g) (h := h) (a := a) (by omega) hS.1.1
    rw [hh] at hold
    have hn4 : a = 0 ∨ a = 1 ∨ a = 2 ∨ a = 3 := by omega
    rcases hn4 with rfl | rfl | rfl | rfl
    · simp [x_st] at hold
    · have e2 : nn = g.2.2.1 ∧ f = g.2.2.2 := by
        simp only [x_st, List.getElem?_cons_succ, List.getElem?_cons_zero, Option.some.injEq, Sum.inr.injEq, Sum.inl.injEq, Prod.mk.injEq, true_and] at hold
        exact hold
      obtain ⟨rfl, rfl⟩ := e2
      exact va_sld C.1.1 C.1.2.1 z6 (Nat.lt_of_lt_of_le z5 C.2.2) (Nat.not_le.mpr z5) hS.2 hb d K1
    · have e2 : nn = 5 ∧ f = x_mw := by
        simp only [x_st, List.getElem?_cons_succ, List.getElem?_cons_zero, Option.some.injEq, Sum.inr.injEq, Sum.inl.injEq, Prod.mk.injEq, true_and] at hold
        exact hold
      obtain ⟨rfl, rfl⟩ := e2
      exact va_ti C.1.1 C.1.2.1 z2 hS.2 hb rfl d K1
    · have e2 : nn = 4 ∧ f = x_lk := by
        simp only [x_st, List.getElem?_cons_succ, List.getElem?_cons_zero, Option.some.injEq, Sum.inr.injEq, Sum.inl.injEq, Prod.mk.injEq, true_and] at hold
        exact hold
      obtain ⟨rfl, rfl⟩ := e2
      exact va_ti C.1.1 C.1.2.1 z4 hS.2 hb rfl d K1
theorem x_new4 {a tg nn : Nat} {f : Nat → Int32} (ht : ¬ tg = 0) (e : h.take 4 = x_st g) (hh : h[a]? = some (aC tg nn f)) : 4 ≤ a := by
  by_cases ha : 4 ≤ a
  · exact ha
  · exfalso
    have hold := x_old (g := g) (h := h) (a := a) (by omega) e
    rw [hh] at hold
    have hn4 : a = 0 ∨ a = 1 ∨ a = 2 ∨ a = 3 := by omega
    rcases hn4 with rfl | rfl | rfl | rfl
    · simp [x_st] at hold
    · simp only [x_st, List.getElem?_cons_succ, List.getElem?_cons_zero, Option.some.injEq, Sum.inr.injEq, Sum.inl.injEq, Prod.mk.injEq] at hold
      exact ht hold.1
    · simp only [x_st, List.getElem?_cons_succ, List.getElem?_cons_zero, Option.some.injEq, Sum.inr.injEq, Sum.inl.injEq, Prod.mk.injEq] at hold
      exact ht hold.1
    · simp only [x_st, List.getElem?_cons_succ, List.getElem?_cons_zero, Option.some.injEq, Sum.inr.injEq, Sum.inl.injEq, Prod.mk.injEq] at hold
      exact ht hold.1
theorem x_baloadB (C : x_C g p s m args c cc own nL Ts) {a : Nat} {i : Int32} {β : Type} {F : Int32 → Option β} {res : β} (hf : (aI h a 1 i).bind F = some res) (d : decode cc pc = .ok (.baload, 1)) (e1 : pc + 1 = pc') (K : ∀ x, aI h a 1 i = some x → F x = some res → XW g p l e R s m args below meth c Q nL k n h pc' lv (vI x :: st)) : XW g p l e R s m args below meth c Q nL k n h pc lv (vI i :: vR a :: st) := by
  subst e1
  obtain ⟨x, hx, hf⟩ := bind_some hf
  obtain ⟨nn, f, hh, hb, rfl⟩ := aI_at hx
  intro H locs ls cells slots hS hl hc hn
  have ha := x_new4 (g := g) (by decide) hS.1.1 hh
  show W p l e R s m args below meth c H locs cells slots Q (F0 m pc ls (.int i :: x_rv g a :: st.map (x_v g)))
  rw [x_rv_pos ha]
  exact va_bald (D := g.2.1.2) (cl := x_cl) (tys := x_ty g) C.1.1 C.1.2.1 C.2.1.1 hS.1.2.2 (a - 4) 1 (x_wd_at ha hh) rfl hb d (K _ hx hf H locs ls cells slots hS hl hc hn)
theorem x_baloadZ (C : x_C g p s m args c cc own nL Ts) {a : Nat} {i : Int32} {β : Type} {F : Int32 → Option β} {res : β} (hf : (aI h a 2 i).bind F = some res) (d : decode cc pc = .ok (.baload, 1)) (e1 : pc + 1 = pc') (K : ∀ x, aI h a 2 i = some x → F x = some res → XW g p l e R s m args below meth c Q nL k n h pc' lv (vI x :: st)) : XW g p l e R s m args below meth c Q nL k n h pc lv (vI i :: vR a :: st) := by
  subst e1
  obtain ⟨x, hx, hf⟩ := bind_some hf
  obtain ⟨nn, f, hh, hb, rfl⟩ := aI_at hx
  intro H locs ls cells slots hS hl hc hn
  have ha := x_new4 (g := g) (by decide) hS.1.1 hh
  show W p l e R s m args below meth c H locs cells slots Q (F0 m pc ls (.int i :: x_rv g a :: st.map (x_v g)))
  rw [x_rv_pos ha]
  exact va_zald (D := g.2.1.2) (cl := x_cl) (tys := x_ty g) C.1.1 C.1.2.1 C.2.1.1 hS.1.2.2 (a - 4) 2 (x_wd_at ha hh) rfl hb d (K _ hx hf H locs ls cells slots hS hl hc hn)
theorem sI_at {h h' : Hp} {a tg : Nat} {i x : Int32} (q : sI h a tg i x = some h') : 4 ≤ a ∧ ∃ (n : Nat) (f : Nat → Int32), h[a]? = some (aC tg n f) ∧ vp_in i n ∧ h' = h.set a (aC tg n (upd f i.toNatClampNeg (x_nar tg x))) := by
  unfold sI at q
  split at q
  · cases q
  · obtain ⟨w, h1, h2⟩ := bind_some q
    split at h2
    · rename_i hb
      cases h2
      exact ⟨by omega, w.1, w.2, hArr_at h1, inB_in hb, rfl⟩
    · cases h2
theorem x_cellI {cA : ClassId} {nn j : Nat} {f : Nat → Int32} {x : Int32} : (vp_cell cA (nn, .inl f)).setSlot j (.int x) = vp_cell cA (nn, .inl (upd f j x)) := by
  rw [vp_cell_i, vp_cell_i, arrV_store]
  congr 2
  funext q
  by_cases hq : q = j
  · subst hq
    simp [updV, upd]
  · simp [updV, upd, hq]
theorem x_iastore (C : x_C g p s m args c cc own nL Ts) {a : Nat} {i x : Int32} {β : Type} {F : Hp → Option β} {res : β} (hf : (sI h a 0 i x).bind F = some res) (d : decode cc pc = .ok (.iastore, 1)) (e1 : pc + 1 = pc') (K : ∀ h', sI h a 0 i x = some h' → F h' = some res → XW g p l e R s m args below meth c Q nL k n h' pc' lv st) : XW g p l e R s m args below meth c Q nL k n h pc lv (vI x :: vI i :: vR a :: st) := by
  subst e1
  obtain ⟨h', hx, hf⟩ := bind_some hf
  obtain ⟨ha, nn, f, hh, hb, e2⟩ := sI_at hx
  have K1 := K h' hx hf
  subst e2
  intro H locs ls cells slots hS hl hc hn
  show W p l e R s m args below meth c H locs cells slots Q (F0 m pc ls (.int x :: .int i :: x_rv g a :: st.map (x_v g)))
  rw [x_rv_pos ha]
  refine W.iast C.1.1 C.1.2.1 (hS.1.2.2 (a - 4) _ (x_wd_at ha hh)) ((C.2.1.1.2 0 _ rfl).1 nn (fun j => .int (f j))) (fun q => by cases q) (by show ¬ (i < 0 ∨ (arrV _ _ _).slots.size ≤ _); rw [arrV_size]; exact hb) rfl rfl d fun H1 e z oq => ?_
  refine K1 H1 _ ls cells slots (x_S_set hS ha hh z oq ?_) hl hc hn
  show H1[x_ad g a]? = some (vp_cell _ _)
  rw [e]
  exact congrArg some x_cellI
theorem x_bastoreB (C : x_C g p s m args c cc own nL Ts) {a : Nat} {i x : Int32} {β : Type} {F : Hp → Option β} {res : β} (hf : (sI h a 1 i x).bind F = some res) (d : decode cc pc = .ok (.bastore, 1)) (e1 : pc + 1 = pc') (K : ∀ h', sI h a 1 i x = some h' → F h' = some res → XW g p l e R s m args below meth c Q nL k n h' pc' lv st) : XW g p l e R s m args below meth c Q nL k n h pc lv (vI x :: vI i :: vR a :: st) := by
  subst e1
  obtain ⟨h', hx, hf⟩ := bind_some hf
  obtain ⟨ha, nn, f, hh, hb, e2⟩ := sI_at hx
  have K1 := K h' hx hf
  subst e2
  intro H locs ls cells slots hS hl hc hn
  show W p l e R s m args below meth c H locs cells slots Q (F0 m pc ls (.int x :: .int i :: x_rv g a :: st.map (x_v g)))
  rw [x_rv_pos ha]
  refine W.bast C.1.1 C.1.2.1 (hS.1.2.2 (a - 4) _ (x_wd_at ha hh)) ((C.2.1.1.2 1 _ rfl).1 nn (fun j => .int (f j))) (fun q => by cases q) (by show ¬ (i < 0 ∨ (arrV _ _ _).slots.size ≤ _); rw [arrV_size]; exact hb) rfl rfl d fun H1 e z oq => ?_
  refine K1 H1 _ ls cells slots (x_S_set hS ha hh z oq ?_) hl hc hn
  show H1[x_ad g a]? = some (vp_cell _ _)
  rw [e]
  exact congrArg some x_cellI
theorem x_bastoreZ (C : x_C g p s m args c cc own nL Ts) {a : Nat} {i x : Int32} {β : Type} {F : Hp → Option β} {res : β} (hf : (sI h a 2 i x).bind F = some res) (d : decode cc pc = .ok (.bastore, 1)) (e1 : pc + 1 = pc') (K : ∀ h', sI h a 2 i x = some h' → F h' = some res → XW g p l e R s m args below meth c Q nL k n h' pc' lv st) : XW g p l e R s m args below meth c Q nL k n h pc lv (vI x :: vI i :: vR a :: st) := by
  subst e1
  obtain ⟨h', hx, hf⟩ := bind_some hf
  obtain ⟨ha, nn, f, hh, hb, e2⟩ := sI_at hx
  have K1 := K h' hx hf
  subst e2
  intro H locs ls cells slots hS hl hc hn
  show W p l e R s m args below meth c H locs cells slots Q (F0 m pc ls (.int x :: .int i :: x_rv g a :: st.map (x_v g)))
  rw [x_rv_pos ha]
  refine W.zast C.1.1 C.1.2.1 (hS.1.2.2 (a - 4) _ (x_wd_at ha hh)) ((C.2.1.1.2 2 _ rfl).1 nn (fun j => .int (f j))) (fun q => by cases q) (by show ¬ (i < 0 ∨ (arrV _ _ _).slots.size ≤ _); rw [arrV_size]; exact hb) rfl rfl d fun H1 e z oq => ?_
  refine K1 H1 _ ls cells slots (x_S_set hS ha hh z oq ?_) hl hc hn
  show H1[x_ad g a]? = some (vp_cell _ _)
  rw [e]
  exact congrArg some x_cellI
theorem aL_at {h : Hp} {a : Nat} {i : Int32} {x : Int64} (q : aL h a i = some x) : 4 ≤ a ∧ ∃ (n : Nat) (f : Nat → Int64), h[a]? = some (lC n f) ∧ vp_in i n ∧ x = f i.toNatClampNeg := by
  unfold aL at q
  obtain ⟨w, h1, h2⟩ := bind_some q
  split at h2
  · rename_i hb
    cases h2
    exact ⟨(hLng_at h1).1, w.1, w.2, (hLng_at h1).2, inB_in hb, rfl⟩
  · cases h2
theorem sL_at {h h' : Hp} {a : Nat} {i : Int32} {x : Int64} (q : sL h a i x = some h') : 4 ≤ a ∧ ∃ (n : Nat) (f : Nat → Int64), h[a]? = some (lC n f) ∧ vp_in i n ∧ h' = h.set a (lC n (vp_updL f i.toNatClampNeg x)) := by
  unfold sL at q
  obtain ⟨w, h1, h2⟩ := bind_some q
  split at h2
  · rename_i hb
    cases h2
    exact ⟨(hLng_at h1).1, w.1, w.2, (hLng_at h1).2, inB_in hb, rfl⟩
  · cases h2
theorem x_laload (C : x_C g p s m args c cc own nL Ts) {a : Nat} {i : Int32} {β : Type} {F : Int64 → Option β} {res : β} (hf : (aL h a i).bind F = some res) (d : decode cc pc = .ok (.laload, 1)) (e1 : pc + 1 = pc') (K : ∀ x, aL h a i = some x → F x = some res → XW g p l e R s m args below meth c Q nL k n h pc' lv (vL x :: st)) : XW g p l e R s m args below meth c Q nL k n h pc lv (vI i :: vR a :: st) := by
  subst e1
  obtain ⟨x, hx, hf⟩ := bind_some hf
  obtain ⟨ha, nn, f, hh, hb, rfl⟩ := aL_at hx
  intro H locs ls cells slots hS hl hc hn
  show W p l e R s m args below meth c H locs cells slots Q (F0 m pc ls (.int i :: x_rv g a :: st.map (x_v g)))
  rw [x_rv_pos ha]
  exact va_lald (D := g.2.1.2) (cl := x_cl) (tys := x_ty g) C.1.1 C.1.2.1 C.2.1.1 hS.1.2.2 (a - 4) 3 (x_wd_at ha hh) rfl hb d (K _ hx hf H locs ls cells slots hS hl hc hn)
theorem x_lastore (C : x_C g p s m args c cc own nL Ts) {a : Nat} {i : Int32} {x : Int64} {β : Type} {F : Hp → Option β} {res : β} (hf : (sL h a i x).bind F = some res) (d : decode cc pc = .ok (.lastore, 1)) (e1 : pc + 1 = pc') (K : ∀ h', sL h a i x = some h' → F h' = some res → XW g p l e R s m args below meth c Q nL k n h' pc' lv st) : XW g p l e R s m args below meth c Q nL k n h pc lv (vL x :: vI i :: vR a :: st) := by
  subst e1
  obtain ⟨h', hx, hf⟩ := bind_some hf
  obtain ⟨ha, nn, f, hh, hb, e2⟩ := sL_at hx
  have K1 := K h' hx hf
  subst e2
  intro H locs ls cells slots hS hl hc hn
  show W p l e R s m args below meth c H locs cells slots Q (F0 m pc ls (.long x :: .int i :: x_rv g a :: st.map (x_v g)))
  rw [x_rv_pos ha]
  refine W.last C.1.1 C.1.2.1 (hS.1.2.2 (a - 4) _ (x_wd_at ha hh)) ((C.2.1.1.2 3 _ rfl).1 nn (fun j => .long (f j))) (fun q => by cases q) (by show ¬ (i < 0 ∨ (arrV _ _ _).slots.size ≤ _); rw [arrV_size]; exact hb) rfl rfl d fun H1 e z oq => ?_
  refine K1 H1 _ ls cells slots (x_S_set hS ha hh z oq ?_) hl hc hn
  show H1[x_ad g a]? = some (vp_cell _ (nn, .inr (.inl (vp_updL f i.toNatClampNeg x))))
  rw [e]
  show some ((vp_cell _ (nn, .inr (.inl f))).setSlot _ _) = _
  rw [vp_cell_l, vp_cell_l, arrV_store]
  congr 2
  funext q
  by_cases hq : q = i.toNatClampNeg
  · subst hq
    simp [updV, vp_updL]
  · simp [updV, vp_updL, hq]
theorem aR_at {h : Hp} {a : Nat} {i : Int32} {x : Nat} (q : aR h a i = some x) : 4 ≤ a ∧ ∃ (n : Nat) (f : Nat → Nat), h[a]? = some (rC n f) ∧ vp_in i n ∧ x = f i.toNatClampNeg := by
  unfold aR at q
  obtain ⟨w, h1, h2⟩ := bind_some q
  split at h2
  · rename_i hb
    cases h2
    exact ⟨(hRow_at h1).1, w.1, w.2, (hRow_at h1).2, inB_in hb, rfl⟩
  · cases h2
theorem x_aaload (C : x_C g p s m args c cc own nL Ts) {a : Nat} {i : Int32} {β : Type} {F : Nat → Option β} {res : β} (hf : (aR h a i).bind F = some res) (d : decode cc pc = .ok (.aaload, 1)) (e1 : pc + 1 = pc') (K : ∀ x, aR h a i = some x → F x = some res → XW g p l e R s m args below meth c Q nL k n h pc' lv (vR x :: st)) : XW g p l e R s m args below meth c Q nL k n h pc lv (vI i :: vR a :: st) := by
  subst e1
  obtain ⟨x, hx, hf⟩ := bind_some hf
  obtain ⟨ha, nn, f, hh, hb, rfl⟩ := aR_at hx
  intro H locs ls cells slots hS hl hc hn
  show W p l e R s m args below meth c H locs cells slots Q (F0 m pc ls (.int i :: x_rv g a :: st.map (x_v g)))
  rw [x_rv_pos ha]
  have K1 : W p l e R s m args below meth c H locs cells slots Q (F0 m (pc + 1) ls (x_rv g (f i.toNatClampNeg) :: st.map (x_v g))) := K _ hx hf H locs ls cells slots hS hl hc hn
  rw [← x_rf] at K1
  exact va_aldq (D := g.2.1.2) (cl := x_cl) (tys := x_ty g) (f := fun j => x_o g (f j)) C.1.1 C.1.2.1 C.2.1.1 hS.1.2.2 (a - 4) 4 (x_wd_at ha hh) rfl hb d K1
theorem sR_at {h h' : Hp} {a : Nat} {i : Int32} {v : Nat} (q : sR h a i v = some h') : 4 ≤ a ∧ ∃ (n : Nat) (f : Nat → Nat), h[a]? = some (rC n f) ∧ vp_in i n ∧ (v = 0 ∨ ∃ fs, hObj h v 1 = some fs) ∧ h' = h.set a (rC n (va_up f i.toNatClampNeg v)) := by
  unfold sR at q
  obtain ⟨w, h1, h2⟩ := bind_some q
  split at h2
  · rename_i hb
    cases h2
    exact ⟨(hRow_at h1).1, w.1, w.2, (hRow_at h1).2, inB_in hb.1, hb.2.imp id (fun q => Option.isSome_iff_exists.mp q), rfl⟩
  · cases h2
theorem x_aastore (C : x_C g p s m args c cc own nL Ts) {a v : Nat} {i : Int32} {β : Type} {F : Hp → Option β} {res : β} (hf : (sR h a i v).bind F = some res) (d : decode cc pc = .ok (.aastore, 1)) (e1 : pc + 1 = pc') (K : ∀ h', sR h a i v = some h' → F h' = some res → XW g p l e R s m args below meth c Q nL k n h' pc' lv st) : XW g p l e R s m args below meth c Q nL k n h pc lv (vR v :: vI i :: vR a :: st) := by
  subst e1
  obtain ⟨h', hx, hf⟩ := bind_some hf
  obtain ⟨ha, nn, f, hh, hb, hv, e2⟩ := sR_at hx
  have K1 := K h' hx hf
  subst e2
  intro H locs ls cells slots hS hl hc hn
  show W p l e R s m args below meth c H locs cells slots Q (F0 m pc ls (x_rv g v :: .int i :: x_rv g a :: st.map (x_v g)))
  rw [x_rv_pos ha]
  have hK := C.2.1.1
  have hP := hS.1.2.2
  have he := x_wd_at (g := g) ha hh
  have fin : ∀ H' : Heap, H'[x_ad g a]? = some ((vp_cell (g.2.1.1 4) (nn, .inr (.inr (.inr (.inr (fun j => x_o g (f j))))))).setSlot i.toNatClampNeg (x_rv g v)) → H'.size = H.size → (∀ q, q ≠ x_ad g a → H'[q]? = H[q]?) → W p l e R s m args below meth c H' (locs ++ [⟨x_ad g a, i.toNatClampNeg⟩]) cells slots Q (F0 m (pc + 1) ls (st.map (x_v g))) := by
    intro H1 e z oq
    refine K1 H1 _ ls cells slots (x_S_set hS ha hh z oq ?_) hl hc hn
    show H1[x_ad g a]? = some (vp_cell (g.2.1.1 4) (nn, .inr (.inr (.inr (.inr (fun j => x_o g (va_up f i.toNatClampNeg v j)))))))
    rw [e, vp_cell_q, vp_cell_q, arrV_store]
    congr 2
    funext q
    by_cases hq : q = i.toNatClampNeg
    · subst hq
      simp [updV, va_up, x_rf]
    · simp [updV, va_up, hq]
  rcases hv with rfl | ⟨fs, hfs⟩
  · exact va_WaastN (C := "MossRings$Rule") C.1.1 C.1.2.1 (hP (a - 4) _ he) ((hK.2 4 _ rfl).1 nn (fun j => va_rf (x_o g (f j)))) (fun h => by cases h) (by show ¬ (i < 0 ∨ (arrV _ _ _).slots.size ≤ _); rw [arrV_size]; exact hb) rfl rfl d fin
  · obtain ⟨hv4, hvv⟩ := hObj_at hfs
    rw [x_rv_pos hv4] at fin ⊢
    have hlt : i.toNatClampNeg < nn := Nat.not_le.mp fun q => hb (Or.inr q)
    have h0 : ¬ i < 0 := fun q => hb (Or.inl q)
    obtain ⟨r', hr', cellV, g1, g2, g3, -⟩ := hP (v - 4) _ (x_wd_at (g := g) hv4 hvv)
    have hcls := (hK.1 1 (RX1, TX1, 5) rfl).2
    obtain ⟨kA, comp, k1, k2, k3, -⟩ := (hK.2 4 _ rfl).2
    have hcomp : comp = g.2.1.2.1 1 := Option.some.inj (k3.symm.trans hcls.1)
    subst hcomp
    obtain ⟨kC, hkC, -⟩ := hcls.2
    exact W.aast C.1.1 C.1.2.1 (hP (a - 4) _ he) (fun q h => by cases h) (fun h => by cases h) k1 k2 rfl hkC ⟨h0, by show _ < (arrV _ _ _).slots.size; rw [arrV_size]; exact hlt⟩ g1 (fun q h => by rw [g3] at h; cases h) (by rw [g2]; exact hkC) (by rw [g2]; exact va_assign hcls) rfl rfl d fin
theorem x_alen (C : x_C g p s m args c cc own nL Ts) {a : Nat} {β : Type} {F : Int32 → Option β} {res : β} (hf : (aN h a).bind F = some res) (d : decode cc pc = .ok (.arraylength, 1)) (e1 : pc + 1 = pc') (K : ∀ x, aN h a = some x → F x = some res → XW g p l e R s m args below meth c Q nL k n h pc' lv (vI x :: st)) : XW g p l e R s m args below meth c Q nL k n h pc lv (vR a :: st) := by
  subst e1
  obtain ⟨x, hx, hf⟩ := bind_some hf
  have K1 := K x hx hf
  intro H locs ls cells slots hS hl hc hn
  have K1 := K1 H locs ls cells slots hS hl hc hn
  show W p l e R s m args below meth c H locs cells slots Q (F0 m pc ls (x_rv g a :: st.map (x_v g)))
  unfold aN at hx
  split at hx
  · rename_i tg nn f hh
    split at hx
    case isFalse => cases hx
    rename_i ht
    cases hx
    by_cases ha : 4 ≤ a
    · rw [x_rv_pos ha]
      have ht3 : tg = 0 ∨ tg = 1 ∨ tg = 2 := by omega
      rcases ht3 with rfl | rfl | rfl
      · exact va_alen (D := g.2.1.2) (cl := x_cl) (tys := x_ty g) C.1.1 C.1.2.1 C.2.1.1 hS.1.2.2 (a - 4) 0 (x_wd_at ha hh) rfl rfl d K1
      · exact va_alen (D := g.2.1.2) (cl := x_cl) (tys := x_ty g) C.1.1 C.1.2.1 C.2.1.1 hS.1.2.2 (a - 4) 1 (x_wd_at ha hh) rfl rfl d K1
      · exact va_alen (D := g.2.1.2) (cl := x_cl) (tys := x_ty g) C.1.1 C.1.2.1 C.2.1.1 hS.1.2.2 (a - 4) 2 (x_wd_at ha hh) rfl rfl d K1
    · obtain ⟨z1, z2, z3, z4, z5, z6⟩ := C.2.1.2.1
      have hold := x_old (g := g) (h := h) (a := a) (by omega) hS.1.1
      rw [hh] at hold
      have hn4 : a = 0 ∨ a = 1 ∨ a = 2 ∨ a = 3 := by omega
      rcases hn4 with rfl | rfl | rfl | rfl
      · simp [x_st] at hold
      · have e2 : nn = g.2.2.1 := by
          simp only [x_st, List.getElem?_cons_succ, List.getElem?_cons_zero, Option.some.injEq, Sum.inr.injEq, Sum.inl.injEq, Prod.mk.injEq] at hold
          exact hold.2.1
        subst e2
        exact va_slen C.1.1 C.1.2.1 z6 (Nat.lt_of_lt_of_le z5 C.2.2) (Nat.not_le.mpr z5) hS.2 d K1
      · have e2 : nn = 5 := by
          simp only [x_st, List.getElem?_cons_succ, List.getElem?_cons_zero, Option.some.injEq, Sum.inr.injEq, Sum.inl.injEq, Prod.mk.injEq] at hold
          exact hold.2.1
        subst e2
        exact va_tlen C.1.1 C.1.2.1 z2 hS.2 rfl d K1
      · have e2 : nn = 4 := by
          simp only [x_st, List.getElem?_cons_succ, List.getElem?_cons_zero, Option.some.injEq, Sum.inr.injEq, Sum.inl.injEq, Prod.mk.injEq] at hold
          exact hold.2.1
        subst e2
        exact va_tlen C.1.1 C.1.2.1 z4 hS.2 rfl d K1
  · rename_i nn f hh
    split at hx
    · cases hx
    · rename_i ha
      cases hx
      rw [x_rv_pos (by omega)]
      exact va_alen (D := g.2.1.2) (cl := x_cl) (tys := x_ty g) C.1.1 C.1.2.1 C.2.1.1 hS.1.2.2 (a - 4) 3 (x_wd_at (by omega) hh) rfl rfl d K1
  · rename_i nn f hh
    split at hx
    · cases hx
    · rename_i ha
      cases hx
      rw [x_rv_pos (by omega)]
      exact va_alen (D := g.2.1.2) (cl := x_cl) (tys := x_ty g) C.1.1 C.1.2.1 C.2.1.1 hS.1.2.2 (a - 4) 4 (x_wd_at (by omega) hh) rfl rfl d K1
  · cases hx
end XH
end
section
section XT
variable {g : XG} {p : Program} {l : Launch} {e : Env} {R : Room} {s : State} {m : MethodId} {args : Array Value} {below : List Frame} {meth : Method} {c : Code} {Q : State → Prop} {cc : ByteArray} {own : String} {nL k n : Nat} {Ts : List Cond} {h : Hp} {pc pc' : Nat} {lv : List (Option XV)} {st : List XV}
-- making
theorem x_new (C : x_C g p s m args c cc own nL Ts) {ci ix : Nat} {C0 : String} {T : u_T} {N : Nat} {fs : List XV} (hcl : x_cl[ci]? = some (C0, T, N)) (hin : ∀ w ∈ u_ws C0 T N, w ∈ Ts) (ty0 : Nat → FieldType) (hty : ∀ k, k < N → parseFieldDescriptor (T k).2.2.1 = some (ty0 k)) (hlk : Cond.classLink own ix C0 ∈ Ts) (hins : Cond.instantiable C0 N ∈ Ts) (hini : Cond.initialized C0 ∈ Ts) (hfs : ∀ j, j < N → defaultValue (ty0 j) = vp_V (fs.map (x_v g)) j) {β : Type} {F : Nat → Hp → Option β} {res : β} (hf : mkO h ci fs F = some res) (d : decode cc pc = .ok (.new ix, 3)) (e1 : pc + 3 = pc') (K : ∀ a h', a = h.length → h' = h ++ [oC ci fs] → F a h' = some res → XW g p l e R s m args below meth c Q nL k n h' pc' lv (vR a :: st)) : XW g p l e R s m args below meth c Q nL (k + 1) (n + N) h pc lv st := by
  subst e1
  intro H locs ls cells slots hS hl hc hn
  have hK := C.2.1.1
  have hts := C.1.2.2.2.2
  have hKn := hK.1 ci _ hcl
  refine W.newcK C.1.1 C.1.2.1 C.1.2.2.2.1 (hts _ hlk) (hts _ hins) (hts _ hini) rfl d (by omega) (by omega) hKn.2.1 rfl fun H1 kC hkC e1 z1 o1 => ?_
  obtain ⟨hS1, hrv⟩ := x_S_push (c' := oC ci fs) C.2.2 hS z1 o1 ⟨_, hcl, (u_born ty0 hts hin hKn hkC e1 hty).to hfs⟩
  have K1 := K _ _ rfl rfl hf H1 locs ls (cells + 1) (slots + N) hS1 hl (by omega) (by omega)
  rw [← hrv]
  exact K1
theorem x_arrId {cA : ClassId} {ty : FieldType} {tg : Nat} (hK : va_K g.2.1.2 x_cl (x_ty g) s) (t0 : Nat) (ht : (x_ty g)[t0]? = some (g.2.1.1 tg, ty)) (hp : ty = .int ∨ ty = .byte ∨ ty = .boolean ∨ ty = .long) (hc : s.vm.findClass ("[" ++ ty.toString) = some cA) : cA = g.2.1.1 tg := by
  have h2 := (hK.2 t0 _ ht).2
  rcases hp with rfl | rfl | rfl | rfl <;> exact Option.some.inj (hc.symm.trans h2)
theorem x_newI (C : x_C g p s m args c cc own nL Ts) {at0 : ArrayType} {tg cap : Nat} {n0 : Int32} {ty : FieldType} (hty : newarray.typeOf at0 = ty) (htg : (tg = 0 ∧ ty = .int) ∨ (tg = 1 ∧ ty = .byte) ∨ (tg = 2 ∧ ty = .boolean)) (hlk : Cond.arrayClass ty ∈ Ts) (hcap : cap ≤ 100000) {β : Type} {F : Nat → Hp → Option β} {res : β} (hf : mkA h tg cap n0 F = some res) (d : decode cc pc = .ok (.newarray at0, 2)) (e1 : pc + 2 = pc') (K : ∀ a h', ¬ n0 < 0 → n0.toNatClampNeg ≤ cap → a = h.length → h' = h ++ [aC tg n0.toNatClampNeg (fun _ => 0)] → F a h' = some res → XW g p l e R s m args below meth c Q nL k n h' pc' lv (vR a :: st)) : XW g p l e R s m args below meth c Q nL (k + 1) (n + cap) h pc lv (vI n0 :: st) := by
  subst e1
  unfold mkA at hf
  split at hf
  case isTrue => cases hf
  rename_i hb
  have hb1 : ¬ n0 < 0 := fun q => hb (Or.inl q)
  have hb2 : n0.toNatClampNeg ≤ cap := Nat.not_lt.mp (fun q => hb (Or.inr q))
  intro H locs ls cells slots hS hl hc hn
  have hts := C.1.2.2.2.2
  have hbytes : n0.toNatClampNeg * componentBytes (newarray.typeOf at0) ≤ 536870912 := by
    rw [hty]
    rcases htg with ⟨-, rfl⟩ | ⟨-, rfl⟩ | ⟨-, rfl⟩ <;> simp [componentBytes] <;> omega
  refine va_newaK C.1.1 C.1.2.1 (by rw [hty]; exact hts _ hlk) rfl d rfl hb1 rfl hbytes (by omega) (by omega) rfl fun H1 cA e1 z1 o1 hAr hNm => ?_
  have hid : cA = g.2.1.1 tg := by
    rw [hty] at hNm
    rcases htg with ⟨rfl, rfl⟩ | ⟨rfl, rfl⟩ | ⟨rfl, rfl⟩
    · exact x_arrId C.2.1.1 0 rfl (Or.inl rfl) hNm
    · exact x_arrId C.2.1.1 1 rfl (Or.inr (Or.inl rfl)) hNm
    · exact x_arrId C.2.1.1 2 rfl (Or.inr (Or.inr (Or.inl rfl))) hNm
  have hat : va_at g.2.1.2 x_cl (H.size, x_tr g (aC tg n0.toNatClampNeg (fun _ => 0))) H1 := by
    show H1[H.size]? = some (vp_cell (g.2.1.1 tg) (n0.toNatClampNeg, .inl (fun _ => 0)))
    rw [e1, hid, vp_cell_i, hty]
    rcases htg with ⟨-, rfl⟩ | ⟨-, rfl⟩ | ⟨-, rfl⟩ <;> rfl
  obtain ⟨hS1, hrv⟩ := x_S_push C.2.2 hS z1 o1 hat
  have K1 := K _ _ hb1 hb2 rfl rfl hf H1 locs ls (cells + 1) (slots + n0.toNatClampNeg) hS1 hl (by omega) (by omega)
  rw [← hrv]
  exact K1
theorem x_newL (C : x_C g p s m args c cc own nL Ts) {cap : Nat} {n0 : Int32} (hlk : Cond.arrayClass .long ∈ Ts) (hcap : cap ≤ 100000) {β : Type} {F : Nat → Hp → Option β} {res : β} (hf : mkL h cap n0 F = some res) (d : decode cc pc = .ok (.newarray .long, 2)) (e1 : pc + 2 = pc') (K : ∀ a h', ¬ n0 < 0 → n0.toNatClampNeg ≤ cap → a = h.length → h' = h ++ [lC n0.toNatClampNeg (fun _ => 0)] → F a h' = some res → XW g p l e R s m args below meth c Q nL k n h' pc' lv (vR a :: st)) : XW g p l e R s m args below meth c Q nL (k + 1) (n + cap) h pc lv (vI n0 :: st) := by
  subst e1
  unfold mkL at hf
  split at hf
  case isTrue => cases hf
  rename_i hb
  have hb1 : ¬ n0 < 0 := fun q => hb (Or.inl q)
  have hb2 : n0.toNatClampNeg ≤ cap := Nat.not_lt.mp (fun q => hb (Or.inr q))
  intro H locs ls cells slots hS hl hc hn
  have hts := C.1.2.2.2.2
  refine va_newaK (atype := .long) C.1.1 C.1.2.1 (hts _ hlk) rfl d rfl hb1 rfl (by simp [componentBytes, newarray.typeOf]; omega) (by omega) (by omega) rfl fun H1 cA e1 z1 o1 hAr hNm => ?_
  have hid : cA = g.2.1.1 3 := x_arrId C.2.1.1 3 rfl (Or.inr (Or.inr (Or.inr rfl))) hNm
  have hat : va_at g.2.1.2 x_cl (H.size, x_tr g (lC n0.toNatClampNeg (fun _ => 0))) H1 := by
    show H1[H.size]? = some (vp_cell (g.2.1.1 3) (n0.toNatClampNeg, .inr (.inl (fun _ => 0))))
    rw [e1, hid, vp_cell_l]
    rfl
  obtain ⟨hS1, hrv⟩ := x_S_push C.2.2 hS z1 o1 hat
  have K1 := K _ _ hb1 hb2 rfl rfl hf H1 locs ls (cells + 1) (slots + n0.toNatClampNeg) hS1 hl (by omega) (by omega)
  rw [← hrv]
  exact K1
theorem x_newR (C : x_C g p s m args c cc own nL Ts) {cap ix : Nat} {n0 : Int32} (hlk : Cond.classLink own ix "MossRings$Rule" ∈ Ts) (hcap : cap ≤ 100000) {β : Type} {F : Nat → Hp → Option β} {res : β} (hf : mkR h cap n0 F = some res) (d : decode cc pc = .ok (.anewarray ix, 3)) (e1 : pc + 3 = pc') (K : ∀ a h', ¬ n0 < 0 → n0.toNatClampNeg ≤ cap → a = h.length → h' = h ++ [rC n0.toNatClampNeg (fun _ => 0)] → F a h' = some res → XW g p l e R s m args below meth c Q nL k n h' pc' lv (vR a :: st)) : XW g p l e R s m args below meth c Q nL (k + 1) (n + cap) h pc lv (vI n0 :: st) := by
  subst e1
  unfold mkR at hf
  split at hf
  case isTrue => cases hf
  rename_i hb
  have hb1 : ¬ n0 < 0 := fun q => hb (Or.inl q)
  have hb2 : n0.toNatClampNeg ≤ cap := Nat.not_lt.mp (fun q => hb (Or.inr q))
  intro H locs ls cells slots hS hl hc hn
  have hts := C.1.2.2.2.2
  refine W.anew C.1.1 C.1.2.1 C.1.2.2.2.1 (hts _ hlk) (va_AO.use C.2.1.2.2.2.1) rfl d rfl hb1 (by omega) (by omega) (by omega) fun cA kA comp f1 f2 f3 f4 => ?_
  generalize hH1 : H.push ({ cls := cA, slots := Array.replicate n0.toNatClampNeg .null, vm := .none } : Cell) = H1
  have z1 : H1.size = H.size + 1 := by rw [← hH1, Array.size_push]
  have e1 : H1[H.size]? = some (arrV cA n0.toNatClampNeg (fun _ => .null)) := by rw [← hH1, Array.getElem?_push_size, ← arrV_new]
  have o1 : ∀ q : Nat, q < H.size → H1[q]? = H[q]? := fun q hq => by rw [← hH1, Array.getElem?_push, if_neg (Nat.ne_of_lt hq)]
  have hid : cA = g.2.1.1 4 := by
    obtain ⟨kA', comp', k1, k2, k3, k4⟩ := (C.2.1.1.2 4 _ rfl).2
    exact Option.some.inj (f1.symm.trans k4)
  have hat : va_at g.2.1.2 x_cl (H.size, x_tr g (rC n0.toNatClampNeg (fun _ => 0))) H1 := by
    show H1[H.size]? = some (vp_cell (g.2.1.1 4) (n0.toNatClampNeg, .inr (.inr (.inr (.inr (fun j => x_o g 0))))))
    rw [e1, hid, vp_cell_q]
    rfl
  obtain ⟨hS1, hrv⟩ := x_S_push C.2.2 hS z1 o1 hat
  have K1 := K _ _ hb1 hb2 rfl rfl hf H1 locs ls (cells + 1) (slots + n0.toNatClampNeg) hS1 hl (by omega) (by omega)
  rw [← hrv]
  exact K1
-- the two static rows
theorem x_getsW (C : x_C g p s m args c cc own nL Ts) {ix : Nat} (hlk : Cond.fieldLink own ix "MossRings" "MOST_WIDTH" "[I" ∈ Ts) (d : decode cc pc = .ok (.getstatic ix, 3)) (e1 : pc + 3 = pc') (K : XW g p l e R s m args below meth c Q nL k n h pc' lv (vR 2 :: st)) : XW g p l e R s m args below meth c Q nL k n h pc lv st := by
  subst e1
  intro H locs ls cells slots hS hl hc hn
  exact va_gets C.1.1 C.1.2.1 C.2.1.2.1.1 hS.2 C.1.2.2.2.1 (C.1.2.2.2.2 _ hlk) (fun _ q => q) d (K H locs ls cells slots hS hl hc hn)
theorem x_getsL (C : x_C g p s m args c cc own nL Ts) {ix : Nat} (hlk : Cond.fieldLink own ix "MossRings$Trail" "LOOKS" "[I" ∈ Ts) (d : decode cc pc = .ok (.getstatic ix, 3)) (e1 : pc + 3 = pc') (K : XW g p l e R s m args below meth c Q nL k n h pc' lv (vR 3 :: st)) : XW g p l e R s m args below meth c Q nL k n h pc lv st := by
  subst e1
  intro H locs ls cells slots hS hl hc hn
  exact va_gets C.1.1 C.1.2.1 C.2.1.2.1.2.2.1 hS.2 C.1.2.2.2.1 (C.1.2.2.2.2 _ hlk) (fun _ q => q) d (K H locs ls cells slots hS hl hc hn)
-- what a callee takes as given
theorem x_mkU (C : x_C g p s m args c cc own nL Ts) {H : Heap} {locs : List Loc} (hS : x_S g s h H locs) {U : State} (hU : U.heap = H) (hW : s.WarmedH U.vm) : x_U g h U := by
  obtain ⟨hK, ⟨z1, z2, z3, z4, z5, z6⟩, hN, hO, hC⟩ := C.2.1
  have kept : ∀ a : Nat, a < s.heap.size → ¬ x_A g a → U.heap[a]? = s.heap[a]? := fun a h1 h2 => by rw [hU]; exact hS.2.2.1 a h1 h2
  refine ⟨by rw [hU]; exact hS.1, hK.moved hW.alike, ⟨(z1.kept kept).moved hW.alike, (z2.kept kept).moved hW.alike, (z3.kept kept).moved hW.alike, (z4.kept kept).moved hW.alike, z5, (z6.kept (kept _ (Nat.lt_of_lt_of_le z5 C.2.2) (Nat.not_le.mpr z5))).moved hW.alike⟩, ?_, hO.moved hW.alike, hC.warmC hW⟩
  intro w hw
  have h0 := hN w hw
  simp only [x_nest, List.mem_cons, List.not_mem_nil, or_false] at hw
  rcases hw with rfl | rfl | rfl | rfl | rfl | rfl | rfl | rfl | rfl | rfl | rfl | rfl | rfl | rfl | rfl
  · exact h0.warmM hW
  all_goals exact h0.warmF hW
theorem x_blind (av : List Value) : FrameBlind (va_Pc av (x_U g h)) := by
  intro a U g' mk q
  obtain ⟨q0, qH, qK, ⟨z1, z2, z3, z4, z5, z6⟩, qN, qO, qC⟩ := q
  refine ⟨q0, qH, va_K.moved (u := U) (U := U.calling g' mk a) (Vm.Alike.refl U.vm) qK, ⟨va_Z.moved (u := U) (U := U.calling g' mk a) (Vm.Alike.refl U.vm) z1, va_T.moved (u := U) (U := U.calling g' mk a) (Vm.Alike.refl U.vm) z2, va_Z.moved (u := U) (U := U.calling g' mk a) (Vm.Alike.refl U.vm) z3, va_T.moved (u := U) (U := U.calling g' mk a) (Vm.Alike.refl U.vm) z4, z5, va_X.moved (u := U) (U := U.calling g' mk a) (Vm.Alike.refl U.vm) z6⟩, ?_, va_AO.moved (u := U) (U := U.calling g' mk a) (Vm.Alike.refl U.vm) qO, va_Nw.same rfl (u := U) (U := U.calling g' mk a) rfl qC⟩
  intro w hw
  have h0 := qN w hw
  simp only [x_nest, List.mem_cons, List.not_mem_nil, or_false] at hw
  rcases hw with rfl | rfl | rfl | rfl | rfl | rfl | rfl | rfl | rfl | rfl | rfl | rfl | rfl | rfl | rfl <;> exact va_Nw.same rfl (u := U) (U := U.calling g' mk a) rfl h0
/-- behind a call -/
theorem x_ran {H : Heap} {locs : List Loc} {cells slots mc ms : Nat} {ls : Array Slot} {stk rest : List Value} {r : Option XV} {h' : Hp} {av : Array Value} (hr : va_Run p l e R s m args below meth c H locs cells slots mc ms (F0 m pc ls stk) rest (x_Q g r h' av) (x_A g)) (hS : x_S g s h H locs) (K : ∀ (H1 : Heap) (locs1 : List Loc), x_S g s h' H1 locs1 → W p l e R s m args below meth c H1 locs1 (cells + mc) (slots + ms) Q (F0 m (pc + 3) ls ((r.map (x_v g)).toList ++ rest))) : W p l e R s m args below meth c H locs cells slots Q (F0 m pc ls stk) := by
  intro T hT X
  obtain ⟨v, st₀, t, T', L, h0, X', hL, e1, e2, ⟨hv, hh, hz, hk⟩, st⟩ := hr T hT X
  cases hv
  rw [h0] at hz hk
  obtain ⟨t2, a1, b1⟩ := K T'.heap (locs ++ L) ⟨by rw [e1]; exact hh, Nat.le_trans hS.2.1 (by rw [e1]; exact hz), fun q h1 h2 => by rw [e1, hk q (Nat.lt_of_lt_of_le h1 hS.2.1) h2]; exact hS.2.2.1 q h1 h2, fun q hq => by
      rcases List.mem_append.mp hq with h | h
      · exact hS.2.2.2 q h
      · exact hL q h⟩ T' rfl X'
  exact ⟨t2, st t2 a1, b1⟩
def x_wds (st : List XV) : Nat := match st with
  | [] => 0
  | v :: st => (if x_one v then 1 else 2) + x_wds st
theorem x_wds_eq (g : XG) : ∀ st : List XV, ((st.map (x_v g)).map fun v => v.category).sum = x_wds st
  | [] => rfl
  | v :: st => by
    have ih := x_wds_eq g st
    simp only [List.map_cons, List.sum_cons, x_wds, ih]
    congr 1
    match v with
    | Sum.inl x => rfl
    | Sum.inr (Sum.inl x) => rfl
    | Sum.inr (Sum.inr a) => exact x_cat_R g a
def oK (h : Hp) (b ci : Nat) {β : Type} (x : Option β) : Option β := if (hObj h b ci).isSome then x else none
theorem oK_some {h : Hp} {b ci : Nat} {β : Type} {x : Option β} {v : β} (q : oK h b ci x = some v) : (∃ fs, hObj h b ci = some fs) ∧ x = some v := by
  unfold oK at q
  split at q
  · rename_i h1
    exact ⟨Option.isSome_iff_exists.mp h1, q⟩
  · cases q
theorem x_callV (C : x_C g p s m args c cc own nL Ts) {y : MethodName} {ws : List Cond} {fr lo mc ms b ci ix maxL na : Nat} {As stk : List XV} {r : Option XV} {h' : Hp} {C0 : String} {T : u_T} {N : Nat} {bytes : ByteArray} {ret : Option FieldType} (hM : XM l g y ws fr lo mc ms (vR b :: As) h r h') (hob : ∃ fs, hObj h b ci = some fs) (hcl : x_cl[ci]? = some (C0, T, N)) (cw : CallW R s args own C0 ix y bytes maxL ret ws { frames := fr, cells := mc, slots := ms, locals := lo } mc ms na) (hna : As.length = na) (hstk : stk = As.reverse ++ vR b :: st) (hw : x_wds st ≤ 8) (d : decode cc pc = .ok (.invokevirtual ix, 3)) (e1 : pc + 3 = pc') (K : XW g p l e R s m args below meth c Q nL k n h' pc' lv (r.toList ++ st)) : XW g p l e R s m args below meth c Q nL (k + mc) (n + ms) h pc lv stk := by
  subst e1; subst hstk
  intro H locs ls cells slots hS hl hc hn
  obtain ⟨fs, hfs⟩ := hob
  obtain ⟨hb4, hbh⟩ := hObj_at hfs
  have hb : x_rv g b = .ref (x_ad g b) := x_rv_pos hb4
  have hpc : ∀ U : State, U.heap = H → s.WarmedH U.vm → va_Pc ((vR b :: As).map (x_v g)) (x_U g h) (Value.ref (x_ad g b) :: As.map (x_v g)).toArray U := fun U hU hW => ⟨by rw [← hb]; rfl, x_mkU C hS hU hW⟩
  have hr := va_runV (e := e) (meth := meth) (below := below) (b := x_ad g b) (As := As.map (x_v g)) (rest := st.map (x_v g)) (g := F0 m pc ls ((As.reverse ++ vR b :: st).map (x_v g))) (H := H) (locs := locs) (cells := cells) (slots := slots) C.1 hM cw ⟨x_blind _, va_recv C.2.1.1 hS.1.2.2 hcl (x_wd_at (g := g) hb4 hbh), hpc⟩ rfl (by rw [List.length_map]; exact hna) hl.1 (by rw [List.map_append, List.map_reverse, List.map_cons, ← hb]; rfl) (lv_room (by rw [x_wds_eq]; exact hw)) d ⟨by omega, by omega⟩
  refine x_ran hr hS (fun H1 locs1 hS1 => ?_)
  have K1 := K H1 locs1 ls (cells + mc) (slots + ms) hS1 hl (by omega) (by omega)
  rw [List.map_append] at K1
  cases r with
  | none => exact K1
  | some v => exact K1
theorem x_callS (C : x_C g p s m args c cc own nL Ts) {y : MethodName} {ws : List Cond} {fr lo mc ms ix maxL na : Nat} {As stk : List XV} {r : Option XV} {h' : Hp} {bytes : ByteArray} {ret : Option FieldType} (hM : XM l g y ws fr lo mc ms As h r h') (cw : CallB R s args own ix y bytes maxL ret ws { frames := fr, cells := mc, slots := ms, locals := lo } mc ms na ∧ (Cond.static y).before args s = true) (hna : As.length = na) (hstk : stk = As.reverse ++ st) (hw : x_wds st ≤ 8) (d : decode cc pc = .ok (.invokestatic ix, 3)) (e1 : pc + 3 = pc') (K : XW g p l e R s m args below meth c Q nL k n h' pc' lv (r.toList ++ st)) : XW g p l e R s m args below meth c Q nL (k + mc) (n + ms) h pc lv stk := by
  subst e1; subst hstk
  intro H locs ls cells slots hS hl hc hn
  have hpc : ∀ U : State, U.heap = H → s.WarmedH U.vm → va_Pc (As.map (x_v g)) (x_U g h) (As.map (x_v g)).toArray U := fun U hU hW => ⟨rfl, x_mkU C hS hU hW⟩
  have hr := va_runS (e := e) (meth := meth) (below := below) (As := As.map (x_v g)) (rest := st.map (x_v g)) (g := F0 m pc ls ((As.reverse ++ st).map (x_v g))) (H := H) (locs := locs) (cells := cells) (slots := slots) C.1 hM cw ⟨x_blind _, hpc⟩ rfl (by rw [List.length_map]; exact hna) hl.1 (by rw [List.map_append, List.map_reverse]) (lv_room (by rw [x_wds_eq]; exact hw)) d ⟨by omega, by omega⟩
  refine x_ran hr hS (fun H1 locs1 hS1 => ?_)
  have K1 := K H1 locs1 ls (cells + mc) (slots + ms) hS1 hl (by omega) (by omega)
  rw [List.map_append] at K1
  cases r with
  | none => exact K1
  | some v => exact K1
theorem x_callSN (C : x_C g p s m args c cc own nL Ts) {y : MethodName} {ws : List Cond} {fr lo mc ms ix maxL na : Nat} {host : String} {As stk : List XV} {r : Option XV} {h' : Hp} {bytes : ByteArray} {ret : Option FieldType} (hM : XM l g y ws fr lo mc ms As h r h') (cw : va_CN R s args own ix y host bytes maxL ret ws { frames := fr, cells := mc, slots := ms, locals := lo } mc ms na ∧ (Cond.static y).before args s = true ∧ True) (hna : As.length = na) (hstk : stk = As.reverse ++ st) (hw : x_wds st ≤ 8) (d : decode cc pc = .ok (.invokestatic ix, 3)) (e1 : pc + 3 = pc') (K : XW g p l e R s m args below meth c Q nL k n h' pc' lv (r.toList ++ st)) : XW g p l e R s m args below meth c Q nL (k + mc) (n + ms) h pc lv stk := by
  subst e1; subst hstk
  intro H locs ls cells slots hS hl hc hn
  have hpc : ∀ U : State, U.heap = H → s.WarmedH U.vm → va_Pc (As.map (x_v g)) (x_U g h) (As.map (x_v g)).toArray U := fun U hU hW => ⟨rfl, x_mkU C hS hU hW⟩
  have hr := va_runSN (e := e) (meth := meth) (below := below) (As := As.map (x_v g)) (rest := st.map (x_v g)) (g := F0 m pc ls ((As.reverse ++ st).map (x_v g))) (H := H) (locs := locs) (cells := cells) (slots := slots) C.1 hM cw ⟨x_blind _, hpc⟩ rfl (by rw [List.length_map]; exact hna) hl.1 (by rw [List.map_append, List.map_reverse]) (lv_room (by rw [x_wds_eq]; exact hw)) d ⟨by omega, by omega⟩
  refine x_ran hr hS (fun H1 locs1 hS1 => ?_)
  have K1 := K H1 locs1 ls (cells + mc) (slots + ms) hS1 hl (by omega) (by omega)
  rw [List.map_append] at K1
  cases r with
  | none => exact K1
  | some v => exact K1
theorem x_callI (C : x_C g p s m args c cc own nL Ts) {y : MethodName} {ws : List Cond} {fr lo mc ms b ix maxL na : Nat} {As stk : List XV} {r : Option XV} {h' : Hp} {bytes : ByteArray} (hM : XM l g y ws fr lo mc ms (vR b :: As) h r h') (hob : 4 ≤ b) (cw : CallB R s args own ix y bytes maxL none ws { frames := fr, cells := mc, slots := ms, locals := lo } mc ms na ∧ y.name = "<init>" ∧ (Cond.instanceMethod y).before args s = true) (hna : As.length = na) (hstk : stk = As.reverse ++ vR b :: st) (hw : x_wds st ≤ 8) (d : decode cc pc = .ok (.invokespecial ix, 3)) (e1 : pc + 3 = pc') (K : XW g p l e R s m args below meth c Q nL k n h' pc' lv (r.toList ++ st)) : XW g p l e R s m args below meth c Q nL (k + mc) (n + ms) h pc lv stk := by
  subst e1; subst hstk
  intro H locs ls cells slots hS hl hc hn
  have hb : x_rv g b = .ref (x_ad g b) := x_rv_pos hob
  have hpc : ∀ U : State, U.heap = H → s.WarmedH U.vm → va_Pc ((vR b :: As).map (x_v g)) (x_U g h) (Value.ref (x_ad g b) :: As.map (x_v g)).toArray U := fun U hU hW => ⟨by rw [← hb]; rfl, x_mkU C hS hU hW⟩
  have hr := va_runI (e := e) (meth := meth) (below := below) (b := x_ad g b) (As := As.map (x_v g)) (rest := st.map (x_v g)) (g := F0 m pc ls ((As.reverse ++ vR b :: st).map (x_v g))) (H := H) (locs := locs) (cells := cells) (slots := slots) C.1 hM cw ⟨x_blind _, hpc⟩ rfl (by rw [List.length_map]; exact hna) hl.1 (by rw [List.map_append, List.map_reverse, List.map_cons, ← hb]; rfl) (lv_room (by rw [x_wds_eq]; exact hw)) d ⟨by omega, by omega⟩
  refine x_ran hr hS (fun H1 locs1 hS1 => ?_)
  have K1 := K H1 locs1 ls (cells + mc) (slots + ms) hS1 hl (by omega) (by omega)
  rw [List.map_append] at K1
  cases r with
  | none => exact K1
  | some v => exact K1
theorem x_objInit (C : x_C g p s m args c cc own nL Ts) {a ix : Nat} (h1 : Cond.methodLink own ix Lib.objectInit ∈ Ts) (h2 : Cond.instanceMethod Lib.objectInit ∈ Ts) (h3 : Cond.code Lib.objectInit ⟨#[0xb1]⟩ 1 none ∈ Ts) (hfr : 1 ≤ R.frames) (hlo : x_wds st + 12 ≤ R.locals) {β : Type} {A : Option β} {res : β} (hf : (if a = 0 then none else A) = some res) (d : decode cc pc = .ok (.invokespecial ix, 3)) (e1 : pc + 3 = pc') (K : A = some res → XW g p l e R s m args below meth c Q nL k n h pc' lv st) : XW g p l e R s m args below meth c Q nL k n h pc lv (vR a :: st) := by
  subst e1
  intro H locs ls cells slots hS hl hc hn
  by_cases ha : a = 0
  · rw [if_pos ha] at hf; cases hf
  · rw [if_neg ha] at hf
    have hts := C.1.2.2.2.2
    have K1 := K hf H locs ls cells slots hS hl hc hn
    show W p l e R s m args below meth c H locs cells slots Q (F0 m pc ls (x_rv g a :: st.map (x_v g)))
    unfold x_rv
    rw [if_neg ha]
    exact W.objInit C.1.1 C.1.2.1 C.1.2.2.2.1 (hts _ h1) (hts _ h2) (hts _ h3) rfl (by rw [C.1.2.2.1]; exact hl.1) rfl d hfr (by show 2 * 0 + _ + 12 ≤ _; rw [x_wds_eq]; omega) K1
def iMax (x y : Int32) : Int32 := if x < y then y else x
def iMin (x y : Int32) : Int32 := if y < x then y else x
theorem x_max (C : x_C g p s m args c cc own nL Ts) {ix : Nat} {x y : Int32} (h1 : Cond.methodLink own ix Lib.Math.max.name ∈ Ts) (h2 : Cond.static Lib.Math.max.name ∈ Ts) (h3 : Cond.initialized "java/lang/Math" ∈ Ts) (h4 : Cond.code Lib.Math.max.name Lib.Math.max.code 2 (some .int) ∈ Ts) (hfr : 1 ≤ R.frames) (hlo : x_wds st + 13 ≤ R.locals) (d : decode cc pc = .ok (.invokestatic ix, 3)) (e1 : pc + 3 = pc') (K : XW g p l e R s m args below meth c Q nL k n h pc' lv (vI (iMax x y) :: st)) : XW g p l e R s m args below meth c Q nL k n h pc lv (vI y :: vI x :: st) := by
  subst e1
  intro H locs ls cells slots hS hl hc hn
  have hts := C.1.2.2.2.2
  exact va_mmax C.1.1 C.1.2.1 (by rw [C.1.2.2.1]; exact hl.1.symm) C.1.2.2.2.1 (hts _ h1) (hts _ h2) (hts _ h3) (hts _ h4) hfr (by rw [x_wds_eq]; exact hlo) (by omega) (by omega) d (K H locs ls cells slots hS hl hc hn)
theorem x_min (C : x_C g p s m args c cc own nL Ts) {ix : Nat} {x y : Int32} (h1 : Cond.methodLink own ix Lib.Math.min.name ∈ Ts) (h2 : Cond.static Lib.Math.min.name ∈ Ts) (h3 : Cond.initialized "java/lang/Math" ∈ Ts) (h4 : Cond.code Lib.Math.min.name Lib.Math.min.code 2 (some .int) ∈ Ts) (hfr : 1 ≤ R.frames) (hlo : x_wds st + 13 ≤ R.locals) (d : decode cc pc = .ok (.invokestatic ix, 3)) (e1 : pc + 3 = pc') (K : XW g p l e R s m args below meth c Q nL k n h pc' lv (vI (iMin x y) :: st)) : XW g p l e R s m args below meth c Q nL k n h pc lv (vI y :: vI x :: st) := by
  subst e1
  intro H locs ls cells slots hS hl hc hn
  have hts := C.1.2.2.2.2
  exact va_mmin C.1.1 C.1.2.1 (by rw [C.1.2.2.1]; exact hl.1.symm) C.1.2.2.2.1 (hts _ h1) (hts _ h2) (hts _ h3) (hts _ h4) hfr (by rw [x_wds_eq]; exact hlo) (by omega) (by omega) d (K H locs ls cells slots hS hl hc hn)
-- ends
theorem x_vret (C : x_C g p s m args c cc own nL Ts) (hr : meth.sig.returnType = none) (hlk : meth.locks = false) (d : decode cc pc = .ok (.return_, 1)) : XW g p l e R s m args below meth c (MQ below (x_Q g none h) args s R.cells R.slots (x_A g)) nL k n h pc lv [] := by
  intro H locs ls cells slots hS hl hc hn
  refine W.widen (k := R.cells) (n := R.slots) (by omega) (by omega) ?_
  exact W.vret C.1.1 C.1.2.1 hr (fun t ht hW => ⟨rfl, by rw [ht]; exact hS.1, hS.2.F ht⟩) hS.2.2.2 d (hlocks := hlk)
theorem x_iret (C : x_C g p s m args c cc own nL Ts) {x : Int32} (hr : meth.sig.returnType = some .int) (hlk : meth.locks = false) (d : decode cc pc = .ok (.ireturn, 1)) : XW g p l e R s m args below meth c (MQ below (x_Q g (some (vI x)) h) args s R.cells R.slots (x_A g)) nL k n h pc lv [vI x] := by
  intro H locs ls cells slots hS hl hc hn
  refine W.widen (k := R.cells) (n := R.slots) (by omega) (by omega) ?_
  exact W.iret C.1.1 C.1.2.1 hr (fun t ht hW => ⟨rfl, by rw [ht]; exact hS.1, hS.2.F ht⟩) hS.2.2.2 d (hlocks := hlk)
theorem x_lret (C : x_C g p s m args c cc own nL Ts) {x : Int64} (hr : meth.sig.returnType = some .long) (hlk : meth.locks = false) (d : decode cc pc = .ok (.lreturn, 1)) : XW g p l e R s m args below meth c (MQ below (x_Q g (some (vL x)) h) args s R.cells R.slots (x_A g)) nL k n h pc lv [vL x] := by
  intro H locs ls cells slots hS hl hc hn
  refine W.widen (k := R.cells) (n := R.slots) (by omega) (by omega) ?_
  exact W.lret C.1.1 C.1.2.1 hr (fun t ht hW => ⟨rfl, by rw [ht]; exact hS.1, hS.2.F ht⟩) hS.2.2.2 d (hlocks := hlk)
theorem x_aret (C : x_C g p s m args c cc own nL Ts) {a : Nat} {rt : FieldType} (hr : meth.sig.returnType = some rt) (hrt : (∃ n, rt = .object n) ∨ ∃ t, rt = .array t) (hlk : meth.locks = false) (d : decode cc pc = .ok (.areturn, 1)) : XW g p l e R s m args below meth c (MQ below (x_Q g (some (vR a)) h) args s R.cells R.slots (x_A g)) nL k n h pc lv [vR a] := by
  intro H locs ls cells slots hS hl hc hn
  refine W.widen (k := R.cells) (n := R.slots) (by omega) (by omega) ?_
  exact W.aret (v := x_rv g a) C.1.1 C.1.2.1 hr hrt (by unfold x_rv; split; exact Or.inl rfl; exact Or.inr ⟨_, rfl⟩) (fun t ht hW => ⟨rfl, by rw [ht]; exact hS.1, hS.2.F ht⟩) hS.2.2.2 d (hlocks := hlk)
def retZ (x : Int32) (h : Hp) : Option (Int32 × Hp) := if x = 0 ∨ x = 1 then some (x, h) else none
theorem x_zret (C : x_C g p s m args c cc own nL Ts) {x : Int32} {res : Int32 × Hp} (hf : retZ x h = some res) (hr : meth.sig.returnType = some .boolean) (hlk : meth.locks = false) (d : decode cc pc = .ok (.ireturn, 1)) : XW g p l e R s m args below meth c (MQ below (x_Q g (some (vI res.1)) res.2) args s R.cells R.slots (x_A g)) nL k n h pc lv [vI x] := by
  unfold retZ at hf
  split at hf
  case isFalse => cases hf
  rename_i hx
  cases hf
  intro H locs ls cells slots hS hl hc hn
  refine W.widen (k := R.cells) (n := R.slots) (by omega) (by omega) ?_
  exact W.zret C.1.1 C.1.2.1 hr (by rcases hx with rfl | rfl <;> rfl) (fun t ht hW => ⟨rfl, by rw [ht]; exact hS.1, hS.2.F ht⟩) hS.2.2.2 d (hlocks := hlk)
-- the beginning
def x_args (as : List XV) : List (Option XV) := match as with
  | [] => []
  | v :: as => if x_one v then some v :: x_args as else some v :: none :: x_args as
theorem x_args_at (g : XG) : ∀ (as : List XV) (j i : Nat) (v : XV), (x_args as)[i]? = some (some v) → (j + i, x_v g v) ∈ lv_args j (as.map (x_v g))
  | [], j, i, v, hi => by simp [x_args] at hi
  | w :: as, j, i, v, hi => by
    by_cases hw : x_one w = true
    · simp only [x_args, hw, if_true] at hi
      have hc := x_cat1 g hw
      simp only [List.map_cons, lv_args, hc]
      cases i with
      | zero =>
        simp only [List.getElem?_cons_zero, Option.some.injEq] at hi
        subst hi
        exact List.mem_cons_self
      | succ i =>
        simp only [List.getElem?_cons_succ] at hi
        have := x_args_at g as (j + 1) i v hi
        rw [show j + (i + 1) = j + 1 + i by omega]
        exact List.mem_cons_of_mem _ this
    · simp only [x_args, hw] at hi
      have hc : (x_v g w).category = 2 := by
        match w, hw with
        | Sum.inl x, hw => exact absurd rfl hw
        | Sum.inr (Sum.inl x), hw => rfl
        | Sum.inr (Sum.inr a), hw => exact absurd rfl hw
      simp only [List.map_cons, lv_args, hc, if_true]
      match i, hi with
      | 0, hi =>
        simp at hi
        subst hi
        exact List.mem_cons_self
      | 1, hi => simp at hi
      | i + 2, hi =>
        have hi : (x_args as)[i]? = some (some v) := by simpa using hi
        have := x_args_at g as (j + 2) i v hi
        rw [show j + (i + 2) = j + 2 + i by omega]
        exact List.mem_cons_of_mem _ this
theorem x_slen (g : XG) : ∀ as : List XV, (lg_sl (as.map (x_v g))).length = x_wds as
  | [] => rfl
  | v :: as => by
    have ih := x_slen g as
    unfold lg_sl at ih ⊢
    simp only [List.map_cons, List.flatMap_cons, List.length_append, ih, x_wds]
    congr 1
    match v with
    | Sum.inl x => rfl
    | Sum.inr (Sum.inl x) => rfl
    | Sum.inr (Sum.inr a) => simp [x_cat_R, x_one]
theorem x_start {y : MethodName} {ws ws' : List Cond} {fr lo mc ms maxL : Nat} {as : List XV} {r : Option XV} {h' : Hp} {cc : ByteArray} {ret : Option FieldType} {lv : List (Option XV)} (hy : plainName y.cls = true) (hw : ws = Cond.code y cc maxL ret :: ws') (hlen : x_wds as ≤ maxL) (hlv : x_args as ++ List.replicate (maxL - x_wds as) none = lv)
    (body : ∀ (p : Program) (e : Env) (s : State) (m : MethodId) (args : Array Value) (below : List Frame) (meth : Method) (c : Code), x_C g p s m args c cc y.cls maxL ws → meth.sig.returnType = ret → meth.locks = false → meth.name = y.name → XW g p l e { frames := fr, cells := mc, slots := ms, locals := lo } s m args below meth c (MQ below (x_Q g r h') args s mc ms (x_A g)) maxL mc ms h 0 lv []) : XM l g y ws fr lo mc ms as h r h' := by
  refine Met.ofW (cc := cc) (maxL := maxL) (ret := ret) hy hw ?_
  intro p e s m args below meth c s₁ B hml hv
  obtain ⟨rfl, hH, hK, hSt, hN, hO, hC⟩ := hv
  have hts := atoms_spec (ws := ws) B.pre
  have hown : s.vm.findClass y.cls = some m.cls := findClass_of_methodNamed B.named
  have hsz : g.1.1 ≤ s.heap.size := by rw [hH.2.1]; omega
  rw [lg_entry_eq]
  have hl := lv_entry (as.map (x_v g)) (n := maxL) (by rw [x_slen]; exact hlen)
  refine body p e s m (as.map (x_v g)).toArray below meth c ⟨⟨B.exec, B.bytes, hml, hown, hts⟩, ⟨hK, hSt, hN, hO, hC⟩, hsz⟩ B.returns B.notSynchronized (name_of_methodNamed B.named B.method).1 s.heap [] _ 0 0 ⟨hH, va_S.rf⟩ ⟨hl.1, hl.2.1, fun i v hi => ?_⟩ (by show 0 + mc ≤ mc; omega) (by show 0 + ms ≤ ms; omega)
  subst hlv
  have h1 : (x_args as)[i]? = some (some v) := by
    rw [List.getElem?_append] at hi
    split at hi
    · exact hi
    · rw [List.getElem?_replicate] at hi
      split at hi <;> cases hi
  have := x_args_at g as 0 i v h1
  rw [Nat.zero_add] at this
  exact hl.2.2 _ this
end XT
end
