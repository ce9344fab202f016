section
-- ===== PART A: goes FIRST, ahead of the names: the tables' words, and 'selects' of the private methods out of them =====
/-- a private method of a class that the tables say can be made, by its rows of tables_1 -/
def lw_okq (q : MethodName × Nat) : Prop := (q.1.cls ≠ "java/lang/invoke/MethodHandle" ∧ q.1.cls ≠ "java/lang/invoke/VarHandle") ∧ Cond.instantiable q.1.cls q.2 ∈ tables_1 ∧ Cond.privateMethod q.1 ∈ tables_1 ∧ Cond.instanceMethod q.1 ∈ tables_1
theorem lw_p0 : lw_okq (⟨"EightBlocks$Golay", "fillBasis", "()V"⟩, 6) := ⟨⟨by decide +kernel, by decide +kernel⟩, List.mem_of_getElem? (i := 38) (by decide +kernel), List.mem_of_getElem? (i := 44) (by decide +kernel), List.mem_of_getElem? (i := 45) (by decide +kernel)⟩
theorem lw_p1 : lw_okq (⟨"EightBlocks$Golay", "fillWordsOfWeight", "(I[I)V"⟩, 6) := ⟨⟨by decide +kernel, by decide +kernel⟩, List.mem_of_getElem? (i := 38) (by decide +kernel), List.mem_of_getElem? (i := 61) (by decide +kernel), List.mem_of_getElem? (i := 62) (by decide +kernel)⟩
theorem lw_p2 : lw_okq (⟨"EightBlocks$Golay", "fillLeaders", "()V"⟩, 6) := ⟨⟨by decide +kernel, by decide +kernel⟩, List.mem_of_getElem? (i := 38) (by decide +kernel), List.mem_of_getElem? (i := 71) (by decide +kernel), List.mem_of_getElem? (i := 72) (by decide +kernel)⟩
theorem lw_p3 : lw_okq (⟨"EightBlocks$Golay", "tetradWith", "(II)I"⟩, 6) := ⟨⟨by decide +kernel, by decide +kernel⟩, List.mem_of_getElem? (i := 38) (by decide +kernel), List.mem_of_getElem? (i := 335) (by decide +kernel), List.mem_of_getElem? (i := 336) (by decide +kernel)⟩
theorem lw_p4 : lw_okq (⟨"EightBlocks$Golay", "isUnionOfTetrads", "(II)Z"⟩, 6) := ⟨⟨by decide +kernel, by decide +kernel⟩, List.mem_of_getElem? (i := 38) (by decide +kernel), List.mem_of_getElem? (i := 376) (by decide +kernel), List.mem_of_getElem? (i := 377) (by decide +kernel)⟩
theorem lw_p5 : lw_okq (⟨"EightBlocks", "whereChosenGoes", "([I)I"⟩, 11) := ⟨⟨by decide +kernel, by decide +kernel⟩, List.mem_of_getElem? (i := 21) (by decide +kernel), List.mem_of_getElem? (i := 429) (by decide +kernel), List.mem_of_getElem? (i := 430) (by decide +kernel)⟩
theorem lw_p6 : lw_okq (⟨"EightBlocks$Cycles", "writeCycle", "([II)V"⟩, 2) := ⟨⟨by decide +kernel, by decide +kernel⟩, List.mem_of_getElem? (i := 251) (by decide +kernel), List.mem_of_getElem? (i := 440) (by decide +kernel), List.mem_of_getElem? (i := 441) (by decide +kernel)⟩
theorem lw_p7 : lw_okq (⟨"EightBlocks$Cycles", "append", "(I)V"⟩, 2) := ⟨⟨by decide +kernel, by decide +kernel⟩, List.mem_of_getElem? (i := 251) (by decide +kernel), List.mem_of_getElem? (i := 445) (by decide +kernel), List.mem_of_getElem? (i := 446) (by decide +kernel)⟩
theorem lw_p8 : lw_okq (⟨"EightBlocks$Tape", "isProduct", "(I)Z"⟩, 8) := ⟨⟨by decide +kernel, by decide +kernel⟩, List.mem_of_getElem? (i := 197) (by decide +kernel), List.mem_of_getElem? (i := 477) (by decide +kernel), List.mem_of_getElem? (i := 478) (by decide +kernel)⟩
theorem lw_p9 : lw_okq (⟨"EightBlocks$Tape", "isFactor", "(I)Z"⟩, 8) := ⟨⟨by decide +kernel, by decide +kernel⟩, List.mem_of_getElem? (i := 197) (by decide +kernel), List.mem_of_getElem? (i := 482) (by decide +kernel), List.mem_of_getElem? (i := 483) (by decide +kernel)⟩
theorem lw_p10 : lw_okq (⟨"EightBlocks$Tape", "isPlainFactor", "(I)Z"⟩, 8) := ⟨⟨by decide +kernel, by decide +kernel⟩, List.mem_of_getElem? (i := 197) (by decide +kernel), List.mem_of_getElem? (i := 486) (by decide +kernel), List.mem_of_getElem? (i := 487) (by decide +kernel)⟩
theorem lw_p11 : lw_okq (⟨"EightBlocks$Tape", "isNext", "(I)Z"⟩, 8) := ⟨⟨by decide +kernel, by decide +kernel⟩, List.mem_of_getElem? (i := 197) (by decide +kernel), List.mem_of_getElem? (i := 490) (by decide +kernel), List.mem_of_getElem? (i := 491) (by decide +kernel)⟩
theorem lw_p12 : lw_okq (⟨"EightBlocks$Tape", "isAtEnd", "()Z"⟩, 8) := ⟨⟨by decide +kernel, by decide +kernel⟩, List.mem_of_getElem? (i := 197) (by decide +kernel), List.mem_of_getElem? (i := 494) (by decide +kernel), List.mem_of_getElem? (i := 495) (by decide +kernel)⟩
theorem lw_p13 : lw_okq (⟨"EightBlocks$Tape", "isBracket", "(I)Z"⟩, 8) := ⟨⟨by decide +kernel, by decide +kernel⟩, List.mem_of_getElem? (i := 197) (by decide +kernel), List.mem_of_getElem? (i := 498) (by decide +kernel), List.mem_of_getElem? (i := 499) (by decide +kernel)⟩
theorem lw_p14 : lw_okq (⟨"EightBlocks$Tape", "accept", "(I)Z"⟩, 8) := ⟨⟨by decide +kernel, by decide +kernel⟩, List.mem_of_getElem? (i := 197) (by decide +kernel), List.mem_of_getElem? (i := 502) (by decide +kernel), List.mem_of_getElem? (i := 503) (by decide +kernel)⟩
theorem lw_p15 : lw_okq (⟨"EightBlocks$Tape", "isCycle", "([I)Z"⟩, 8) := ⟨⟨by decide +kernel, by decide +kernel⟩, List.mem_of_getElem? (i := 197) (by decide +kernel), List.mem_of_getElem? (i := 507) (by decide +kernel), List.mem_of_getElem? (i := 508) (by decide +kernel)⟩
def lw_privs_1 : List (MethodName × Nat) := [(⟨"EightBlocks$Golay", "fillBasis", "()V"⟩, 6), (⟨"EightBlocks$Golay", "fillWordsOfWeight", "(I[I)V"⟩, 6), (⟨"EightBlocks$Golay", "fillLeaders", "()V"⟩, 6), (⟨"EightBlocks$Golay", "tetradWith", "(II)I"⟩, 6), (⟨"EightBlocks$Golay", "isUnionOfTetrads", "(II)Z"⟩, 6), (⟨"EightBlocks", "whereChosenGoes", "([I)I"⟩, 11), (⟨"EightBlocks$Cycles", "writeCycle", "([II)V"⟩, 2), (⟨"EightBlocks$Cycles", "append", "(I)V"⟩, 2), (⟨"EightBlocks$Tape", "isProduct", "(I)Z"⟩, 8), (⟨"EightBlocks$Tape", "isFactor", "(I)Z"⟩, 8), (⟨"EightBlocks$Tape", "isPlainFactor", "(I)Z"⟩, 8), (⟨"EightBlocks$Tape", "isNext", "(I)Z"⟩, 8), (⟨"EightBlocks$Tape", "isAtEnd", "()Z"⟩, 8), (⟨"EightBlocks$Tape", "isBracket", "(I)Z"⟩, 8), (⟨"EightBlocks$Tape", "accept", "(I)Z"⟩, 8), (⟨"EightBlocks$Tape", "isCycle", "([I)Z"⟩, 8)]
theorem lw_r1 : ∀ q ∈ lw_privs_1, lw_okq q := List.forall_mem_cons.mpr ⟨lw_p0, List.forall_mem_cons.mpr ⟨lw_p1, List.forall_mem_cons.mpr ⟨lw_p2, List.forall_mem_cons.mpr ⟨lw_p3, List.forall_mem_cons.mpr ⟨lw_p4, List.forall_mem_cons.mpr ⟨lw_p5, List.forall_mem_cons.mpr ⟨lw_p6, List.forall_mem_cons.mpr ⟨lw_p7, List.forall_mem_cons.mpr ⟨lw_p8, List.forall_mem_cons.mpr ⟨lw_p9, List.forall_mem_cons.mpr ⟨lw_p10, List.forall_mem_cons.mpr ⟨lw_p11, List.forall_mem_cons.mpr ⟨lw_p12, List.forall_mem_cons.mpr ⟨lw_p13, List.forall_mem_cons.mpr ⟨lw_p14, List.forall_mem_cons.mpr ⟨lw_p15, fun _ h => absurd h List.not_mem_nil⟩⟩⟩⟩⟩⟩⟩⟩⟩⟩⟩⟩⟩⟩⟩⟩
theorem lw_p16 : lw_okq (⟨"EightBlocks$Tape", "acceptPoint", "(I)I"⟩, 8) := ⟨⟨by decide +kernel, by decide +kernel⟩, List.mem_of_getElem? (i := 197) (by decide +kernel), List.mem_of_getElem? (i := 511) (by decide +kernel), List.mem_of_getElem? (i := 512) (by decide +kernel)⟩
theorem lw_p17 : lw_okq (⟨"EightBlocks$Tape", "endOfRun", "(II)I"⟩, 8) := ⟨⟨by decide +kernel, by decide +kernel⟩, List.mem_of_getElem? (i := 197) (by decide +kernel), List.mem_of_getElem? (i := 515) (by decide +kernel), List.mem_of_getElem? (i := 516) (by decide +kernel)⟩
theorem lw_p18 : lw_okq (⟨"EightBlocks$Tape", "numberUpTo", "(I)I"⟩, 8) := ⟨⟨by decide +kernel, by decide +kernel⟩, List.mem_of_getElem? (i := 197) (by decide +kernel), List.mem_of_getElem? (i := 519) (by decide +kernel), List.mem_of_getElem? (i := 520) (by decide +kernel)⟩
theorem lw_p19 : lw_okq (⟨"EightBlocks$Tape", "isName", "([I)Z"⟩, 8) := ⟨⟨by decide +kernel, by decide +kernel⟩, List.mem_of_getElem? (i := 197) (by decide +kernel), List.mem_of_getElem? (i := 524) (by decide +kernel), List.mem_of_getElem? (i := 525) (by decide +kernel)⟩
theorem lw_p20 : lw_okq (⟨"EightBlocks$Tape", "nameUpTo", "(I)I"⟩, 8) := ⟨⟨by decide +kernel, by decide +kernel⟩, List.mem_of_getElem? (i := 197) (by decide +kernel), List.mem_of_getElem? (i := 528) (by decide +kernel), List.mem_of_getElem? (i := 529) (by decide +kernel)⟩
theorem lw_p21 : lw_okq (⟨"EightBlocks$Tape", "isWritten", "(Ljava/lang/String;I)Z"⟩, 8) := ⟨⟨by decide +kernel, by decide +kernel⟩, List.mem_of_getElem? (i := 197) (by decide +kernel), List.mem_of_getElem? (i := 545) (by decide +kernel), List.mem_of_getElem? (i := 546) (by decide +kernel)⟩
theorem lw_p22 : lw_okq (⟨"EightBlocks$Tape", "acceptPower", "()I"⟩, 8) := ⟨⟨by decide +kernel, by decide +kernel⟩, List.mem_of_getElem? (i := 197) (by decide +kernel), List.mem_of_getElem? (i := 597) (by decide +kernel), List.mem_of_getElem? (i := 598) (by decide +kernel)⟩
theorem lw_p23 : lw_okq (⟨"EightBlocks$Tape", "raise", "([IIZ)V"⟩, 8) := ⟨⟨by decide +kernel, by decide +kernel⟩, List.mem_of_getElem? (i := 197) (by decide +kernel), List.mem_of_getElem? (i := 601) (by decide +kernel), List.mem_of_getElem? (i := 602) (by decide +kernel)⟩
theorem lw_p24 : lw_okq (⟨"EightBlocks$History", "forgetOldest", "()V"⟩, 3) := ⟨⟨by decide +kernel, by decide +kernel⟩, List.mem_of_getElem? (i := 158) (by decide +kernel), List.mem_of_getElem? (i := 623) (by decide +kernel), List.mem_of_getElem? (i := 624) (by decide +kernel)⟩
theorem lw_p25 : lw_okq (⟨"EightBlocks", "preserveCode", "(I)Z"⟩, 11) := ⟨⟨by decide +kernel, by decide +kernel⟩, List.mem_of_getElem? (i := 21) (by decide +kernel), List.mem_of_getElem? (i := 644) (by decide +kernel), List.mem_of_getElem? (i := 645) (by decide +kernel)⟩
theorem lw_p26 : lw_okq (⟨"EightBlocks", "preservingMoves", "()I"⟩, 11) := ⟨⟨by decide +kernel, by decide +kernel⟩, List.mem_of_getElem? (i := 21) (by decide +kernel), List.mem_of_getElem? (i := 648) (by decide +kernel), List.mem_of_getElem? (i := 649) (by decide +kernel)⟩
theorem lw_p27 : lw_okq (⟨"EightBlocks", "buildChain", "(II)V"⟩, 11) := ⟨⟨by decide +kernel, by decide +kernel⟩, List.mem_of_getElem? (i := 21) (by decide +kernel), List.mem_of_getElem? (i := 652) (by decide +kernel), List.mem_of_getElem? (i := 653) (by decide +kernel)⟩
theorem lw_p28 : lw_okq (⟨"EightBlocks$Chain", "back", "(II)[I"⟩, 9) := ⟨⟨by decide +kernel, by decide +kernel⟩, List.mem_of_getElem? (i := 104) (by decide +kernel), List.mem_of_getElem? (i := 660) (by decide +kernel), List.mem_of_getElem? (i := 661) (by decide +kernel)⟩
theorem lw_p29 : lw_okq (⟨"EightBlocks$Chain", "isReached", "(II)Z"⟩, 9) := ⟨⟨by decide +kernel, by decide +kernel⟩, List.mem_of_getElem? (i := 104) (by decide +kernel), List.mem_of_getElem? (i := 675) (by decide +kernel), List.mem_of_getElem? (i := 676) (by decide +kernel)⟩
theorem lw_p30 : lw_okq (⟨"EightBlocks$Chain", "admit", "(I[I)V"⟩, 9) := ⟨⟨by decide +kernel, by decide +kernel⟩, List.mem_of_getElem? (i := 104) (by decide +kernel), List.mem_of_getElem? (i := 681) (by decide +kernel), List.mem_of_getElem? (i := 682) (by decide +kernel)⟩
theorem lw_p31 : lw_okq (⟨"EightBlocks$Chain", "settle", "(I[I)V"⟩, 9) := ⟨⟨by decide +kernel, by decide +kernel⟩, List.mem_of_getElem? (i := 104) (by decide +kernel), List.mem_of_getElem? (i := 688) (by decide +kernel), List.mem_of_getElem? (i := 689) (by decide +kernel)⟩
def lw_privs_2 : List (MethodName × Nat) := [(⟨"EightBlocks$Tape", "acceptPoint", "(I)I"⟩, 8), (⟨"EightBlocks$Tape", "endOfRun", "(II)I"⟩, 8), (⟨"EightBlocks$Tape", "numberUpTo", "(I)I"⟩, 8), (⟨"EightBlocks$Tape", "isName", "([I)Z"⟩, 8), (⟨"EightBlocks$Tape", "nameUpTo", "(I)I"⟩, 8), (⟨"EightBlocks$Tape", "isWritten", "(Ljava/lang/String;I)Z"⟩, 8), (⟨"EightBlocks$Tape", "acceptPower", "()I"⟩, 8), (⟨"EightBlocks$Tape", "raise", "([IIZ)V"⟩, 8), (⟨"EightBlocks$History", "forgetOldest", "()V"⟩, 3), (⟨"EightBlocks", "preserveCode", "(I)Z"⟩, 11), (⟨"EightBlocks", "preservingMoves", "()I"⟩, 11), (⟨"EightBlocks", "buildChain", "(II)V"⟩, 11), (⟨"EightBlocks$Chain", "back", "(II)[I"⟩, 9), (⟨"EightBlocks$Chain", "isReached", "(II)Z"⟩, 9), (⟨"EightBlocks$Chain", "admit", "(I[I)V"⟩, 9), (⟨"EightBlocks$Chain", "settle", "(I[I)V"⟩, 9)]
theorem lw_r2 : ∀ q ∈ lw_privs_2, lw_okq q := List.forall_mem_cons.mpr ⟨lw_p16, List.forall_mem_cons.mpr ⟨lw_p17, List.forall_mem_cons.mpr ⟨lw_p18, List.forall_mem_cons.mpr ⟨lw_p19, List.forall_mem_cons.mpr ⟨lw_p20, List.forall_mem_cons.mpr ⟨lw_p21, List.forall_mem_cons.mpr ⟨lw_p22, List.forall_mem_cons.mpr ⟨lw_p23, List.forall_mem_cons.mpr ⟨lw_p24, List.forall_mem_cons.mpr ⟨lw_p25, List.forall_mem_cons.mpr ⟨lw_p26, List.forall_mem_cons.mpr ⟨lw_p27, List.forall_mem_cons.mpr ⟨lw_p28, List.forall_mem_cons.mpr ⟨lw_p29, List.forall_mem_cons.mpr ⟨lw_p30, List.forall_mem_cons.mpr ⟨lw_p31, fun _ h => absurd h List.not_mem_nil⟩⟩⟩⟩⟩⟩⟩⟩⟩⟩⟩⟩⟩⟩⟩⟩
theorem lw_p32 : lw_okq (⟨"EightBlocks$Chain", "reach", "(II[I)V"⟩, 9) := ⟨⟨by decide +kernel, by decide +kernel⟩, List.mem_of_getElem? (i := 104) (by decide +kernel), List.mem_of_getElem? (i := 692) (by decide +kernel), List.mem_of_getElem? (i := 693) (by decide +kernel)⟩
theorem lw_p33 : lw_okq (⟨"EightBlocks", "findOrbits", "(II)V"⟩, 11) := ⟨⟨by decide +kernel, by decide +kernel⟩, List.mem_of_getElem? (i := 21) (by decide +kernel), List.mem_of_getElem? (i := 701) (by decide +kernel), List.mem_of_getElem? (i := 702) (by decide +kernel)⟩
theorem lw_p34 : lw_okq (⟨"EightBlocks$Orbits", "fillGoals", "(LEightBlocks$Golay;[I)V"⟩, 4) := ⟨⟨by decide +kernel, by decide +kernel⟩, List.mem_of_getElem? (i := 139) (by decide +kernel), List.mem_of_getElem? (i := 714) (by decide +kernel), List.mem_of_getElem? (i := 715) (by decide +kernel)⟩
theorem lw_p35 : lw_okq (⟨"EightBlocks$Orbits", "goalOf", "(LEightBlocks$Golay;[II)I"⟩, 4) := ⟨⟨by decide +kernel, by decide +kernel⟩, List.mem_of_getElem? (i := 139) (by decide +kernel), List.mem_of_getElem? (i := 718) (by decide +kernel), List.mem_of_getElem? (i := 719) (by decide +kernel)⟩
theorem lw_p36 : lw_okq (⟨"EightBlocks$Orbits", "join", "(II)V"⟩, 4) := ⟨⟨by decide +kernel, by decide +kernel⟩, List.mem_of_getElem? (i := 139) (by decide +kernel), List.mem_of_getElem? (i := 725) (by decide +kernel), List.mem_of_getElem? (i := 726) (by decide +kernel)⟩
theorem lw_p37 : lw_okq (⟨"EightBlocks$Orbits", "root", "(I)I"⟩, 4) := ⟨⟨by decide +kernel, by decide +kernel⟩, List.mem_of_getElem? (i := 139) (by decide +kernel), List.mem_of_getElem? (i := 729) (by decide +kernel), List.mem_of_getElem? (i := 730) (by decide +kernel)⟩
theorem lw_p38 : lw_okq (⟨"EightBlocks", "reachedFrom", "(II)I"⟩, 11) := ⟨⟨by decide +kernel, by decide +kernel⟩, List.mem_of_getElem? (i := 21) (by decide +kernel), List.mem_of_getElem? (i := 751) (by decide +kernel), List.mem_of_getElem? (i := 752) (by decide +kernel)⟩
theorem lw_p39 : lw_okq (⟨"EightBlocks", "turnAtRandom", "(LEightBlocks$State;)V"⟩, 11) := ⟨⟨by decide +kernel, by decide +kernel⟩, List.mem_of_getElem? (i := 21) (by decide +kernel), List.mem_of_getElem? (i := 786) (by decide +kernel), List.mem_of_getElem? (i := 787) (by decide +kernel)⟩
theorem lw_p40 : lw_okq (⟨"EightBlocks$Sheets", "isInside", "(III)Z"⟩, 3) := ⟨⟨by decide +kernel, by decide +kernel⟩, List.mem_of_getElem? (i := 229) (by decide +kernel), List.mem_of_getElem? (i := 834) (by decide +kernel), List.mem_of_getElem? (i := 835) (by decide +kernel)⟩
theorem lw_p41 : lw_okq (⟨"EightBlocks$Chain", "lowestSource", "(I[I)I"⟩, 9) := ⟨⟨by decide +kernel, by decide +kernel⟩, List.mem_of_getElem? (i := 104) (by decide +kernel), List.mem_of_getElem? (i := 853) (by decide +kernel), List.mem_of_getElem? (i := 854) (by decide +kernel)⟩
theorem lw_p42 : lw_okq (⟨"EightBlocksModel", "comes", "(II)V"⟩, 37) := ⟨⟨by decide +kernel, by decide +kernel⟩, List.mem_of_getElem? (i := 902) (by decide +kernel), List.mem_of_getElem? (i := 927) (by decide +kernel), List.mem_of_getElem? (i := 928) (by decide +kernel)⟩
theorem lw_p43 : lw_okq (⟨"EightBlocksModel", "numberOf", "(I)I"⟩, 37) := ⟨⟨by decide +kernel, by decide +kernel⟩, List.mem_of_getElem? (i := 902) (by decide +kernel), List.mem_of_getElem? (i := 1061) (by decide +kernel), List.mem_of_getElem? (i := 1062) (by decide +kernel)⟩
theorem lw_p44 : lw_okq (⟨"EightBlocksModel", "closest", "(II)I"⟩, 37) := ⟨⟨by decide +kernel, by decide +kernel⟩, List.mem_of_getElem? (i := 902) (by decide +kernel), List.mem_of_getElem? (i := 1065) (by decide +kernel), List.mem_of_getElem? (i := 1066) (by decide +kernel)⟩
theorem lw_p45 : lw_okq (⟨"EightBlocksModel", "octadsIn", "(I)I"⟩, 37) := ⟨⟨by decide +kernel, by decide +kernel⟩, List.mem_of_getElem? (i := 902) (by decide +kernel), List.mem_of_getElem? (i := 1069) (by decide +kernel), List.mem_of_getElem? (i := 1070) (by decide +kernel)⟩
theorem lw_p46 : lw_okq (⟨"EightBlocksModel", "octadsWith", "(I)I"⟩, 37) := ⟨⟨by decide +kernel, by decide +kernel⟩, List.mem_of_getElem? (i := 902) (by decide +kernel), List.mem_of_getElem? (i := 1073) (by decide +kernel), List.mem_of_getElem? (i := 1074) (by decide +kernel)⟩
theorem lw_p47 : lw_okq (⟨"EightBlocksModel", "dodecad", "(I)I"⟩, 37) := ⟨⟨by decide +kernel, by decide +kernel⟩, List.mem_of_getElem? (i := 902) (by decide +kernel), List.mem_of_getElem? (i := 1087) (by decide +kernel), List.mem_of_getElem? (i := 1088) (by decide +kernel)⟩
def lw_privs_3 : List (MethodName × Nat) := [(⟨"EightBlocks$Chain", "reach", "(II[I)V"⟩, 9), (⟨"EightBlocks", "findOrbits", "(II)V"⟩, 11), (⟨"EightBlocks$Orbits", "fillGoals", "(LEightBlocks$Golay;[I)V"⟩, 4), (⟨"EightBlocks$Orbits", "goalOf", "(LEightBlocks$Golay;[II)I"⟩, 4), (⟨"EightBlocks$Orbits", "join", "(II)V"⟩, 4), (⟨"EightBlocks$Orbits", "root", "(I)I"⟩, 4), (⟨"EightBlocks", "reachedFrom", "(II)I"⟩, 11), (⟨"EightBlocks", "turnAtRandom", "(LEightBlocks$State;)V"⟩, 11), (⟨"EightBlocks$Sheets", "isInside", "(III)Z"⟩, 3), (⟨"EightBlocks$Chain", "lowestSource", "(I[I)I"⟩, 9), (⟨"EightBlocksModel", "comes", "(II)V"⟩, 37), (⟨"EightBlocksModel", "numberOf", "(I)I"⟩, 37), (⟨"EightBlocksModel", "closest", "(II)I"⟩, 37), (⟨"EightBlocksModel", "octadsIn", "(I)I"⟩, 37), (⟨"EightBlocksModel", "octadsWith", "(I)I"⟩, 37), (⟨"EightBlocksModel", "dodecad", "(I)I"⟩, 37)]
theorem lw_r3 : ∀ q ∈ lw_privs_3, lw_okq q := List.forall_mem_cons.mpr ⟨lw_p32, List.forall_mem_cons.mpr ⟨lw_p33, List.forall_mem_cons.mpr ⟨lw_p34, List.forall_mem_cons.mpr ⟨lw_p35, List.forall_mem_cons.mpr ⟨lw_p36, List.forall_mem_cons.mpr ⟨lw_p37, List.forall_mem_cons.mpr ⟨lw_p38, List.forall_mem_cons.mpr ⟨lw_p39, List.forall_mem_cons.mpr ⟨lw_p40, List.forall_mem_cons.mpr ⟨lw_p41, List.forall_mem_cons.mpr ⟨lw_p42, List.forall_mem_cons.mpr ⟨lw_p43, List.forall_mem_cons.mpr ⟨lw_p44, List.forall_mem_cons.mpr ⟨lw_p45, List.forall_mem_cons.mpr ⟨lw_p46, List.forall_mem_cons.mpr ⟨lw_p47, fun _ h => absurd h List.not_mem_nil⟩⟩⟩⟩⟩⟩⟩⟩⟩⟩⟩⟩⟩⟩⟩⟩
theorem lw_p48 : lw_okq (⟨"EightBlocksModel", "octadOf", "(I)I"⟩, 37) := ⟨⟨by decide +kernel, by decide +kernel⟩, List.mem_of_getElem? (i := 902) (by decide +kernel), List.mem_of_getElem? (i := 1095) (by decide +kernel), List.mem_of_getElem? (i := 1096) (by decide +kernel)⟩
theorem lw_p49 : lw_okq (⟨"EightBlocksModel", "tetradAt", "(II)I"⟩, 37) := ⟨⟨by decide +kernel, by decide +kernel⟩, List.mem_of_getElem? (i := 902) (by decide +kernel), List.mem_of_getElem? (i := 1105) (by decide +kernel), List.mem_of_getElem? (i := 1106) (by decide +kernel)⟩
theorem lw_p50 : lw_okq (⟨"EightBlocksModel", "isOfTwo", "(II)Z"⟩, 37) := ⟨⟨by decide +kernel, by decide +kernel⟩, List.mem_of_getElem? (i := 902) (by decide +kernel), List.mem_of_getElem? (i := 1113) (by decide +kernel), List.mem_of_getElem? (i := 1114) (by decide +kernel)⟩
theorem lw_p51 : lw_okq (⟨"EightBlocksModel", "to", "(II)I"⟩, 37) := ⟨⟨by decide +kernel, by decide +kernel⟩, List.mem_of_getElem? (i := 902) (by decide +kernel), List.mem_of_getElem? (i := 1134) (by decide +kernel), List.mem_of_getElem? (i := 1135) (by decide +kernel)⟩
theorem lw_p52 : lw_okq (⟨"EightBlocksModel", "goes", "(II)I"⟩, 37) := ⟨⟨by decide +kernel, by decide +kernel⟩, List.mem_of_getElem? (i := 902) (by decide +kernel), List.mem_of_getElem? (i := 1142) (by decide +kernel), List.mem_of_getElem? (i := 1143) (by decide +kernel)⟩
theorem lw_p53 : lw_okq (⟨"EightBlocksModel", "keeps", "(I)Z"⟩, 37) := ⟨⟨by decide +kernel, by decide +kernel⟩, List.mem_of_getElem? (i := 902) (by decide +kernel), List.mem_of_getElem? (i := 1150) (by decide +kernel), List.mem_of_getElem? (i := 1151) (by decide +kernel)⟩
theorem lw_p54 : lw_okq (⟨"EightBlocksModel", "stays", "(I)I"⟩, 37) := ⟨⟨by decide +kernel, by decide +kernel⟩, List.mem_of_getElem? (i := 902) (by decide +kernel), List.mem_of_getElem? (i := 1154) (by decide +kernel), List.mem_of_getElem? (i := 1155) (by decide +kernel)⟩
theorem lw_p55 : lw_okq (⟨"EightBlocksModel", "rings", "(I)I"⟩, 37) := ⟨⟨by decide +kernel, by decide +kernel⟩, List.mem_of_getElem? (i := 902) (by decide +kernel), List.mem_of_getElem? (i := 1158) (by decide +kernel), List.mem_of_getElem? (i := 1159) (by decide +kernel)⟩
theorem lw_p56 : lw_okq (⟨"EightBlocksModel", "isLeast", "(II)Z"⟩, 37) := ⟨⟨by decide +kernel, by decide +kernel⟩, List.mem_of_getElem? (i := 902) (by decide +kernel), List.mem_of_getElem? (i := 1162) (by decide +kernel), List.mem_of_getElem? (i := 1163) (by decide +kernel)⟩
theorem lw_p57 : lw_okq (⟨"EightBlocksModel", "orderOf", "(I)I"⟩, 37) := ⟨⟨by decide +kernel, by decide +kernel⟩, List.mem_of_getElem? (i := 902) (by decide +kernel), List.mem_of_getElem? (i := 1166) (by decide +kernel), List.mem_of_getElem? (i := 1167) (by decide +kernel)⟩
theorem lw_p58 : lw_okq (⟨"EightBlocksModel", "ring", "(II)I"⟩, 37) := ⟨⟨by decide +kernel, by decide +kernel⟩, List.mem_of_getElem? (i := 902) (by decide +kernel), List.mem_of_getElem? (i := 1170) (by decide +kernel), List.mem_of_getElem? (i := 1171) (by decide +kernel)⟩
theorem lw_p59 : lw_okq (⟨"EightBlocksModel", "octadsKept", "(I)I"⟩, 37) := ⟨⟨by decide +kernel, by decide +kernel⟩, List.mem_of_getElem? (i := 902) (by decide +kernel), List.mem_of_getElem? (i := 1174) (by decide +kernel), List.mem_of_getElem? (i := 1175) (by decide +kernel)⟩
theorem lw_p60 : lw_okq (⟨"EightBlocksModel", "texts", "(I)I"⟩, 37) := ⟨⟨by decide +kernel, by decide +kernel⟩, List.mem_of_getElem? (i := 902) (by decide +kernel), List.mem_of_getElem? (i := 1178) (by decide +kernel), List.mem_of_getElem? (i := 1179) (by decide +kernel)⟩
theorem lw_p61 : lw_okq (⟨"EightBlocksModel", "putsRing", "(II)V"⟩, 37) := ⟨⟨by decide +kernel, by decide +kernel⟩, List.mem_of_getElem? (i := 902) (by decide +kernel), List.mem_of_getElem? (i := 1182) (by decide +kernel), List.mem_of_getElem? (i := 1183) (by decide +kernel)⟩
theorem lw_p62 : lw_okq (⟨"EightBlocksModel", "puts", "(I)V"⟩, 37) := ⟨⟨by decide +kernel, by decide +kernel⟩, List.mem_of_getElem? (i := 902) (by decide +kernel), List.mem_of_getElem? (i := 1186) (by decide +kernel), List.mem_of_getElem? (i := 1187) (by decide +kernel)⟩
theorem lw_p63 : lw_okq (⟨"EightBlocksModel", "isText", "()Z"⟩, 37) := ⟨⟨by decide +kernel, by decide +kernel⟩, List.mem_of_getElem? (i := 902) (by decide +kernel), List.mem_of_getElem? (i := 1205) (by decide +kernel), List.mem_of_getElem? (i := 1206) (by decide +kernel)⟩
def lw_privs_4 : List (MethodName × Nat) := [(⟨"EightBlocksModel", "octadOf", "(I)I"⟩, 37), (⟨"EightBlocksModel", "tetradAt", "(II)I"⟩, 37), (⟨"EightBlocksModel", "isOfTwo", "(II)Z"⟩, 37), (⟨"EightBlocksModel", "to", "(II)I"⟩, 37), (⟨"EightBlocksModel", "goes", "(II)I"⟩, 37), (⟨"EightBlocksModel", "keeps", "(I)Z"⟩, 37), (⟨"EightBlocksModel", "stays", "(I)I"⟩, 37), (⟨"EightBlocksModel", "rings", "(I)I"⟩, 37), (⟨"EightBlocksModel", "isLeast", "(II)Z"⟩, 37), (⟨"EightBlocksModel", "orderOf", "(I)I"⟩, 37), (⟨"EightBlocksModel", "ring", "(II)I"⟩, 37), (⟨"EightBlocksModel", "octadsKept", "(I)I"⟩, 37), (⟨"EightBlocksModel", "texts", "(I)I"⟩, 37), (⟨"EightBlocksModel", "putsRing", "(II)V"⟩, 37), (⟨"EightBlocksModel", "puts", "(I)V"⟩, 37), (⟨"EightBlocksModel", "isText", "()Z"⟩, 37)]
theorem lw_r4 : ∀ q ∈ lw_privs_4, lw_okq q := List.forall_mem_cons.mpr ⟨lw_p48, List.forall_mem_cons.mpr ⟨lw_p49, List.forall_mem_cons.mpr ⟨lw_p50, List.forall_mem_cons.mpr ⟨lw_p51, List.forall_mem_cons.mpr ⟨lw_p52, List.forall_mem_cons.mpr ⟨lw_p53, List.forall_mem_cons.mpr ⟨lw_p54, List.forall_mem_cons.mpr ⟨lw_p55, List.forall_mem_cons.mpr ⟨lw_p56, List.forall_mem_cons.mpr ⟨lw_p57, List.forall_mem_cons.mpr ⟨lw_p58, List.forall_mem_cons.mpr ⟨lw_p59, List.forall_mem_cons.mpr ⟨lw_p60, List.forall_mem_cons.mpr ⟨lw_p61, List.forall_mem_cons.mpr ⟨lw_p62, List.forall_mem_cons.mpr ⟨lw_p63, fun _ h => absurd h List.not_mem_nil⟩⟩⟩⟩⟩⟩⟩⟩⟩⟩⟩⟩⟩⟩⟩⟩
theorem lw_p64 : lw_okq (⟨"EightBlocksModel", "begins", "()V"⟩, 37) := ⟨⟨by decide +kernel, by decide +kernel⟩, List.mem_of_getElem? (i := 902) (by decide +kernel), List.mem_of_getElem? (i := 1209) (by decide +kernel), List.mem_of_getElem? (i := 1210) (by decide +kernel)⟩
theorem lw_p65 : lw_okq (⟨"EightBlocksModel", "here", "()I"⟩, 37) := ⟨⟨by decide +kernel, by decide +kernel⟩, List.mem_of_getElem? (i := 902) (by decide +kernel), List.mem_of_getElem? (i := 1213) (by decide +kernel), List.mem_of_getElem? (i := 1214) (by decide +kernel)⟩
theorem lw_p66 : lw_okq (⟨"EightBlocksModel", "readsFactor", "()Z"⟩, 37) := ⟨⟨by decide +kernel, by decide +kernel⟩, List.mem_of_getElem? (i := 902) (by decide +kernel), List.mem_of_getElem? (i := 1217) (by decide +kernel), List.mem_of_getElem? (i := 1218) (by decide +kernel)⟩
theorem lw_p67 : lw_okq (⟨"EightBlocksModel", "readsName", "()Z"⟩, 37) := ⟨⟨by decide +kernel, by decide +kernel⟩, List.mem_of_getElem? (i := 902) (by decide +kernel), List.mem_of_getElem? (i := 1226) (by decide +kernel), List.mem_of_getElem? (i := 1227) (by decide +kernel)⟩
theorem lw_p68 : lw_okq (⟨"EightBlocksModel", "row", "(Z)I"⟩, 37) := ⟨⟨by decide +kernel, by decide +kernel⟩, List.mem_of_getElem? (i := 902) (by decide +kernel), List.mem_of_getElem? (i := 1230) (by decide +kernel), List.mem_of_getElem? (i := 1231) (by decide +kernel)⟩
theorem lw_p69 : lw_okq (⟨"EightBlocksModel", "nameOf", "(I)I"⟩, 37) := ⟨⟨by decide +kernel, by decide +kernel⟩, List.mem_of_getElem? (i := 902) (by decide +kernel), List.mem_of_getElem? (i := 1239) (by decide +kernel), List.mem_of_getElem? (i := 1240) (by decide +kernel)⟩
theorem lw_p70 : lw_okq (⟨"EightBlocksModel", "isName", "(IIIIIII)Z"⟩, 37) := ⟨⟨by decide +kernel, by decide +kernel⟩, List.mem_of_getElem? (i := 902) (by decide +kernel), List.mem_of_getElem? (i := 1244) (by decide +kernel), List.mem_of_getElem? (i := 1245) (by decide +kernel)⟩
theorem lw_p71 : lw_okq (⟨"EightBlocksModel", "readsRing", "()Z"⟩, 37) := ⟨⟨by decide +kernel, by decide +kernel⟩, List.mem_of_getElem? (i := 902) (by decide +kernel), List.mem_of_getElem? (i := 1248) (by decide +kernel), List.mem_of_getElem? (i := 1249) (by decide +kernel)⟩
theorem lw_p72 : lw_okq (⟨"EightBlocksModel", "number", "(I)I"⟩, 37) := ⟨⟨by decide +kernel, by decide +kernel⟩, List.mem_of_getElem? (i := 902) (by decide +kernel), List.mem_of_getElem? (i := 1252) (by decide +kernel), List.mem_of_getElem? (i := 1253) (by decide +kernel)⟩
theorem lw_p73 : lw_okq (⟨"EightBlocksModel", "readsOften", "()Z"⟩, 37) := ⟨⟨by decide +kernel, by decide +kernel⟩, List.mem_of_getElem? (i := 902) (by decide +kernel), List.mem_of_getElem? (i := 1256) (by decide +kernel), List.mem_of_getElem? (i := 1257) (by decide +kernel)⟩
theorem lw_p74 : lw_okq (⟨"EightBlocksModel", "turnsBack", "()V"⟩, 37) := ⟨⟨by decide +kernel, by decide +kernel⟩, List.mem_of_getElem? (i := 902) (by decide +kernel), List.mem_of_getElem? (i := 1260) (by decide +kernel), List.mem_of_getElem? (i := 1261) (by decide +kernel)⟩
theorem lw_p75 : lw_okq (⟨"EightBlocksModel", "closes", "()V"⟩, 37) := ⟨⟨by decide +kernel, by decide +kernel⟩, List.mem_of_getElem? (i := 902) (by decide +kernel), List.mem_of_getElem? (i := 1264) (by decide +kernel), List.mem_of_getElem? (i := 1265) (by decide +kernel)⟩
theorem lw_p76 : lw_okq (⟨"EightBlocksModel", "notes", "()V"⟩, 37) := ⟨⟨by decide +kernel, by decide +kernel⟩, List.mem_of_getElem? (i := 902) (by decide +kernel), List.mem_of_getElem? (i := 1268) (by decide +kernel), List.mem_of_getElem? (i := 1269) (by decide +kernel)⟩
theorem lw_p77 : lw_okq (⟨"EightBlocksModel", "allKeep", "(I)Z"⟩, 37) := ⟨⟨by decide +kernel, by decide +kernel⟩, List.mem_of_getElem? (i := 902) (by decide +kernel), List.mem_of_getElem? (i := 1280) (by decide +kernel), List.mem_of_getElem? (i := 1281) (by decide +kernel)⟩
theorem lw_p78 : lw_okq (⟨"EightBlocksModel", "builds", "(II)V"⟩, 37) := ⟨⟨by decide +kernel, by decide +kernel⟩, List.mem_of_getElem? (i := 902) (by decide +kernel), List.mem_of_getElem? (i := 1284) (by decide +kernel), List.mem_of_getElem? (i := 1285) (by decide +kernel)⟩
theorem lw_p79 : lw_okq (⟨"EightBlocksModel", "stands", "(II)Z"⟩, 37) := ⟨⟨by decide +kernel, by decide +kernel⟩, List.mem_of_getElem? (i := 902) (by decide +kernel), List.mem_of_getElem? (i := 1288) (by decide +kernel), List.mem_of_getElem? (i := 1289) (by decide +kernel)⟩
def lw_privs_5 : List (MethodName × Nat) := [(⟨"EightBlocksModel", "begins", "()V"⟩, 37), (⟨"EightBlocksModel", "here", "()I"⟩, 37), (⟨"EightBlocksModel", "readsFactor", "()Z"⟩, 37), (⟨"EightBlocksModel", "readsName", "()Z"⟩, 37), (⟨"EightBlocksModel", "row", "(Z)I"⟩, 37), (⟨"EightBlocksModel", "nameOf", "(I)I"⟩, 37), (⟨"EightBlocksModel", "isName", "(IIIIIII)Z"⟩, 37), (⟨"EightBlocksModel", "readsRing", "()Z"⟩, 37), (⟨"EightBlocksModel", "number", "(I)I"⟩, 37), (⟨"EightBlocksModel", "readsOften", "()Z"⟩, 37), (⟨"EightBlocksModel", "turnsBack", "()V"⟩, 37), (⟨"EightBlocksModel", "closes", "()V"⟩, 37), (⟨"EightBlocksModel", "notes", "()V"⟩, 37), (⟨"EightBlocksModel", "allKeep", "(I)Z"⟩, 37), (⟨"EightBlocksModel", "builds", "(II)V"⟩, 37), (⟨"EightBlocksModel", "stands", "(II)Z"⟩, 37)]
theorem lw_r5 : ∀ q ∈ lw_privs_5, lw_okq q := List.forall_mem_cons.mpr ⟨lw_p64, List.forall_mem_cons.mpr ⟨lw_p65, List.forall_mem_cons.mpr ⟨lw_p66, List.forall_mem_cons.mpr ⟨lw_p67, List.forall_mem_cons.mpr ⟨lw_p68, List.forall_mem_cons.mpr ⟨lw_p69, List.forall_mem_cons.mpr ⟨lw_p70, List.forall_mem_cons.mpr ⟨lw_p71, List.forall_mem_cons.mpr ⟨lw_p72, List.forall_mem_cons.mpr ⟨lw_p73, List.forall_mem_cons.mpr ⟨lw_p74, List.forall_mem_cons.mpr ⟨lw_p75, List.forall_mem_cons.mpr ⟨lw_p76, List.forall_mem_cons.mpr ⟨lw_p77, List.forall_mem_cons.mpr ⟨lw_p78, List.forall_mem_cons.mpr ⟨lw_p79, fun _ h => absurd h List.not_mem_nil⟩⟩⟩⟩⟩⟩⟩⟩⟩⟩⟩⟩⟩⟩⟩⟩
theorem lw_p80 : lw_okq (⟨"EightBlocksModel", "bases", "(I)V"⟩, 37) := ⟨⟨by decide +kernel, by decide +kernel⟩, List.mem_of_getElem? (i := 902) (by decide +kernel), List.mem_of_getElem? (i := 1292) (by decide +kernel), List.mem_of_getElem? (i := 1293) (by decide +kernel)⟩
theorem lw_p81 : lw_okq (⟨"EightBlocksModel", "adds", "()V"⟩, 37) := ⟨⟨by decide +kernel, by decide +kernel⟩, List.mem_of_getElem? (i := 902) (by decide +kernel), List.mem_of_getElem? (i := 1296) (by decide +kernel), List.mem_of_getElem? (i := 1297) (by decide +kernel)⟩
theorem lw_p82 : lw_okq (⟨"EightBlocksModel", "sifts", "()I"⟩, 37) := ⟨⟨by decide +kernel, by decide +kernel⟩, List.mem_of_getElem? (i := 902) (by decide +kernel), List.mem_of_getElem? (i := 1300) (by decide +kernel), List.mem_of_getElem? (i := 1301) (by decide +kernel)⟩
theorem lw_p83 : lw_okq (⟨"EightBlocksModel", "takesBack", "(I)V"⟩, 37) := ⟨⟨by decide +kernel, by decide +kernel⟩, List.mem_of_getElem? (i := 902) (by decide +kernel), List.mem_of_getElem? (i := 1304) (by decide +kernel), List.mem_of_getElem? (i := 1305) (by decide +kernel)⟩
theorem lw_p84 : lw_okq (⟨"EightBlocksModel", "tries", "(II)V"⟩, 37) := ⟨⟨by decide +kernel, by decide +kernel⟩, List.mem_of_getElem? (i := 902) (by decide +kernel), List.mem_of_getElem? (i := 1308) (by decide +kernel), List.mem_of_getElem? (i := 1309) (by decide +kernel)⟩
theorem lw_p85 : lw_okq (⟨"EightBlocksModel", "manyFrom", "(I)I"⟩, 37) := ⟨⟨by decide +kernel, by decide +kernel⟩, List.mem_of_getElem? (i := 902) (by decide +kernel), List.mem_of_getElem? (i := 1312) (by decide +kernel), List.mem_of_getElem? (i := 1313) (by decide +kernel)⟩
theorem lw_p86 : lw_okq (⟨"EightBlocksModel", "orbitsOfPlaces", "(I)I"⟩, 37) := ⟨⟨by decide +kernel, by decide +kernel⟩, List.mem_of_getElem? (i := 902) (by decide +kernel), List.mem_of_getElem? (i := 1316) (by decide +kernel), List.mem_of_getElem? (i := 1317) (by decide +kernel)⟩
theorem lw_p87 : lw_okq (⟨"EightBlocksModel", "reaches", "(II)I"⟩, 37) := ⟨⟨by decide +kernel, by decide +kernel⟩, List.mem_of_getElem? (i := 902) (by decide +kernel), List.mem_of_getElem? (i := 1320) (by decide +kernel), List.mem_of_getElem? (i := 1321) (by decide +kernel)⟩
theorem lw_p88 : lw_okq (⟨"EightBlocksModel", "orbitsOfSextets", "(I)I"⟩, 37) := ⟨⟨by decide +kernel, by decide +kernel⟩, List.mem_of_getElem? (i := 902) (by decide +kernel), List.mem_of_getElem? (i := 1324) (by decide +kernel), List.mem_of_getElem? (i := 1325) (by decide +kernel)⟩
theorem lw_p89 : lw_okq (⟨"EightBlocksModel", "unmarks", "()V"⟩, 37) := ⟨⟨by decide +kernel, by decide +kernel⟩, List.mem_of_getElem? (i := 902) (by decide +kernel), List.mem_of_getElem? (i := 1328) (by decide +kernel), List.mem_of_getElem? (i := 1329) (by decide +kernel)⟩
theorem lw_p90 : lw_okq (⟨"EightBlocksModel", "spreadsFours", "(II)I"⟩, 37) := ⟨⟨by decide +kernel, by decide +kernel⟩, List.mem_of_getElem? (i := 902) (by decide +kernel), List.mem_of_getElem? (i := 1332) (by decide +kernel), List.mem_of_getElem? (i := 1333) (by decide +kernel)⟩
theorem lw_p91 : lw_okq (⟨"EightBlocksModel", "fourBy", "(II)I"⟩, 37) := ⟨⟨by decide +kernel, by decide +kernel⟩, List.mem_of_getElem? (i := 902) (by decide +kernel), List.mem_of_getElem? (i := 1339) (by decide +kernel), List.mem_of_getElem? (i := 1340) (by decide +kernel)⟩
theorem lw_p92 : lw_okq (⟨"EightBlocksModel", "orbitsOfWords", "(II)I"⟩, 37) := ⟨⟨by decide +kernel, by decide +kernel⟩, List.mem_of_getElem? (i := 902) (by decide +kernel), List.mem_of_getElem? (i := 1343) (by decide +kernel), List.mem_of_getElem? (i := 1344) (by decide +kernel)⟩
theorem lw_p93 : lw_okq (⟨"EightBlocksModel", "imagesOf", "(I)V"⟩, 37) := ⟨⟨by decide +kernel, by decide +kernel⟩, List.mem_of_getElem? (i := 902) (by decide +kernel), List.mem_of_getElem? (i := 1347) (by decide +kernel), List.mem_of_getElem? (i := 1348) (by decide +kernel)⟩
theorem lw_p94 : lw_okq (⟨"EightBlocksModel", "spreads", "(I)I"⟩, 37) := ⟨⟨by decide +kernel, by decide +kernel⟩, List.mem_of_getElem? (i := 902) (by decide +kernel), List.mem_of_getElem? (i := 1351) (by decide +kernel), List.mem_of_getElem? (i := 1352) (by decide +kernel)⟩
theorem lw_p95 : lw_okq (⟨"EightBlocksModel", "imageOf", "(II)I"⟩, 37) := ⟨⟨by decide +kernel, by decide +kernel⟩, List.mem_of_getElem? (i := 902) (by decide +kernel), List.mem_of_getElem? (i := 1355) (by decide +kernel), List.mem_of_getElem? (i := 1356) (by decide +kernel)⟩
def lw_privs_6 : List (MethodName × Nat) := [(⟨"EightBlocksModel", "bases", "(I)V"⟩, 37), (⟨"EightBlocksModel", "adds", "()V"⟩, 37), (⟨"EightBlocksModel", "sifts", "()I"⟩, 37), (⟨"EightBlocksModel", "takesBack", "(I)V"⟩, 37), (⟨"EightBlocksModel", "tries", "(II)V"⟩, 37), (⟨"EightBlocksModel", "manyFrom", "(I)I"⟩, 37), (⟨"EightBlocksModel", "orbitsOfPlaces", "(I)I"⟩, 37), (⟨"EightBlocksModel", "reaches", "(II)I"⟩, 37), (⟨"EightBlocksModel", "orbitsOfSextets", "(I)I"⟩, 37), (⟨"EightBlocksModel", "unmarks", "()V"⟩, 37), (⟨"EightBlocksModel", "spreadsFours", "(II)I"⟩, 37), (⟨"EightBlocksModel", "fourBy", "(II)I"⟩, 37), (⟨"EightBlocksModel", "orbitsOfWords", "(II)I"⟩, 37), (⟨"EightBlocksModel", "imagesOf", "(I)V"⟩, 37), (⟨"EightBlocksModel", "spreads", "(I)I"⟩, 37), (⟨"EightBlocksModel", "imageOf", "(II)I"⟩, 37)]
theorem lw_r6 : ∀ q ∈ lw_privs_6, lw_okq q := List.forall_mem_cons.mpr ⟨lw_p80, List.forall_mem_cons.mpr ⟨lw_p81, List.forall_mem_cons.mpr ⟨lw_p82, List.forall_mem_cons.mpr ⟨lw_p83, List.forall_mem_cons.mpr ⟨lw_p84, List.forall_mem_cons.mpr ⟨lw_p85, List.forall_mem_cons.mpr ⟨lw_p86, List.forall_mem_cons.mpr ⟨lw_p87, List.forall_mem_cons.mpr ⟨lw_p88, List.forall_mem_cons.mpr ⟨lw_p89, List.forall_mem_cons.mpr ⟨lw_p90, List.forall_mem_cons.mpr ⟨lw_p91, List.forall_mem_cons.mpr ⟨lw_p92, List.forall_mem_cons.mpr ⟨lw_p93, List.forall_mem_cons.mpr ⟨lw_p94, List.forall_mem_cons.mpr ⟨lw_p95, fun _ h => absurd h List.not_mem_nil⟩⟩⟩⟩⟩⟩⟩⟩⟩⟩⟩⟩⟩⟩⟩⟩
theorem lw_p96 : lw_okq (⟨"EightBlocksModel", "doubles", "(II)V"⟩, 37) := ⟨⟨by decide +kernel, by decide +kernel⟩, List.mem_of_getElem? (i := 902) (by decide +kernel), List.mem_of_getElem? (i := 1397) (by decide +kernel), List.mem_of_getElem? (i := 1398) (by decide +kernel)⟩
theorem lw_p97 : lw_okq (⟨"EightBlocksModel", "why", "(IIII)I"⟩, 37) := ⟨⟨by decide +kernel, by decide +kernel⟩, List.mem_of_getElem? (i := 902) (by decide +kernel), List.mem_of_getElem? (i := 1432) (by decide +kernel), List.mem_of_getElem? (i := 1433) (by decide +kernel)⟩
theorem lw_p98 : lw_okq (⟨"EightBlocksModel", "wants", "(II)I"⟩, 37) := ⟨⟨by decide +kernel, by decide +kernel⟩, List.mem_of_getElem? (i := 902) (by decide +kernel), List.mem_of_getElem? (i := 1451) (by decide +kernel), List.mem_of_getElem? (i := 1452) (by decide +kernel)⟩
theorem lw_p99 : lw_okq (⟨"EightBlocksModel", "finds", "(I)Z"⟩, 37) := ⟨⟨by decide +kernel, by decide +kernel⟩, List.mem_of_getElem? (i := 902) (by decide +kernel), List.mem_of_getElem? (i := 1455) (by decide +kernel), List.mem_of_getElem? (i := 1456) (by decide +kernel)⟩
theorem lw_p100 : lw_okq (⟨"EightBlocksModel", "sends", "(II)I"⟩, 37) := ⟨⟨by decide +kernel, by decide +kernel⟩, List.mem_of_getElem? (i := 902) (by decide +kernel), List.mem_of_getElem? (i := 1459) (by decide +kernel), List.mem_of_getElem? (i := 1460) (by decide +kernel)⟩
def lw_privs_7 : List (MethodName × Nat) := [(⟨"EightBlocksModel", "doubles", "(II)V"⟩, 37), (⟨"EightBlocksModel", "why", "(IIII)I"⟩, 37), (⟨"EightBlocksModel", "wants", "(II)I"⟩, 37), (⟨"EightBlocksModel", "finds", "(I)Z"⟩, 37), (⟨"EightBlocksModel", "sends", "(II)I"⟩, 37)]
theorem lw_r7 : ∀ q ∈ lw_privs_7, lw_okq q := List.forall_mem_cons.mpr ⟨lw_p96, List.forall_mem_cons.mpr ⟨lw_p97, List.forall_mem_cons.mpr ⟨lw_p98, List.forall_mem_cons.mpr ⟨lw_p99, List.forall_mem_cons.mpr ⟨lw_p100, fun _ h => absurd h List.not_mem_nil⟩⟩⟩⟩⟩
def lw_privs : List (MethodName × Nat) := lw_privs_1 ++ (lw_privs_2 ++ (lw_privs_3 ++ (lw_privs_4 ++ (lw_privs_5 ++ (lw_privs_6 ++ (lw_privs_7))))))
def lw_tbl : List Cond := k2_sels lw_privs ++ tables_1
theorem lw_privs_ok : ∀ q ∈ lw_privs, lw_okq q := by
  show ∀ q ∈ lw_privs_1 ++ (lw_privs_2 ++ (lw_privs_3 ++ (lw_privs_4 ++ (lw_privs_5 ++ (lw_privs_6 ++ (lw_privs_7)))))), lw_okq q
  exact List.forall_mem_append.mpr ⟨lw_r1, List.forall_mem_append.mpr ⟨lw_r2, List.forall_mem_append.mpr ⟨lw_r3, List.forall_mem_append.mpr ⟨lw_r4, List.forall_mem_append.mpr ⟨lw_r5, List.forall_mem_append.mpr ⟨lw_r6, lw_r7⟩⟩⟩⟩⟩⟩
end
section
def RX0 : String := "EightBlocks$Chain"
def TX0 : u_T := fun k => match k with
  | 0 => ("EightBlocks$Chain", "base", "[I", true)
  | 1 => ("EightBlocks$Chain", "sizes", "[I", true)
  | 2 => ("EightBlocks$Chain", "reached", "[I", true)
  | 3 => ("EightBlocks$Chain", "orbits", "[[I", true)
  | 4 => ("EightBlocks$Chain", "backs", "[[I", true)
  | 5 => ("EightBlocks$Chain", "generatorCounts", "[I", true)
  | 6 => ("EightBlocks$Chain", "generators", "[[I", true)
  | 7 => ("EightBlocks$Chain", "products", "[[I", true)
  | _ => ("EightBlocks$Chain", "probe", "[I", true)
def tyX0 : Nat → FieldType := fun k => match k with
  | 0 => .array .int
  | 1 => .array .int
  | 2 => .array .int
  | 3 => .array (.array .int)
  | 4 => .array (.array .int)
  | 5 => .array .int
  | 6 => .array (.array .int)
  | 7 => .array (.array .int)
  | _ => .array .int
theorem nmX0 : ∀ a, a < 9 → ∀ b, b < 9 → a ≠ b → (TX0 a).2.1 ≠ (TX0 b).2.1 := by decide +kernel
theorem tyX0_ok : ∀ k, k < 9 → parseFieldDescriptor (TX0 k).2.2.1 = some (tyX0 k) := by decide +kernel
abbrev cX0_init : ByteArray := prog_2_method_1_code
def yX0_init : MethodName := ⟨RX0, "<init>", "()V"⟩
abbrev cX0_begin : ByteArray := prog_2_method_2_code
def yX0_begin : MethodName := ⟨RX0, "begin", "(I)V"⟩
abbrev cX0_include : ByteArray := prog_2_method_3_code
def yX0_include : MethodName := ⟨RX0, "include", "([I)V"⟩
abbrev cX0_contains : ByteArray := prog_2_method_4_code
def yX0_contains : MethodName := ⟨RX0, "contains", "(I[I)Z"⟩
abbrev cX0_orderFrom : ByteArray := prog_2_method_5_code
def yX0_orderFrom : MethodName := ⟨RX0, "orderFrom", "(I)I"⟩
abbrev cX0_findLowest : ByteArray := prog_2_method_6_code
def yX0_findLowest : MethodName := ⟨RX0, "findLowest", "([I[I)Z"⟩
abbrev cX0_lowestSource : ByteArray := prog_2_method_7_code
def yX0_lowestSource : MethodName := ⟨RX0, "lowestSource", "(I[I)I"⟩
abbrev cX0_isReached : ByteArray := prog_2_method_8_code
def yX0_isReached : MethodName := ⟨RX0, "isReached", "(II)Z"⟩
abbrev cX0_back : ByteArray := prog_2_method_9_code
def yX0_back : MethodName := ⟨RX0, "back", "(II)[I"⟩
abbrev cX0_admit : ByteArray := prog_2_method_10_code
def yX0_admit : MethodName := ⟨RX0, "admit", "(I[I)V"⟩
abbrev cX0_settle : ByteArray := prog_2_method_11_code
def yX0_settle : MethodName := ⟨RX0, "settle", "(I[I)V"⟩
abbrev cX0_reach : ByteArray := prog_2_method_12_code
def yX0_reach : MethodName := ⟨RX0, "reach", "(II[I)V"⟩
def RX1 : String := "EightBlocks$Cycles"
def TX1 : u_T := fun k => match k with
  | 0 => ("EightBlocks$Cycles", "letters", "[I", true)
  | _ => ("EightBlocks$Cycles", "length", "I", false)
def tyX1 : Nat → FieldType := fun k => match k with
  | 0 => .array .int
  | _ => .int
theorem nmX1 : ∀ a, a < 2 → ∀ b, b < 2 → a ≠ b → (TX1 a).2.1 ≠ (TX1 b).2.1 := by decide +kernel
theorem tyX1_ok : ∀ k, k < 2 → parseFieldDescriptor (TX1 k).2.2.1 = some (tyX1 k) := by decide +kernel
abbrev cX1_init : ByteArray := prog_3_method_1_code
def yX1_init : MethodName := ⟨RX1, "<init>", "()V"⟩
abbrev cX1_write : ByteArray := prog_3_method_2_code
def yX1_write : MethodName := ⟨RX1, "write", "([I)I"⟩
abbrev cX1_writeCycle : ByteArray := prog_3_method_3_code
def yX1_writeCycle : MethodName := ⟨RX1, "writeCycle", "([II)V"⟩
abbrev cX1_append : ByteArray := prog_3_method_4_code
def yX1_append : MethodName := ⟨RX1, "append", "(I)V"⟩
abbrev cX1_letterAt : ByteArray := prog_3_method_5_code
def yX1_letterAt : MethodName := ⟨RX1, "letterAt", "(I)I"⟩
def RX2 : String := "EightBlocks$Golay"
def TX2 : u_T := fun k => match k with
  | 0 => ("EightBlocks$Golay", "words", "[I", true)
  | 1 => ("EightBlocks$Golay", "octads", "[I", true)
  | 2 => ("EightBlocks$Golay", "dodecads", "[I", true)
  | 3 => ("EightBlocks$Golay", "leaders", "[I", true)
  | 4 => ("EightBlocks$Golay", "basis", "[I", true)
  | _ => ("EightBlocks$Golay", "numbers", "[I", true)
def tyX2 : Nat → FieldType := fun k => match k with
  | 0 => .array .int
  | 1 => .array .int
  | 2 => .array .int
  | 3 => .array .int
  | 4 => .array .int
  | _ => .array .int
theorem nmX2 : ∀ a, a < 6 → ∀ b, b < 6 → a ≠ b → (TX2 a).2.1 ≠ (TX2 b).2.1 := by decide +kernel
theorem tyX2_ok : ∀ k, k < 6 → parseFieldDescriptor (TX2 k).2.2.1 = some (tyX2 k) := by decide +kernel
abbrev cX2_init : ByteArray := prog_4_method_1_code
def yX2_init : MethodName := ⟨RX2, "<init>", "()V"⟩
abbrev cX2_fillBasis : ByteArray := prog_4_method_2_code
def yX2_fillBasis : MethodName := ⟨RX2, "fillBasis", "()V"⟩
abbrev cX2_fillWordsOfWeight : ByteArray := prog_4_method_3_code
def yX2_fillWordsOfWeight : MethodName := ⟨RX2, "fillWordsOfWeight", "(I[I)V"⟩
abbrev cX2_fillLeaders : ByteArray := prog_4_method_4_code
def yX2_fillLeaders : MethodName := ⟨RX2, "fillLeaders", "()V"⟩
abbrev cX2_place : ByteArray := prog_4_method_5_code
def yX2_place : MethodName := ⟨RX2, "place", "(I)I"⟩
abbrev cX2_rest : ByteArray := prog_4_method_6_code
def yX2_rest : MethodName := ⟨RX2, "rest", "(I)I"⟩
abbrev cX2_wordOf : ByteArray := prog_4_method_7_code
def yX2_wordOf : MethodName := ⟨RX2, "wordOf", "(I)I"⟩
abbrev cX2_isWord : ByteArray := prog_4_method_8_code
def yX2_isWord : MethodName := ⟨RX2, "isWord", "(I)Z"⟩
abbrev cX2_numberOf : ByteArray := prog_4_method_9_code
def yX2_numberOf : MethodName := ⟨RX2, "numberOf", "(I)I"⟩
abbrev cX2_distance : ByteArray := prog_4_method_10_code
def yX2_distance : MethodName := ⟨RX2, "distance", "(I)I"⟩
abbrev cX2_lowestNearest : ByteArray := prog_4_method_11_code
def yX2_lowestNearest : MethodName := ⟨RX2, "lowestNearest", "(I)I"⟩
abbrev cX2_octadsInside : ByteArray := prog_4_method_12_code
def yX2_octadsInside : MethodName := ⟨RX2, "octadsInside", "(I)I"⟩
abbrev cX2_octadsAround : ByteArray := prog_4_method_13_code
def yX2_octadsAround : MethodName := ⟨RX2, "octadsAround", "(I)I"⟩
abbrev cX2_octadsMeeting : ByteArray := prog_4_method_14_code
def yX2_octadsMeeting : MethodName := ⟨RX2, "octadsMeeting", "(II)I"⟩
abbrev cX2_octadsFixedBy : ByteArray := prog_4_method_15_code
def yX2_octadsFixedBy : MethodName := ⟨RX2, "octadsFixedBy", "([I)I"⟩
abbrev cX2_isPreservedBy : ByteArray := prog_4_method_16_code
def yX2_isPreservedBy : MethodName := ⟨RX2, "isPreservedBy", "([I)Z"⟩
abbrev cX2_octadWith : ByteArray := prog_4_method_17_code
def yX2_octadWith : MethodName := ⟨RX2, "octadWith", "(I)I"⟩
abbrev cX2_tetradWith : ByteArray := prog_4_method_18_code
def yX2_tetradWith : MethodName := ⟨RX2, "tetradWith", "(II)I"⟩
abbrev cX2_tetrad : ByteArray := prog_4_method_19_code
def yX2_tetrad : MethodName := ⟨RX2, "tetrad", "(II)I"⟩
abbrev cX2_isUnionOfTetrads : ByteArray := prog_4_method_20_code
def yX2_isUnionOfTetrads : MethodName := ⟨RX2, "isUnionOfTetrads", "(II)Z"⟩
abbrev cX2_sharedOctads : ByteArray := prog_4_method_21_code
def yX2_sharedOctads : MethodName := ⟨RX2, "sharedOctads", "(II)I"⟩
def RX3 : String := "EightBlocks$History"
def TX3 : u_T := fun k => match k with
  | 0 => ("EightBlocks$History", "now", "LEightBlocks$State;", true)
  | 1 => ("EightBlocks$History", "kept", "[LEightBlocks$State;", true)
  | _ => ("EightBlocks$History", "size", "I", false)
def tyX3 : Nat → FieldType := fun k => match k with
  | 0 => .object "EightBlocks$State"
  | 1 => .array (.object "EightBlocks$State")
  | _ => .int
theorem nmX3 : ∀ a, a < 3 → ∀ b, b < 3 → a ≠ b → (TX3 a).2.1 ≠ (TX3 b).2.1 := by decide +kernel
theorem tyX3_ok : ∀ k, k < 3 → parseFieldDescriptor (TX3 k).2.2.1 = some (tyX3 k) := by decide +kernel
abbrev cX3_init : ByteArray := prog_5_method_1_code
def yX3_init : MethodName := ⟨RX3, "<init>", "()V"⟩
abbrev cX3_keep : ByteArray := prog_5_method_2_code
def yX3_keep : MethodName := ⟨RX3, "keep", "()V"⟩
abbrev cX3_forgetOldest : ByteArray := prog_5_method_3_code
def yX3_forgetOldest : MethodName := ⟨RX3, "forgetOldest", "()V"⟩
abbrev cX3_takeBack : ByteArray := prog_5_method_4_code
def yX3_takeBack : MethodName := ⟨RX3, "takeBack", "()I"⟩
abbrev cX3_become : ByteArray := prog_5_method_5_code
def yX3_become : MethodName := ⟨RX3, "become", "(LEightBlocks$History;)V"⟩
def RX4 : String := "EightBlocks$Moves"
def TX4 : u_T := fun k => match k with
  | _ => ("", "", "", false)
def tyX4 : Nat → FieldType := fun k => match k with
  | _ => .int
theorem nmX4 : ∀ a, a < 0 → ∀ b, b < 0 → a ≠ b → (TX4 a).2.1 ≠ (TX4 b).2.1 := by decide +kernel
theorem tyX4_ok : ∀ k, k < 0 → parseFieldDescriptor (TX4 k).2.2.1 = some (tyX4 k) := by decide +kernel
abbrev cX4_fillNamed : ByteArray := prog_6_method_2_code
def yX4_fillNamed : MethodName := ⟨RX4, "fillNamed", "([[I)V"⟩
abbrev cX4_to : ByteArray := prog_6_method_3_code
def yX4_to : MethodName := ⟨RX4, "to", "([II)I"⟩
abbrev cX4_makeSame : ByteArray := prog_6_method_4_code
def yX4_makeSame : MethodName := ⟨RX4, "makeSame", "([I)V"⟩
abbrev cX4_assign : ByteArray := prog_6_method_5_code
def yX4_assign : MethodName := ⟨RX4, "assign", "([I[I)V"⟩
abbrev cX4_follow : ByteArray := prog_6_method_6_code
def yX4_follow : MethodName := ⟨RX4, "follow", "([I[I)V"⟩
abbrev cX4_combine : ByteArray := prog_6_method_7_code
def yX4_combine : MethodName := ⟨RX4, "combine", "([I[I[I)V"⟩
abbrev cX4_invert : ByteArray := prog_6_method_8_code
def yX4_invert : MethodName := ⟨RX4, "invert", "([I[I)V"⟩
abbrev cX4_sourceOf : ByteArray := prog_6_method_9_code
def yX4_sourceOf : MethodName := ⟨RX4, "sourceOf", "([II)I"⟩
abbrev cX4_imageOf : ByteArray := prog_6_method_10_code
def yX4_imageOf : MethodName := ⟨RX4, "imageOf", "([II)I"⟩
abbrev cX4_differences : ByteArray := prog_6_method_11_code
def yX4_differences : MethodName := ⟨RX4, "differences", "([I[I)I"⟩
abbrev cX4_fixedPoints : ByteArray := prog_6_method_12_code
def yX4_fixedPoints : MethodName := ⟨RX4, "fixedPoints", "([I)I"⟩
abbrev cX4_cycleLength : ByteArray := prog_6_method_13_code
def yX4_cycleLength : MethodName := ⟨RX4, "cycleLength", "([II)I"⟩
abbrev cX4_isLowestInCycle : ByteArray := prog_6_method_14_code
def yX4_isLowestInCycle : MethodName := ⟨RX4, "isLowestInCycle", "([II)Z"⟩
abbrev cX4_cycleCount : ByteArray := prog_6_method_15_code
def yX4_cycleCount : MethodName := ⟨RX4, "cycleCount", "([I)I"⟩
abbrev cX4_order : ByteArray := prog_6_method_16_code
def yX4_order : MethodName := ⟨RX4, "order", "([I)I"⟩
abbrev cX4_commonMultiple : ByteArray := prog_6_method_17_code
def yX4_commonMultiple : MethodName := ⟨RX4, "commonMultiple", "(II)I"⟩
def RX5 : String := "EightBlocks$Orbits"
def TX5 : u_T := fun k => match k with
  | 0 => ("EightBlocks$Orbits", "parents", "[I", true)
  | 1 => ("EightBlocks$Orbits", "goals", "[I", true)
  | 2 => ("EightBlocks$Orbits", "kind", "I", false)
  | _ => ("EightBlocks$Orbits", "size", "I", false)
def tyX5 : Nat → FieldType := fun k => match k with
  | 0 => .array .int
  | 1 => .array .int
  | 2 => .int
  | _ => .int
theorem nmX5 : ∀ a, a < 4 → ∀ b, b < 4 → a ≠ b → (TX5 a).2.1 ≠ (TX5 b).2.1 := by decide +kernel
theorem tyX5_ok : ∀ k, k < 4 → parseFieldDescriptor (TX5 k).2.2.1 = some (tyX5 k) := by decide +kernel
abbrev cX5_init : ByteArray := prog_7_method_1_code
def yX5_init : MethodName := ⟨RX5, "<init>", "()V"⟩
abbrev cX5_begin : ByteArray := prog_7_method_2_code
def yX5_begin : MethodName := ⟨RX5, "begin", "(I)V"⟩
abbrev cX5_joinBy : ByteArray := prog_7_method_3_code
def yX5_joinBy : MethodName := ⟨RX5, "joinBy", "(LEightBlocks$Golay;[I)V"⟩
abbrev cX5_fillGoals : ByteArray := prog_7_method_4_code
def yX5_fillGoals : MethodName := ⟨RX5, "fillGoals", "(LEightBlocks$Golay;[I)V"⟩
abbrev cX5_goalOf : ByteArray := prog_7_method_5_code
def yX5_goalOf : MethodName := ⟨RX5, "goalOf", "(LEightBlocks$Golay;[II)I"⟩
abbrev cX5_join : ByteArray := prog_7_method_6_code
def yX5_join : MethodName := ⟨RX5, "join", "(II)V"⟩
abbrev cX5_root : ByteArray := prog_7_method_7_code
def yX5_root : MethodName := ⟨RX5, "root", "(I)I"⟩
abbrev cX5_number : ByteArray := prog_7_method_8_code
def yX5_number : MethodName := ⟨RX5, "number", "()I"⟩
abbrev cX5_numberOfWeight : ByteArray := prog_7_method_9_code
def yX5_numberOfWeight : MethodName := ⟨RX5, "numberOfWeight", "([II)I"⟩
abbrev cX5_sizeOf : ByteArray := prog_7_method_10_code
def yX5_sizeOf : MethodName := ⟨RX5, "sizeOf", "(I)I"⟩
def RX6 : String := "EightBlocks$Sheets"
def TX6 : u_T := fun k => match k with
  | 0 => ("EightBlocks$Sheets", "values", "[[J", true)
  | 1 => ("EightBlocks$Sheets", "lanes", "[I", true)
  | _ => ("EightBlocks$Sheets", "lengths", "[I", true)
def tyX6 : Nat → FieldType := fun k => match k with
  | 0 => .array (.array .long)
  | 1 => .array .int
  | _ => .array .int
theorem nmX6 : ∀ a, a < 3 → ∀ b, b < 3 → a ≠ b → (TX6 a).2.1 ≠ (TX6 b).2.1 := by decide +kernel
theorem tyX6_ok : ∀ k, k < 3 → parseFieldDescriptor (TX6 k).2.2.1 = some (tyX6 k) := by decide +kernel
abbrev cX6_init : ByteArray := prog_8_method_1_code
def yX6_init : MethodName := ⟨RX6, "<init>", "()V"⟩
abbrev cX6_create : ByteArray := prog_8_method_2_code
def yX6_create : MethodName := ⟨RX6, "create", "(III)V"⟩
abbrev cX6_remove : ByteArray := prog_8_method_3_code
def yX6_remove : MethodName := ⟨RX6, "remove", "(I)I"⟩
abbrev cX6_fault : ByteArray := prog_8_method_4_code
def yX6_fault : MethodName := ⟨RX6, "fault", "(IIII)I"⟩
abbrev cX6_isInside : ByteArray := prog_8_method_5_code
def yX6_isInside : MethodName := ⟨RX6, "isInside", "(III)Z"⟩
abbrev cX6_put : ByteArray := prog_8_method_6_code
def yX6_put : MethodName := ⟨RX6, "put", "(IIJ)V"⟩
abbrev cX6_holdPoints : ByteArray := prog_8_method_7_code
def yX6_holdPoints : MethodName := ⟨RX6, "holdPoints", "(III)Z"⟩
abbrev cX6_pointAt : ByteArray := prog_8_method_8_code
def yX6_pointAt : MethodName := ⟨RX6, "pointAt", "(II)I"⟩
abbrev cX6_transfer : ByteArray := prog_8_method_9_code
def yX6_transfer : MethodName := ⟨RX6, "transfer", "(IIIII)I"⟩
def RX7 : String := "EightBlocks$State"
def TX7 : u_T := fun k => match k with
  | 0 => ("EightBlocks$State", "moves", "[[I", true)
  | 1 => ("EightBlocks$State", "chosen", "I", false)
  | _ => ("EightBlocks$State", "random", "I", false)
def tyX7 : Nat → FieldType := fun k => match k with
  | 0 => .array (.array .int)
  | 1 => .int
  | _ => .int
theorem nmX7 : ∀ a, a < 3 → ∀ b, b < 3 → a ≠ b → (TX7 a).2.1 ≠ (TX7 b).2.1 := by decide +kernel
theorem tyX7_ok : ∀ k, k < 3 → parseFieldDescriptor (TX7 k).2.2.1 = some (tyX7 k) := by decide +kernel
abbrev cX7_init : ByteArray := prog_9_method_1_code
def yX7_init : MethodName := ⟨RX7, "<init>", "()V"⟩
abbrev cX7_become : ByteArray := prog_9_method_2_code
def yX7_become : MethodName := ⟨RX7, "become", "(LEightBlocks$State;)V"⟩
def RX8 : String := "EightBlocks$Tape"
def TX8 : u_T := fun k => match k with
  | 0 => ("EightBlocks$Tape", "letters", "[I", true)
  | 1 => ("EightBlocks$Tape", "named", "[[I", true)
  | 2 => ("EightBlocks$Tape", "totals", "[[I", true)
  | 3 => ("EightBlocks$Tape", "parts", "[[I", true)
  | 4 => ("EightBlocks$Tape", "powered", "[I", true)
  | 5 => ("EightBlocks$Tape", "current", "[[I", false)
  | 6 => ("EightBlocks$Tape", "length", "I", false)
  | _ => ("EightBlocks$Tape", "position", "I", false)
def tyX8 : Nat → FieldType := fun k => match k with
  | 0 => .array .int
  | 1 => .array (.array .int)
  | 2 => .array (.array .int)
  | 3 => .array (.array .int)
  | 4 => .array .int
  | 5 => .array (.array .int)
  | 6 => .int
  | _ => .int
theorem nmX8 : ∀ a, a < 8 → ∀ b, b < 8 → a ≠ b → (TX8 a).2.1 ≠ (TX8 b).2.1 := by decide +kernel
theorem tyX8_ok : ∀ k, k < 8 → parseFieldDescriptor (TX8 k).2.2.1 = some (tyX8 k) := by decide +kernel
abbrev cX8_init : ByteArray := prog_10_method_1_code
def yX8_init : MethodName := ⟨RX8, "<init>", "([[I)V"⟩
abbrev cX8_append : ByteArray := prog_10_method_2_code
def yX8_append : MethodName := ⟨RX8, "append", "(I)I"⟩
abbrev cX8_clear : ByteArray := prog_10_method_3_code
def yX8_clear : MethodName := ⟨RX8, "clear", "()V"⟩
abbrev cX8_faultPosition : ByteArray := prog_10_method_4_code
def yX8_faultPosition : MethodName := ⟨RX8, "faultPosition", "()I"⟩
abbrev cX8_value : ByteArray := prog_10_method_5_code
def yX8_value : MethodName := ⟨RX8, "value", "()[I"⟩
abbrev cX8_evaluate : ByteArray := prog_10_method_6_code
def yX8_evaluate : MethodName := ⟨RX8, "evaluate", "([[I)Z"⟩
abbrev cX8_isProduct : ByteArray := prog_10_method_7_code
def yX8_isProduct : MethodName := ⟨RX8, "isProduct", "(I)Z"⟩
abbrev cX8_isFactor : ByteArray := prog_10_method_8_code
def yX8_isFactor : MethodName := ⟨RX8, "isFactor", "(I)Z"⟩
abbrev cX8_isPlainFactor : ByteArray := prog_10_method_9_code
def yX8_isPlainFactor : MethodName := ⟨RX8, "isPlainFactor", "(I)Z"⟩
abbrev cX8_isBracket : ByteArray := prog_10_method_10_code
def yX8_isBracket : MethodName := ⟨RX8, "isBracket", "(I)Z"⟩
abbrev cX8_isCycle : ByteArray := prog_10_method_11_code
def yX8_isCycle : MethodName := ⟨RX8, "isCycle", "([I)Z"⟩
abbrev cX8_isName : ByteArray := prog_10_method_12_code
def yX8_isName : MethodName := ⟨RX8, "isName", "([I)Z"⟩
abbrev cX8_nameUpTo : ByteArray := prog_10_method_13_code
def yX8_nameUpTo : MethodName := ⟨RX8, "nameUpTo", "(I)I"⟩
abbrev cX8_nameOf : ByteArray := prog_10_method_14_code
def yX8_nameOf : MethodName := ⟨RX8, "nameOf", "(I)Ljava/lang/String;"⟩
abbrev cX8_isWritten : ByteArray := prog_10_method_15_code
def yX8_isWritten : MethodName := ⟨RX8, "isWritten", "(Ljava/lang/String;I)Z"⟩
abbrev cX8_acceptPoint : ByteArray := prog_10_method_16_code
def yX8_acceptPoint : MethodName := ⟨RX8, "acceptPoint", "(I)I"⟩
abbrev cX8_acceptPower : ByteArray := prog_10_method_17_code
def yX8_acceptPower : MethodName := ⟨RX8, "acceptPower", "()I"⟩
abbrev cX8_numberUpTo : ByteArray := prog_10_method_18_code
def yX8_numberUpTo : MethodName := ⟨RX8, "numberUpTo", "(I)I"⟩
abbrev cX8_raise : ByteArray := prog_10_method_19_code
def yX8_raise : MethodName := ⟨RX8, "raise", "([IIZ)V"⟩
abbrev cX8_accept : ByteArray := prog_10_method_20_code
def yX8_accept : MethodName := ⟨RX8, "accept", "(I)Z"⟩
abbrev cX8_isNext : ByteArray := prog_10_method_21_code
def yX8_isNext : MethodName := ⟨RX8, "isNext", "(I)Z"⟩
abbrev cX8_isAtEnd : ByteArray := prog_10_method_22_code
def yX8_isAtEnd : MethodName := ⟨RX8, "isAtEnd", "()Z"⟩
abbrev cX8_endOfRun : ByteArray := prog_10_method_23_code
def yX8_endOfRun : MethodName := ⟨RX8, "endOfRun", "(II)I"⟩
def RX9 : String := "EightBlocks"
def TX9 : u_T := fun k => match k with
  | 0 => ("EightBlocks", "code", "LEightBlocks$Golay;", true)
  | 1 => ("EightBlocks", "chain", "LEightBlocks$Chain;", true)
  | 2 => ("EightBlocks", "orbits", "LEightBlocks$Orbits;", true)
  | 3 => ("EightBlocks", "live", "LEightBlocks$History;", true)
  | 4 => ("EightBlocks", "saved", "LEightBlocks$History;", true)
  | 5 => ("EightBlocks", "tape", "LEightBlocks$Tape;", true)
  | 6 => ("EightBlocks", "sheets", "LEightBlocks$Sheets;", true)
  | 7 => ("EightBlocks", "cycles", "LEightBlocks$Cycles;", true)
  | 8 => ("EightBlocks", "wanted", "[I", true)
  | 9 => ("EightBlocks", "spare", "[I", true)
  | _ => ("EightBlocks", "isSaved", "Z", false)
def tyX9 : Nat → FieldType := fun k => match k with
  | 0 => .object "EightBlocks$Golay"
  | 1 => .object "EightBlocks$Chain"
  | 2 => .object "EightBlocks$Orbits"
  | 3 => .object "EightBlocks$History"
  | 4 => .object "EightBlocks$History"
  | 5 => .object "EightBlocks$Tape"
  | 6 => .object "EightBlocks$Sheets"
  | 7 => .object "EightBlocks$Cycles"
  | 8 => .array .int
  | 9 => .array .int
  | _ => .boolean
theorem nmX9 : ∀ a, a < 11 → ∀ b, b < 11 → a ≠ b → (TX9 a).2.1 ≠ (TX9 b).2.1 := by decide +kernel
theorem tyX9_ok : ∀ k, k < 11 → parseFieldDescriptor (TX9 k).2.2.1 = some (tyX9 k) := by decide +kernel
abbrev cX9_init : ByteArray := prog_1_method_1_code
def yX9_init : MethodName := ⟨RX9, "<init>", "()V"⟩
abbrev cX9_word : ByteArray := prog_1_method_2_code
def yX9_word : MethodName := ⟨RX9, "word", "(II)I"⟩
abbrev cX9_block : ByteArray := prog_1_method_3_code
def yX9_block : MethodName := ⟨RX9, "block", "(II)I"⟩
abbrev cX9_complete : ByteArray := prog_1_method_4_code
def yX9_complete : MethodName := ⟨RX9, "complete", "(I)I"⟩
abbrev cX9_sextet : ByteArray := prog_1_method_5_code
def yX9_sextet : MethodName := ⟨RX9, "sextet", "(II)I"⟩
abbrev cX9_both : ByteArray := prog_1_method_6_code
def yX9_both : MethodName := ⟨RX9, "both", "(II)I"⟩
abbrev cX9_met : ByteArray := prog_1_method_7_code
def yX9_met : MethodName := ⟨RX9, "met", "(II)I"⟩
abbrev cX9_move : ByteArray := prog_1_method_8_code
def yX9_move : MethodName := ⟨RX9, "move", "(II)I"⟩
abbrev cX9_told : ByteArray := prog_1_method_9_code
def yX9_told : MethodName := ⟨RX9, "told", "(II)I"⟩
abbrev cX9_letter : ByteArray := prog_1_method_10_code
def yX9_letter : MethodName := ⟨RX9, "letter", "(II)I"⟩
abbrev cX9_sent : ByteArray := prog_1_method_11_code
def yX9_sent : MethodName := ⟨RX9, "sent", "(II)I"⟩
abbrev cX9_type : ByteArray := prog_1_method_12_code
def yX9_type : MethodName := ⟨RX9, "type", "(I)I"⟩
abbrev cX9_read : ByteArray := prog_1_method_13_code
def yX9_read : MethodName := ⟨RX9, "read", "(I)I"⟩
abbrev cX9_group : ByteArray := prog_1_method_14_code
def yX9_group : MethodName := ⟨RX9, "group", "(II)I"⟩
abbrev cX9_held : ByteArray := prog_1_method_15_code
def yX9_held : MethodName := ⟨RX9, "held", "(III)I"⟩
abbrev cX9_holds : ByteArray := prog_1_method_16_code
def yX9_holds : MethodName := ⟨RX9, "holds", "(II)I"⟩
abbrev cX9_choose : ByteArray := prog_1_method_17_code
def yX9_choose : MethodName := ⟨RX9, "choose", "(I)I"⟩
abbrev cX9_hexad : ByteArray := prog_1_method_18_code
def yX9_hexad : MethodName := ⟨RX9, "hexad", "(I)I"⟩
abbrev cX9_turn : ByteArray := prog_1_method_19_code
def yX9_turn : MethodName := ⟨RX9, "turn", "(II)I"⟩
abbrev cX9_pair : ByteArray := prog_1_method_20_code
def yX9_pair : MethodName := ⟨RX9, "pair", "(I)I"⟩
abbrev cX9_drift : ByteArray := prog_1_method_21_code
def yX9_drift : MethodName := ⟨RX9, "drift", "(I)I"⟩
abbrev cX9_undo : ByteArray := prog_1_method_22_code
def yX9_undo : MethodName := ⟨RX9, "undo", "()I"⟩
abbrev cX9_seed : ByteArray := prog_1_method_23_code
def yX9_seed : MethodName := ⟨RX9, "seed", "(I)I"⟩
abbrev cX9_count : ByteArray := prog_1_method_24_code
def yX9_count : MethodName := ⟨RX9, "count", "(I)I"⟩
abbrev cX9_image : ByteArray := prog_1_method_25_code
def yX9_image : MethodName := ⟨RX9, "image", "()I"⟩
abbrev cX9_restore : ByteArray := prog_1_method_26_code
def yX9_restore : MethodName := ⟨RX9, "restore", "()I"⟩
abbrev cX9_retrace : ByteArray := prog_1_method_27_code
def yX9_retrace : MethodName := ⟨RX9, "retrace", "(IIIII)I"⟩
abbrev cX9_film : ByteArray := prog_1_method_28_code
def yX9_film : MethodName := ⟨RX9, "film", "(IIII)I"⟩
abbrev cX9_sheet : ByteArray := prog_1_method_29_code
def yX9_sheet : MethodName := ⟨RX9, "sheet", "(III)I"⟩
abbrev cX9_drop : ByteArray := prog_1_method_30_code
def yX9_drop : MethodName := ⟨RX9, "drop", "(I)I"⟩
abbrev cX9_item : ByteArray := prog_1_method_31_code
def yX9_item : MethodName := ⟨RX9, "item", "(IIIJ)I"⟩
abbrev cX9_copy : ByteArray := prog_1_method_32_code
def yX9_copy : MethodName := ⟨RX9, "copy", "(IIIII)I"⟩
abbrev cX9_isOutside : ByteArray := prog_1_method_33_code
def yX9_isOutside : MethodName := ⟨RX9, "isOutside", "(II)Z"⟩
abbrev cX9_isNoSet : ByteArray := prog_1_method_34_code
def yX9_isNoSet : MethodName := ⟨RX9, "isNoSet", "(I)Z"⟩
abbrev cX9_isNoLane : ByteArray := prog_1_method_35_code
def yX9_isNoLane : MethodName := ⟨RX9, "isNoLane", "(II)Z"⟩
abbrev cX9_whereChosenGoes : ByteArray := prog_1_method_36_code
def yX9_whereChosenGoes : MethodName := ⟨RX9, "whereChosenGoes", "([I)I"⟩
abbrev cX9_preservingMoves : ByteArray := prog_1_method_37_code
def yX9_preservingMoves : MethodName := ⟨RX9, "preservingMoves", "()I"⟩
abbrev cX9_preserveCode : ByteArray := prog_1_method_38_code
def yX9_preserveCode : MethodName := ⟨RX9, "preserveCode", "(I)Z"⟩
abbrev cX9_buildChain : ByteArray := prog_1_method_39_code
def yX9_buildChain : MethodName := ⟨RX9, "buildChain", "(II)V"⟩
abbrev cX9_findOrbits : ByteArray := prog_1_method_40_code
def yX9_findOrbits : MethodName := ⟨RX9, "findOrbits", "(II)V"⟩
abbrev cX9_reachedFrom : ByteArray := prog_1_method_41_code
def yX9_reachedFrom : MethodName := ⟨RX9, "reachedFrom", "(II)I"⟩
abbrev cX9_turnAtRandom : ByteArray := prog_1_method_42_code
def yX9_turnAtRandom : MethodName := ⟨RX9, "turnAtRandom", "(LEightBlocks$State;)V"⟩
def RX10 : String := "EightBlocksModel"
def TX10 : u_T := fun k => match k with
  | 0 => ("EightBlocksModel", "now", "[I", true)
  | 1 => ("EightBlocksModel", "steps", "[I", true)
  | 2 => ("EightBlocksModel", "makes", "[I", true)
  | 3 => ("EightBlocksModel", "stepMany", "I", false)
  | 4 => ("EightBlocksModel", "sorted", "[I", true)
  | 5 => ("EightBlocksModel", "octads", "[I", true)
  | 6 => ("EightBlocksModel", "text", "[I", true)
  | 7 => ("EightBlocksModel", "textMany", "I", false)
  | 8 => ("EightBlocksModel", "tape", "[I", true)
  | 9 => ("EightBlocksModel", "taped", "I", false)
  | 10 => ("EightBlocksModel", "place", "I", false)
  | 11 => ("EightBlocksModel", "factor", "[I", true)
  | 12 => ("EightBlocksModel", "done", "[I", true)
  | 13 => ("EightBlocksModel", "rest", "[I", true)
  | 14 => ("EightBlocksModel", "level", "I", false)
  | 15 => ("EightBlocksModel", "base", "[I", true)
  | 16 => ("EightBlocksModel", "entry", "[I", true)
  | 17 => ("EightBlocksModel", "ways", "[I", true)
  | 18 => ("EightBlocksModel", "levelOf", "[I", true)
  | 19 => ("EightBlocksModel", "entries", "I", false)
  | 20 => ("EightBlocksModel", "way", "[I", true)
  | 21 => ("EightBlocksModel", "madeBy", "I", false)
  | 22 => ("EightBlocksModel", "madeSet", "I", false)
  | 23 => ("EightBlocksModel", "madeOf", "[I", true)
  | 24 => ("EightBlocksModel", "images", "[I", true)
  | 25 => ("EightBlocksModel", "marked", "[Z", true)
  | 26 => ("EightBlocksModel", "todo", "[I", true)
  | 27 => ("EightBlocksModel", "ahead", "[I", true)
  | 28 => ("EightBlocksModel", "undos", "I", false)
  | 29 => ("EightBlocksModel", "kept", "[I", true)
  | 30 => ("EightBlocksModel", "keptAhead", "[I", true)
  | 31 => ("EightBlocksModel", "keptUndos", "I", false)
  | 32 => ("EightBlocksModel", "lanes", "[I", true)
  | 33 => ("EightBlocksModel", "sizes", "[I", true)
  | 34 => ("EightBlocksModel", "items", "[J", true)
  | 35 => ("EightBlocksModel", "moved", "[J", true)
  | _ => ("EightBlocksModel", "want", "[I", true)
def tyX10 : Nat → FieldType := fun k => match k with
  | 0 => .array .int
  | 1 => .array .int
  | 2 => .array .int
  | 3 => .int
  | 4 => .array .int
  | 5 => .array .int
  | 6 => .array .int
  | 7 => .int
  | 8 => .array .int
  | 9 => .int
  | 10 => .int
  | 11 => .array .int
  | 12 => .array .int
  | 13 => .array .int
  | 14 => .int
  | 15 => .array .int
  | 16 => .array .int
  | 17 => .array .int
  | 18 => .array .int
  | 19 => .int
  | 20 => .array .int
  | 21 => .int
  | 22 => .int
  | 23 => .array .int
  | 24 => .array .int
  | 25 => .array .boolean
  | 26 => .array .int
  | 27 => .array .int
  | 28 => .int
  | 29 => .array .int
  | 30 => .array .int
  | 31 => .int
  | 32 => .array .int
  | 33 => .array .int
  | 34 => .array .long
  | 35 => .array .long
  | _ => .array .int
theorem nmX10 : ∀ a, a < 37 → ∀ b, b < 37 → a ≠ b → (TX10 a).2.1 ≠ (TX10 b).2.1 := by decide +kernel
theorem tyX10_ok : ∀ k, k < 37 → parseFieldDescriptor (TX10 k).2.2.1 = some (tyX10 k) := by decide +kernel
abbrev cX10_in : ByteArray := prog_12_method_2_code
def yX10_in : MethodName := ⟨RX10, "in", "(JJJ)Z"⟩
abbrev cX10_init : ByteArray := prog_12_method_3_code
def yX10_init : MethodName := ⟨RX10, "<init>", "()V"⟩
abbrev cX10_has : ByteArray := prog_12_method_4_code
def yX10_has : MethodName := ⟨RX10, "has", "(II)Z"⟩
abbrev cX10_bits : ByteArray := prog_12_method_5_code
def yX10_bits : MethodName := ⟨RX10, "bits", "(I)I"⟩
abbrev cX10_lowest : ByteArray := prog_12_method_6_code
def yX10_lowest : MethodName := ⟨RX10, "lowest", "(I)I"⟩
abbrev cX10_isSet : ByteArray := prog_12_method_7_code
def yX10_isSet : MethodName := ⟨RX10, "isSet", "(I)Z"⟩
abbrev cX10_isPlace : ByteArray := prog_12_method_8_code
def yX10_isPlace : MethodName := ⟨RX10, "isPlace", "(J)Z"⟩
abbrev cX10_named : ByteArray := prog_12_method_9_code
def yX10_named : MethodName := ⟨RX10, "named", "(II)I"⟩
abbrev cX10_overOf : ByteArray := prog_12_method_10_code
def yX10_overOf : MethodName := ⟨RX10, "overOf", "(I)I"⟩
abbrev cX10_basic : ByteArray := prog_12_method_11_code
def yX10_basic : MethodName := ⟨RX10, "basic", "(I)I"⟩
abbrev cX10_highest : ByteArray := prog_12_method_12_code
def yX10_highest : MethodName := ⟨RX10, "highest", "(I)I"⟩
abbrev cX10_comes : ByteArray := prog_12_method_13_code
def yX10_comes : MethodName := ⟨RX10, "comes", "(II)V"⟩
abbrev cX10_numberOf : ByteArray := prog_12_method_14_code
def yX10_numberOf : MethodName := ⟨RX10, "numberOf", "(I)I"⟩
abbrev cX10_wordOf : ByteArray := prog_12_method_15_code
def yX10_wordOf : MethodName := ⟨RX10, "wordOf", "(I)I"⟩
abbrev cX10_closest : ByteArray := prog_12_method_16_code
def yX10_closest : MethodName := ⟨RX10, "closest", "(II)I"⟩
abbrev cX10_octadsIn : ByteArray := prog_12_method_17_code
def yX10_octadsIn : MethodName := ⟨RX10, "octadsIn", "(I)I"⟩
abbrev cX10_octadsWith : ByteArray := prog_12_method_18_code
def yX10_octadsWith : MethodName := ⟨RX10, "octadsWith", "(I)I"⟩
abbrev cX10_word : ByteArray := prog_12_method_19_code
def yX10_word : MethodName := ⟨RX10, "word", "(II)I"⟩
abbrev cX10_dodecad : ByteArray := prog_12_method_20_code
def yX10_dodecad : MethodName := ⟨RX10, "dodecad", "(I)I"⟩
abbrev cX10_block : ByteArray := prog_12_method_21_code
def yX10_block : MethodName := ⟨RX10, "block", "(II)I"⟩
abbrev cX10_octadOf : ByteArray := prog_12_method_22_code
def yX10_octadOf : MethodName := ⟨RX10, "octadOf", "(I)I"⟩
abbrev cX10_complete : ByteArray := prog_12_method_23_code
def yX10_complete : MethodName := ⟨RX10, "complete", "(I)I"⟩
abbrev cX10_tetradAt : ByteArray := prog_12_method_24_code
def yX10_tetradAt : MethodName := ⟨RX10, "tetradAt", "(II)I"⟩
abbrev cX10_sextet : ByteArray := prog_12_method_25_code
def yX10_sextet : MethodName := ⟨RX10, "sextet", "(II)I"⟩
abbrev cX10_isOfTwo : ByteArray := prog_12_method_26_code
def yX10_isOfTwo : MethodName := ⟨RX10, "isOfTwo", "(II)Z"⟩
abbrev cX10_both : ByteArray := prog_12_method_27_code
def yX10_both : MethodName := ⟨RX10, "both", "(II)I"⟩
abbrev cX10_met : ByteArray := prog_12_method_28_code
def yX10_met : MethodName := ⟨RX10, "met", "(II)I"⟩
abbrev cX10_isMove : ByteArray := prog_12_method_29_code
def yX10_isMove : MethodName := ⟨RX10, "isMove", "(I)Z"⟩
abbrev cX10_to : ByteArray := prog_12_method_30_code
def yX10_to : MethodName := ⟨RX10, "to", "(II)I"⟩
abbrev cX10_move : ByteArray := prog_12_method_31_code
def yX10_move : MethodName := ⟨RX10, "move", "(II)I"⟩
abbrev cX10_goes : ByteArray := prog_12_method_32_code
def yX10_goes : MethodName := ⟨RX10, "goes", "(II)I"⟩
abbrev cX10_sent : ByteArray := prog_12_method_33_code
def yX10_sent : MethodName := ⟨RX10, "sent", "(II)I"⟩
abbrev cX10_keeps : ByteArray := prog_12_method_34_code
def yX10_keeps : MethodName := ⟨RX10, "keeps", "(I)Z"⟩
abbrev cX10_ring : ByteArray := prog_12_method_35_code
def yX10_ring : MethodName := ⟨RX10, "ring", "(II)I"⟩
abbrev cX10_isLeast : ByteArray := prog_12_method_36_code
def yX10_isLeast : MethodName := ⟨RX10, "isLeast", "(II)Z"⟩
abbrev cX10_rings : ByteArray := prog_12_method_37_code
def yX10_rings : MethodName := ⟨RX10, "rings", "(I)I"⟩
abbrev cX10_orderOf : ByteArray := prog_12_method_38_code
def yX10_orderOf : MethodName := ⟨RX10, "orderOf", "(I)I"⟩
abbrev cX10_stays : ByteArray := prog_12_method_39_code
def yX10_stays : MethodName := ⟨RX10, "stays", "(I)I"⟩
abbrev cX10_octadsKept : ByteArray := prog_12_method_40_code
def yX10_octadsKept : MethodName := ⟨RX10, "octadsKept", "(I)I"⟩
abbrev cX10_puts : ByteArray := prog_12_method_41_code
def yX10_puts : MethodName := ⟨RX10, "puts", "(I)V"⟩
abbrev cX10_putsRing : ByteArray := prog_12_method_42_code
def yX10_putsRing : MethodName := ⟨RX10, "putsRing", "(II)V"⟩
abbrev cX10_texts : ByteArray := prog_12_method_43_code
def yX10_texts : MethodName := ⟨RX10, "texts", "(I)I"⟩
abbrev cX10_told : ByteArray := prog_12_method_44_code
def yX10_told : MethodName := ⟨RX10, "told", "(II)I"⟩
abbrev cX10_letter : ByteArray := prog_12_method_45_code
def yX10_letter : MethodName := ⟨RX10, "letter", "(II)I"⟩
abbrev cX10_type : ByteArray := prog_12_method_46_code
def yX10_type : MethodName := ⟨RX10, "type", "(I)I"⟩
abbrev cX10_here : ByteArray := prog_12_method_47_code
def yX10_here : MethodName := ⟨RX10, "here", "()I"⟩
abbrev cX10_isFigure : ByteArray := prog_12_method_48_code
def yX10_isFigure : MethodName := ⟨RX10, "isFigure", "(I)Z"⟩
abbrev cX10_isLow : ByteArray := prog_12_method_49_code
def yX10_isLow : MethodName := ⟨RX10, "isLow", "(I)Z"⟩
abbrev cX10_row : ByteArray := prog_12_method_50_code
def yX10_row : MethodName := ⟨RX10, "row", "(Z)I"⟩
abbrev cX10_number : ByteArray := prog_12_method_51_code
def yX10_number : MethodName := ⟨RX10, "number", "(I)I"⟩
abbrev cX10_isName : ByteArray := prog_12_method_52_code
def yX10_isName : MethodName := ⟨RX10, "isName", "(IIIIIII)Z"⟩
abbrev cX10_nameOf : ByteArray := prog_12_method_53_code
def yX10_nameOf : MethodName := ⟨RX10, "nameOf", "(I)I"⟩
abbrev cX10_readsName : ByteArray := prog_12_method_54_code
def yX10_readsName : MethodName := ⟨RX10, "readsName", "()Z"⟩
abbrev cX10_readsRing : ByteArray := prog_12_method_55_code
def yX10_readsRing : MethodName := ⟨RX10, "readsRing", "()Z"⟩
abbrev cX10_turnsBack : ByteArray := prog_12_method_56_code
def yX10_turnsBack : MethodName := ⟨RX10, "turnsBack", "()V"⟩
abbrev cX10_readsOften : ByteArray := prog_12_method_57_code
def yX10_readsOften : MethodName := ⟨RX10, "readsOften", "()Z"⟩
abbrev cX10_begins : ByteArray := prog_12_method_58_code
def yX10_begins : MethodName := ⟨RX10, "begins", "()V"⟩
abbrev cX10_closes : ByteArray := prog_12_method_59_code
def yX10_closes : MethodName := ⟨RX10, "closes", "()V"⟩
abbrev cX10_readsFactor : ByteArray := prog_12_method_60_code
def yX10_readsFactor : MethodName := ⟨RX10, "readsFactor", "()Z"⟩
abbrev cX10_isText : ByteArray := prog_12_method_61_code
def yX10_isText : MethodName := ⟨RX10, "isText", "()Z"⟩
abbrev cX10_read : ByteArray := prog_12_method_62_code
def yX10_read : MethodName := ⟨RX10, "read", "(I)I"⟩
abbrev cX10_takesBack : ByteArray := prog_12_method_63_code
def yX10_takesBack : MethodName := ⟨RX10, "takesBack", "(I)V"⟩
abbrev cX10_sifts : ByteArray := prog_12_method_64_code
def yX10_sifts : MethodName := ⟨RX10, "sifts", "()I"⟩
abbrev cX10_adds : ByteArray := prog_12_method_65_code
def yX10_adds : MethodName := ⟨RX10, "adds", "()V"⟩
abbrev cX10_tries : ByteArray := prog_12_method_66_code
def yX10_tries : MethodName := ⟨RX10, "tries", "(II)V"⟩
abbrev cX10_bases : ByteArray := prog_12_method_67_code
def yX10_bases : MethodName := ⟨RX10, "bases", "(I)V"⟩
abbrev cX10_stands : ByteArray := prog_12_method_68_code
def yX10_stands : MethodName := ⟨RX10, "stands", "(II)Z"⟩
abbrev cX10_builds : ByteArray := prog_12_method_69_code
def yX10_builds : MethodName := ⟨RX10, "builds", "(II)V"⟩
abbrev cX10_manyFrom : ByteArray := prog_12_method_70_code
def yX10_manyFrom : MethodName := ⟨RX10, "manyFrom", "(I)I"⟩
abbrev cX10_isGroup : ByteArray := prog_12_method_71_code
def yX10_isGroup : MethodName := ⟨RX10, "isGroup", "(I)Z"⟩
abbrev cX10_allKeep : ByteArray := prog_12_method_72_code
def yX10_allKeep : MethodName := ⟨RX10, "allKeep", "(I)Z"⟩
abbrev cX10_reaches : ByteArray := prog_12_method_73_code
def yX10_reaches : MethodName := ⟨RX10, "reaches", "(II)I"⟩
abbrev cX10_orbitsOfPlaces : ByteArray := prog_12_method_74_code
def yX10_orbitsOfPlaces : MethodName := ⟨RX10, "orbitsOfPlaces", "(I)I"⟩
abbrev cX10_imagesOf : ByteArray := prog_12_method_75_code
def yX10_imagesOf : MethodName := ⟨RX10, "imagesOf", "(I)V"⟩
abbrev cX10_imageOf : ByteArray := prog_12_method_76_code
def yX10_imageOf : MethodName := ⟨RX10, "imageOf", "(II)I"⟩
abbrev cX10_spreads : ByteArray := prog_12_method_77_code
def yX10_spreads : MethodName := ⟨RX10, "spreads", "(I)I"⟩
abbrev cX10_unmarks : ByteArray := prog_12_method_78_code
def yX10_unmarks : MethodName := ⟨RX10, "unmarks", "()V"⟩
abbrev cX10_orbitsOfWords : ByteArray := prog_12_method_79_code
def yX10_orbitsOfWords : MethodName := ⟨RX10, "orbitsOfWords", "(II)I"⟩
abbrev cX10_rankOf : ByteArray := prog_12_method_80_code
def yX10_rankOf : MethodName := ⟨RX10, "rankOf", "(I)I"⟩
abbrev cX10_fourBy : ByteArray := prog_12_method_81_code
def yX10_fourBy : MethodName := ⟨RX10, "fourBy", "(II)I"⟩
abbrev cX10_spreadsFours : ByteArray := prog_12_method_82_code
def yX10_spreadsFours : MethodName := ⟨RX10, "spreadsFours", "(II)I"⟩
abbrev cX10_orbitsOfSextets : ByteArray := prog_12_method_83_code
def yX10_orbitsOfSextets : MethodName := ⟨RX10, "orbitsOfSextets", "(I)I"⟩
abbrev cX10_group : ByteArray := prog_12_method_84_code
def yX10_group : MethodName := ⟨RX10, "group", "(II)I"⟩
abbrev cX10_held : ByteArray := prog_12_method_85_code
def yX10_held : MethodName := ⟨RX10, "held", "(III)I"⟩
abbrev cX10_holds : ByteArray := prog_12_method_86_code
def yX10_holds : MethodName := ⟨RX10, "holds", "(II)I"⟩
abbrev cX10_choose : ByteArray := prog_12_method_87_code
def yX10_choose : MethodName := ⟨RX10, "choose", "(I)I"⟩
abbrev cX10_hexad : ByteArray := prog_12_method_88_code
def yX10_hexad : MethodName := ⟨RX10, "hexad", "(I)I"⟩
abbrev cX10_turn : ByteArray := prog_12_method_89_code
def yX10_turn : MethodName := ⟨RX10, "turn", "(II)I"⟩
abbrev cX10_pair : ByteArray := prog_12_method_90_code
def yX10_pair : MethodName := ⟨RX10, "pair", "(I)I"⟩
abbrev cX10_notes : ByteArray := prog_12_method_91_code
def yX10_notes : MethodName := ⟨RX10, "notes", "()V"⟩
abbrev cX10_undo : ByteArray := prog_12_method_92_code
def yX10_undo : MethodName := ⟨RX10, "undo", "()I"⟩
abbrev cX10_doubles : ByteArray := prog_12_method_93_code
def yX10_doubles : MethodName := ⟨RX10, "doubles", "(II)V"⟩
abbrev cX10_drift : ByteArray := prog_12_method_94_code
def yX10_drift : MethodName := ⟨RX10, "drift", "(I)I"⟩
abbrev cX10_seed : ByteArray := prog_12_method_95_code
def yX10_seed : MethodName := ⟨RX10, "seed", "(I)I"⟩
abbrev cX10_count : ByteArray := prog_12_method_96_code
def yX10_count : MethodName := ⟨RX10, "count", "(I)I"⟩
abbrev cX10_image : ByteArray := prog_12_method_97_code
def yX10_image : MethodName := ⟨RX10, "image", "()I"⟩
abbrev cX10_restore : ByteArray := prog_12_method_98_code
def yX10_restore : MethodName := ⟨RX10, "restore", "()I"⟩
abbrev cX10_isSheet : ByteArray := prog_12_method_99_code
def yX10_isSheet : MethodName := ⟨RX10, "isSheet", "(I)Z"⟩
abbrev cX10_cut : ByteArray := prog_12_method_100_code
def yX10_cut : MethodName := ⟨RX10, "cut", "(JI)J"⟩
abbrev cX10_sheet : ByteArray := prog_12_method_101_code
def yX10_sheet : MethodName := ⟨RX10, "sheet", "(III)I"⟩
abbrev cX10_drop : ByteArray := prog_12_method_102_code
def yX10_drop : MethodName := ⟨RX10, "drop", "(I)I"⟩
abbrev cX10_why : ByteArray := prog_12_method_103_code
def yX10_why : MethodName := ⟨RX10, "why", "(IIII)I"⟩
abbrev cX10_item : ByteArray := prog_12_method_104_code
def yX10_item : MethodName := ⟨RX10, "item", "(IIIJ)I"⟩
abbrev cX10_copy : ByteArray := prog_12_method_105_code
def yX10_copy : MethodName := ⟨RX10, "copy", "(IIIII)I"⟩
abbrev cX10_film : ByteArray := prog_12_method_106_code
def yX10_film : MethodName := ⟨RX10, "film", "(IIII)I"⟩
abbrev cX10_wants : ByteArray := prog_12_method_107_code
def yX10_wants : MethodName := ⟨RX10, "wants", "(II)I"⟩
abbrev cX10_sends : ByteArray := prog_12_method_108_code
def yX10_sends : MethodName := ⟨RX10, "sends", "(II)I"⟩
abbrev cX10_finds : ByteArray := prog_12_method_109_code
def yX10_finds : MethodName := ⟨RX10, "finds", "(I)Z"⟩
abbrev cX10_retrace : ByteArray := prog_12_method_110_code
def yX10_retrace : MethodName := ⟨RX10, "retrace", "(IIIII)I"⟩
def RJx145de : String := "java/io/Serializable"
def RJx9f9b0 : String := "java/lang/CharSequence"
def RJxb160c : String := "java/lang/Comparable"
def RJ6 : String := "java/lang/Integer"
abbrev cJ6_bitCount_0f7a4 : ByteArray := prog_13_method_49_code
def yJ6_bitCount_0f7a4 : MethodName := ⟨RJ6, "bitCount", "(I)I"⟩
def RJ9 : String := "java/lang/Math"
abbrev cJ9_floorMod_7cf53 : ByteArray := prog_14_method_50_code
def yJ9_floorMod_7cf53 : MethodName := ⟨RJ9, "floorMod", "(II)I"⟩
abbrev cJ9_max_7cf53 : ByteArray := prog_14_method_65_code
def yJ9_max_7cf53 : MethodName := ⟨RJ9, "max", "(II)I"⟩
abbrev cJ9_min_7cf53 : ByteArray := prog_14_method_69_code
def yJ9_min_7cf53 : MethodName := ⟨RJ9, "min", "(II)I"⟩
def RJ0 : String := "java/lang/String"
abbrev cJ0_length_8abf5 : ByteArray := prog_15_method_54_code
def yJ0_length_8abf5 : MethodName := ⟨RJ0, "length", "()I"⟩
abbrev cJ0_charAt_5068e : ByteArray := prog_15_method_56_code
def yJ0_charAt_5068e : MethodName := ⟨RJ0, "charAt", "(I)C"⟩
abbrev cJ0_coder_7d493 : ByteArray := prog_15_method_152_code
def yJ0_coder_7d493 : MethodName := ⟨RJ0, "coder", "()B"⟩
abbrev cJ0_isLatin1_aae02 : ByteArray := prog_15_method_154_code
def yJ0_isLatin1_aae02 : MethodName := ⟨RJ0, "isLatin1", "()Z"⟩
abbrev cJ0_checkIndex_df160 : ByteArray := prog_15_method_155_code
def yJ0_checkIndex_df160 : MethodName := ⟨RJ0, "checkIndex", "(II)V"⟩
def RJ1 : String := "java/lang/StringLatin1"
abbrev cJ1_charAt_3b067 : ByteArray := prog_16_method_2_code
def yJ1_charAt_3b067 : MethodName := ⟨RJ1, "charAt", "([BI)C"⟩
def RJ2 : String := "java/lang/StringUTF16"
abbrev cJ2_getChar_3b067 : ByteArray := prog_17_method_5_code
def yJ2_getChar_3b067 : MethodName := ⟨RJ2, "getChar", "([BI)C"⟩
abbrev cJ2_length_9d52b : ByteArray := prog_17_method_6_code
def yJ2_length_9d52b : MethodName := ⟨RJ2, "length", "([B)I"⟩
abbrev cJ2_charAt_3b067 : ByteArray := prog_17_method_83_code
def yJ2_charAt_3b067 : MethodName := ⟨RJ2, "charAt", "([BI)C"⟩
abbrev cJ2_checkIndex_2214a : ByteArray := prog_17_method_91_code
def yJ2_checkIndex_2214a : MethodName := ⟨RJ2, "checkIndex", "(I[B)V"⟩
def RJ10 : String := "java/lang/System"
def RJxfd54e : String := "java/lang/constant/Constable"
def RJx3cf43 : String := "java/lang/constant/ConstantDesc"
def RJ7 : String := "java/util/Arrays"
abbrev cJ7_fill_d0a16 : ByteArray := prog_19_method_101_code
def yJ7_fill_d0a16 : MethodName := ⟨RJ7, "fill", "([JJ)V"⟩
abbrev cJ7_fill_53178 : ByteArray := prog_19_method_103_code
def yJ7_fill_53178 : MethodName := ⟨RJ7, "fill", "([II)V"⟩
def RJ3 : String := "jdk/internal/util/Preconditions"
abbrev cJ3_checkIndex_8e157 : ByteArray := prog_20_method_11_code
def yJ3_checkIndex_8e157 : MethodName := ⟨RJ3, "checkIndex", "(IILjava/util/function/BiFunction;)I"⟩
def RL : String := "EightBlocksLaw"
abbrev vwCl : List vw_C := [(RX0, TX0, 9), (RX1, TX1, 2), (RX2, TX2, 6), (RX3, TX3, 3), (RX5, TX5, 4), (RX6, TX6, 3), (RX7, TX7, 3), (RX8, TX8, 8), (RX9, TX9, 11), (RX10, TX10, 37)]
end
section
/-- the kind of the cell a: 0 ints, 1 booleans, 2 longs, 3 rows of ints, 4 rows of longs, 5 states, 6 a text, 10+c an object of class c -/
def sh_t (a : Nat) : Nat := (cond (Nat.ble a 1394) (cond (Nat.ble a 1334) (cond (Nat.ble a 23) (cond (Nat.ble a 12) (cond (Nat.ble a 6) (cond (Nat.ble a 0) 0 (cond (Nat.ble a 1) 0 6)) (cond (Nat.ble a 8) (cond (Nat.ble a 7) 6 6) (cond (Nat.ble a 11) 6 18))) (cond (Nat.ble a 19) (cond (Nat.ble a 13) 3 (cond (Nat.ble a 18) 0 12)) (cond (Nat.ble a 21) (cond (Nat.ble a 20) 0 0) (cond (Nat.ble a 22) 0 0)))) (cond (Nat.ble a 55) (cond (Nat.ble a 26) (cond (Nat.ble a 24) 0 (cond (Nat.ble a 25) 0 10)) (cond (Nat.ble a 30) (cond (Nat.ble a 29) 0 3) (cond (Nat.ble a 54) 0 3))) (cond (Nat.ble a 1305) (cond (Nat.ble a 632) 0 (cond (Nat.ble a 633) 3 0)) (cond (Nat.ble a 1331) (cond (Nat.ble a 1306) 3 0) (cond (Nat.ble a 1332) 14 0))))) (cond (Nat.ble a 1364) (cond (Nat.ble a 1345) (cond (Nat.ble a 1337) (cond (Nat.ble a 1335) 13 (cond (Nat.ble a 1336) 16 3)) (cond (Nat.ble a 1343) (cond (Nat.ble a 1342) 0 5) (cond (Nat.ble a 1344) 16 3))) (cond (Nat.ble a 1352) (cond (Nat.ble a 1350) 0 (cond (Nat.ble a 1351) 16 3)) (cond (Nat.ble a 1358) (cond (Nat.ble a 1357) 0 16) (cond (Nat.ble a 1359) 3 0)))) (cond (Nat.ble a 1379) (cond (Nat.ble a 1371) (cond (Nat.ble a 1365) 16 (cond (Nat.ble a 1366) 3 0)) (cond (Nat.ble a 1373) (cond (Nat.ble a 1372) 16 3) (cond (Nat.ble a 1378) 0 16))) (cond (Nat.ble a 1386) (cond (Nat.ble a 1380) 3 (cond (Nat.ble a 1385) 0 13)) (cond (Nat.ble a 1388) (cond (Nat.ble a 1387) 16 3) (cond (Nat.ble a 1393) 0 5)))))) (cond (Nat.ble a 1463) (cond (Nat.ble a 1424) (cond (Nat.ble a 1409) (cond (Nat.ble a 1401) (cond (Nat.ble a 1395) 16 (cond (Nat.ble a 1396) 3 0)) (cond (Nat.ble a 1403) (cond (Nat.ble a 1402) 16 3) (cond (Nat.ble a 1408) 0 16))) (cond (Nat.ble a 1416) (cond (Nat.ble a 1410) 3 (cond (Nat.ble a 1415) 0 16)) (cond (Nat.ble a 1422) (cond (Nat.ble a 1417) 3 0) (cond (Nat.ble a 1423) 16 3)))) (cond (Nat.ble a 1439) (cond (Nat.ble a 1431) (cond (Nat.ble a 1429) 0 (cond (Nat.ble a 1430) 16 3)) (cond (Nat.ble a 1437) (cond (Nat.ble a 1436) 0 17) (cond (Nat.ble a 1438) 0 3))) (cond (Nat.ble a 1455) (cond (Nat.ble a 1446) 0 (cond (Nat.ble a 1447) 3 0)) (cond (Nat.ble a 1457) (cond (Nat.ble a 1456) 15 4) (cond (Nat.ble a 1461) 2 0))))) (cond (Nat.ble a 1481) (cond (Nat.ble a 1472) (cond (Nat.ble a 1467) (cond (Nat.ble a 1464) 11 (cond (Nat.ble a 1465) 0 0)) (cond (Nat.ble a 1469) (cond (Nat.ble a 1468) 19 0) (cond (Nat.ble a 1471) 0 0))) (cond (Nat.ble a 1476) (cond (Nat.ble a 1473) 0 (cond (Nat.ble a 1475) 0 0)) (cond (Nat.ble a 1479) (cond (Nat.ble a 1477) 0 0) (cond (Nat.ble a 1480) 0 0)))) (cond (Nat.ble a 1488) (cond (Nat.ble a 1484) (cond (Nat.ble a 1482) 0 (cond (Nat.ble a 1483) 0 0)) (cond (Nat.ble a 1486) (cond (Nat.ble a 1485) 0 1) (cond (Nat.ble a 1487) 0 0))) (cond (Nat.ble a 1492) (cond (Nat.ble a 1489) 0 (cond (Nat.ble a 1490) 0 0)) (cond (Nat.ble a 1494) (cond (Nat.ble a 1493) 2 2) (cond (Nat.ble a 1495) 0 99)))))))
def sh_n (a : Nat) : Nat := (cond (Nat.ble a 1394) (cond (Nat.ble a 1334) (cond (Nat.ble a 23) (cond (Nat.ble a 12) (cond (Nat.ble a 6) (cond (Nat.ble a 0) 0 (cond (Nat.ble a 1) 11 1)) (cond (Nat.ble a 8) (cond (Nat.ble a 7) 4 5) (cond (Nat.ble a 11) 4 11))) (cond (Nat.ble a 19) (cond (Nat.ble a 13) 5 (cond (Nat.ble a 18) 24 6)) (cond (Nat.ble a 21) (cond (Nat.ble a 20) 4096 759) (cond (Nat.ble a 22) 2576 4096)))) (cond (Nat.ble a 55) (cond (Nat.ble a 26) (cond (Nat.ble a 24) 12 (cond (Nat.ble a 25) 4096 9)) (cond (Nat.ble a 30) (cond (Nat.ble a 29) 24 24) (cond (Nat.ble a 54) 24 576))) (cond (Nat.ble a 1305) (cond (Nat.ble a 632) 24 (cond (Nat.ble a 633) 672 24)) (cond (Nat.ble a 1331) (cond (Nat.ble a 1306) 24 24) (cond (Nat.ble a 1332) 4 4096))))) (cond (Nat.ble a 1364) (cond (Nat.ble a 1345) (cond (Nat.ble a 1337) (cond (Nat.ble a 1335) 3 (cond (Nat.ble a 1336) 3 5)) (cond (Nat.ble a 1343) (cond (Nat.ble a 1342) 24 6) (cond (Nat.ble a 1344) 3 5))) (cond (Nat.ble a 1352) (cond (Nat.ble a 1350) 24 (cond (Nat.ble a 1351) 3 5)) (cond (Nat.ble a 1358) (cond (Nat.ble a 1357) 24 3) (cond (Nat.ble a 1359) 5 24)))) (cond (Nat.ble a 1379) (cond (Nat.ble a 1371) (cond (Nat.ble a 1365) 3 (cond (Nat.ble a 1366) 5 24)) (cond (Nat.ble a 1373) (cond (Nat.ble a 1372) 3 5) (cond (Nat.ble a 1378) 24 3))) (cond (Nat.ble a 1386) (cond (Nat.ble a 1380) 5 (cond (Nat.ble a 1385) 24 3)) (cond (Nat.ble a 1388) (cond (Nat.ble a 1387) 3 5) (cond (Nat.ble a 1393) 24 6)))))) (cond (Nat.ble a 1463) (cond (Nat.ble a 1424) (cond (Nat.ble a 1409) (cond (Nat.ble a 1401) (cond (Nat.ble a 1395) 3 (cond (Nat.ble a 1396) 5 24)) (cond (Nat.ble a 1403) (cond (Nat.ble a 1402) 3 5) (cond (Nat.ble a 1408) 24 3))) (cond (Nat.ble a 1416) (cond (Nat.ble a 1410) 5 (cond (Nat.ble a 1415) 24 3)) (cond (Nat.ble a 1422) (cond (Nat.ble a 1417) 5 24) (cond (Nat.ble a 1423) 3 5)))) (cond (Nat.ble a 1439) (cond (Nat.ble a 1431) (cond (Nat.ble a 1429) 24 (cond (Nat.ble a 1430) 3 5)) (cond (Nat.ble a 1437) (cond (Nat.ble a 1436) 24 8) (cond (Nat.ble a 1438) 100 7))) (cond (Nat.ble a 1455) (cond (Nat.ble a 1446) 24 (cond (Nat.ble a 1447) 7 24)) (cond (Nat.ble a 1457) (cond (Nat.ble a 1456) 3 4) (cond (Nat.ble a 1461) 32 4))))) (cond (Nat.ble a 1481) (cond (Nat.ble a 1472) (cond (Nat.ble a 1467) (cond (Nat.ble a 1464) 2 (cond (Nat.ble a 1465) 74 24)) (cond (Nat.ble a 1469) (cond (Nat.ble a 1468) 37 122) (cond (Nat.ble a 1471) 12 4096))) (cond (Nat.ble a 1476) (cond (Nat.ble a 1473) 759 (cond (Nat.ble a 1475) 100 24)) (cond (Nat.ble a 1479) (cond (Nat.ble a 1477) 168 24) (cond (Nat.ble a 1480) 576 2976)))) (cond (Nat.ble a 1488) (cond (Nat.ble a 1484) (cond (Nat.ble a 1482) 124 (cond (Nat.ble a 1483) 24 96)) (cond (Nat.ble a 1486) (cond (Nat.ble a 1485) 48 4096) (cond (Nat.ble a 1487) 4096 732))) (cond (Nat.ble a 1492) (cond (Nat.ble a 1489) 122 (cond (Nat.ble a 1490) 732 4)) (cond (Nat.ble a 1494) (cond (Nat.ble a 1493) 128 32) (cond (Nat.ble a 1495) 24 0)))))))
/-- the type of field j of class c: 0 int, 1 a reference, 3 boolean -/
def sh_f (c j : Nat) : Nat := match c with
  | 0 => ([1, 1, 1, 1, 1, 1, 1, 1, 1] : List Nat).getD j 9
  | 1 => ([1, 0] : List Nat).getD j 9
  | 2 => ([1, 1, 1, 1, 1, 1] : List Nat).getD j 9
  | 3 => ([1, 1, 0] : List Nat).getD j 9
  | 4 => ([1, 1, 0, 0] : List Nat).getD j 9
  | 5 => ([1, 1, 1] : List Nat).getD j 9
  | 6 => ([1, 0, 0] : List Nat).getD j 9
  | 7 => ([1, 1, 1, 1, 1, 1, 0, 0] : List Nat).getD j 9
  | 8 => ([1, 1, 1, 1, 1, 1, 1, 1, 1, 1, 3] : List Nat).getD j 9
  | 9 => ([1, 1, 1, 0, 1, 1, 1, 0, 1, 0, 0, 1, 1, 1, 0, 1, 1, 1, 1, 0, 1, 0, 0, 1, 1, 1, 1, 1, 0, 1, 1, 0, 1, 1, 1, 1, 1] : List Nat).getD j 9
  | _ => 9
/-- the signs of the text a -/
def sh_c (a j : Nat) : Nat := match a with
  | 2 => ([97] : List Nat).getD j 0
  | 3 => ([98] : List Nat).getD j 0
  | 4 => ([99] : List Nat).getD j 0
  | 5 => ([100] : List Nat).getD j 0
  | 6 => ([101] : List Nat).getD j 0
  | 7 => ([115, 116, 101, 112] : List Nat).getD j 0
  | 8 => ([116, 119, 105, 99, 101] : List Nat).getD j 0
  | 9 => ([111, 118, 101, 114] : List Nat).getD j 0
  | 10 => ([119, 105, 108, 100] : List Nat).getD j 0
  | 11 => ([115, 97, 109, 101] : List Nat).getD j 0
  | _ => 0
/-- where the references that never change lead -/
def sh_r (a j : Nat) : Option Nat := (cond (Nat.ble a 1379) (cond (Nat.ble a 1335) (cond (Nat.ble a 30) (cond (Nat.ble a 18) (cond (Nat.ble a 12) (cond (Nat.ble a 11) none (([some 19, some 26, some 1332, some 1335, some 1386, some 1437, some 1456, some 1464, some 1466, some 1467, none] : List (Option Nat)).getD j none)) (cond (Nat.ble a 13) (cond (Nat.ble (j+1) 5) (some (14 + j)) none) none)) (cond (Nat.ble a 25) (cond (Nat.ble a 19) (([some 20, some 21, some 22, some 23, some 24, some 25] : List (Option Nat)).getD j none) none) (cond (Nat.ble a 26) (([some 27, some 28, some 29, some 30, some 55, some 632, some 633, some 1306, some 1331] : List (Option Nat)).getD j none) (cond (Nat.ble a 29) none (cond (Nat.ble (j+1) 24) (some (31 + j)) none))))) (cond (Nat.ble a 1305) (cond (Nat.ble a 55) (cond (Nat.ble a 54) none (cond (Nat.ble (j+1) 576) (some (56 + j)) none)) (cond (Nat.ble a 632) none (cond (Nat.ble a 633) (cond (Nat.ble (j+1) 672) (some (634 + j)) none) none))) (cond (Nat.ble a 1331) (cond (Nat.ble a 1306) (cond (Nat.ble (j+1) 24) (some (1307 + j)) none) none) (cond (Nat.ble a 1332) (([some 1333, some 1334, none, none] : List (Option Nat)).getD j none) (cond (Nat.ble a 1334) none (([some 1336, some 1343, none] : List (Option Nat)).getD j none)))))) (cond (Nat.ble a 1357) (cond (Nat.ble a 1344) (cond (Nat.ble a 1337) (cond (Nat.ble a 1336) (([some 1337, none, none] : List (Option Nat)).getD j none) (cond (Nat.ble (j+1) 5) (some (1338 + j)) none)) (cond (Nat.ble a 1343) none (([some 1345, none, none] : List (Option Nat)).getD j none))) (cond (Nat.ble a 1350) (cond (Nat.ble a 1345) (cond (Nat.ble (j+1) 5) (some (1346 + j)) none) none) (cond (Nat.ble a 1351) (([some 1352, none, none] : List (Option Nat)).getD j none) (cond (Nat.ble a 1352) (cond (Nat.ble (j+1) 5) (some (1353 + j)) none) none)))) (cond (Nat.ble a 1366) (cond (Nat.ble a 1359) (cond (Nat.ble a 1358) (([some 1359, none, none] : List (Option Nat)).getD j none) (cond (Nat.ble (j+1) 5) (some (1360 + j)) none)) (cond (Nat.ble a 1364) none (cond (Nat.ble a 1365) (([some 1366, none, none] : List (Option Nat)).getD j none) (cond (Nat.ble (j+1) 5) (some (1367 + j)) none)))) (cond (Nat.ble a 1372) (cond (Nat.ble a 1371) none (([some 1373, none, none] : List (Option Nat)).getD j none)) (cond (Nat.ble a 1373) (cond (Nat.ble (j+1) 5) (some (1374 + j)) none) (cond (Nat.ble a 1378) none (([some 1380, none, none] : List (Option Nat)).getD j none))))))) (cond (Nat.ble a 1423) (cond (Nat.ble a 1401) (cond (Nat.ble a 1387) (cond (Nat.ble a 1385) (cond (Nat.ble a 1380) (cond (Nat.ble (j+1) 5) (some (1381 + j)) none) none) (cond (Nat.ble a 1386) (([some 1387, some 1394, none] : List (Option Nat)).getD j none) (([some 1388, none, none] : List (Option Nat)).getD j none))) (cond (Nat.ble a 1394) (cond (Nat.ble a 1388) (cond (Nat.ble (j+1) 5) (some (1389 + j)) none) none) (cond (Nat.ble a 1395) (([some 1396, none, none] : List (Option Nat)).getD j none) (cond (Nat.ble a 1396) (cond (Nat.ble (j+1) 5) (some (1397 + j)) none) none)))) (cond (Nat.ble a 1410) (cond (Nat.ble a 1403) (cond (Nat.ble a 1402) (([some 1403, none, none] : List (Option Nat)).getD j none) (cond (Nat.ble (j+1) 5) (some (1404 + j)) none)) (cond (Nat.ble a 1408) none (cond (Nat.ble a 1409) (([some 1410, none, none] : List (Option Nat)).getD j none) (cond (Nat.ble (j+1) 5) (some (1411 + j)) none)))) (cond (Nat.ble a 1416) (cond (Nat.ble a 1415) none (([some 1417, none, none] : List (Option Nat)).getD j none)) (cond (Nat.ble a 1417) (cond (Nat.ble (j+1) 5) (some (1418 + j)) none) (cond (Nat.ble a 1422) none (([some 1424, none, none] : List (Option Nat)).getD j none)))))) (cond (Nat.ble a 1446) (cond (Nat.ble a 1431) (cond (Nat.ble a 1429) (cond (Nat.ble a 1424) (cond (Nat.ble (j+1) 5) (some (1425 + j)) none) none) (cond (Nat.ble a 1430) (([some 1431, none, none] : List (Option Nat)).getD j none) (cond (Nat.ble (j+1) 5) (some (1432 + j)) none))) (cond (Nat.ble a 1437) (cond (Nat.ble a 1436) none (([some 1438, some 13, some 1439, some 1447, some 1455, none, none, none] : List (Option Nat)).getD j none)) (cond (Nat.ble a 1438) none (cond (Nat.ble a 1439) (cond (Nat.ble (j+1) 7) (some (1440 + j)) none) none)))) (cond (Nat.ble a 1463) (cond (Nat.ble a 1455) (cond (Nat.ble a 1447) (cond (Nat.ble (j+1) 7) (some (1448 + j)) none) none) (cond (Nat.ble a 1456) (([some 1457, some 1462, some 1463] : List (Option Nat)).getD j none) (cond (Nat.ble a 1457) (cond (Nat.ble (j+1) 4) (some (1458 + j)) none) none))) (cond (Nat.ble a 1467) (cond (Nat.ble a 1464) (([some 1465, none] : List (Option Nat)).getD j none) none) (cond (Nat.ble a 1468) (([some 1469, some 1470, some 1471, none, some 1472, some 1473, some 1474, none, some 1475, none, none, some 1476, some 1477, some 1478, none, some 1479, some 1480, some 1481, some 1482, none, some 1483, none, none, some 1484, some 1485, some 1486, some 1487, some 1488, none, some 1489, some 1490, none, some 1491, some 1492, some 1493, some 1494, some 1495] : List (Option Nat)).getD j none) (cond (Nat.ble a 1495) none none)))))))
/-- the references that change: the rows of states, and the tape's current table -/
def sh_d (a j : Nat) : Bool := Nat.beq a 1343 || Nat.beq a 1394 || (Nat.beq a 1437 && Nat.beq j 5)
def RR (rr : Nat → Nat → Option Nat) (a j : Nat) : Option Nat := cond (sh_d a j) (rr a j) (sh_r a j)
/-- all cells and places made -/
abbrev sh_Z : Nat := 1496
abbrev sh_S : Nat := 78353
end
section
/-! THE ABSTRACT MACHINE: memory (ints, longs, references, cells made, places made, the script's length), one instruction, runs -/
abbrev am_M : Type := (Nat → Nat → Int32) × (Nat → Nat → Int64) × (Nat → Nat → Option Nat) × Nat × Nat × Nat
abbrev am_L : Type := List (Option Value)
abbrev am_K : Type := Nat → am_L → List Value → am_M → Prop
abbrev am_C : Type := Nat → List Value → am_M → (Option Value → am_M → Prop) → Prop
def am_k (v : Int) : Int32 := match v with
  | .ofNat n => nI n
  | .negSucc n => Int32.ofInt (.negSucc n)
def am_kl (v : Int) : Int64 := match v with
  | .ofNat n => lN n
  | .negSucc n => Int64.ofInt (.negSucc n)
theorem am_k_eq (v : Int) : am_k v = Int32.ofInt v := by
  cases v with
  | ofNat n => rfl
  | negSucc n => rfl
theorem am_kl_eq (v : Int) : am_kl v = Int64.ofInt v := by
  cases v with
  | ofNat n => rfl
  | negSucc n => rfl
def am_un (i : Int32) : Nat := i.toBitVec.toNat
def am_u1 {α : Type} (f : Nat → α) (i : Nat) (v : α) : Nat → α := fun j => cond (Nat.beq j i) v (f j)
def am_sr {α : Type} (I : Nat → Nat → α) (a : Nat) (g : Nat → α) : Nat → Nat → α := fun b => cond (Nat.beq b a) g (I b)
/-- n rows from a on are made of the same row -/
def am_zr {α : Type} (I : Nat → Nat → α) (a n : Nat) (g : Nat → α) : Nat → Nat → α := fun b => cond (Nat.ble a b && Nat.ble (b + 1) (a + n)) g (I b)
def am_ok (M : am_M) (a t : Nat) : Bool := Nat.beq (sh_t a) t && Nat.ble (a + 1) M.2.2.2.1
def am_len (M : am_M) (a : Nat) : Nat := cond (Nat.beq a 0) M.2.2.2.2.2 (sh_n a)
def am_nth : am_L → Nat → Option Value
  | [], _ => none
  | v :: _, 0 => v
  | _ :: l, n + 1 => am_nth l n
def am_set : am_L → Nat → Option Value → am_L
  | [], _, _ => []
  | _ :: l, 0, w => w :: l
  | v :: l, n + 1, w => v :: am_set l n w
/-- no long begins at the place before -/
def am_nl (L : am_L) (i : Nat) : Bool := match i with
  | 0 => true
  | j + 1 => match am_nth L j with
    | some (.long _) => false
    | some (.double _) => false
    | _ => true
def am_pi (st : List Value) (f : Int32 → List Value → Prop) : Prop := match st with
  | .int x :: r => f x r
  | _ => False
def am_pl (st : List Value) (f : Int64 → List Value → Prop) : Prop := match st with
  | .long x :: r => f x r
  | _ => False
def am_pr (st : List Value) (f : Nat → List Value → Prop) : Prop := match st with
  | .ref x :: r => f x r
  | _ => False
def am_p1 (st : List Value) (f : Value → List Value → Prop) : Prop := match st with
  | v :: r => cond (Nat.beq v.category 1) (f v r) False
  | _ => False
def am_ob (o : Option Nat) (f : Nat → Prop) : Prop := match o with
  | some b => f b
  | none => False
def am_g (b : Bool) (p : Prop) : Prop := cond b p False
def am_br (A p q : Prop) : Prop := (A → p) ∧ (¬ A → q)
def am_li (L : am_L) (i : Nat) (f : Int32 → Prop) : Prop := match am_nth L i with
  | some (.int x) => f x
  | _ => False
def am_ll (L : am_L) (i : Nat) (f : Int64 → Prop) : Prop := match am_nth L i with
  | some (.long x) => f x
  | _ => False
def am_lr (L : am_L) (i : Nat) (f : Nat → Prop) : Prop := match am_nth L i with
  | some (.ref x) => f x
  | _ => False
def am_sw (x : Int32) (k : Int) (ts : List Int) (f : Nat → Prop) (d : Nat) : Prop := match ts with
  | [] => f d
  | t :: r => (x = am_k k → f t.toNat) ∧ (¬ x = am_k k → am_sw x (k + 1) r f d)
def am_lw (x : Int32) (ps : List (Int × Int)) (f : Nat → Prop) (d : Nat) : Prop := match ps with
  | [] => f d
  | q :: r => (x = am_k q.1 → f q.2.toNat) ∧ (¬ x = am_k q.1 → am_lw x r f d)
def am_pop : Nat → List Value → List Value → (List Value → List Value → Prop) → Prop
  | 0, st, acc, f => f acc st
  | n + 1, v :: st, acc, f => am_pop n st (v :: acc) f
  | _ + 1, [], _, _ => False
def am_cs : List Value → Nat
  | [] => 0
  | v :: r => v.category + am_cs r
/-- what comes behind a call, by the kind of its answer: 0 nothing, 1 an int, 2 a long, 3 a reference -/
def am_aft (rk : Nat) (v : Option Value) (f : List Value → Prop) : Prop := match rk with
  | 0 => v = none ∧ f []
  | 1 => ∃ x : Int32, v = some (.int x) ∧ f [.int x]
  | 2 => ∃ x : Int64, v = some (.long x) ∧ f [.long x]
  | _ => ∃ x : Nat, v = some (.ref x) ∧ f [.ref x]
/-- memory with its parts changed -/
def am_sI (M : am_M) (I : Nat → Nat → Int32) : am_M := (I, M.2.1, M.2.2.1, M.2.2.2.1, M.2.2.2.2.1, M.2.2.2.2.2)
def am_sL (M : am_M) (Lg : Nat → Nat → Int64) : am_M := (M.1, Lg, M.2.2.1, M.2.2.2.1, M.2.2.2.2.1, M.2.2.2.2.2)
def am_sR (M : am_M) (Rf : Nat → Nat → Option Nat) : am_M := (M.1, M.2.1, Rf, M.2.2.2.1, M.2.2.2.2.1, M.2.2.2.2.2)
/-- a cell more: its places are 0 and null -/
def am_new (M : am_M) : am_M := (am_sr M.1 M.2.2.2.1 (fun _ => 0), am_sr M.2.1 M.2.2.2.1 (fun _ => 0), am_sr M.2.2.1 M.2.2.2.1 (fun _ => none), M.2.2.2.1 + 1, M.2.2.2.2.1 + sh_n M.2.2.2.1, M.2.2.2.2.2)
/-- a row of n rows of k places more -/
def am_mul (M : am_M) (n k : Nat) : am_M := (am_zr (am_sr M.1 M.2.2.2.1 (fun _ => 0)) (M.2.2.2.1 + 1) n (fun _ => 0), am_zr (am_sr M.2.1 M.2.2.2.1 (fun _ => 0)) (M.2.2.2.1 + 1) n (fun _ => 0), am_sr (am_zr M.2.2.1 (M.2.2.2.1 + 1) n (fun _ => none)) M.2.2.2.1 (fun j => cond (Nat.ble (j + 1) n) (some (M.2.2.2.1 + 1 + j)) none), M.2.2.2.1 + 1 + n, M.2.2.2.2.1 + n + n * k, M.2.2.2.2.2)
def am_cpy (f g : Nat → Int64) (sp dp n : Nat) : Nat → Int64 := fun k => cond (Nat.ble dp k && Nat.ble (k + 1) (dp + n)) (f (sp + (k - dp))) (g k)
/-- one instruction; mt: of each method how many words it takes off, the kind of its answer, the class of its receiver (+1), the cells and places that it makes -/
def am_one (mt : Nat → Nat × Nat × Nat × Nat × Nat) (C : am_C) (zm sm : Nat) (Rt : Option Value → am_M → Prop) (ins : Instr) (ln pc : Nat) (L : am_L) (st : List Value) (M : am_M) (P : am_K) : Prop := match ins with
  | .sipush v => P (pc + ln) L (.int (am_k v) :: st) M
  | .jsr_w v => P (pc + ln) L (.long (am_kl v) :: st) M
  | .iload i => am_li L i fun x => P (pc + ln) L (.int x :: st) M
  | .lload i => am_ll L i fun x => P (pc + ln) L (.long x :: st) M
  | .aload i => am_lr L i fun x => P (pc + ln) L (.ref x :: st) M
  | .istore i => am_pi st fun x r => am_g (am_nl L i && Nat.ble (i + 1) L.length) (P (pc + ln) (am_set L i (some (.int x))) r M)
  | .astore i => am_pr st fun x r => am_g (am_nl L i && Nat.ble (i + 1) L.length) (P (pc + ln) (am_set L i (some (.ref x))) r M)
  | .lstore i => am_pl st fun x r => am_g (am_nl L i && Nat.ble (i + 2) L.length) (P (pc + ln) (am_set (am_set L i (some (.long x))) (i + 1) none) r M)
  | .iinc i n => am_li L i fun x => am_g (am_nl L i && Nat.ble (i + 1) L.length) (P (pc + ln) (am_set L i (some (.int (x + am_k n)))) st M)
  | .getfield q => am_pr st fun a r => am_g (am_ok M a (10 + q / 64)) (cond (Nat.beq (sh_f (q / 64) (q % 64)) 1) (am_ob (M.2.2.1 a (q % 64)) fun b => P (pc + ln) L (.ref b :: r) M) (P (pc + ln) L (.int (M.1 a (q % 64)) :: r) M))
  | .putfield q => cond (Nat.beq (sh_f (q / 64) (q % 64)) 1)
      (am_pr st fun b st => am_pr st fun a r => am_g (am_ok M a (10 + q / 64) && Nat.ble 12 a) (P (pc + ln) L r (am_sR M (am_sr M.2.2.1 a (am_u1 (M.2.2.1 a) (q % 64) (some b))))))
      (am_pi st fun x st => am_pr st fun a r => am_g (am_ok M a (10 + q / 64) && Nat.ble 12 a && (Nat.beq (sh_f (q / 64) (q % 64)) 0 || decide (x = 0) || decide (x = 1))) (P (pc + ln) L r (am_sI M (am_sr M.1 a (am_u1 (M.1 a) (q % 64) x)))))
  | .getstatic _ => P (pc + ln) L (.ref 1 :: st) M
  | .ldc k => P (pc + ln) L (.ref (2 + k) :: st) M
  | .iaload => am_pi st fun i st => am_pr st fun a r => am_g (am_ok M a 0) (am_un i < am_len M a ∧ P (pc + ln) L (.int (M.1 a (am_un i)) :: r) M)
  | .baload => am_pi st fun i st => am_pr st fun a r => am_g (am_ok M a 1) (am_un i < am_len M a ∧ P (pc + ln) L (.int (M.1 a (am_un i)) :: r) M)
  | .laload => am_pi st fun i st => am_pr st fun a r => am_g (am_ok M a 2) (am_un i < am_len M a ∧ P (pc + ln) L (.long (M.2.1 a (am_un i)) :: r) M)
  | .aaload => am_pi st fun i st => am_pr st fun a r => am_g (am_ok M a 3 || am_ok M a 4 || am_ok M a 5) (am_un i < am_len M a ∧ am_ob (M.2.2.1 a (am_un i)) fun b => P (pc + ln) L (.ref b :: r) M)
  | .iastore => am_pi st fun x st => am_pi st fun i st => am_pr st fun a r => am_g (am_ok M a 0 && Nat.ble 12 a) (am_un i < am_len M a ∧ P (pc + ln) L r (am_sI M (am_sr M.1 a (am_u1 (M.1 a) (am_un i) x))))
  | .bastore => am_pi st fun x st => am_pi st fun i st => am_pr st fun a r => am_g (am_ok M a 1 && Nat.ble 12 a && (decide (x = 0) || decide (x = 1))) (am_un i < am_len M a ∧ P (pc + ln) L r (am_sI M (am_sr M.1 a (am_u1 (M.1 a) (am_un i) x))))
  | .lastore => am_pl st fun x st => am_pi st fun i st => am_pr st fun a r => am_g (am_ok M a 2 && Nat.ble 12 a) (am_un i < am_len M a ∧ P (pc + ln) L r (am_sL M (am_sr M.2.1 a (am_u1 (M.2.1 a) (am_un i) x))))
  | .aastore => am_pr st fun b st => am_pi st fun i st => am_pr st fun a r => am_g (am_ok M a 5 && Nat.ble 12 a && am_ok M b 16 && Nat.ble 12 b) (am_un i < am_len M a ∧ P (pc + ln) L r (am_sR M (am_sr M.2.2.1 a (am_u1 (M.2.2.1 a) (am_un i) (some b)))))
  | .arraylength => am_pr st fun a r => am_g (Nat.ble (sh_t a) 5 && Nat.ble (a + 1) M.2.2.2.1) (P (pc + ln) L (.int (nI (am_len M a)) :: r) M)
  | .ireturn => am_pi st fun x r => am_g (r.isEmpty) (Rt (some (.int x)) M)
  | .lreturn => am_pl st fun x r => am_g (r.isEmpty) (Rt (some (.long x)) M)
  | .areturn => am_pr st fun x r => am_g (r.isEmpty) (Rt (some (.ref x)) M)
  | .return_ => am_g (st.isEmpty) (Rt none M)
  | .dup => am_p1 st fun v r => P (pc + ln) L (v :: v :: r) M
  | .dup2 => am_p1 st fun v st => am_p1 st fun w r => P (pc + ln) L (v :: w :: v :: w :: r) M
  | .pop => am_p1 st fun _ r => P (pc + ln) L r M
  | .monitorexit => am_pr st fun _ r => am_g (Nat.ble (am_cs r) 8) (P (pc + ln) L r M)
  | .iadd => am_pi st fun y st => am_pi st fun x r => P (pc + ln) L (.int (x + y) :: r) M
  | .isub => am_pi st fun y st => am_pi st fun x r => P (pc + ln) L (.int (x - y) :: r) M
  | .imul => am_pi st fun y st => am_pi st fun x r => P (pc + ln) L (.int (x * y) :: r) M
  | .iand => am_pi st fun y st => am_pi st fun x r => P (pc + ln) L (.int (x &&& y) :: r) M
  | .ior => am_pi st fun y st => am_pi st fun x r => P (pc + ln) L (.int (x ||| y) :: r) M
  | .ixor => am_pi st fun y st => am_pi st fun x r => P (pc + ln) L (.int (x ^^^ y) :: r) M
  | .ishl => am_pi st fun y st => am_pi st fun x r => P (pc + ln) L (.int (x <<< (y &&& 31)) :: r) M
  | .ishr => am_pi st fun y st => am_pi st fun x r => P (pc + ln) L (.int (x >>> (y &&& 31)) :: r) M
  | .iushr => am_pi st fun y st => am_pi st fun x r => P (pc + ln) L (.int (x.toUInt32 >>> (y.toUInt32 &&& Int32.toUInt32 31)).toInt32 :: r) M
  | .idiv => am_pi st fun y st => am_pi st fun x r => am_g (!decide (y = 0)) (P (pc + ln) L (.int (x / y) :: r) M)
  | .irem => am_pi st fun y st => am_pi st fun x r => am_g (!decide (y = 0)) (P (pc + ln) L (.int (x - x / y * y) :: r) M)
  | .ineg => am_pi st fun x r => P (pc + ln) L (.int (0 - x) :: r) M
  | .ladd => am_pl st fun y st => am_pl st fun x r => P (pc + ln) L (.long (x + y) :: r) M
  | .lmul => am_pl st fun y st => am_pl st fun x r => P (pc + ln) L (.long (x * y) :: r) M
  | .land => am_pl st fun y st => am_pl st fun x r => P (pc + ln) L (.long (x &&& y) :: r) M
  | .lor => am_pl st fun y st => am_pl st fun x r => P (pc + ln) L (.long (x ||| y) :: r) M
  | .ldiv => am_pl st fun y st => am_pl st fun x r => am_g (!decide (y = 0)) (P (pc + ln) L (.long (x / y) :: r) M)
  | .lrem => am_pl st fun y st => am_pl st fun x r => am_g (!decide (y = 0)) (P (pc + ln) L (.long (x - x / y * y) :: r) M)
  | .lshl => am_pi st fun y st => am_pl st fun x r => P (pc + ln) L (.long (x <<< (y.toInt64 &&& 63)) :: r) M
  | .lcmp => am_pl st fun y st => am_pl st fun x r => P (pc + ln) L (.int (lg_cmp x y) :: r) M
  | .i2l => am_pi st fun x r => P (pc + ln) L (.long x.toInt64 :: r) M
  | .l2i => am_pl st fun x r => P (pc + ln) L (.int x.toInt32 :: r) M
  | .i2b => am_pi st fun x r => P (pc + ln) L (.int x.toInt8.toInt32 :: r) M
  | .i2s => am_pi st fun x r => P (pc + ln) L (.int x.toInt16.toInt32 :: r) M
  | .goto t => P t.toNat L st M
  | .ifCond c t => am_pi st fun x r => match c with
    | .eq => am_br (x = 0) (P t.toNat L r M) (P (pc + ln) L r M)
    | .ne => am_br (x = 0) (P (pc + ln) L r M) (P t.toNat L r M)
    | .lt => am_br (x < 0) (P t.toNat L r M) (P (pc + ln) L r M)
    | .ge => am_br (x < 0) (P (pc + ln) L r M) (P t.toNat L r M)
    | .gt => am_br (0 < x) (P t.toNat L r M) (P (pc + ln) L r M)
    | .le => am_br (0 < x) (P (pc + ln) L r M) (P t.toNat L r M)
  | .if_icmp c t => am_pi st fun y st => am_pi st fun x r => match c with
    | .eq => am_br (x = y) (P t.toNat L r M) (P (pc + ln) L r M)
    | .ne => am_br (x = y) (P (pc + ln) L r M) (P t.toNat L r M)
    | .lt => am_br (x < y) (P t.toNat L r M) (P (pc + ln) L r M)
    | .ge => am_br (x < y) (P (pc + ln) L r M) (P t.toNat L r M)
    | .gt => am_br (y < x) (P t.toNat L r M) (P (pc + ln) L r M)
    | .le => am_br (y < x) (P (pc + ln) L r M) (P t.toNat L r M)
  | .tableswitch d lo _ ts => am_pi st fun x r => am_sw x lo ts.toList (fun t => P t L r M) d.toNat
  | .lookupswitch d ps => am_pi st fun x r => am_lw x ps.toList (fun t => P t L r M) d.toNat
  | .invokestatic k => am_pop (mt k).1 st [] fun as r => am_g (Nat.ble (am_cs r) 8) (C k as M fun v M' => am_aft (mt k).2.1 v fun w => P (pc + ln) L (w ++ r) M')
  | .invokevirtual k => am_pop (mt k).1 st [] fun as r => am_pr as fun a _ => am_g (am_ok M a (9 + (mt k).2.2.1) && Nat.ble 12 a && Nat.ble (am_cs r) 8) (C k as M fun v M' => am_aft (mt k).2.1 v fun w => P (pc + ln) L (w ++ r) M')
  | .invokespecial k => am_pop (mt k).1 st [] fun as r => am_pr as fun _ _ => am_g (Nat.ble (am_cs r) 8) ((M.2.2.2.1 + (mt k).2.2.2.1 ≤ zm ∧ M.2.2.2.2.1 + (mt k).2.2.2.2 ≤ sm) ∧ C k as M fun v M' => am_aft (mt k).2.1 v fun w => P (pc + ln) L (w ++ r) M')
  | .invokeinterface 0 _ => am_pi st fun y st => am_pi st fun x r => am_g (Nat.ble (am_cs r) 8) (P (pc + ln) L (.int (if y < x then y else x) :: r) M)
  | .invokeinterface 1 _ => am_pi st fun y st => am_pi st fun x r => am_g (Nat.ble (am_cs r) 8) (P (pc + ln) L (.int (if x < y then y else x) :: r) M)
  | .invokeinterface 2 _ => am_pr st fun a r => am_g (am_ok M a 6 && Nat.ble (am_cs r) 8) (P (pc + ln) L (.int (nI (sh_n a)) :: r) M)
  | .invokeinterface 3 _ => am_pi st fun i st => am_pr st fun a r => am_g (am_ok M a 6 && Nat.ble (am_cs r) 8) (am_un i < sh_n a ∧ P (pc + ln) L (.int (nI (sh_c a (am_un i))) :: r) M)
  | .invokeinterface 4 _ => am_pi st fun n st => am_pi st fun dp st => am_pr st fun b st => am_pi st fun sp st => am_pr st fun a r => am_g (am_ok M a 2 && am_ok M b 2 && Nat.ble 12 a && Nat.ble 12 b && Nat.ble (am_cs r) 8) ((am_un sp + am_un n ≤ sh_n a ∧ am_un dp + am_un n ≤ sh_n b) ∧ P (pc + ln) L r (am_sL M (am_sr M.2.1 b (am_cpy (M.2.1 a) (M.2.1 b) (am_un sp) (am_un dp) (am_un n)))))
  | .new c => am_g (Nat.beq (sh_t M.2.2.2.1) (10 + c)) ((M.2.2.2.1 + 1 ≤ zm ∧ M.2.2.2.2.1 + sh_n M.2.2.2.1 ≤ sm) ∧ P (pc + ln) L (.ref M.2.2.2.1 :: st) (am_new M))
  | .newarray t => am_pi st fun x r => am_g (Nat.beq (sh_t M.2.2.2.1) (match t with | .int => 0 | .boolean => 1 | .long => 2 | _ => 9) && Nat.beq (sh_n M.2.2.2.1) (am_un x)) ((M.2.2.2.1 + 1 ≤ zm ∧ M.2.2.2.2.1 + sh_n M.2.2.2.1 ≤ sm) ∧ P (pc + ln) L (.ref M.2.2.2.1 :: r) (am_new M))
  | .anewarray _ => am_pi st fun x r => am_g (Nat.beq (sh_t M.2.2.2.1) 5 && Nat.beq (sh_n M.2.2.2.1) (am_un x)) ((M.2.2.2.1 + 1 ≤ zm ∧ M.2.2.2.2.1 + sh_n M.2.2.2.1 ≤ sm) ∧ P (pc + ln) L (.ref M.2.2.2.1 :: r) (am_new M))
  | .multianewarray t _ => am_pi st fun k st => am_pi st fun n r => am_g (Nat.beq (sh_t M.2.2.2.1) t && Nat.beq (sh_n M.2.2.2.1) (am_un n) && Nat.ble 3 t && Nat.ble t 4 && Nat.ble (am_un k) 24000) ((∀ j, j < am_un n → sh_t (M.2.2.2.1 + 1 + j) = (t - 3) * 2 ∧ sh_n (M.2.2.2.1 + 1 + j) = am_un k) ∧ (M.2.2.2.1 + 1 + am_un n ≤ zm ∧ M.2.2.2.2.1 + am_un n + am_un n * am_un k ≤ sm) ∧ P (pc + ln) L (.ref M.2.2.2.1 :: r) (am_mul M (am_un n) (am_un k)))
  | _ => False
/-- a method's code: the places and instructions of each sixteen bytes -/
abbrev am_T : Type := List (Nat × List (Nat × Instr × Nat))
def am_f1 : List (Nat × Instr × Nat) → Nat → Option (Instr × Nat)
  | [], _ => none
  | q :: l, pc => cond (Nat.beq q.1 pc) (some q.2) (am_f1 l pc)
def am_at : am_T → Nat → Option (Instr × Nat)
  | [], _ => none
  | q :: l, pc => cond (Nat.ble pc q.1) (am_f1 q.2 pc) (am_at l pc)
def am_F (mt : Nat → Nat × Nat × Nat × Nat × Nat) (C : am_C) (T : am_T) (zm sm : Nat) (Rt : Option Value → am_M → Prop) (X : am_K) : am_K := fun pc L st M => match am_at T pc with
  | some q => am_one mt C zm sm Rt q.1 q.2 pc L st M X
  | none => False
/-- the run comes to a return with Rt -/
def am_WP (mt : Nat → Nat × Nat × Nat × Nat × Nat) (C : am_C) (T : am_T) (zm sm : Nat) (Rt : Option Value → am_M → Prop) : am_K := fun pc L st M => ∀ X : am_K, (∀ pc L st M, am_F mt C T zm sm Rt X pc L st M → X pc L st M) → X pc L st M
/-- as many instructions, till one of some places is reached -/
def am_blk (mt : Nat → Nat × Nat × Nat × Nat × Nat) (C : am_C) (T : am_T) (zm sm : Nat) (Rt : Option Value → am_M → Prop) (cuts : List Nat) (X : am_K) : Nat → am_K
  | 0 => X
  | n + 1 => fun pc L st M => cond (cuts.any (Nat.beq pc)) (X pc L st M) (am_F mt C T zm sm Rt (am_blk mt C T zm sm Rt cuts X n) pc L st M)
def am_loc : List Value → am_L
  | [] => []
  | v :: l => some v :: (match v with | .long _ => none :: am_loc l | .double _ => none :: am_loc l | _ => am_loc l)
def am_ent (n : Nat) (as : List Value) : am_L := am_loc as ++ List.replicate (n - (am_loc as).length) none
end
section
/-! THE METHODS: by number; their instructions -/
/-- 0: EightBlocks$Chain.init()V -/
def tb_0 : am_T := [(12, [(0, .aload 0, 1), (1, .monitorexit, 3), (4, .aload 0, 1), (5, .sipush 24, 2), (7, .newarray .int, 2), (9, .putfield 0, 3), (12, .aload 0, 1)]),
  (25, [(13, .sipush 24, 2), (15, .newarray .int, 2), (17, .putfield 1, 3), (20, .aload 0, 1), (21, .sipush 24, 2), (23, .newarray .int, 2), (25, .putfield 2, 3)]),
  (41, [(28, .aload 0, 1), (29, .sipush 24, 2), (31, .sipush 24, 2), (33, .multianewarray 3 2, 4), (37, .putfield 3, 3), (40, .aload 0, 1), (41, .sipush 576, 3)]),
  (58, [(44, .sipush 24, 2), (46, .multianewarray 3 2, 4), (50, .putfield 4, 3), (53, .aload 0, 1), (54, .sipush 24, 2), (56, .newarray .int, 2), (58, .putfield 5, 3)]),
  (75, [(61, .aload 0, 1), (62, .sipush 672, 3), (65, .sipush 24, 2), (67, .multianewarray 3 2, 4), (71, .putfield 6, 3), (74, .aload 0, 1), (75, .sipush 24, 2)]),
  (91, [(77, .sipush 24, 2), (79, .multianewarray 3 2, 4), (83, .putfield 7, 3), (86, .aload 0, 1), (87, .sipush 24, 2), (89, .newarray .int, 2), (91, .putfield 8, 3)]),
  (94, [(94, .return_, 1)])]
/-- 1: EightBlocks$Chain.begin(I)V -/
def tb_1 : am_T := [(11, [(0, .sipush 0, 1), (1, .istore 2, 1), (2, .sipush 0, 1), (3, .istore 3, 1), (4, .iload 3, 1), (5, .sipush 48, 2), (7, .if_icmp .ge 72, 3), (10, .iload 3, 1), (11, .sipush 24, 2)]),
  (23, [(13, .irem, 1), (14, .istore 4, 2), (16, .iload 1, 1), (17, .iload 4, 2), (19, .ishr, 1), (20, .sipush 1, 1), (21, .iand, 1), (22, .sipush 1, 1), (23, .if_icmp .ne 30, 3)]),
  (41, [(26, .sipush 1, 1), (27, .goto 31, 3), (30, .sipush 0, 1), (31, .istore 5, 2), (33, .iload 5, 2), (35, .iload 3, 1), (36, .sipush 24, 2), (38, .if_icmp .ge 45, 3), (41, .sipush 1, 1)]),
  (59, [(42, .goto 46, 3), (45, .sipush 0, 1), (46, .if_icmp .ne 66, 3), (49, .iload 2, 1), (50, .sipush 24, 2), (52, .if_icmp .ge 66, 3), (55, .aload 0, 1), (56, .getfield 0, 3), (59, .iload 2, 1)]),
  (75, [(60, .iload 4, 2), (62, .iastore, 1), (63, .iinc 2 1, 3), (66, .iinc 3 1, 3), (69, .goto 4, 3), (72, .sipush 0, 1), (73, .istore 3, 1), (74, .iload 3, 1), (75, .sipush 24, 2)]),
  (91, [(77, .if_icmp .ge 142, 3), (80, .aload 0, 1), (81, .getfield 1, 3), (84, .iload 3, 1), (85, .sipush 1, 1), (86, .iastore, 1), (87, .aload 0, 1), (88, .getfield 2, 3), (91, .iload 3, 1)]),
  (102, [(92, .sipush 1, 1), (93, .aload 0, 1), (94, .getfield 0, 3), (97, .iload 3, 1), (98, .iaload, 1), (99, .ishl, 1), (100, .iastore, 1), (101, .aload 0, 1), (102, .getfield 3, 3)]),
  (115, [(105, .iload 3, 1), (106, .aaload, 1), (107, .sipush 0, 1), (108, .aload 0, 1), (109, .getfield 0, 3), (112, .iload 3, 1), (113, .iaload, 1), (114, .iastore, 1), (115, .aload 0, 1)]),
  (128, [(116, .getfield 5, 3), (119, .iload 3, 1), (120, .sipush 0, 1), (121, .iastore, 1), (122, .aload 0, 1), (123, .iload 3, 1), (124, .aload 0, 1), (125, .getfield 0, 3), (128, .iload 3, 1)]),
  (142, [(129, .iaload, 1), (130, .invokevirtual 8, 3), (133, .invokestatic 45, 3), (136, .iinc 3 1, 3), (139, .goto 74, 3), (142, .return_, 1)])]
/-- 2: EightBlocks$Chain.include([I)V -/
def tb_2 : am_T := [(3, [(0, .aload 0, 1), (1, .sipush 0, 1), (2, .aload 1, 1), (3, .invokevirtual 3, 3)]),
  (11, [(6, .ifCond .ne 15, 3), (9, .aload 0, 1), (10, .sipush 0, 1), (11, .aload 1, 1)]),
  (15, [(12, .invokevirtual 9, 3), (15, .return_, 1)])]
/-- 3: EightBlocks$Chain.contains(I[I)Z -/
def tb_3 : am_T := [(9, [(0, .aload 0, 1), (1, .getfield 8, 3), (4, .aload 2, 1), (5, .invokestatic 46, 3), (8, .iload 1, 1), (9, .istore 3, 1)]),
  (20, [(10, .iload 3, 1), (11, .sipush 24, 2), (13, .if_icmp .ge 74, 3), (16, .aload 0, 1), (17, .getfield 8, 3), (20, .aload 0, 1)]),
  (31, [(21, .getfield 0, 3), (24, .iload 3, 1), (25, .iaload, 1), (26, .invokestatic 44, 3), (29, .istore 4, 2), (31, .aload 0, 1)]),
  (42, [(32, .iload 3, 1), (33, .iload 4, 2), (35, .invokevirtual 7, 3), (38, .ifCond .ne 43, 3), (41, .sipush 0, 1), (42, .ireturn, 1)]),
  (51, [(43, .iload 4, 2), (45, .aload 0, 1), (46, .getfield 0, 3), (49, .iload 3, 1), (50, .iaload, 1), (51, .if_icmp .eq 68, 3)]),
  (62, [(54, .aload 0, 1), (55, .getfield 8, 3), (58, .aload 0, 1), (59, .iload 3, 1), (60, .iload 4, 2), (62, .invokevirtual 8, 3)]),
  (75, [(65, .invokestatic 47, 3), (68, .iinc 3 1, 3), (71, .goto 10, 3), (74, .sipush 1, 1), (75, .ireturn, 1)])]
/-- 4: EightBlocks$Chain.orderFrom(I)I -/
def tb_4 : am_T := [(3, [(0, .sipush 1, 1), (1, .istore 2, 1), (2, .iload 1, 1), (3, .istore 3, 1)]),
  (10, [(4, .iload 3, 1), (5, .sipush 24, 2), (7, .if_icmp .ge 25, 3), (10, .iload 2, 1)]),
  (16, [(11, .aload 0, 1), (12, .getfield 1, 3), (15, .iload 3, 1), (16, .iaload, 1)]),
  (22, [(17, .imul, 1), (18, .istore 2, 1), (19, .iinc 3 1, 3), (22, .goto 4, 3)]),
  (26, [(25, .iload 2, 1), (26, .ireturn, 1)])]
/-- 5: EightBlocks$Chain.findLowest([I[I)Z -/
def tb_5 : am_T := [(9, [(0, .aload 2, 1), (1, .invokestatic 45, 3), (4, .sipush 0, 1), (5, .istore 3, 1), (6, .iload 3, 1), (7, .sipush 24, 2), (9, .if_icmp .ge 89, 3)]),
  (22, [(12, .aload 1, 1), (13, .aload 0, 1), (14, .getfield 0, 3), (17, .iload 3, 1), (18, .iaload, 1), (19, .invokestatic 44, 3), (22, .istore 4, 2)]),
  (34, [(24, .iload 4, 2), (26, .sipush (-4), 2), (28, .if_icmp .ne 40, 3), (31, .aload 0, 1), (32, .iload 3, 1), (33, .aload 2, 1), (34, .invokevirtual 6, 3)]),
  (49, [(37, .goto 46, 3), (40, .aload 2, 1), (41, .iload 4, 2), (43, .invokestatic 50, 3), (46, .istore 5, 2), (48, .aload 0, 1), (49, .iload 3, 1)]),
  (61, [(50, .iload 5, 2), (52, .invokevirtual 7, 3), (55, .ifCond .ne 60, 3), (58, .sipush 0, 1), (59, .ireturn, 1), (60, .aload 0, 1), (61, .iload 3, 1)]),
  (75, [(62, .iload 5, 2), (64, .invokevirtual 8, 3), (67, .aload 2, 1), (68, .aload 0, 1), (69, .getfield 8, 3), (72, .invokestatic 48, 3), (75, .aload 2, 1)]),
  (90, [(76, .aload 0, 1), (77, .getfield 8, 3), (80, .invokestatic 46, 3), (83, .iinc 3 1, 3), (86, .goto 6, 3), (89, .sipush 1, 1), (90, .ireturn, 1)])]
/-- 6: EightBlocks$Chain.lowestSource(I[I)I -/
def tb_6 : am_T := [(6, [(0, .aload 0, 1), (1, .getfield 0, 3), (4, .iload 1, 1), (5, .iaload, 1), (6, .istore 3, 1)]),
  (14, [(7, .sipush 0, 1), (8, .istore 4, 2), (10, .iload 4, 2), (12, .sipush 24, 2), (14, .if_icmp .ge 50, 3)]),
  (24, [(17, .aload 0, 1), (18, .iload 1, 1), (19, .iload 4, 2), (21, .invokevirtual 7, 3), (24, .ifCond .eq 44, 3)]),
  (34, [(27, .aload 2, 1), (28, .iload 4, 2), (30, .invokestatic 44, 3), (33, .aload 2, 1), (34, .iload 3, 1)]),
  (44, [(35, .invokestatic 44, 3), (38, .if_icmp .ge 44, 3), (41, .iload 4, 2), (43, .istore 3, 1), (44, .iinc 4 1, 3)]),
  (51, [(47, .goto 10, 3), (50, .iload 3, 1), (51, .ireturn, 1)])]
/-- 7: EightBlocks$Chain.isReached(II)Z -/
def tb_7 : am_T := [(6, [(0, .iload 2, 1), (1, .sipush 24, 2), (3, .invokestatic 135, 3), (6, .ifCond .ne 27, 3)]),
  (14, [(9, .aload 0, 1), (10, .getfield 2, 3), (13, .iload 1, 1), (14, .iaload, 1)]),
  (18, [(15, .iload 2, 1), (16, .ishr, 1), (17, .sipush 1, 1), (18, .iand, 1)]),
  (24, [(19, .sipush 1, 1), (20, .if_icmp .ne 27, 3), (23, .sipush 1, 1), (24, .goto 28, 3)]),
  (28, [(27, .sipush 0, 1), (28, .ireturn, 1)])]
/-- 8: EightBlocks$Chain.back(II)[I -/
def tb_8 : am_T := [(5, [(0, .aload 0, 1), (1, .getfield 4, 3), (4, .iload 1, 1), (5, .sipush 24, 2)]),
  (10, [(7, .imul, 1), (8, .iload 2, 1), (9, .iadd, 1), (10, .aaload, 1)]),
  (11, [(11, .areturn, 1)])]
/-- 9: EightBlocks$Chain.admit(I[I)V -/
def tb_9 : am_T := [(17, [(0, .iload 1, 1), (1, .sipush 24, 2), (3, .if_icmp .ge 17, 3), (6, .aload 0, 1), (7, .getfield 5, 3), (10, .iload 1, 1), (11, .iaload, 1), (12, .sipush 28, 2), (14, .if_icmp .lt 18, 3), (17, .return_, 1)]),
  (32, [(18, .aload 0, 1), (19, .getfield 5, 3), (22, .iload 1, 1), (23, .iaload, 1), (24, .istore 3, 1), (25, .aload 0, 1), (26, .getfield 6, 3), (29, .iload 1, 1), (30, .sipush 28, 2), (32, .imul, 1)]),
  (46, [(33, .iload 3, 1), (34, .iadd, 1), (35, .aaload, 1), (36, .aload 2, 1), (37, .invokestatic 46, 3), (40, .aload 0, 1), (41, .getfield 5, 3), (44, .iload 1, 1), (45, .dup2, 1), (46, .iaload, 1)]),
  (59, [(47, .sipush 1, 1), (48, .iadd, 1), (49, .iastore, 1), (50, .aload 0, 1), (51, .getfield 1, 3), (54, .iload 1, 1), (55, .iaload, 1), (56, .istore 4, 2), (58, .sipush 0, 1), (59, .istore 5, 2)]),
  (79, [(61, .iload 5, 2), (63, .aload 0, 1), (64, .getfield 1, 3), (67, .iload 1, 1), (68, .iaload, 1), (69, .if_icmp .ge 161, 3), (72, .iload 5, 2), (74, .sipush 24, 2), (76, .if_icmp .ge 161, 3), (79, .iload 5, 2)]),
  (99, [(81, .iload 4, 2), (83, .if_icmp .ge 90, 3), (86, .iload 3, 1), (87, .goto 91, 3), (90, .sipush 0, 1), (91, .istore 6, 2), (93, .iload 6, 2), (95, .iload 3, 1), (96, .if_icmp .gt 155, 3), (99, .aload 0, 1)]),
  (115, [(100, .iload 1, 1), (101, .aload 0, 1), (102, .getfield 3, 3), (105, .iload 1, 1), (106, .aaload, 1), (107, .iload 5, 2), (109, .iaload, 1), (110, .invokevirtual 8, 3), (113, .astore 7, 2), (115, .aload 7, 2)]),
  (130, [(117, .aload 0, 1), (118, .getfield 6, 3), (121, .iload 1, 1), (122, .sipush 28, 2), (124, .imul, 1), (125, .iload 6, 2), (127, .iadd, 1), (128, .aaload, 1), (129, .aload 0, 1), (130, .getfield 7, 3)]),
  (146, [(133, .iload 1, 1), (134, .aaload, 1), (135, .invokestatic 48, 3), (138, .aload 0, 1), (139, .iload 1, 1), (140, .aload 0, 1), (141, .getfield 7, 3), (144, .iload 1, 1), (145, .aaload, 1), (146, .invokevirtual 10, 3)]),
  (161, [(149, .iinc 6 1, 3), (152, .goto 93, 3), (155, .iinc 5 1, 3), (158, .goto 61, 3), (161, .return_, 1)])]
/-- 10: EightBlocks$Chain.settle(I[I)V -/
def tb_10 : am_T := [(10, [(0, .aload 2, 1), (1, .aload 0, 1), (2, .getfield 0, 3), (5, .iload 1, 1), (6, .iaload, 1), (7, .invokestatic 44, 3), (10, .istore 3, 1)]),
  (22, [(11, .iload 3, 1), (12, .sipush 24, 2), (14, .invokestatic 135, 3), (17, .ifCond .eq 21, 3), (20, .return_, 1), (21, .aload 0, 1), (22, .iload 1, 1)]),
  (33, [(23, .iload 3, 1), (24, .invokevirtual 7, 3), (27, .ifCond .ne 38, 3), (30, .aload 0, 1), (31, .iload 1, 1), (32, .iload 3, 1), (33, .aload 2, 1)]),
  (42, [(34, .invokevirtual 11, 3), (37, .return_, 1), (38, .aload 2, 1), (39, .aload 0, 1), (40, .iload 1, 1), (41, .iload 3, 1), (42, .invokevirtual 8, 3)]),
  (53, [(45, .invokestatic 47, 3), (48, .aload 0, 1), (49, .iload 1, 1), (50, .sipush 1, 1), (51, .iadd, 1), (52, .aload 2, 1), (53, .invokevirtual 3, 3)]),
  (64, [(56, .ifCond .ne 67, 3), (59, .aload 0, 1), (60, .iload 1, 1), (61, .sipush 1, 1), (62, .iadd, 1), (63, .aload 2, 1), (64, .invokevirtual 9, 3)]),
  (67, [(67, .return_, 1)])]
/-- 11: EightBlocks$Chain.reach(II[I)V -/
def tb_11 : am_T := [(8, [(0, .aload 0, 1), (1, .getfield 1, 3), (4, .iload 1, 1), (5, .iaload, 1), (6, .sipush 24, 2), (8, .if_icmp .lt 12, 3)]),
  (18, [(11, .return_, 1), (12, .aload 0, 1), (13, .getfield 3, 3), (16, .iload 1, 1), (17, .aaload, 1), (18, .aload 0, 1)]),
  (26, [(19, .getfield 1, 3), (22, .iload 1, 1), (23, .iaload, 1), (24, .iload 2, 1), (25, .iastore, 1), (26, .aload 0, 1)]),
  (34, [(27, .getfield 1, 3), (30, .iload 1, 1), (31, .dup2, 1), (32, .iaload, 1), (33, .sipush 1, 1), (34, .iadd, 1)]),
  (42, [(35, .iastore, 1), (36, .aload 0, 1), (37, .getfield 2, 3), (40, .iload 1, 1), (41, .dup2, 1), (42, .iaload, 1)]),
  (48, [(43, .sipush 1, 1), (44, .iload 2, 1), (45, .ishl, 1), (46, .ior, 1), (47, .iastore, 1), (48, .aload 3, 1)]),
  (58, [(49, .aload 0, 1), (50, .iload 1, 1), (51, .iload 2, 1), (52, .invokevirtual 8, 3), (55, .invokestatic 49, 3), (58, .return_, 1)])]
/-- 12: EightBlocks$Cycles.init()V -/
def tb_12 : am_T := [(5, [(0, .aload 0, 1), (1, .monitorexit, 3), (4, .aload 0, 1), (5, .sipush 74, 2)]),
  (12, [(7, .newarray .int, 2), (9, .putfield 64, 3), (12, .return_, 1)])]
/-- 13: EightBlocks$Cycles.write([I)I -/
def tb_13 : am_T := [(6, [(0, .aload 0, 1), (1, .sipush 0, 1), (2, .putfield 65, 3), (5, .sipush 0, 1), (6, .istore 2, 1)]),
  (14, [(7, .iload 2, 1), (8, .sipush 24, 2), (10, .if_icmp .ge 42, 3), (13, .aload 1, 1), (14, .iload 2, 1)]),
  (23, [(15, .invokestatic 44, 3), (18, .iload 2, 1), (19, .if_icmp .eq 36, 3), (22, .aload 1, 1), (23, .iload 2, 1)]),
  (32, [(24, .invokestatic 55, 3), (27, .ifCond .eq 36, 3), (30, .aload 0, 1), (31, .aload 1, 1), (32, .iload 2, 1)]),
  (43, [(33, .invokevirtual 14, 3), (36, .iinc 2 1, 3), (39, .goto 7, 3), (42, .aload 0, 1), (43, .getfield 65, 3)]),
  (46, [(46, .ireturn, 1)])]
/-- 14: EightBlocks$Cycles.writeCycle([II)V -/
def tb_14 : am_T := [(9, [(0, .aload 1, 1), (1, .iload 2, 1), (2, .invokestatic 54, 3), (5, .istore 3, 1), (6, .iload 2, 1), (7, .istore 4, 2), (9, .sipush 0, 1)]),
  (21, [(10, .istore 5, 2), (12, .iload 5, 2), (14, .iload 3, 1), (15, .if_icmp .ge 79, 3), (18, .aload 0, 1), (19, .iload 5, 2), (21, .ifCond .ne 29, 3)]),
  (38, [(24, .sipush 40, 2), (26, .goto 31, 3), (29, .sipush 44, 2), (31, .invokevirtual 15, 3), (34, .iload 4, 2), (36, .sipush 10, 2), (38, .if_icmp .lt 53, 3)]),
  (50, [(41, .aload 0, 1), (42, .sipush 48, 2), (44, .iload 4, 2), (46, .sipush 10, 2), (48, .idiv, 1), (49, .iadd, 1), (50, .invokevirtual 15, 3)]),
  (62, [(53, .aload 0, 1), (54, .sipush 48, 2), (56, .iload 4, 2), (58, .sipush 10, 2), (60, .irem, 1), (61, .iadd, 1), (62, .invokevirtual 15, 3)]),
  (79, [(65, .aload 1, 1), (66, .iload 4, 2), (68, .invokestatic 44, 3), (71, .istore 4, 2), (73, .iinc 5 1, 3), (76, .goto 12, 3), (79, .aload 0, 1)]),
  (85, [(80, .sipush 41, 2), (82, .invokevirtual 15, 3), (85, .return_, 1)])]
/-- 15: EightBlocks$Cycles.append(I)V -/
def tb_15 : am_T := [(6, [(0, .aload 0, 1), (1, .getfield 65, 3), (4, .sipush 74, 2), (6, .if_icmp .ge 29, 3)]),
  (14, [(9, .aload 0, 1), (10, .getfield 64, 3), (13, .aload 0, 1), (14, .getfield 65, 3)]),
  (20, [(17, .iload 1, 1), (18, .iastore, 1), (19, .aload 0, 1), (20, .dup, 1)]),
  (26, [(21, .getfield 65, 3), (24, .sipush 1, 1), (25, .iadd, 1), (26, .putfield 65, 3)]),
  (29, [(29, .return_, 1)])]
/-- 16: EightBlocks$Cycles.letterAt(I)I -/
def tb_16 : am_T := [(5, [(0, .iload 1, 1), (1, .ifCond .lt 27, 3), (4, .iload 1, 1), (5, .aload 0, 1)]),
  (13, [(6, .getfield 65, 3), (9, .if_icmp .ge 27, 3), (12, .iload 1, 1), (13, .sipush 74, 2)]),
  (22, [(15, .if_icmp .ge 27, 3), (18, .aload 0, 1), (19, .getfield 64, 3), (22, .iload 1, 1)]),
  (29, [(23, .iaload, 1), (24, .goto 29, 3), (27, .sipush (-4), 2), (29, .ireturn, 1)])]
/-- 17: EightBlocks$Golay.init()V -/
def tb_17 : am_T := [(14, [(0, .aload 0, 1), (1, .monitorexit, 3), (4, .aload 0, 1), (5, .sipush 4096, 3), (8, .newarray .int, 2), (10, .putfield 128, 3), (13, .aload 0, 1), (14, .sipush 759, 3)]),
  (32, [(17, .newarray .int, 2), (19, .putfield 129, 3), (22, .aload 0, 1), (23, .sipush 2576, 3), (26, .newarray .int, 2), (28, .putfield 130, 3), (31, .aload 0, 1), (32, .sipush 4096, 3)]),
  (49, [(35, .newarray .int, 2), (37, .putfield 131, 3), (40, .aload 0, 1), (41, .sipush 12, 2), (43, .newarray .int, 2), (45, .putfield 132, 3), (48, .aload 0, 1), (49, .sipush 4096, 3)]),
  (64, [(52, .newarray .int, 2), (54, .putfield 133, 3), (57, .aload 0, 1), (58, .invokevirtual 18, 3), (61, .sipush 0, 1), (62, .istore 1, 1), (63, .iload 1, 1), (64, .sipush 4096, 3)]),
  (80, [(67, .if_icmp .ge 102, 3), (70, .aload 0, 1), (71, .iload 1, 1), (72, .invokevirtual 23, 3), (75, .istore 2, 1), (76, .aload 0, 1), (77, .getfield 128, 3), (80, .iload 2, 1)]),
  (94, [(81, .invokestatic 21, 3), (84, .iload 2, 1), (85, .iastore, 1), (86, .aload 0, 1), (87, .getfield 133, 3), (90, .iload 2, 1), (91, .invokestatic 21, 3), (94, .iload 1, 1)]),
  (109, [(95, .iastore, 1), (96, .iinc 1 1, 3), (99, .goto 63, 3), (102, .aload 0, 1), (103, .sipush 8, 2), (105, .aload 0, 1), (106, .getfield 129, 3), (109, .invokevirtual 19, 3)]),
  (126, [(112, .aload 0, 1), (113, .sipush 12, 2), (115, .aload 0, 1), (116, .getfield 130, 3), (119, .invokevirtual 19, 3), (122, .aload 0, 1), (123, .invokevirtual 20, 3), (126, .return_, 1)])]
/-- 18: EightBlocks$Golay.fillBasis()V -/
def tb_18 : am_T := [(9, [(0, .sipush 0, 1), (1, .istore 1, 1), (2, .iload 1, 1), (3, .sipush 12, 2), (5, .if_icmp .ge 70, 3), (8, .aload 0, 1), (9, .getfield 132, 3)]),
  (21, [(12, .iload 1, 1), (13, .sipush 8388608, 2), (15, .iastore, 1), (16, .getstatic 0, 3), (19, .astore 2, 1), (20, .aload 2, 1), (21, .arraylength, 1)]),
  (32, [(22, .istore 3, 1), (23, .sipush 0, 1), (24, .istore 4, 2), (26, .iload 4, 2), (28, .iload 3, 1), (29, .if_icmp .ge 64, 3), (32, .aload 2, 1)]),
  (43, [(33, .iload 4, 2), (35, .iaload, 1), (36, .istore 5, 2), (38, .aload 0, 1), (39, .getfield 132, 3), (42, .iload 1, 1), (43, .dup2, 1)]),
  (52, [(44, .iaload, 1), (45, .sipush 1, 1), (46, .iload 5, 2), (48, .iload 1, 1), (49, .isub, 1), (50, .sipush 23, 2), (52, .invokestatic 255, 3)]),
  (67, [(55, .ishl, 1), (56, .ior, 1), (57, .iastore, 1), (58, .iinc 4 1, 3), (61, .goto 26, 3), (64, .iinc 1 1, 3), (67, .goto 2, 3)]),
  (70, [(70, .return_, 1)])]
/-- 19: EightBlocks$Golay.fillWordsOfWeight(I[I)V -/
def tb_19 : am_T := [(8, [(0, .sipush 0, 1), (1, .istore 3, 1), (2, .aload 0, 1), (3, .getfield 128, 3), (6, .astore 4, 2), (8, .aload 4, 2)]),
  (18, [(10, .arraylength, 1), (11, .istore 5, 2), (13, .sipush 0, 1), (14, .istore 6, 2), (16, .iload 6, 2), (18, .iload 5, 2)]),
  (30, [(20, .if_icmp .ge 59, 3), (23, .aload 4, 2), (25, .iload 6, 2), (27, .iaload, 1), (28, .istore 7, 2), (30, .iload 7, 2)]),
  (41, [(32, .invokestatic 254, 3), (35, .iload 1, 1), (36, .if_icmp .ne 53, 3), (39, .iload 3, 1), (40, .aload 2, 1), (41, .arraylength, 1)]),
  (50, [(42, .if_icmp .ge 53, 3), (45, .aload 2, 1), (46, .iload 3, 1), (47, .iload 7, 2), (49, .iastore, 1), (50, .iinc 3 1, 3)]),
  (59, [(53, .iinc 6 1, 3), (56, .goto 16, 3), (59, .return_, 1)])]
/-- 20: EightBlocks$Golay.fillLeaders()V -/
def tb_20 : am_T := [(9, [(0, .sipush 0, 1), (1, .istore 1, 1), (2, .iload 1, 1), (3, .sipush 24, 2), (5, .if_icmp .ge 94, 3), (8, .iload 1, 1), (9, .istore 2, 1)]),
  (19, [(10, .iload 2, 1), (11, .sipush 24, 2), (13, .if_icmp .ge 88, 3), (16, .iload 2, 1), (17, .istore 3, 1), (18, .iload 3, 1), (19, .sipush 24, 2)]),
  (29, [(21, .if_icmp .ge 82, 3), (24, .sipush 1, 1), (25, .iload 1, 1), (26, .ishl, 1), (27, .sipush 1, 1), (28, .iload 2, 1), (29, .ishl, 1)]),
  (37, [(30, .ior, 1), (31, .sipush 1, 1), (32, .iload 3, 1), (33, .ishl, 1), (34, .ior, 1), (35, .istore 4, 2), (37, .aload 0, 1)]),
  (50, [(38, .getfield 131, 3), (41, .aload 0, 1), (42, .iload 4, 2), (44, .invokevirtual 22, 3), (47, .iload 4, 2), (49, .iastore, 1), (50, .iload 4, 2)]),
  (64, [(52, .invokestatic 254, 3), (55, .sipush 3, 1), (56, .if_icmp .ne 76, 3), (59, .aload 0, 1), (60, .getfield 131, 3), (63, .aload 0, 1), (64, .iload 4, 2)]),
  (75, [(66, .sipush 1, 1), (67, .ior, 1), (68, .invokevirtual 22, 3), (71, .iload 4, 2), (73, .sipush 1, 1), (74, .ior, 1), (75, .iastore, 1)]),
  (94, [(76, .iinc 3 1, 3), (79, .goto 18, 3), (82, .iinc 2 1, 3), (85, .goto 10, 3), (88, .iinc 1 1, 3), (91, .goto 2, 3), (94, .return_, 1)])]
/-- 21: EightBlocks$Golay.place(I)I -/
def tb_21 : am_T := [(4, [(0, .iload 0, 1), (1, .sipush 12, 2), (3, .ishr, 1), (4, .sipush 4095, 3)]),
  (8, [(7, .iand, 1), (8, .ireturn, 1)])]
/-- 22: EightBlocks$Golay.rest(I)I -/
def tb_22 : am_T := [(5, [(0, .iload 1, 1), (1, .aload 0, 1), (2, .getfield 128, 3), (5, .iload 1, 1)]),
  (11, [(6, .invokestatic 21, 3), (9, .iaload, 1), (10, .ixor, 1), (11, .sipush 4095, 3)]),
  (15, [(14, .iand, 1), (15, .ireturn, 1)])]
/-- 23: EightBlocks$Golay.wordOf(I)I -/
def tb_23 : am_T := [(4, [(0, .sipush 0, 1), (1, .istore 2, 1), (2, .sipush 0, 1), (3, .istore 3, 1), (4, .iload 3, 1)]),
  (12, [(5, .sipush 12, 2), (7, .if_icmp .ge 34, 3), (10, .iload 1, 1), (11, .iload 3, 1), (12, .ishr, 1)]),
  (19, [(13, .sipush 1, 1), (14, .iand, 1), (15, .sipush 1, 1), (16, .if_icmp .ne 28, 3), (19, .iload 2, 1)]),
  (26, [(20, .aload 0, 1), (21, .getfield 132, 3), (24, .iload 3, 1), (25, .iaload, 1), (26, .ixor, 1)]),
  (35, [(27, .istore 2, 1), (28, .iinc 3 1, 3), (31, .goto 4, 3), (34, .iload 2, 1), (35, .ireturn, 1)])]
/-- 24: EightBlocks$Golay.isWord(I)Z -/
def tb_24 : am_T := [(5, [(0, .aload 0, 1), (1, .getfield 128, 3), (4, .iload 1, 1), (5, .invokestatic 21, 3)]),
  (13, [(8, .iaload, 1), (9, .iload 1, 1), (10, .if_icmp .ne 17, 3), (13, .sipush 1, 1)]),
  (18, [(14, .goto 18, 3), (17, .sipush 0, 1), (18, .ireturn, 1)])]
/-- 25: EightBlocks$Golay.numberOf(I)I -/
def tb_25 : am_T := [(5, [(0, .aload 0, 1), (1, .getfield 133, 3), (4, .iload 1, 1), (5, .invokestatic 21, 3)]),
  (9, [(8, .iaload, 1), (9, .ireturn, 1)])]
/-- 26: EightBlocks$Golay.distance(I)I -/
def tb_26 : am_T := [(5, [(0, .aload 0, 1), (1, .getfield 131, 3), (4, .aload 0, 1), (5, .iload 1, 1)]),
  (13, [(6, .invokevirtual 22, 3), (9, .iaload, 1), (10, .invokestatic 254, 3), (13, .ireturn, 1)])]
/-- 27: EightBlocks$Golay.lowestNearest(I)I -/
def tb_27 : am_T := [(9, [(0, .aload 0, 1), (1, .getfield 131, 3), (4, .aload 0, 1), (5, .iload 1, 1), (6, .invokevirtual 22, 3), (9, .iaload, 1)]),
  (15, [(10, .istore 2, 1), (11, .iload 1, 1), (12, .iload 2, 1), (13, .ixor, 1), (14, .istore 3, 1), (15, .iload 2, 1)]),
  (26, [(16, .invokestatic 254, 3), (19, .sipush 4, 1), (20, .if_icmp .ne 53, 3), (23, .sipush 0, 1), (24, .istore 4, 2), (26, .iload 4, 2)]),
  (36, [(28, .sipush 6, 2), (30, .if_icmp .ge 53, 3), (33, .iload 3, 1), (34, .iload 1, 1), (35, .aload 0, 1), (36, .iload 2, 1)]),
  (47, [(37, .iload 4, 2), (39, .invokevirtual 35, 3), (42, .ixor, 1), (43, .invokeinterface 0 0, 3), (46, .istore 3, 1), (47, .iinc 4 1, 3)]),
  (54, [(50, .goto 26, 3), (53, .iload 3, 1), (54, .ireturn, 1)])]
/-- 28: EightBlocks$Golay.octadsInside(I)I -/
def tb_28 : am_T := [(6, [(0, .sipush 0, 1), (1, .istore 2, 1), (2, .aload 0, 1), (3, .getfield 129, 3), (6, .astore 3, 1)]),
  (12, [(7, .aload 3, 1), (8, .arraylength, 1), (9, .istore 4, 2), (11, .sipush 0, 1), (12, .istore 5, 2)]),
  (22, [(14, .iload 5, 2), (16, .iload 4, 2), (18, .if_icmp .ge 45, 3), (21, .aload 3, 1), (22, .iload 5, 2)]),
  (30, [(24, .iaload, 1), (25, .istore 6, 2), (27, .iload 6, 2), (29, .iload 1, 1), (30, .sipush (-1), 1)]),
  (39, [(31, .ixor, 1), (32, .iand, 1), (33, .ifCond .ne 39, 3), (36, .iinc 2 1, 3), (39, .iinc 5 1, 3)]),
  (46, [(42, .goto 14, 3), (45, .iload 2, 1), (46, .ireturn, 1)])]
/-- 29: EightBlocks$Golay.octadsAround(I)I -/
def tb_29 : am_T := [(6, [(0, .sipush 0, 1), (1, .istore 2, 1), (2, .aload 0, 1), (3, .getfield 129, 3), (6, .astore 3, 1)]),
  (12, [(7, .aload 3, 1), (8, .arraylength, 1), (9, .istore 4, 2), (11, .sipush 0, 1), (12, .istore 5, 2)]),
  (22, [(14, .iload 5, 2), (16, .iload 4, 2), (18, .if_icmp .ge 45, 3), (21, .aload 3, 1), (22, .iload 5, 2)]),
  (30, [(24, .iaload, 1), (25, .istore 6, 2), (27, .iload 1, 1), (28, .iload 6, 2), (30, .sipush (-1), 1)]),
  (39, [(31, .ixor, 1), (32, .iand, 1), (33, .ifCond .ne 39, 3), (36, .iinc 2 1, 3), (39, .iinc 5 1, 3)]),
  (46, [(42, .goto 14, 3), (45, .iload 2, 1), (46, .ireturn, 1)])]
/-- 30: EightBlocks$Golay.octadsMeeting(II)I -/
def tb_30 : am_T := [(6, [(0, .sipush 0, 1), (1, .istore 3, 1), (2, .aload 0, 1), (3, .getfield 129, 3), (6, .astore 4, 2)]),
  (14, [(8, .aload 4, 2), (10, .arraylength, 1), (11, .istore 5, 2), (13, .sipush 0, 1), (14, .istore 6, 2)]),
  (25, [(16, .iload 6, 2), (18, .iload 5, 2), (20, .if_icmp .ge 50, 3), (23, .aload 4, 2), (25, .iload 6, 2)]),
  (33, [(27, .iaload, 1), (28, .istore 7, 2), (30, .iload 7, 2), (32, .iload 1, 1), (33, .iand, 1)]),
  (44, [(34, .invokestatic 254, 3), (37, .iload 2, 1), (38, .if_icmp .ne 44, 3), (41, .iinc 3 1, 3), (44, .iinc 6 1, 3)]),
  (51, [(47, .goto 16, 3), (50, .iload 3, 1), (51, .ireturn, 1)])]
/-- 31: EightBlocks$Golay.octadsFixedBy([I)I -/
def tb_31 : am_T := [(6, [(0, .sipush 0, 1), (1, .istore 2, 1), (2, .aload 0, 1), (3, .getfield 129, 3), (6, .astore 3, 1)]),
  (12, [(7, .aload 3, 1), (8, .arraylength, 1), (9, .istore 4, 2), (11, .sipush 0, 1), (12, .istore 5, 2)]),
  (22, [(14, .iload 5, 2), (16, .iload 4, 2), (18, .if_icmp .ge 47, 3), (21, .aload 3, 1), (22, .iload 5, 2)]),
  (30, [(24, .iaload, 1), (25, .istore 6, 2), (27, .aload 1, 1), (28, .iload 6, 2), (30, .invokestatic 51, 3)]),
  (44, [(33, .iload 6, 2), (35, .if_icmp .ne 41, 3), (38, .iinc 2 1, 3), (41, .iinc 5 1, 3), (44, .goto 14, 3)]),
  (48, [(47, .iload 2, 1), (48, .ireturn, 1)])]
/-- 32: EightBlocks$Golay.isPreservedBy([I)Z -/
def tb_32 : am_T := [(6, [(0, .aload 0, 1), (1, .getfield 132, 3), (4, .astore 2, 1), (5, .aload 2, 1), (6, .arraylength, 1)]),
  (13, [(7, .istore 3, 1), (8, .sipush 0, 1), (9, .istore 4, 2), (11, .iload 4, 2), (13, .iload 3, 1)]),
  (21, [(14, .if_icmp .ge 44, 3), (17, .aload 2, 1), (18, .iload 4, 2), (20, .iaload, 1), (21, .istore 5, 2)]),
  (30, [(23, .aload 0, 1), (24, .aload 1, 1), (25, .iload 5, 2), (27, .invokestatic 51, 3), (30, .invokevirtual 24, 3)]),
  (41, [(33, .ifCond .ne 38, 3), (36, .sipush 0, 1), (37, .ireturn, 1), (38, .iinc 4 1, 3), (41, .goto 11, 3)]),
  (45, [(44, .sipush 1, 1), (45, .ireturn, 1)])]
/-- 33: EightBlocks$Golay.octadWith(I)I -/
def tb_33 : am_T := [(5, [(0, .iload 1, 1), (1, .aload 0, 1), (2, .getfield 131, 3), (5, .aload 0, 1)]),
  (11, [(6, .iload 1, 1), (7, .invokevirtual 22, 3), (10, .iaload, 1), (11, .ixor, 1)]),
  (12, [(12, .ireturn, 1)])]
/-- 34: EightBlocks$Golay.tetradWith(II)I -/
def tb_34 : am_T := [(3, [(0, .iload 1, 1), (1, .iload 2, 1), (2, .iand, 1), (3, .ifCond .eq 10, 3)]),
  (11, [(6, .iload 1, 1), (7, .goto 19, 3), (10, .iload 1, 1), (11, .aload 0, 1)]),
  (15, [(12, .iload 1, 1), (13, .iload 2, 1), (14, .ior, 1), (15, .invokevirtual 33, 3)]),
  (19, [(18, .ixor, 1), (19, .ireturn, 1)])]
/-- 35: EightBlocks$Golay.tetrad(II)I -/
def tb_35 : am_T := [(6, [(0, .sipush 0, 1), (1, .istore 3, 1), (2, .sipush 0, 1), (3, .istore 4, 2), (5, .sipush 0, 1), (6, .istore 5, 2)]),
  (18, [(8, .iload 5, 2), (10, .iload 2, 1), (11, .if_icmp .gt 53, 3), (14, .iload 5, 2), (16, .sipush 6, 2), (18, .if_icmp .ge 53, 3)]),
  (27, [(21, .sipush 16777215, 2), (23, .iload 3, 1), (24, .sipush (-1), 1), (25, .ixor, 1), (26, .iand, 1), (27, .istore 6, 2)]),
  (36, [(29, .aload 0, 1), (30, .iload 1, 1), (31, .iload 6, 2), (33, .iload 6, 2), (35, .ineg, 1), (36, .iand, 1)]),
  (46, [(37, .invokevirtual 34, 3), (40, .istore 4, 2), (42, .iload 3, 1), (43, .iload 4, 2), (45, .ior, 1), (46, .istore 3, 1)]),
  (55, [(47, .iinc 5 1, 3), (50, .goto 8, 3), (53, .iload 4, 2), (55, .ireturn, 1)])]
/-- 36: EightBlocks$Golay.isUnionOfTetrads(II)Z -/
def tb_36 : am_T := [(5, [(0, .sipush 0, 1), (1, .istore 3, 1), (2, .iload 3, 1), (3, .sipush 6, 2), (5, .if_icmp .ge 42, 3)]),
  (14, [(8, .aload 0, 1), (9, .iload 2, 1), (10, .iload 3, 1), (11, .invokevirtual 35, 3), (14, .istore 4, 2)]),
  (22, [(16, .iload 4, 2), (18, .iload 1, 1), (19, .iand, 1), (20, .istore 5, 2), (22, .iload 5, 2)]),
  (34, [(24, .ifCond .eq 36, 3), (27, .iload 5, 2), (29, .iload 4, 2), (31, .if_icmp .eq 36, 3), (34, .sipush 0, 1)]),
  (43, [(35, .ireturn, 1), (36, .iinc 3 1, 3), (39, .goto 2, 3), (42, .sipush 1, 1), (43, .ireturn, 1)])]
/-- 37: EightBlocks$Golay.sharedOctads(II)I -/
def tb_37 : am_T := [(7, [(0, .sipush 0, 1), (1, .istore 3, 1), (2, .sipush 0, 1), (3, .istore 4, 2), (5, .iload 4, 2), (7, .sipush 6, 2)]),
  (18, [(9, .if_icmp .ge 67, 3), (12, .iload 4, 2), (14, .sipush 1, 1), (15, .iadd, 1), (16, .istore 5, 2), (18, .iload 5, 2)]),
  (29, [(20, .sipush 6, 2), (22, .if_icmp .ge 61, 3), (25, .aload 0, 1), (26, .iload 1, 1), (27, .iload 4, 2), (29, .invokevirtual 35, 3)]),
  (40, [(32, .aload 0, 1), (33, .iload 1, 1), (34, .iload 5, 2), (36, .invokevirtual 35, 3), (39, .ior, 1), (40, .istore 6, 2)]),
  (52, [(42, .aload 0, 1), (43, .iload 6, 2), (45, .iload 2, 1), (46, .invokevirtual 36, 3), (49, .ifCond .eq 55, 3), (52, .iinc 3 1, 3)]),
  (68, [(55, .iinc 5 1, 3), (58, .goto 18, 3), (61, .iinc 4 1, 3), (64, .goto 5, 3), (67, .iload 3, 1), (68, .ireturn, 1)])]
/-- 38: EightBlocks$History.init()V -/
def tb_38 : am_T := [(8, [(0, .aload 0, 1), (1, .monitorexit, 3), (4, .aload 0, 1), (5, .new 6, 3), (8, .dup, 1)]),
  (18, [(9, .invokespecial 78, 3), (12, .putfield 192, 3), (15, .aload 0, 1), (16, .sipush 6, 2), (18, .anewarray 0, 3)]),
  (27, [(21, .putfield 193, 3), (24, .sipush 0, 1), (25, .istore 1, 1), (26, .iload 1, 1), (27, .sipush 6, 2)]),
  (37, [(29, .if_icmp .ge 51, 3), (32, .aload 0, 1), (33, .getfield 193, 3), (36, .iload 1, 1), (37, .new 6, 3)]),
  (48, [(40, .dup, 1), (41, .invokespecial 78, 3), (44, .aastore, 1), (45, .iinc 1 1, 3), (48, .goto 26, 3)]),
  (51, [(51, .return_, 1)])]
/-- 39: EightBlocks$History.keep()V -/
def tb_39 : am_T := [(9, [(0, .aload 0, 1), (1, .getfield 194, 3), (4, .sipush 6, 2), (6, .if_icmp .lt 13, 3), (9, .aload 0, 1)]),
  (18, [(10, .invokevirtual 40, 3), (13, .aload 0, 1), (14, .getfield 193, 3), (17, .aload 0, 1), (18, .getfield 194, 3)]),
  (29, [(21, .aaload, 1), (22, .aload 0, 1), (23, .getfield 192, 3), (26, .invokevirtual 79, 3), (29, .aload 0, 1)]),
  (36, [(30, .dup, 1), (31, .getfield 194, 3), (34, .sipush 1, 1), (35, .iadd, 1), (36, .putfield 194, 3)]),
  (39, [(39, .return_, 1)])]
/-- 40: EightBlocks$History.forgetOldest()V -/
def tb_40 : am_T := [(7, [(0, .aload 0, 1), (1, .getfield 193, 3), (4, .sipush 0, 1), (5, .aaload, 1), (6, .astore 1, 1), (7, .sipush 1, 1)]),
  (16, [(8, .istore 2, 1), (9, .iload 2, 1), (10, .sipush 6, 2), (12, .if_icmp .ge 35, 3), (15, .aload 0, 1), (16, .getfield 193, 3)]),
  (26, [(19, .iload 2, 1), (20, .sipush 1, 1), (21, .isub, 1), (22, .aload 0, 1), (23, .getfield 193, 3), (26, .iload 2, 1)]),
  (36, [(27, .aaload, 1), (28, .aastore, 1), (29, .iinc 2 1, 3), (32, .goto 9, 3), (35, .aload 0, 1), (36, .getfield 193, 3)]),
  (44, [(39, .sipush 5, 1), (40, .aload 1, 1), (41, .aastore, 1), (42, .aload 0, 1), (43, .sipush 5, 1), (44, .putfield 194, 3)]),
  (47, [(47, .return_, 1)])]
/-- 41: EightBlocks$History.takeBack()I -/
def tb_41 : am_T := [(8, [(0, .aload 0, 1), (1, .getfield 194, 3), (4, .sipush 1, 1), (5, .if_icmp .ge 11, 3), (8, .sipush (-4), 2)]),
  (16, [(10, .ireturn, 1), (11, .aload 0, 1), (12, .dup, 1), (13, .getfield 194, 3), (16, .sipush 1, 1)]),
  (25, [(17, .isub, 1), (18, .putfield 194, 3), (21, .aload 0, 1), (22, .getfield 192, 3), (25, .aload 0, 1)]),
  (34, [(26, .getfield 193, 3), (29, .aload 0, 1), (30, .getfield 194, 3), (33, .aaload, 1), (34, .invokevirtual 79, 3)]),
  (41, [(37, .aload 0, 1), (38, .getfield 194, 3), (41, .ireturn, 1)])]
/-- 42: EightBlocks$History.become(LEightBlocks$History;)V -/
def tb_42 : am_T := [(8, [(0, .aload 0, 1), (1, .getfield 192, 3), (4, .aload 1, 1), (5, .getfield 192, 3), (8, .invokevirtual 79, 3)]),
  (16, [(11, .sipush 0, 1), (12, .istore 2, 1), (13, .iload 2, 1), (14, .sipush 6, 2), (16, .if_icmp .ge 40, 3)]),
  (25, [(19, .aload 0, 1), (20, .getfield 193, 3), (23, .iload 2, 1), (24, .aaload, 1), (25, .aload 1, 1)]),
  (34, [(26, .getfield 193, 3), (29, .iload 2, 1), (30, .aaload, 1), (31, .invokevirtual 79, 3), (34, .iinc 2 1, 3)]),
  (45, [(37, .goto 13, 3), (40, .aload 0, 1), (41, .aload 1, 1), (42, .getfield 194, 3), (45, .putfield 194, 3)]),
  (48, [(48, .return_, 1)])]
/-- 43: EightBlocks$Moves.fillNamed([[I)V -/
def tb_43 : am_T := [(13, [(0, .sipush 0, 1), (1, .istore 1, 1), (2, .iload 1, 1), (3, .sipush 5, 1), (4, .if_icmp .ge 19, 3), (7, .aload 0, 1), (8, .iload 1, 1), (9, .aaload, 1), (10, .invokestatic 45, 3), (13, .iinc 1 1, 3)]),
  (30, [(16, .goto 2, 3), (19, .sipush 0, 1), (20, .istore 1, 1), (21, .iload 1, 1), (22, .sipush 23, 2), (24, .if_icmp .ge 117, 3), (27, .aload 0, 1), (28, .sipush 0, 1), (29, .aaload, 1), (30, .iload 1, 1)]),
  (41, [(31, .iload 1, 1), (32, .sipush 1, 1), (33, .iadd, 1), (34, .sipush 23, 2), (36, .irem, 1), (37, .iastore, 1), (38, .aload 0, 1), (39, .sipush 1, 1), (40, .aaload, 1), (41, .iload 1, 1)]),
  (52, [(42, .sipush 2, 1), (43, .iload 1, 1), (44, .imul, 1), (45, .sipush 23, 2), (47, .irem, 1), (48, .iastore, 1), (49, .aload 0, 1), (50, .sipush 3, 1), (51, .aaload, 1), (52, .iload 1, 1)]),
  (68, [(53, .sipush 340830, 2), (55, .iload 1, 1), (56, .ishr, 1), (57, .sipush 1, 1), (58, .iand, 1), (59, .sipush 1, 1), (60, .if_icmp .ne 68, 3), (63, .sipush 18, 2), (65, .goto 70, 3), (68, .sipush 9, 2)]),
  (80, [(70, .iload 1, 1), (71, .imul, 1), (72, .iload 1, 1), (73, .imul, 1), (74, .iload 1, 1), (75, .imul, 1), (76, .sipush 23, 2), (78, .irem, 1), (79, .iastore, 1), (80, .sipush 0, 1)]),
  (94, [(81, .istore 2, 1), (82, .iload 2, 1), (83, .sipush 23, 2), (85, .if_icmp .ge 111, 3), (88, .iload 1, 1), (89, .iload 2, 1), (90, .imul, 1), (91, .sipush 23, 2), (93, .irem, 1), (94, .sipush 22, 2)]),
  (111, [(96, .if_icmp .ne 105, 3), (99, .aload 0, 1), (100, .sipush 2, 1), (101, .aaload, 1), (102, .iload 1, 1), (103, .iload 2, 1), (104, .iastore, 1), (105, .iinc 2 1, 3), (108, .goto 82, 3), (111, .iinc 1 1, 3)]),
  (126, [(114, .goto 21, 3), (117, .aload 0, 1), (118, .sipush 2, 1), (119, .aaload, 1), (120, .sipush 0, 1), (121, .sipush 23, 2), (123, .iastore, 1), (124, .aload 0, 1), (125, .sipush 2, 1), (126, .aaload, 1)]),
  (131, [(127, .sipush 23, 2), (129, .sipush 0, 1), (130, .iastore, 1), (131, .return_, 1)])]
/-- 44: EightBlocks$Moves.to([II)I -/
def tb_44 : am_T := [(5, [(0, .iload 1, 1), (1, .ifCond .lt 16, 3), (4, .iload 1, 1), (5, .aload 0, 1)]),
  (11, [(6, .arraylength, 1), (7, .if_icmp .ge 16, 3), (10, .aload 0, 1), (11, .iload 1, 1)]),
  (17, [(12, .iaload, 1), (13, .goto 17, 3), (16, .iload 1, 1), (17, .ireturn, 1)])]
/-- 45: EightBlocks$Moves.makeSame([I)V -/
def tb_45 : am_T := [(3, [(0, .sipush 0, 1), (1, .istore 1, 1), (2, .iload 1, 1), (3, .aload 0, 1)]),
  (9, [(4, .arraylength, 1), (5, .if_icmp .ge 18, 3), (8, .aload 0, 1), (9, .iload 1, 1)]),
  (15, [(10, .iload 1, 1), (11, .iastore, 1), (12, .iinc 1 1, 3), (15, .goto 2, 3)]),
  (18, [(18, .return_, 1)])]
/-- 46: EightBlocks$Moves.assign([I[I)V -/
def tb_46 : am_T := [(3, [(0, .sipush 0, 1), (1, .istore 2, 1), (2, .iload 2, 1), (3, .aload 0, 1)]),
  (9, [(4, .arraylength, 1), (5, .if_icmp .ge 26, 3), (8, .iload 2, 1), (9, .aload 1, 1)]),
  (15, [(10, .arraylength, 1), (11, .if_icmp .ge 26, 3), (14, .aload 0, 1), (15, .iload 2, 1)]),
  (19, [(16, .aload 1, 1), (17, .iload 2, 1), (18, .iaload, 1), (19, .iastore, 1)]),
  (26, [(20, .iinc 2 1, 3), (23, .goto 2, 3), (26, .return_, 1)])]
/-- 47: EightBlocks$Moves.follow([I[I)V -/
def tb_47 : am_T := [(3, [(0, .sipush 0, 1), (1, .istore 2, 1), (2, .iload 2, 1), (3, .aload 0, 1)]),
  (9, [(4, .arraylength, 1), (5, .if_icmp .ge 24, 3), (8, .aload 0, 1), (9, .iload 2, 1)]),
  (13, [(10, .aload 1, 1), (11, .aload 0, 1), (12, .iload 2, 1), (13, .iaload, 1)]),
  (21, [(14, .invokestatic 44, 3), (17, .iastore, 1), (18, .iinc 2 1, 3), (21, .goto 2, 3)]),
  (24, [(24, .return_, 1)])]
/-- 48: EightBlocks$Moves.combine([I[I[I)V -/
def tb_48 : am_T := [(4, [(0, .sipush 0, 1), (1, .istore 3, 1), (2, .iload 3, 1), (3, .aload 0, 1), (4, .arraylength, 1)]),
  (11, [(5, .if_icmp .ge 44, 3), (8, .iload 3, 1), (9, .aload 1, 1), (10, .arraylength, 1), (11, .if_icmp .ge 44, 3)]),
  (19, [(14, .aload 0, 1), (15, .iload 3, 1), (16, .iaload, 1), (17, .istore 4, 2), (19, .iload 4, 2)]),
  (28, [(21, .ifCond .lt 38, 3), (24, .iload 4, 2), (26, .aload 2, 1), (27, .arraylength, 1), (28, .if_icmp .ge 38, 3)]),
  (36, [(31, .aload 2, 1), (32, .iload 4, 2), (34, .aload 1, 1), (35, .iload 3, 1), (36, .iaload, 1)]),
  (44, [(37, .iastore, 1), (38, .iinc 3 1, 3), (41, .goto 2, 3), (44, .return_, 1)])]
/-- 49: EightBlocks$Moves.invert([I[I)V -/
def tb_49 : am_T := [(4, [(0, .sipush 0, 1), (1, .istore 2, 1), (2, .iload 2, 1), (3, .aload 0, 1), (4, .arraylength, 1)]),
  (11, [(5, .if_icmp .ge 32, 3), (8, .aload 0, 1), (9, .iload 2, 1), (10, .iaload, 1), (11, .istore 3, 1)]),
  (18, [(12, .iload 3, 1), (13, .ifCond .lt 26, 3), (16, .iload 3, 1), (17, .aload 1, 1), (18, .arraylength, 1)]),
  (25, [(19, .if_icmp .ge 26, 3), (22, .aload 1, 1), (23, .iload 3, 1), (24, .iload 2, 1), (25, .iastore, 1)]),
  (32, [(26, .iinc 2 1, 3), (29, .goto 2, 3), (32, .return_, 1)])]
/-- 50: EightBlocks$Moves.sourceOf([II)I -/
def tb_50 : am_T := [(3, [(0, .sipush 0, 1), (1, .istore 2, 1), (2, .iload 2, 1), (3, .aload 0, 1)]),
  (9, [(4, .arraylength, 1), (5, .if_icmp .ge 23, 3), (8, .aload 0, 1), (9, .iload 2, 1)]),
  (15, [(10, .iaload, 1), (11, .iload 1, 1), (12, .if_icmp .ne 17, 3), (15, .iload 2, 1)]),
  (23, [(16, .ireturn, 1), (17, .iinc 2 1, 3), (20, .goto 2, 3), (23, .sipush (-4), 2)]),
  (25, [(25, .ireturn, 1)])]
/-- 51: EightBlocks$Moves.imageOf([II)I -/
def tb_51 : am_T := [(4, [(0, .sipush 0, 1), (1, .istore 2, 1), (2, .sipush 0, 1), (3, .istore 3, 1), (4, .iload 3, 1)]),
  (11, [(5, .aload 0, 1), (6, .arraylength, 1), (7, .if_icmp .ge 28, 3), (10, .iload 2, 1), (11, .iload 1, 1)]),
  (16, [(12, .iload 3, 1), (13, .ishr, 1), (14, .sipush 1, 1), (15, .iand, 1), (16, .aload 0, 1)]),
  (21, [(17, .iload 3, 1), (18, .iaload, 1), (19, .ishl, 1), (20, .ior, 1), (21, .istore 2, 1)]),
  (29, [(22, .iinc 3 1, 3), (25, .goto 4, 3), (28, .iload 2, 1), (29, .ireturn, 1)])]
/-- 52: EightBlocks$Moves.differences([I[I)I -/
def tb_52 : am_T := [(4, [(0, .sipush 0, 1), (1, .istore 2, 1), (2, .sipush 0, 1), (3, .istore 3, 1), (4, .iload 3, 1)]),
  (11, [(5, .aload 0, 1), (6, .arraylength, 1), (7, .if_icmp .ge 34, 3), (10, .iload 3, 1), (11, .aload 1, 1)]),
  (18, [(12, .arraylength, 1), (13, .if_icmp .ge 34, 3), (16, .aload 0, 1), (17, .iload 3, 1), (18, .iaload, 1)]),
  (25, [(19, .aload 1, 1), (20, .iload 3, 1), (21, .iaload, 1), (22, .if_icmp .eq 28, 3), (25, .iinc 2 1, 3)]),
  (35, [(28, .iinc 3 1, 3), (31, .goto 4, 3), (34, .iload 2, 1), (35, .ireturn, 1)])]
/-- 53: EightBlocks$Moves.fixedPoints([I)I -/
def tb_53 : am_T := [(3, [(0, .sipush 0, 1), (1, .istore 1, 1), (2, .sipush 0, 1), (3, .istore 2, 1)]),
  (7, [(4, .iload 2, 1), (5, .aload 0, 1), (6, .arraylength, 1), (7, .if_icmp .ge 26, 3)]),
  (13, [(10, .aload 0, 1), (11, .iload 2, 1), (12, .iaload, 1), (13, .iload 2, 1)]),
  (23, [(14, .if_icmp .ne 20, 3), (17, .iinc 1 1, 3), (20, .iinc 2 1, 3), (23, .goto 4, 3)]),
  (27, [(26, .iload 1, 1), (27, .ireturn, 1)])]
/-- 54: EightBlocks$Moves.cycleLength([II)I -/
def tb_54 : am_T := [(3, [(0, .sipush 1, 1), (1, .istore 2, 1), (2, .aload 0, 1), (3, .iload 1, 1)]),
  (9, [(4, .invokestatic 44, 3), (7, .istore 3, 1), (8, .iload 3, 1), (9, .iload 1, 1)]),
  (16, [(10, .if_icmp .eq 31, 3), (13, .iload 2, 1), (14, .sipush 24, 2), (16, .if_icmp .ge 31, 3)]),
  (24, [(19, .iinc 2 1, 3), (22, .aload 0, 1), (23, .iload 3, 1), (24, .invokestatic 44, 3)]),
  (32, [(27, .istore 3, 1), (28, .goto 8, 3), (31, .iload 2, 1), (32, .ireturn, 1)])]
/-- 55: EightBlocks$Moves.isLowestInCycle([II)Z -/
def tb_55 : am_T := [(6, [(0, .aload 0, 1), (1, .iload 1, 1), (2, .invokestatic 44, 3), (5, .istore 2, 1), (6, .sipush 0, 1)]),
  (14, [(7, .istore 3, 1), (8, .iload 3, 1), (9, .sipush 24, 2), (11, .if_icmp .ge 31, 3), (14, .iload 2, 1)]),
  (21, [(15, .iload 1, 1), (16, .if_icmp .le 31, 3), (19, .aload 0, 1), (20, .iload 2, 1), (21, .invokestatic 44, 3)]),
  (32, [(24, .istore 2, 1), (25, .iinc 3 1, 3), (28, .goto 8, 3), (31, .iload 2, 1), (32, .iload 1, 1)]),
  (41, [(33, .if_icmp .ne 40, 3), (36, .sipush 1, 1), (37, .goto 41, 3), (40, .sipush 0, 1), (41, .ireturn, 1)])]
/-- 56: EightBlocks$Moves.cycleCount([I)I -/
def tb_56 : am_T := [(3, [(0, .sipush 0, 1), (1, .istore 1, 1), (2, .sipush 0, 1), (3, .istore 2, 1)]),
  (7, [(4, .iload 2, 1), (5, .aload 0, 1), (6, .arraylength, 1), (7, .if_icmp .ge 27, 3)]),
  (15, [(10, .aload 0, 1), (11, .iload 2, 1), (12, .invokestatic 55, 3), (15, .ifCond .eq 21, 3)]),
  (27, [(18, .iinc 1 1, 3), (21, .iinc 2 1, 3), (24, .goto 4, 3), (27, .iload 1, 1)]),
  (28, [(28, .ireturn, 1)])]
/-- 57: EightBlocks$Moves.order([I)I -/
def tb_57 : am_T := [(3, [(0, .sipush 1, 1), (1, .istore 1, 1), (2, .sipush 0, 1), (3, .istore 2, 1)]),
  (7, [(4, .iload 2, 1), (5, .aload 0, 1), (6, .arraylength, 1), (7, .if_icmp .ge 26, 3)]),
  (13, [(10, .iload 1, 1), (11, .aload 0, 1), (12, .iload 2, 1), (13, .invokestatic 54, 3)]),
  (23, [(16, .invokestatic 58, 3), (19, .istore 1, 1), (20, .iinc 2 1, 3), (23, .goto 4, 3)]),
  (27, [(26, .iload 1, 1), (27, .ireturn, 1)])]
/-- 58: EightBlocks$Moves.commonMultiple(II)I -/
def tb_58 : am_T := [(4, [(0, .sipush 1, 1), (1, .istore 2, 1), (2, .iload 2, 1), (3, .iload 1, 1), (4, .if_icmp .ge 25, 3)]),
  (11, [(7, .iload 0, 1), (8, .iload 2, 1), (9, .imul, 1), (10, .iload 1, 1), (11, .irem, 1)]),
  (18, [(12, .ifCond .ne 19, 3), (15, .iload 0, 1), (16, .iload 2, 1), (17, .imul, 1), (18, .ireturn, 1)]),
  (27, [(19, .iinc 2 1, 3), (22, .goto 2, 3), (25, .iload 0, 1), (26, .iload 1, 1), (27, .imul, 1)]),
  (28, [(28, .ireturn, 1)])]
/-- 59: EightBlocks$Orbits.init()V -/
def tb_59 : am_T := [(5, [(0, .aload 0, 1), (1, .monitorexit, 3), (4, .aload 0, 1), (5, .sipush 4096, 3)]),
  (14, [(8, .newarray .int, 2), (10, .putfield 256, 3), (13, .aload 0, 1), (14, .sipush 4096, 3)]),
  (22, [(17, .newarray .int, 2), (19, .putfield 257, 3), (22, .return_, 1)])]
/-- 60: EightBlocks$Orbits.begin(I)V -/
def tb_60 : am_T := [(6, [(0, .aload 0, 1), (1, .iload 1, 1), (2, .putfield 258, 3), (5, .aload 0, 1), (6, .aload 0, 1)]),
  (18, [(7, .getfield 258, 3), (10, .ifCond .ne 18, 3), (13, .sipush 24, 2), (15, .goto 21, 3), (18, .sipush 4096, 3)]),
  (27, [(21, .putfield 259, 3), (24, .sipush 0, 1), (25, .istore 2, 1), (26, .iload 2, 1), (27, .aload 0, 1)]),
  (38, [(28, .getfield 259, 3), (31, .if_icmp .ge 47, 3), (34, .aload 0, 1), (35, .getfield 256, 3), (38, .iload 2, 1)]),
  (47, [(39, .iload 2, 1), (40, .iastore, 1), (41, .iinc 2 1, 3), (44, .goto 26, 3), (47, .return_, 1)])]
/-- 61: EightBlocks$Orbits.joinBy(LEightBlocks$Golay;[I)V -/
def tb_61 : am_T := [(8, [(0, .aload 0, 1), (1, .getfield 258, 3), (4, .ifCond .ne 18, 3), (7, .aload 0, 1), (8, .getfield 257, 3)]),
  (19, [(11, .aload 2, 1), (12, .invokestatic 46, 3), (15, .goto 24, 3), (18, .aload 0, 1), (19, .aload 1, 1)]),
  (26, [(20, .aload 2, 1), (21, .invokevirtual 62, 3), (24, .sipush 0, 1), (25, .istore 3, 1), (26, .iload 3, 1)]),
  (35, [(27, .aload 0, 1), (28, .getfield 259, 3), (31, .if_icmp .ge 51, 3), (34, .aload 0, 1), (35, .iload 3, 1)]),
  (42, [(36, .aload 0, 1), (37, .getfield 257, 3), (40, .iload 3, 1), (41, .iaload, 1), (42, .invokevirtual 64, 3)]),
  (51, [(45, .iinc 3 1, 3), (48, .goto 26, 3), (51, .return_, 1)])]
/-- 62: EightBlocks$Orbits.fillGoals(LEightBlocks$Golay;[I)V -/
def tb_62 : am_T := [(8, [(0, .aload 0, 1), (1, .getfield 257, 3), (4, .sipush 0, 1), (5, .sipush 0, 1), (6, .iastore, 1), (7, .sipush 1, 1), (8, .istore 3, 1)]),
  (19, [(9, .iload 3, 1), (10, .aload 0, 1), (11, .getfield 259, 3), (14, .if_icmp .ge 69, 3), (17, .iload 3, 1), (18, .iload 3, 1), (19, .ineg, 1)]),
  (29, [(20, .iand, 1), (21, .istore 4, 2), (23, .aload 0, 1), (24, .getfield 257, 3), (27, .iload 3, 1), (28, .iload 3, 1), (29, .iload 4, 2)]),
  (42, [(31, .if_icmp .ne 45, 3), (34, .aload 0, 1), (35, .aload 1, 1), (36, .aload 2, 1), (37, .iload 4, 2), (39, .invokevirtual 63, 3), (42, .goto 62, 3)]),
  (54, [(45, .aload 0, 1), (46, .getfield 257, 3), (49, .iload 3, 1), (50, .iload 4, 2), (52, .ixor, 1), (53, .iaload, 1), (54, .aload 0, 1)]),
  (66, [(55, .getfield 257, 3), (58, .iload 4, 2), (60, .iaload, 1), (61, .ixor, 1), (62, .iastore, 1), (63, .iinc 3 1, 3), (66, .goto 9, 3)]),
  (69, [(69, .return_, 1)])]
/-- 63: EightBlocks$Orbits.goalOf(LEightBlocks$Golay;[II)I -/
def tb_63 : am_T := [(5, [(0, .aload 0, 1), (1, .getfield 258, 3), (4, .sipush 1, 1), (5, .if_icmp .ne 22, 3)]),
  (13, [(8, .aload 2, 1), (9, .aload 1, 1), (10, .getfield 128, 3), (13, .iload 3, 1)]),
  (21, [(14, .iaload, 1), (15, .invokestatic 51, 3), (18, .invokestatic 21, 3), (21, .ireturn, 1)]),
  (25, [(22, .aload 1, 1), (23, .aload 2, 1), (24, .iload 3, 1), (25, .invokestatic 51, 3)]),
  (31, [(28, .invokevirtual 22, 3), (31, .ireturn, 1)])]
/-- 64: EightBlocks$Orbits.join(II)V -/
def tb_64 : am_T := [(6, [(0, .aload 0, 1), (1, .iload 1, 1), (2, .invokevirtual 65, 3), (5, .istore 3, 1), (6, .aload 0, 1)]),
  (14, [(7, .iload 2, 1), (8, .invokevirtual 65, 3), (11, .istore 4, 2), (13, .iload 3, 1), (14, .aload 0, 1)]),
  (26, [(15, .getfield 259, 3), (18, .invokestatic 135, 3), (21, .ifCond .ne 36, 3), (24, .iload 4, 2), (26, .aload 0, 1)]),
  (37, [(27, .getfield 259, 3), (30, .invokestatic 135, 3), (33, .ifCond .eq 37, 3), (36, .return_, 1), (37, .aload 0, 1)]),
  (47, [(38, .getfield 256, 3), (41, .iload 3, 1), (42, .iload 4, 2), (44, .invokeinterface 1 0, 3), (47, .iload 3, 1)]),
  (54, [(48, .iload 4, 2), (50, .invokeinterface 0 0, 3), (53, .iastore, 1), (54, .return_, 1)])]
/-- 65: EightBlocks$Orbits.root(I)I -/
def tb_65 : am_T := [(6, [(0, .iload 1, 1), (1, .istore 2, 1), (2, .sipush 0, 1), (3, .istore 3, 1), (4, .iload 3, 1), (5, .aload 0, 1), (6, .getfield 259, 3)]),
  (23, [(9, .if_icmp .ge 75, 3), (12, .iload 2, 1), (13, .aload 0, 1), (14, .getfield 259, 3), (17, .invokestatic 135, 3), (20, .ifCond .ne 75, 3), (23, .aload 0, 1)]),
  (34, [(24, .getfield 256, 3), (27, .iload 2, 1), (28, .iaload, 1), (29, .iload 2, 1), (30, .if_icmp .eq 75, 3), (33, .aload 0, 1), (34, .getfield 256, 3)]),
  (47, [(37, .iload 2, 1), (38, .iaload, 1), (39, .istore 4, 2), (41, .iload 4, 2), (43, .aload 0, 1), (44, .getfield 259, 3), (47, .invokestatic 135, 3)]),
  (62, [(50, .ifCond .ne 66, 3), (53, .aload 0, 1), (54, .getfield 256, 3), (57, .iload 2, 1), (58, .aload 0, 1), (59, .getfield 256, 3), (62, .iload 4, 2)]),
  (75, [(64, .iaload, 1), (65, .iastore, 1), (66, .iload 4, 2), (68, .istore 2, 1), (69, .iinc 3 1, 3), (72, .goto 4, 3), (75, .iload 2, 1)]),
  (76, [(76, .ireturn, 1)])]
/-- 66: EightBlocks$Orbits.number()I -/
def tb_66 : am_T := [(3, [(0, .sipush 0, 1), (1, .istore 1, 1), (2, .sipush 0, 1), (3, .istore 2, 1)]),
  (9, [(4, .iload 2, 1), (5, .aload 0, 1), (6, .getfield 259, 3), (9, .if_icmp .ge 31, 3)]),
  (17, [(12, .aload 0, 1), (13, .getfield 256, 3), (16, .iload 2, 1), (17, .iaload, 1)]),
  (25, [(18, .iload 2, 1), (19, .if_icmp .ne 25, 3), (22, .iinc 1 1, 3), (25, .iinc 2 1, 3)]),
  (32, [(28, .goto 4, 3), (31, .iload 1, 1), (32, .ireturn, 1)])]
/-- 67: EightBlocks$Orbits.numberOfWeight([II)I -/
def tb_67 : am_T := [(5, [(0, .sipush 0, 1), (1, .istore 3, 1), (2, .sipush 0, 1), (3, .istore 4, 2), (5, .iload 4, 2)]),
  (16, [(7, .aload 0, 1), (8, .getfield 259, 3), (11, .if_icmp .ge 53, 3), (14, .iload 4, 2), (16, .aload 1, 1)]),
  (25, [(17, .arraylength, 1), (18, .if_icmp .ge 53, 3), (21, .aload 0, 1), (22, .getfield 256, 3), (25, .iload 4, 2)]),
  (34, [(27, .iaload, 1), (28, .iload 4, 2), (30, .if_icmp .ne 47, 3), (33, .aload 1, 1), (34, .iload 4, 2)]),
  (44, [(36, .iaload, 1), (37, .invokestatic 254, 3), (40, .iload 2, 1), (41, .if_icmp .ne 47, 3), (44, .iinc 3 1, 3)]),
  (54, [(47, .iinc 4 1, 3), (50, .goto 5, 3), (53, .iload 3, 1), (54, .ireturn, 1)])]
/-- 68: EightBlocks$Orbits.sizeOf(I)I -/
def tb_68 : am_T := [(6, [(0, .aload 0, 1), (1, .iload 1, 1), (2, .invokevirtual 65, 3), (5, .istore 2, 1), (6, .sipush 0, 1)]),
  (13, [(7, .istore 3, 1), (8, .sipush 0, 1), (9, .istore 4, 2), (11, .iload 4, 2), (13, .aload 0, 1)]),
  (23, [(14, .getfield 259, 3), (17, .if_icmp .ge 39, 3), (20, .aload 0, 1), (21, .iload 4, 2), (23, .invokevirtual 65, 3)]),
  (36, [(26, .iload 2, 1), (27, .if_icmp .ne 33, 3), (30, .iinc 3 1, 3), (33, .iinc 4 1, 3), (36, .goto 11, 3)]),
  (40, [(39, .iload 3, 1), (40, .ireturn, 1)])]
/-- 69: EightBlocks$Sheets.init()V -/
def tb_69 : am_T := [(5, [(0, .aload 0, 1), (1, .monitorexit, 3), (4, .aload 0, 1), (5, .sipush 4, 1)]),
  (15, [(6, .sipush 32, 2), (8, .multianewarray 4 2, 4), (12, .putfield 320, 3), (15, .aload 0, 1)]),
  (22, [(16, .sipush 4, 1), (17, .newarray .int, 2), (19, .putfield 321, 3), (22, .aload 0, 1)]),
  (29, [(23, .sipush 4, 1), (24, .newarray .int, 2), (26, .putfield 322, 3), (29, .aload 0, 1)]),
  (38, [(30, .getfield 321, 3), (33, .sipush (-4), 2), (35, .invokestatic 257, 3), (38, .return_, 1)])]
/-- 70: EightBlocks$Sheets.create(III)V -/
def tb_70 : am_T := [(5, [(0, .aload 0, 1), (1, .getfield 320, 3), (4, .iload 1, 1), (5, .aaload, 1)]),
  (11, [(6, .jsr_w 0, 1), (7, .invokestatic 256, 3), (10, .aload 0, 1), (11, .getfield 321, 3)]),
  (17, [(14, .iload 1, 1), (15, .iload 2, 1), (16, .iastore, 1), (17, .aload 0, 1)]),
  (23, [(18, .getfield 322, 3), (21, .iload 1, 1), (22, .iload 3, 1), (23, .iastore, 1)]),
  (24, [(24, .return_, 1)])]
/-- 71: EightBlocks$Sheets.remove(I)I -/
def tb_71 : am_T := [(5, [(0, .aload 0, 1), (1, .getfield 321, 3), (4, .iload 1, 1), (5, .iaload, 1)]),
  (13, [(6, .sipush (-4), 2), (8, .if_icmp .ne 14, 3), (11, .sipush (-11), 2), (13, .ireturn, 1)]),
  (19, [(14, .aload 0, 1), (15, .getfield 321, 3), (18, .iload 1, 1), (19, .sipush (-4), 2)]),
  (26, [(21, .iastore, 1), (22, .aload 0, 1), (23, .getfield 322, 3), (26, .iload 1, 1)]),
  (28, [(27, .iaload, 1), (28, .ireturn, 1)])]
/-- 72: EightBlocks$Sheets.fault(IIII)I -/
def tb_72 : am_T := [(6, [(0, .aload 0, 1), (1, .getfield 321, 3), (4, .iload 1, 1), (5, .iaload, 1), (6, .sipush (-4), 2)]),
  (15, [(8, .if_icmp .ne 14, 3), (11, .sipush (-11), 2), (13, .ireturn, 1), (14, .aload 0, 1), (15, .getfield 321, 3)]),
  (24, [(18, .iload 1, 1), (19, .iaload, 1), (20, .iload 2, 1), (21, .if_icmp .eq 27, 3), (24, .sipush (-12), 2)]),
  (30, [(26, .ireturn, 1), (27, .aload 0, 1), (28, .iload 1, 1), (29, .iload 3, 1), (30, .iload 4, 2)]),
  (42, [(32, .invokevirtual 73, 3), (35, .ifCond .eq 42, 3), (38, .sipush 0, 1), (39, .goto 44, 3), (42, .sipush (-13), 2)]),
  (44, [(44, .ireturn, 1)])]
/-- 73: EightBlocks$Sheets.isInside(III)Z -/
def tb_73 : am_T := [(5, [(0, .iload 2, 1), (1, .ifCond .lt 24, 3), (4, .iload 3, 1), (5, .ifCond .lt 24, 3)]),
  (13, [(8, .iload 2, 1), (9, .aload 0, 1), (10, .getfield 322, 3), (13, .iload 1, 1)]),
  (17, [(14, .iaload, 1), (15, .iload 3, 1), (16, .isub, 1), (17, .if_icmp .gt 24, 3)]),
  (25, [(20, .sipush 1, 1), (21, .goto 25, 3), (24, .sipush 0, 1), (25, .ireturn, 1)])]
/-- 74: EightBlocks$Sheets.put(IIJ)V -/
def tb_74 : am_T := [(10, [(0, .aload 0, 1), (1, .iload 1, 1), (2, .iload 2, 1), (3, .sipush 1, 1), (4, .invokevirtual 73, 3), (7, .ifCond .ne 11, 3), (10, .return_, 1)]),
  (45, [(11, .aload 0, 1), (12, .getfield 321, 3), (15, .iload 1, 1), (16, .iaload, 1), (17, .tableswitch 88 0 2 #[44, 59, 74], 27), (44, .aload 0, 1), (45, .getfield 320, 3)]),
  (54, [(48, .iload 1, 1), (49, .aaload, 1), (50, .iload 2, 1), (51, .lload 3, 1), (52, .l2i, 1), (53, .i2b, 1), (54, .i2l, 1)]),
  (65, [(55, .lastore, 1), (56, .goto 97, 3), (59, .aload 0, 1), (60, .getfield 320, 3), (63, .iload 1, 1), (64, .aaload, 1), (65, .iload 2, 1)]),
  (74, [(66, .lload 3, 1), (67, .l2i, 1), (68, .i2s, 1), (69, .i2l, 1), (70, .lastore, 1), (71, .goto 97, 3), (74, .aload 0, 1)]),
  (83, [(75, .getfield 320, 3), (78, .iload 1, 1), (79, .aaload, 1), (80, .iload 2, 1), (81, .lload 3, 1), (82, .l2i, 1), (83, .i2l, 1)]),
  (94, [(84, .lastore, 1), (85, .goto 97, 3), (88, .aload 0, 1), (89, .getfield 320, 3), (92, .iload 1, 1), (93, .aaload, 1), (94, .iload 2, 1)]),
  (97, [(95, .lload 3, 1), (96, .lastore, 1), (97, .return_, 1)])]
/-- 75: EightBlocks$Sheets.holdPoints(III)Z -/
def tb_75 : am_T := [(5, [(0, .iload 2, 1), (1, .istore 4, 2), (3, .iload 4, 2), (5, .iload 2, 1)]),
  (11, [(6, .iload 3, 1), (7, .iadd, 1), (8, .if_icmp .ge 31, 3), (11, .aload 0, 1)]),
  (18, [(12, .iload 1, 1), (13, .iload 4, 2), (15, .invokevirtual 76, 3), (18, .sipush (-4), 2)]),
  (25, [(20, .if_icmp .ne 25, 3), (23, .sipush 0, 1), (24, .ireturn, 1), (25, .iinc 4 1, 3)]),
  (32, [(28, .goto 3, 3), (31, .sipush 1, 1), (32, .ireturn, 1)])]
/-- 76: EightBlocks$Sheets.pointAt(II)I -/
def tb_76 : am_T := [(7, [(0, .aload 0, 1), (1, .iload 1, 1), (2, .iload 2, 1), (3, .sipush 1, 1), (4, .invokevirtual 73, 3), (7, .ifCond .eq 38, 3)]),
  (17, [(10, .aload 0, 1), (11, .getfield 320, 3), (14, .iload 1, 1), (15, .aaload, 1), (16, .iload 2, 1), (17, .laload, 1)]),
  (27, [(18, .jsr_w 0, 1), (19, .lcmp, 1), (20, .ifCond .lt 38, 3), (23, .aload 0, 1), (24, .getfield 320, 3), (27, .iload 1, 1)]),
  (35, [(28, .aaload, 1), (29, .iload 2, 1), (30, .laload, 1), (31, .jsr_w 24, 3), (34, .lcmp, 1), (35, .ifCond .lt 41, 3)]),
  (46, [(38, .sipush (-4), 2), (40, .ireturn, 1), (41, .aload 0, 1), (42, .getfield 320, 3), (45, .iload 1, 1), (46, .aaload, 1)]),
  (50, [(47, .iload 2, 1), (48, .laload, 1), (49, .l2i, 1), (50, .ireturn, 1)])]
/-- 77: EightBlocks$Sheets.transfer(IIIII)I -/
def tb_77 : am_T := [(11, [(0, .aload 0, 1), (1, .getfield 321, 3), (4, .iload 1, 1), (5, .iaload, 1), (6, .sipush (-4), 2), (8, .if_icmp .eq 22, 3), (11, .aload 0, 1)]),
  (24, [(12, .getfield 321, 3), (15, .iload 3, 1), (16, .iaload, 1), (17, .sipush (-4), 2), (19, .if_icmp .ne 25, 3), (22, .sipush (-11), 2), (24, .ireturn, 1)]),
  (35, [(25, .aload 0, 1), (26, .getfield 321, 3), (29, .iload 1, 1), (30, .iaload, 1), (31, .aload 0, 1), (32, .getfield 321, 3), (35, .iload 3, 1)]),
  (45, [(36, .iaload, 1), (37, .if_icmp .eq 43, 3), (40, .sipush (-12), 2), (42, .ireturn, 1), (43, .aload 0, 1), (44, .iload 1, 1), (45, .iload 2, 1)]),
  (58, [(46, .iload 5, 2), (48, .invokevirtual 73, 3), (51, .ifCond .eq 66, 3), (54, .aload 0, 1), (55, .iload 3, 1), (56, .iload 4, 2), (58, .iload 5, 2)]),
  (73, [(60, .invokevirtual 73, 3), (63, .ifCond .ne 69, 3), (66, .sipush (-13), 2), (68, .ireturn, 1), (69, .aload 0, 1), (70, .getfield 320, 3), (73, .iload 1, 1)]),
  (82, [(74, .aaload, 1), (75, .iload 2, 1), (76, .aload 0, 1), (77, .getfield 320, 3), (80, .iload 3, 1), (81, .aaload, 1), (82, .iload 4, 2)]),
  (91, [(84, .iload 5, 2), (86, .invokeinterface 4 0, 3), (89, .iload 5, 2), (91, .ireturn, 1)])]
/-- 78: EightBlocks$State.init()V -/
def tb_78 : am_T := [(5, [(0, .aload 0, 1), (1, .monitorexit, 3), (4, .aload 0, 1), (5, .sipush 5, 1)]),
  (15, [(6, .sipush 24, 2), (8, .multianewarray 3 2, 4), (12, .putfield 384, 3), (15, .return_, 1)])]
/-- 79: EightBlocks$State.become(LEightBlocks$State;)V -/
def tb_79 : am_T := [(4, [(0, .sipush 0, 1), (1, .istore 2, 1), (2, .iload 2, 1), (3, .sipush 5, 1), (4, .if_icmp .ge 28, 3)]),
  (13, [(7, .aload 0, 1), (8, .getfield 384, 3), (11, .iload 2, 1), (12, .aaload, 1), (13, .aload 1, 1)]),
  (22, [(14, .getfield 384, 3), (17, .iload 2, 1), (18, .aaload, 1), (19, .invokestatic 46, 3), (22, .iinc 2 1, 3)]),
  (33, [(25, .goto 2, 3), (28, .aload 0, 1), (29, .aload 1, 1), (30, .getfield 385, 3), (33, .putfield 385, 3)]),
  (44, [(36, .aload 0, 1), (37, .aload 1, 1), (38, .getfield 386, 3), (41, .putfield 386, 3), (44, .return_, 1)])]
/-- 80: EightBlocks$Tape.init([[I)V -/
def tb_80 : am_T := [(7, [(0, .aload 0, 1), (1, .monitorexit, 3), (4, .aload 0, 1), (5, .sipush 100, 2), (7, .newarray .int, 2)]),
  (17, [(9, .putfield 448, 3), (12, .aload 0, 1), (13, .sipush 7, 2), (15, .sipush 24, 2), (17, .multianewarray 3 2, 4)]),
  (29, [(21, .putfield 450, 3), (24, .aload 0, 1), (25, .sipush 7, 2), (27, .sipush 24, 2), (29, .multianewarray 3 2, 4)]),
  (41, [(33, .putfield 451, 3), (36, .aload 0, 1), (37, .sipush 24, 2), (39, .newarray .int, 2), (41, .putfield 452, 3)]),
  (50, [(44, .aload 0, 1), (45, .aload 1, 1), (46, .putfield 449, 3), (49, .aload 0, 1), (50, .aload 1, 1)]),
  (54, [(51, .putfield 453, 3), (54, .return_, 1)])]
/-- 81: EightBlocks$Tape.append(I)I -/
def tb_81 : am_T := [(9, [(0, .aload 0, 1), (1, .getfield 454, 3), (4, .sipush 100, 2), (6, .if_icmp .lt 12, 3), (9, .sipush (-3), 2)]),
  (17, [(11, .ireturn, 1), (12, .aload 0, 1), (13, .getfield 448, 3), (16, .aload 0, 1), (17, .getfield 454, 3)]),
  (24, [(20, .iload 1, 1), (21, .iastore, 1), (22, .aload 0, 1), (23, .dup, 1), (24, .getfield 454, 3)]),
  (33, [(27, .sipush 1, 1), (28, .iadd, 1), (29, .putfield 454, 3), (32, .aload 0, 1), (33, .getfield 454, 3)]),
  (36, [(36, .ireturn, 1)])]
/-- 82: EightBlocks$Tape.clear()V -/
def tb_82 : am_T := [(5, [(0, .aload 0, 1), (1, .sipush 0, 1), (2, .putfield 454, 3), (5, .return_, 1)])]
/-- 83: EightBlocks$Tape.faultPosition()I -/
def tb_83 : am_T := [(4, [(0, .aload 0, 1), (1, .getfield 455, 3), (4, .ireturn, 1)])]
/-- 84: EightBlocks$Tape.value()[I -/
def tb_84 : am_T := [(5, [(0, .aload 0, 1), (1, .getfield 450, 3), (4, .sipush 0, 1), (5, .aaload, 1)]),
  (6, [(6, .areturn, 1)])]
/-- 85: EightBlocks$Tape.evaluate([[I)Z -/
def tb_85 : am_T := [(5, [(0, .aload 0, 1), (1, .aload 1, 1), (2, .putfield 453, 3), (5, .aload 0, 1)]),
  (11, [(6, .sipush 0, 1), (7, .putfield 455, 3), (10, .aload 0, 1), (11, .sipush 0, 1)]),
  (19, [(12, .invokevirtual 86, 3), (15, .ifCond .eq 29, 3), (18, .aload 0, 1), (19, .invokevirtual 101, 3)]),
  (29, [(22, .ifCond .eq 29, 3), (25, .sipush 1, 1), (26, .goto 30, 3), (29, .sipush 0, 1)]),
  (30, [(30, .ireturn, 1)])]
/-- 86: EightBlocks$Tape.isProduct(I)Z -/
def tb_86 : am_T := [(9, [(0, .aload 0, 1), (1, .getfield 450, 3), (4, .iload 1, 1), (5, .aaload, 1), (6, .invokestatic 45, 3), (9, .sipush 0, 1)]),
  (18, [(10, .istore 2, 1), (11, .iload 2, 1), (12, .sipush 100, 2), (14, .if_icmp .ge 59, 3), (17, .aload 0, 1), (18, .iload 1, 1)]),
  (28, [(19, .invokevirtual 87, 3), (22, .ifCond .ne 27, 3), (25, .sipush 0, 1), (26, .ireturn, 1), (27, .aload 0, 1), (28, .getfield 450, 3)]),
  (38, [(31, .iload 1, 1), (32, .aaload, 1), (33, .aload 0, 1), (34, .getfield 451, 3), (37, .iload 1, 1), (38, .aaload, 1)]),
  (51, [(39, .invokestatic 47, 3), (42, .aload 0, 1), (43, .sipush 42, 2), (45, .invokevirtual 99, 3), (48, .ifCond .ne 53, 3), (51, .sipush 1, 1)]),
  (60, [(52, .ireturn, 1), (53, .iinc 2 1, 3), (56, .goto 11, 3), (59, .sipush 0, 1), (60, .ireturn, 1)])]
/-- 87: EightBlocks$Tape.isFactor(I)Z -/
def tb_87 : am_T := [(9, [(0, .aload 0, 1), (1, .iload 1, 1), (2, .invokevirtual 88, 3), (5, .ifCond .ne 10, 3), (8, .sipush 0, 1), (9, .ireturn, 1)]),
  (20, [(10, .aload 0, 1), (11, .sipush 94, 2), (13, .invokevirtual 99, 3), (16, .ifCond .ne 21, 3), (19, .sipush 1, 1), (20, .ireturn, 1)]),
  (29, [(21, .aload 0, 1), (22, .sipush 45, 2), (24, .invokevirtual 99, 3), (27, .istore 2, 1), (28, .aload 0, 1), (29, .invokevirtual 96, 3)]),
  (39, [(32, .istore 3, 1), (33, .iload 3, 1), (34, .ifCond .ge 39, 3), (37, .sipush 0, 1), (38, .ireturn, 1), (39, .aload 0, 1)]),
  (47, [(40, .aload 0, 1), (41, .getfield 451, 3), (44, .iload 1, 1), (45, .aaload, 1), (46, .iload 3, 1), (47, .iload 2, 1)]),
  (52, [(48, .invokevirtual 98, 3), (51, .sipush 1, 1), (52, .ireturn, 1)])]
/-- 88: EightBlocks$Tape.isPlainFactor(I)Z -/
def tb_88 : am_T := [(10, [(0, .aload 0, 1), (1, .sipush 91, 2), (3, .invokevirtual 100, 3), (6, .ifCond .eq 29, 3), (9, .iload 1, 1), (10, .sipush 6, 2)]),
  (23, [(12, .if_icmp .ge 27, 3), (15, .aload 0, 1), (16, .iload 1, 1), (17, .invokevirtual 89, 3), (20, .ifCond .eq 27, 3), (23, .sipush 1, 1)]),
  (32, [(24, .goto 28, 3), (27, .sipush 0, 1), (28, .ireturn, 1), (29, .aload 0, 1), (30, .sipush 40, 2), (32, .invokevirtual 99, 3)]),
  (44, [(35, .ifCond .eq 51, 3), (38, .aload 0, 1), (39, .aload 0, 1), (40, .getfield 451, 3), (43, .iload 1, 1), (44, .aaload, 1)]),
  (56, [(45, .invokevirtual 90, 3), (48, .goto 61, 3), (51, .aload 0, 1), (52, .aload 0, 1), (53, .getfield 451, 3), (56, .iload 1, 1)]),
  (61, [(57, .aaload, 1), (58, .invokevirtual 91, 3), (61, .ireturn, 1)])]
/-- 89: EightBlocks$Tape.isBracket(I)Z -/
def tb_89 : am_T := [(9, [(0, .aload 0, 1), (1, .sipush 91, 2), (3, .invokevirtual 99, 3), (6, .ifCond .eq 28, 3), (9, .aload 0, 1)]),
  (16, [(10, .iload 1, 1), (11, .sipush 1, 1), (12, .iadd, 1), (13, .invokevirtual 86, 3), (16, .ifCond .eq 28, 3)]),
  (28, [(19, .aload 0, 1), (20, .sipush 93, 2), (22, .invokevirtual 99, 3), (25, .ifCond .ne 30, 3), (28, .sipush 0, 1)]),
  (35, [(29, .ireturn, 1), (30, .aload 0, 1), (31, .getfield 451, 3), (34, .iload 1, 1), (35, .aaload, 1)]),
  (42, [(36, .aload 0, 1), (37, .getfield 450, 3), (40, .iload 1, 1), (41, .sipush 1, 1), (42, .iadd, 1)]),
  (48, [(43, .aaload, 1), (44, .invokestatic 46, 3), (47, .sipush 1, 1), (48, .ireturn, 1)])]
/-- 90: EightBlocks$Tape.isCycle([I)Z -/
def tb_90 : am_T := [(11, [(0, .aload 1, 1), (1, .invokestatic 45, 3), (4, .aload 0, 1), (5, .sipush 0, 1), (6, .invokevirtual 95, 3), (9, .istore 2, 1), (10, .iload 2, 1), (11, .istore 3, 1)]),
  (25, [(12, .sipush 0, 1), (13, .istore 4, 2), (15, .sipush 0, 1), (16, .istore 5, 2), (18, .iload 5, 2), (20, .sipush 24, 2), (22, .if_icmp .ge 97, 3), (25, .iload 3, 1)]),
  (43, [(26, .sipush 24, 2), (28, .invokestatic 135, 3), (31, .ifCond .ne 97, 3), (34, .aload 0, 1), (35, .sipush 41, 2), (37, .invokevirtual 99, 3), (40, .ifCond .eq 49, 3), (43, .aload 1, 1)]),
  (52, [(44, .iload 3, 1), (45, .iload 2, 1), (46, .iastore, 1), (47, .sipush 1, 1), (48, .ireturn, 1), (49, .aload 0, 1), (50, .sipush 44, 2), (52, .invokevirtual 99, 3)]),
  (65, [(55, .ifCond .ne 60, 3), (58, .sipush 0, 1), (59, .ireturn, 1), (60, .iload 4, 2), (62, .sipush 1, 1), (63, .iload 3, 1), (64, .ishl, 1), (65, .ior, 1)]),
  (80, [(66, .istore 4, 2), (68, .aload 0, 1), (69, .iload 4, 2), (71, .invokevirtual 95, 3), (74, .istore 6, 2), (76, .iload 6, 2), (78, .sipush (-4), 2), (80, .if_icmp .eq 88, 3)]),
  (94, [(83, .aload 1, 1), (84, .iload 3, 1), (85, .iload 6, 2), (87, .iastore, 1), (88, .iload 6, 2), (90, .istore 3, 1), (91, .iinc 5 1, 3), (94, .goto 18, 3)]),
  (98, [(97, .sipush 0, 1), (98, .ireturn, 1)])]
/-- 91: EightBlocks$Tape.isName([I)Z -/
def tb_91 : am_T := [(9, [(0, .aload 0, 1), (1, .sipush 97, 2), (3, .sipush 122, 2), (5, .invokevirtual 102, 3), (8, .istore 2, 1), (9, .aload 0, 1)]),
  (18, [(10, .iload 2, 1), (11, .invokevirtual 92, 3), (14, .istore 3, 1), (15, .iload 3, 1), (16, .sipush (-4), 2), (18, .if_icmp .ne 23, 3)]),
  (26, [(21, .sipush 0, 1), (22, .ireturn, 1), (23, .aload 1, 1), (24, .iload 3, 1), (25, .sipush 5, 1), (26, .if_icmp .ge 38, 3)]),
  (38, [(29, .aload 0, 1), (30, .getfield 453, 3), (33, .iload 3, 1), (34, .aaload, 1), (35, .goto 46, 3), (38, .aload 0, 1)]),
  (46, [(39, .getfield 449, 3), (42, .iload 3, 1), (43, .sipush 5, 1), (44, .isub, 1), (45, .aaload, 1), (46, .invokestatic 46, 3)]),
  (55, [(49, .aload 0, 1), (50, .iload 2, 1), (51, .putfield 455, 3), (54, .sipush 1, 1), (55, .ireturn, 1)])]
/-- 92: EightBlocks$Tape.nameUpTo(I)I -/
def tb_92 : am_T := [(3, [(0, .sipush 0, 1), (1, .istore 2, 1), (2, .iload 2, 1), (3, .sipush 10, 2)]),
  (10, [(5, .if_icmp .ge 28, 3), (8, .aload 0, 1), (9, .iload 2, 1), (10, .invokestatic 93, 3)]),
  (20, [(13, .iload 1, 1), (14, .invokevirtual 94, 3), (17, .ifCond .eq 22, 3), (20, .iload 2, 1)]),
  (28, [(21, .ireturn, 1), (22, .iinc 2 1, 3), (25, .goto 2, 3), (28, .sipush (-4), 2)]),
  (30, [(30, .ireturn, 1)])]
/-- 93: EightBlocks$Tape.nameOf(I)Ljava/lang/String; -/
def tb_93 : am_T := [(55, [(0, .iload 0, 1), (1, .tableswitch 79 0 8 #[52, 55, 58, 61, 64, 67, 70, 73, 76], 51), (52, .ldc 0, 2), (54, .areturn, 1), (55, .ldc 1, 2)]),
  (63, [(57, .areturn, 1), (58, .ldc 2, 2), (60, .areturn, 1), (61, .ldc 3, 2), (63, .areturn, 1)]),
  (70, [(64, .ldc 4, 2), (66, .areturn, 1), (67, .ldc 5, 2), (69, .areturn, 1), (70, .ldc 6, 2)]),
  (78, [(72, .areturn, 1), (73, .ldc 7, 2), (75, .areturn, 1), (76, .ldc 8, 2), (78, .areturn, 1)]),
  (81, [(79, .ldc 9, 2), (81, .areturn, 1)])]
/-- 94: EightBlocks$Tape.isWritten(Ljava/lang/String;I)Z -/
def tb_94 : am_T := [(7, [(0, .iload 2, 1), (1, .aload 0, 1), (2, .getfield 455, 3), (5, .isub, 1), (6, .aload 1, 1), (7, .invokeinterface 2 0, 3)]),
  (17, [(10, .if_icmp .eq 15, 3), (13, .sipush 0, 1), (14, .ireturn, 1), (15, .sipush 0, 1), (16, .istore 3, 1), (17, .iload 3, 1)]),
  (29, [(18, .aload 1, 1), (19, .invokeinterface 2 0, 3), (22, .if_icmp .ge 65, 3), (25, .aload 0, 1), (26, .getfield 455, 3), (29, .iload 3, 1)]),
  (39, [(30, .iadd, 1), (31, .aload 0, 1), (32, .getfield 454, 3), (35, .if_icmp .ge 65, 3), (38, .aload 0, 1), (39, .getfield 448, 3)]),
  (49, [(42, .aload 0, 1), (43, .getfield 455, 3), (46, .iload 3, 1), (47, .iadd, 1), (48, .iaload, 1), (49, .aload 1, 1)]),
  (59, [(50, .iload 3, 1), (51, .invokeinterface 3 0, 3), (54, .if_icmp .eq 59, 3), (57, .sipush 0, 1), (58, .ireturn, 1), (59, .iinc 3 1, 3)]),
  (66, [(62, .goto 17, 3), (65, .sipush 1, 1), (66, .ireturn, 1)])]
/-- 95: EightBlocks$Tape.acceptPoint(I)I -/
def tb_95 : am_T := [(6, [(0, .aload 0, 1), (1, .aload 0, 1), (2, .sipush 48, 2), (4, .sipush 57, 2), (6, .invokevirtual 102, 3)]),
  (16, [(9, .invokevirtual 97, 3), (12, .istore 2, 1), (13, .iload 2, 1), (14, .sipush 24, 2), (16, .invokestatic 135, 3)]),
  (25, [(19, .ifCond .ne 31, 3), (22, .iload 1, 1), (23, .iload 2, 1), (24, .ishr, 1), (25, .sipush 1, 1)]),
  (33, [(26, .iand, 1), (27, .sipush 1, 1), (28, .if_icmp .ne 34, 3), (31, .sipush (-4), 2), (33, .ireturn, 1)]),
  (40, [(34, .aload 0, 1), (35, .aload 0, 1), (36, .sipush 48, 2), (38, .sipush 57, 2), (40, .invokevirtual 102, 3)]),
  (47, [(43, .putfield 455, 3), (46, .iload 2, 1), (47, .ireturn, 1)])]
/-- 96: EightBlocks$Tape.acceptPower()I -/
def tb_96 : am_T := [(4, [(0, .aload 0, 1), (1, .aload 0, 1), (2, .sipush 48, 2), (4, .sipush 57, 2)]),
  (13, [(6, .invokevirtual 102, 3), (9, .invokevirtual 97, 3), (12, .istore 1, 1), (13, .iload 1, 1)]),
  (20, [(14, .sipush (-4), 2), (16, .if_icmp .eq 31, 3), (19, .aload 0, 1), (20, .aload 0, 1)]),
  (28, [(21, .sipush 48, 2), (23, .sipush 57, 2), (25, .invokevirtual 102, 3), (28, .putfield 455, 3)]),
  (32, [(31, .iload 1, 1), (32, .ireturn, 1)])]
/-- 97: EightBlocks$Tape.numberUpTo(I)I -/
def tb_97 : am_T := [(9, [(0, .iload 1, 1), (1, .aload 0, 1), (2, .getfield 455, 3), (5, .if_icmp .eq 18, 3), (8, .iload 1, 1), (9, .aload 0, 1)]),
  (20, [(10, .getfield 455, 3), (13, .sipush 2, 1), (14, .iadd, 1), (15, .if_icmp .le 21, 3), (18, .sipush (-4), 2), (20, .ireturn, 1)]),
  (28, [(21, .sipush 0, 1), (22, .istore 2, 1), (23, .aload 0, 1), (24, .getfield 455, 3), (27, .istore 3, 1), (28, .iload 3, 1)]),
  (38, [(29, .iload 1, 1), (30, .if_icmp .ge 62, 3), (33, .iload 3, 1), (34, .aload 0, 1), (35, .getfield 454, 3), (38, .if_icmp .ge 62, 3)]),
  (49, [(41, .sipush 10, 2), (43, .iload 2, 1), (44, .imul, 1), (45, .aload 0, 1), (46, .getfield 448, 3), (49, .iload 3, 1)]),
  (56, [(50, .iaload, 1), (51, .iadd, 1), (52, .sipush 48, 2), (54, .isub, 1), (55, .istore 2, 1), (56, .iinc 3 1, 3)]),
  (63, [(59, .goto 28, 3), (62, .iload 2, 1), (63, .ireturn, 1)])]
/-- 98: EightBlocks$Tape.raise([IIZ)V -/
def tb_98 : am_T := [(6, [(0, .iload 3, 1), (1, .ifCond .eq 15, 3), (4, .aload 1, 1), (5, .aload 0, 1), (6, .getfield 452, 3)]),
  (19, [(9, .invokestatic 49, 3), (12, .goto 23, 3), (15, .aload 0, 1), (16, .getfield 452, 3), (19, .aload 1, 1)]),
  (28, [(20, .invokestatic 46, 3), (23, .aload 1, 1), (24, .invokestatic 45, 3), (27, .sipush 0, 1), (28, .istore 4, 2)]),
  (37, [(30, .iload 4, 2), (32, .iload 2, 1), (33, .if_icmp .ge 50, 3), (36, .aload 1, 1), (37, .aload 0, 1)]),
  (50, [(38, .getfield 452, 3), (41, .invokestatic 47, 3), (44, .iinc 4 1, 3), (47, .goto 30, 3), (50, .return_, 1)])]
/-- 99: EightBlocks$Tape.accept(I)Z -/
def tb_99 : am_T := [(5, [(0, .aload 0, 1), (1, .iload 1, 1), (2, .invokevirtual 100, 3), (5, .ifCond .ne 10, 3)]),
  (11, [(8, .sipush 0, 1), (9, .ireturn, 1), (10, .aload 0, 1), (11, .dup, 1)]),
  (17, [(12, .getfield 455, 3), (15, .sipush 1, 1), (16, .iadd, 1), (17, .putfield 455, 3)]),
  (21, [(20, .sipush 1, 1), (21, .ireturn, 1)])]
/-- 100: EightBlocks$Tape.isNext(I)Z -/
def tb_100 : am_T := [(7, [(0, .aload 0, 1), (1, .invokevirtual 101, 3), (4, .ifCond .ne 24, 3), (7, .aload 0, 1)]),
  (15, [(8, .getfield 448, 3), (11, .aload 0, 1), (12, .getfield 455, 3), (15, .iaload, 1)]),
  (21, [(16, .iload 1, 1), (17, .if_icmp .ne 24, 3), (20, .sipush 1, 1), (21, .goto 25, 3)]),
  (25, [(24, .sipush 0, 1), (25, .ireturn, 1)])]
/-- 101: EightBlocks$Tape.isAtEnd()Z -/
def tb_101 : am_T := [(8, [(0, .aload 0, 1), (1, .getfield 455, 3), (4, .aload 0, 1), (5, .getfield 454, 3), (8, .if_icmp .ge 38, 3)]),
  (19, [(11, .aload 0, 1), (12, .getfield 448, 3), (15, .aload 0, 1), (16, .getfield 455, 3), (19, .iaload, 1)]),
  (27, [(20, .sipush 32, 2), (22, .if_icmp .ne 38, 3), (25, .aload 0, 1), (26, .dup, 1), (27, .getfield 455, 3)]),
  (38, [(30, .sipush 1, 1), (31, .iadd, 1), (32, .putfield 455, 3), (35, .goto 0, 3), (38, .aload 0, 1)]),
  (49, [(39, .getfield 455, 3), (42, .aload 0, 1), (43, .getfield 454, 3), (46, .if_icmp .lt 53, 3), (49, .sipush 1, 1)]),
  (54, [(50, .goto 54, 3), (53, .sipush 0, 1), (54, .ireturn, 1)])]
/-- 102: EightBlocks$Tape.endOfRun(II)I -/
def tb_102 : am_T := [(8, [(0, .aload 0, 1), (1, .invokevirtual 101, 3), (4, .ifCond .eq 14, 3), (7, .aload 0, 1), (8, .getfield 454, 3)]),
  (19, [(11, .goto 18, 3), (14, .aload 0, 1), (15, .getfield 455, 3), (18, .istore 3, 1), (19, .iload 3, 1)]),
  (28, [(20, .aload 0, 1), (21, .getfield 454, 3), (24, .if_icmp .ge 53, 3), (27, .aload 0, 1), (28, .getfield 448, 3)]),
  (37, [(31, .iload 3, 1), (32, .iaload, 1), (33, .iload 1, 1), (34, .if_icmp .lt 53, 3), (37, .aload 0, 1)]),
  (44, [(38, .getfield 448, 3), (41, .iload 3, 1), (42, .iaload, 1), (43, .iload 2, 1), (44, .if_icmp .gt 53, 3)]),
  (54, [(47, .iinc 3 1, 3), (50, .goto 19, 3), (53, .iload 3, 1), (54, .ireturn, 1)])]
/-- 103: EightBlocks.init()V -/
def tb_103 : am_T := [(16, [(0, .aload 0, 1), (1, .monitorexit, 3), (4, .sipush 5, 1), (5, .sipush 24, 2), (7, .multianewarray 3 2, 4), (11, .astore 1, 1), (12, .aload 1, 1), (13, .invokestatic 43, 3), (16, .aload 0, 1)]),
  (35, [(17, .new 2, 3), (20, .dup, 1), (21, .invokespecial 17, 3), (24, .putfield 512, 3), (27, .aload 0, 1), (28, .new 0, 3), (31, .dup, 1), (32, .invokespecial 0, 3), (35, .putfield 513, 3)]),
  (54, [(38, .aload 0, 1), (39, .new 4, 3), (42, .dup, 1), (43, .invokespecial 59, 3), (46, .putfield 514, 3), (49, .aload 0, 1), (50, .new 3, 3), (53, .dup, 1), (54, .invokespecial 38, 3)]),
  (75, [(57, .putfield 515, 3), (60, .aload 0, 1), (61, .new 3, 3), (64, .dup, 1), (65, .invokespecial 38, 3), (68, .putfield 516, 3), (71, .aload 0, 1), (72, .new 7, 3), (75, .dup, 1)]),
  (94, [(76, .aload 1, 1), (77, .invokespecial 80, 3), (80, .putfield 517, 3), (83, .aload 0, 1), (84, .new 5, 3), (87, .dup, 1), (88, .invokespecial 69, 3), (91, .putfield 518, 3), (94, .aload 0, 1)]),
  (113, [(95, .new 1, 3), (98, .dup, 1), (99, .invokespecial 12, 3), (102, .putfield 519, 3), (105, .aload 0, 1), (106, .sipush 24, 2), (108, .newarray .int, 2), (110, .putfield 520, 3), (113, .aload 0, 1)]),
  (128, [(114, .sipush 24, 2), (116, .newarray .int, 2), (118, .putfield 521, 3), (121, .sipush 0, 1), (122, .istore 2, 1), (123, .iload 2, 1), (124, .sipush 5, 1), (125, .if_icmp .ge 152, 3), (128, .aload 0, 1)]),
  (143, [(129, .getfield 515, 3), (132, .getfield 192, 3), (135, .getfield 384, 3), (138, .iload 2, 1), (139, .aaload, 1), (140, .aload 1, 1), (141, .iload 2, 1), (142, .aaload, 1), (143, .invokestatic 46, 3)]),
  (164, [(146, .iinc 2 1, 3), (149, .goto 123, 3), (152, .aload 0, 1), (153, .getfield 515, 3), (156, .getfield 192, 3), (159, .aload 0, 1), (160, .getfield 512, 3), (163, .sipush 1, 1), (164, .invokevirtual 23, 3)]),
  (181, [(167, .putfield 385, 3), (170, .aload 0, 1), (171, .getfield 515, 3), (174, .getfield 192, 3), (177, .sipush 1, 1), (178, .putfield 386, 3), (181, .return_, 1)])]
/-- 104: EightBlocks.word(II)I -/
def tb_104 : am_T := [(13, [(0, .iload 1, 1), (1, .invokestatic 136, 3), (4, .ifCond .ne 16, 3), (7, .iload 2, 1), (8, .sipush 7, 2), (10, .invokestatic 135, 3), (13, .ifCond .eq 18, 3)]),
  (60, [(16, .sipush (-1), 1), (17, .ireturn, 1), (18, .iload 2, 1), (19, .tableswitch 132 0 5 #[56, 61, 86, 95, 114, 123], 37), (56, .iload 1, 1), (57, .invokestatic 254, 3), (60, .ireturn, 1)]),
  (73, [(61, .aload 0, 1), (62, .getfield 512, 3), (65, .iload 1, 1), (66, .invokevirtual 24, 3), (69, .ifCond .eq 83, 3), (72, .aload 0, 1), (73, .getfield 512, 3)]),
  (87, [(76, .iload 1, 1), (77, .invokevirtual 25, 3), (80, .goto 85, 3), (83, .sipush (-4), 2), (85, .ireturn, 1), (86, .aload 0, 1), (87, .getfield 512, 3)]),
  (100, [(90, .iload 1, 1), (91, .invokevirtual 26, 3), (94, .ireturn, 1), (95, .aload 0, 1), (96, .getfield 512, 3), (99, .iload 1, 1), (100, .invokevirtual 26, 3)]),
  (114, [(103, .sipush 4, 1), (104, .if_icmp .ne 112, 3), (107, .sipush 6, 2), (109, .goto 113, 3), (112, .sipush 1, 1), (113, .ireturn, 1), (114, .aload 0, 1)]),
  (127, [(115, .getfield 512, 3), (118, .iload 1, 1), (119, .invokevirtual 27, 3), (122, .ireturn, 1), (123, .aload 0, 1), (124, .getfield 512, 3), (127, .iload 1, 1)]),
  (140, [(128, .invokevirtual 28, 3), (131, .ireturn, 1), (132, .aload 0, 1), (133, .getfield 512, 3), (136, .iload 1, 1), (137, .invokevirtual 29, 3), (140, .ireturn, 1)])]
/-- 105: EightBlocks.block(II)I -/
def tb_105 : am_T := [(11, [(0, .iload 1, 1), (1, .ifCond .ne 23, 3), (4, .iload 2, 1), (5, .sipush 4096, 3), (8, .invokestatic 135, 3), (11, .ifCond .ne 23, 3)]),
  (23, [(14, .aload 0, 1), (15, .getfield 512, 3), (18, .iload 2, 1), (19, .invokevirtual 23, 3), (22, .ireturn, 1), (23, .iload 1, 1)]),
  (35, [(24, .sipush 1, 1), (25, .if_icmp .ne 48, 3), (28, .iload 2, 1), (29, .sipush 759, 3), (32, .invokestatic 135, 3), (35, .ifCond .ne 48, 3)]),
  (47, [(38, .aload 0, 1), (39, .getfield 512, 3), (42, .getfield 129, 3), (45, .iload 2, 1), (46, .iaload, 1), (47, .ireturn, 1)]),
  (57, [(48, .iload 1, 1), (49, .sipush 2, 1), (50, .if_icmp .ne 73, 3), (53, .iload 2, 1), (54, .sipush 2576, 3), (57, .invokestatic 135, 3)]),
  (71, [(60, .ifCond .ne 73, 3), (63, .aload 0, 1), (64, .getfield 512, 3), (67, .getfield 130, 3), (70, .iload 2, 1), (71, .iaload, 1)]),
  (74, [(72, .ireturn, 1), (73, .sipush (-1), 1), (74, .ireturn, 1)])]
/-- 106: EightBlocks.complete(I)I -/
def tb_106 : am_T := [(7, [(0, .iload 1, 1), (1, .invokestatic 136, 3), (4, .ifCond .eq 9, 3), (7, .sipush (-1), 1)]),
  (13, [(8, .ireturn, 1), (9, .iload 1, 1), (10, .invokestatic 254, 3), (13, .sipush 5, 1)]),
  (21, [(14, .if_icmp .ne 28, 3), (17, .aload 0, 1), (18, .getfield 512, 3), (21, .iload 1, 1)]),
  (30, [(22, .invokevirtual 33, 3), (25, .goto 30, 3), (28, .sipush (-2), 2), (30, .ireturn, 1)])]
/-- 107: EightBlocks.sextet(II)I -/
def tb_107 : am_T := [(8, [(0, .iload 1, 1), (1, .invokestatic 136, 3), (4, .ifCond .ne 16, 3), (7, .iload 2, 1), (8, .sipush 6, 2)]),
  (18, [(10, .invokestatic 135, 3), (13, .ifCond .eq 18, 3), (16, .sipush (-1), 1), (17, .ireturn, 1), (18, .iload 1, 1)]),
  (27, [(19, .invokestatic 254, 3), (22, .sipush 4, 1), (23, .if_icmp .ne 38, 3), (26, .aload 0, 1), (27, .getfield 512, 3)]),
  (38, [(30, .iload 1, 1), (31, .iload 2, 1), (32, .invokevirtual 35, 3), (35, .goto 40, 3), (38, .sipush (-2), 2)]),
  (40, [(40, .ireturn, 1)])]
/-- 108: EightBlocks.both(II)I -/
def tb_108 : am_T := [(8, [(0, .iload 1, 1), (1, .invokestatic 136, 3), (4, .ifCond .ne 14, 3), (7, .iload 2, 1), (8, .invokestatic 136, 3)]),
  (17, [(11, .ifCond .eq 16, 3), (14, .sipush (-1), 1), (15, .ireturn, 1), (16, .iload 1, 1), (17, .invokestatic 254, 3)]),
  (28, [(20, .sipush 4, 1), (21, .if_icmp .ne 32, 3), (24, .iload 2, 1), (25, .invokestatic 254, 3), (28, .sipush 4, 1)]),
  (36, [(29, .if_icmp .eq 35, 3), (32, .sipush (-2), 2), (34, .ireturn, 1), (35, .aload 0, 1), (36, .getfield 512, 3)]),
  (44, [(39, .iload 1, 1), (40, .iload 2, 1), (41, .invokevirtual 37, 3), (44, .ireturn, 1)])]
/-- 109: EightBlocks.met(II)I -/
def tb_109 : am_T := [(7, [(0, .iload 1, 1), (1, .invokestatic 136, 3), (4, .ifCond .ne 16, 3), (7, .iload 2, 1)]),
  (16, [(8, .sipush 9, 2), (10, .invokestatic 135, 3), (13, .ifCond .eq 18, 3), (16, .sipush (-1), 1)]),
  (22, [(17, .ireturn, 1), (18, .aload 0, 1), (19, .getfield 512, 3), (22, .iload 1, 1)]),
  (27, [(23, .iload 2, 1), (24, .invokevirtual 30, 3), (27, .ireturn, 1)])]
/-- 110: EightBlocks.move(II)I -/
def tb_110 : am_T := [(5, [(0, .iload 1, 1), (1, .sipush 5, 1), (2, .invokestatic 135, 3), (5, .ifCond .ne 17, 3)]),
  (14, [(8, .iload 2, 1), (9, .sipush 24, 2), (11, .invokestatic 135, 3), (14, .ifCond .eq 19, 3)]),
  (20, [(17, .sipush (-1), 1), (18, .ireturn, 1), (19, .aload 0, 1), (20, .getfield 515, 3)]),
  (30, [(23, .getfield 192, 3), (26, .getfield 384, 3), (29, .iload 1, 1), (30, .aaload, 1)]),
  (33, [(31, .iload 2, 1), (32, .iaload, 1), (33, .ireturn, 1)])]
/-- 111: EightBlocks.told(II)I -/
def tb_111 : am_T := [(14, [(0, .iload 1, 1), (1, .sipush 5, 1), (2, .invokestatic 135, 3), (5, .ifCond .ne 17, 3), (8, .iload 2, 1), (9, .sipush 8, 2), (11, .invokestatic 135, 3), (14, .ifCond .eq 19, 3)]),
  (30, [(17, .sipush (-1), 1), (18, .ireturn, 1), (19, .aload 0, 1), (20, .getfield 515, 3), (23, .getfield 192, 3), (26, .getfield 384, 3), (29, .iload 1, 1), (30, .aaload, 1)]),
  (84, [(31, .astore 3, 1), (32, .iload 2, 1), (33, .tableswitch 133 0 6 #[76, 93, 98, 103, 108, 118, 127], 43), (76, .aload 0, 1), (77, .getfield 512, 3), (80, .aload 3, 1), (81, .invokevirtual 32, 3), (84, .ifCond .eq 91, 3)]),
  (98, [(87, .sipush 1, 1), (88, .goto 92, 3), (91, .sipush 0, 1), (92, .ireturn, 1), (93, .aload 3, 1), (94, .invokestatic 53, 3), (97, .ireturn, 1), (98, .aload 3, 1)]),
  (111, [(99, .invokestatic 56, 3), (102, .ireturn, 1), (103, .aload 3, 1), (104, .invokestatic 57, 3), (107, .ireturn, 1), (108, .sipush 24, 2), (110, .aload 3, 1), (111, .invokestatic 56, 3)]),
  (123, [(114, .isub, 1), (115, .sipush 2, 1), (116, .irem, 1), (117, .ireturn, 1), (118, .aload 0, 1), (119, .getfield 512, 3), (122, .aload 3, 1), (123, .invokevirtual 31, 3)]),
  (137, [(126, .ireturn, 1), (127, .aload 0, 1), (128, .aload 3, 1), (129, .invokevirtual 138, 3), (132, .ireturn, 1), (133, .aload 0, 1), (134, .getfield 519, 3), (137, .aload 3, 1)]),
  (141, [(138, .invokevirtual 13, 3), (141, .ireturn, 1)])]
/-- 112: EightBlocks.letter(II)I -/
def tb_112 : am_T := [(8, [(0, .iload 1, 1), (1, .sipush 5, 1), (2, .invokestatic 135, 3), (5, .ifCond .ne 12, 3), (8, .iload 2, 1)]),
  (15, [(9, .ifCond .ge 14, 3), (12, .sipush (-1), 1), (13, .ireturn, 1), (14, .aload 0, 1), (15, .getfield 519, 3)]),
  (28, [(18, .aload 0, 1), (19, .getfield 515, 3), (22, .getfield 192, 3), (25, .getfield 384, 3), (28, .iload 1, 1)]),
  (35, [(29, .aaload, 1), (30, .invokevirtual 13, 3), (33, .pop, 1), (34, .aload 0, 1), (35, .getfield 519, 3)]),
  (42, [(38, .iload 2, 1), (39, .invokevirtual 16, 3), (42, .ireturn, 1)])]
/-- 113: EightBlocks.sent(II)I -/
def tb_113 : am_T := [(5, [(0, .iload 1, 1), (1, .sipush 5, 1), (2, .invokestatic 135, 3), (5, .ifCond .ne 15, 3)]),
  (15, [(8, .iload 2, 1), (9, .invokestatic 136, 3), (12, .ifCond .eq 17, 3), (15, .sipush (-1), 1)]),
  (21, [(16, .ireturn, 1), (17, .aload 0, 1), (18, .getfield 515, 3), (21, .getfield 192, 3)]),
  (29, [(24, .getfield 384, 3), (27, .iload 1, 1), (28, .aaload, 1), (29, .iload 2, 1)]),
  (33, [(30, .invokestatic 51, 3), (33, .ireturn, 1)])]
/-- 114: EightBlocks.type(I)I -/
def tb_114 : am_T := [(6, [(0, .iload 1, 1), (1, .sipush 32, 2), (3, .if_icmp .lt 12, 3), (6, .iload 1, 1)]),
  (13, [(7, .sipush 126, 2), (9, .if_icmp .le 14, 3), (12, .sipush (-1), 1), (13, .ireturn, 1)]),
  (19, [(14, .aload 0, 1), (15, .getfield 517, 3), (18, .iload 1, 1), (19, .invokevirtual 81, 3)]),
  (22, [(22, .ireturn, 1)])]
/-- 115: EightBlocks.read(I)I -/
def tb_115 : am_T := [(10, [(0, .iload 1, 1), (1, .sipush 4, 1), (2, .invokestatic 135, 3), (5, .ifCond .eq 10, 3), (8, .sipush (-1), 1), (9, .ireturn, 1), (10, .aload 0, 1)]),
  (27, [(11, .getfield 517, 3), (14, .aload 0, 1), (15, .getfield 515, 3), (18, .getfield 192, 3), (21, .getfield 384, 3), (24, .invokevirtual 85, 3), (27, .istore 2, 1)]),
  (41, [(28, .aload 0, 1), (29, .getfield 517, 3), (32, .invokevirtual 82, 3), (35, .iload 2, 1), (36, .ifCond .ne 50, 3), (39, .sipush (-20), 2), (41, .aload 0, 1)]),
  (54, [(42, .getfield 517, 3), (45, .invokevirtual 83, 3), (48, .isub, 1), (49, .ireturn, 1), (50, .aload 0, 1), (51, .getfield 515, 3), (54, .invokevirtual 39, 3)]),
  (69, [(57, .aload 0, 1), (58, .getfield 515, 3), (61, .getfield 192, 3), (64, .getfield 384, 3), (67, .iload 1, 1), (68, .aaload, 1), (69, .astore 3, 1)]),
  (83, [(70, .aload 3, 1), (71, .aload 0, 1), (72, .getfield 517, 3), (75, .invokevirtual 84, 3), (78, .invokestatic 52, 3), (81, .istore 4, 2), (83, .aload 3, 1)]),
  (96, [(84, .aload 0, 1), (85, .getfield 517, 3), (88, .invokevirtual 84, 3), (91, .invokestatic 46, 3), (94, .iload 4, 2), (96, .ireturn, 1)])]
/-- 116: EightBlocks.group(II)I -/
def tb_116 : am_T := [(14, [(0, .iload 1, 1), (1, .sipush 16, 2), (3, .invokestatic 135, 3), (6, .ifCond .ne 17, 3), (9, .iload 2, 1), (10, .sipush 5, 1), (11, .invokestatic 135, 3), (14, .ifCond .eq 19, 3)]),
  (29, [(17, .sipush (-1), 1), (18, .ireturn, 1), (19, .aload 0, 1), (20, .iload 1, 1), (21, .invokevirtual 140, 3), (24, .ifCond .ne 30, 3), (27, .sipush (-2), 2), (29, .ireturn, 1)]),
  (67, [(30, .iload 2, 1), (31, .tableswitch 135 0 3 #[60, 75, 89, 112], 29), (60, .aload 0, 1), (61, .iload 1, 1), (62, .sipush 0, 1), (63, .invokevirtual 141, 3), (66, .aload 0, 1), (67, .getfield 513, 3)]),
  (81, [(70, .sipush 0, 1), (71, .invokevirtual 4, 3), (74, .ireturn, 1), (75, .aload 0, 1), (76, .iload 1, 1), (77, .sipush 0, 1), (78, .invokevirtual 142, 3), (81, .aload 0, 1)]),
  (95, [(82, .getfield 514, 3), (85, .invokevirtual 66, 3), (88, .ireturn, 1), (89, .aload 0, 1), (90, .iload 1, 1), (91, .sipush 1, 1), (92, .invokevirtual 142, 3), (95, .aload 0, 1)]),
  (112, [(96, .getfield 514, 3), (99, .aload 0, 1), (100, .getfield 512, 3), (103, .getfield 128, 3), (106, .sipush 8, 2), (108, .invokevirtual 67, 3), (111, .ireturn, 1), (112, .aload 0, 1)]),
  (126, [(113, .iload 1, 1), (114, .sipush 1, 1), (115, .invokevirtual 142, 3), (118, .aload 0, 1), (119, .getfield 514, 3), (122, .aload 0, 1), (123, .getfield 512, 3), (126, .getfield 128, 3)]),
  (141, [(129, .sipush 12, 2), (131, .invokevirtual 67, 3), (134, .ireturn, 1), (135, .aload 0, 1), (136, .iload 1, 1), (137, .sipush 2, 1), (138, .invokevirtual 142, 3), (141, .aload 0, 1)]),
  (156, [(142, .getfield 514, 3), (145, .aload 0, 1), (146, .getfield 512, 3), (149, .getfield 131, 3), (152, .sipush 4, 1), (153, .invokevirtual 67, 3), (156, .ireturn, 1)])]
/-- 117: EightBlocks.held(III)I -/
def tb_117 : am_T := [(16, [(0, .iload 1, 1), (1, .sipush 16, 2), (3, .invokestatic 135, 3), (6, .ifCond .ne 24, 3), (9, .iload 2, 1), (10, .invokestatic 136, 3), (13, .ifCond .ne 24, 3), (16, .iload 3, 1)]),
  (28, [(17, .sipush 3, 1), (18, .invokestatic 135, 3), (21, .ifCond .eq 26, 3), (24, .sipush (-1), 1), (25, .ireturn, 1), (26, .aload 0, 1), (27, .iload 1, 1), (28, .invokevirtual 140, 3)]),
  (44, [(31, .ifCond .eq 50, 3), (34, .iload 3, 1), (35, .sipush 2, 1), (36, .if_icmp .ne 53, 3), (39, .aload 0, 1), (40, .getfield 512, 3), (43, .iload 2, 1), (44, .invokevirtual 24, 3)]),
  (82, [(47, .ifCond .ne 53, 3), (50, .sipush (-2), 2), (52, .ireturn, 1), (53, .iload 3, 1), (54, .lookupswitch 105 #[(0, 80), (1, 87)], 26), (80, .aload 0, 1), (81, .iload 1, 1), (82, .iload 2, 1)]),
  (94, [(83, .invokevirtual 143, 3), (86, .ireturn, 1), (87, .aload 0, 1), (88, .iload 1, 1), (89, .iload 2, 1), (90, .invokevirtual 141, 3), (93, .aload 0, 1), (94, .getfield 513, 3)]),
  (108, [(97, .iload 2, 1), (98, .invokestatic 254, 3), (101, .invokevirtual 4, 3), (104, .ireturn, 1), (105, .aload 0, 1), (106, .iload 1, 1), (107, .sipush 0, 1), (108, .invokevirtual 141, 3)]),
  (122, [(111, .aload 0, 1), (112, .iload 1, 1), (113, .sipush 1, 1), (114, .invokevirtual 142, 3), (117, .aload 0, 1), (118, .getfield 513, 3), (121, .sipush 0, 1), (122, .invokevirtual 4, 3)]),
  (140, [(125, .sipush 1, 1), (126, .aload 0, 1), (127, .getfield 514, 3), (130, .iload 2, 1), (131, .invokestatic 21, 3), (134, .invokevirtual 68, 3), (137, .invokeinterface 1 0, 3), (140, .idiv, 1)]),
  (141, [(141, .ireturn, 1)])]
/-- 118: EightBlocks.holds(II)I -/
def tb_118 : am_T := [(10, [(0, .iload 1, 1), (1, .sipush 16, 2), (3, .invokestatic 135, 3), (6, .ifCond .ne 17, 3), (9, .iload 2, 1), (10, .sipush 5, 1)]),
  (20, [(11, .invokestatic 135, 3), (14, .ifCond .eq 19, 3), (17, .sipush (-1), 1), (18, .ireturn, 1), (19, .aload 0, 1), (20, .iload 1, 1)]),
  (31, [(21, .invokevirtual 140, 3), (24, .ifCond .ne 30, 3), (27, .sipush (-2), 2), (29, .ireturn, 1), (30, .aload 0, 1), (31, .iload 1, 1)]),
  (41, [(32, .sipush 0, 1), (33, .invokevirtual 141, 3), (36, .aload 0, 1), (37, .getfield 513, 3), (40, .sipush 0, 1), (41, .aload 0, 1)]),
  (53, [(42, .getfield 515, 3), (45, .getfield 192, 3), (48, .getfield 384, 3), (51, .iload 2, 1), (52, .aaload, 1), (53, .invokevirtual 3, 3)]),
  (64, [(56, .ifCond .eq 63, 3), (59, .sipush 1, 1), (60, .goto 64, 3), (63, .sipush 0, 1), (64, .ireturn, 1)])]
/-- 119: EightBlocks.choose(I)I -/
def tb_119 : am_T := [(9, [(0, .iload 1, 1), (1, .invokestatic 136, 3), (4, .ifCond .eq 9, 3), (7, .sipush (-1), 1), (8, .ireturn, 1), (9, .aload 0, 1)]),
  (21, [(10, .getfield 515, 3), (13, .getfield 192, 3), (16, .getfield 385, 3), (19, .istore 2, 1), (20, .iload 1, 1), (21, .iload 2, 1)]),
  (34, [(22, .if_icmp .eq 45, 3), (25, .iload 1, 1), (26, .invokestatic 254, 3), (29, .sipush 12, 2), (31, .if_icmp .ne 45, 3), (34, .aload 0, 1)]),
  (47, [(35, .getfield 512, 3), (38, .iload 1, 1), (39, .invokevirtual 24, 3), (42, .ifCond .ne 48, 3), (45, .sipush (-2), 2), (47, .ireturn, 1)]),
  (59, [(48, .aload 0, 1), (49, .getfield 515, 3), (52, .invokevirtual 39, 3), (55, .aload 0, 1), (56, .getfield 515, 3), (59, .getfield 192, 3)]),
  (67, [(62, .iload 1, 1), (63, .putfield 385, 3), (66, .iload 2, 1), (67, .ireturn, 1)])]
/-- 120: EightBlocks.hexad(I)I -/
def tb_120 : am_T := [(8, [(0, .iload 1, 1), (1, .invokestatic 136, 3), (4, .ifCond .eq 9, 3), (7, .sipush (-1), 1), (8, .ireturn, 1)]),
  (19, [(9, .aload 0, 1), (10, .getfield 515, 3), (13, .getfield 192, 3), (16, .getfield 385, 3), (19, .istore 2, 1)]),
  (28, [(20, .iload 1, 1), (21, .invokestatic 254, 3), (24, .sipush 5, 1), (25, .if_icmp .ne 36, 3), (28, .iload 1, 1)]),
  (33, [(29, .iload 2, 1), (30, .sipush (-1), 1), (31, .ixor, 1), (32, .iand, 1), (33, .ifCond .eq 39, 3)]),
  (43, [(36, .sipush (-2), 2), (38, .ireturn, 1), (39, .aload 0, 1), (40, .getfield 512, 3), (43, .iload 1, 1)]),
  (49, [(44, .invokevirtual 33, 3), (47, .iload 2, 1), (48, .iand, 1), (49, .ireturn, 1)])]
/-- 121: EightBlocks.turn(II)I -/
def tb_121 : am_T := [(15, [(0, .iload 1, 1), (1, .sipush 24, 2), (3, .invokestatic 135, 3), (6, .ifCond .ne 18, 3), (9, .iload 2, 1), (10, .sipush 24, 2), (12, .invokestatic 135, 3), (15, .ifCond .eq 20, 3)]),
  (31, [(18, .sipush (-1), 1), (19, .ireturn, 1), (20, .aload 0, 1), (21, .getfield 515, 3), (24, .getfield 192, 3), (27, .getfield 385, 3), (30, .istore 3, 1), (31, .sipush 1, 1)]),
  (40, [(32, .iload 1, 1), (33, .ishl, 1), (34, .sipush 1, 1), (35, .iload 2, 1), (36, .ishl, 1), (37, .ior, 1), (38, .istore 4, 2), (40, .iload 1, 1)]),
  (54, [(41, .iload 2, 1), (42, .if_icmp .eq 52, 3), (45, .iload 4, 2), (47, .iload 3, 1), (48, .iand, 1), (49, .ifCond .eq 55, 3), (52, .sipush (-2), 2), (54, .ireturn, 1)]),
  (65, [(55, .iload 3, 1), (56, .iload 3, 1), (57, .ineg, 1), (58, .iand, 1), (59, .istore 5, 2), (61, .aload 0, 1), (62, .getfield 512, 3), (65, .getfield 129, 3)]),
  (80, [(68, .astore 6, 2), (70, .aload 6, 2), (72, .arraylength, 1), (73, .istore 7, 2), (75, .sipush 0, 1), (76, .istore 8, 2), (78, .iload 8, 2), (80, .iload 7, 2)]),
  (95, [(82, .if_icmp .ge 122, 3), (85, .aload 6, 2), (87, .iload 8, 2), (89, .iaload, 1), (90, .istore 9, 2), (92, .iload 9, 2), (94, .iload 3, 1), (95, .sipush (-1), 1)]),
  (108, [(96, .ixor, 1), (97, .iand, 1), (98, .iload 4, 2), (100, .if_icmp .ne 116, 3), (103, .iload 9, 2), (105, .iload 5, 2), (107, .iand, 1), (108, .ifCond .eq 116, 3)]),
  (124, [(111, .iload 9, 2), (113, .iload 3, 1), (114, .iand, 1), (115, .ireturn, 1), (116, .iinc 8 1, 3), (119, .goto 78, 3), (122, .sipush (-4), 2), (124, .ireturn, 1)])]
/-- 122: EightBlocks.pair(I)I -/
def tb_122 : am_T := [(9, [(0, .iload 1, 1), (1, .invokestatic 136, 3), (4, .ifCond .eq 9, 3), (7, .sipush (-1), 1), (8, .ireturn, 1), (9, .iload 1, 1)]),
  (21, [(10, .invokestatic 254, 3), (13, .sipush 6, 2), (15, .if_icmp .eq 21, 3), (18, .sipush (-2), 2), (20, .ireturn, 1), (21, .iload 1, 1)]),
  (27, [(22, .iload 1, 1), (23, .ineg, 1), (24, .iand, 1), (25, .istore 2, 1), (26, .aload 0, 1), (27, .getfield 512, 3)]),
  (37, [(30, .iload 1, 1), (31, .iload 2, 1), (32, .ixor, 1), (33, .invokevirtual 33, 3), (36, .istore 3, 1), (37, .iload 3, 1)]),
  (49, [(38, .aload 0, 1), (39, .getfield 515, 3), (42, .getfield 192, 3), (45, .getfield 385, 3), (48, .iand, 1), (49, .iload 1, 1)]),
  (59, [(50, .if_icmp .ne 59, 3), (53, .iload 3, 1), (54, .iload 1, 1), (55, .ixor, 1), (56, .goto 61, 3), (59, .sipush (-2), 2)]),
  (61, [(61, .ireturn, 1)])]
/-- 123: EightBlocks.drift(I)I -/
def tb_123 : am_T := [(6, [(0, .iload 1, 1), (1, .sipush 1, 1), (2, .if_icmp .lt 11, 3), (5, .iload 1, 1), (6, .sipush 40, 2)]),
  (14, [(8, .if_icmp .le 13, 3), (11, .sipush (-1), 1), (12, .ireturn, 1), (13, .sipush 0, 1), (14, .istore 2, 1)]),
  (21, [(15, .iload 2, 1), (16, .iload 1, 1), (17, .if_icmp .ge 44, 3), (20, .aload 0, 1), (21, .getfield 515, 3)]),
  (32, [(24, .invokevirtual 39, 3), (27, .aload 0, 1), (28, .aload 0, 1), (29, .getfield 515, 3), (32, .getfield 192, 3)]),
  (45, [(35, .invokevirtual 144, 3), (38, .iinc 2 1, 3), (41, .goto 15, 3), (44, .aload 0, 1), (45, .getfield 515, 3)]),
  (54, [(48, .getfield 192, 3), (51, .getfield 385, 3), (54, .ireturn, 1)])]
/-- 124: EightBlocks.undo()I -/
def tb_124 : am_T := [(7, [(0, .aload 0, 1), (1, .getfield 515, 3), (4, .invokevirtual 41, 3), (7, .ireturn, 1)])]
/-- 125: EightBlocks.seed(I)I -/
def tb_125 : am_T := [(5, [(0, .iload 1, 1), (1, .ifCond .ge 6, 3), (4, .sipush (-1), 1), (5, .ireturn, 1)]),
  (13, [(6, .aload 0, 1), (7, .getfield 515, 3), (10, .getfield 192, 3), (13, .getfield 386, 3)]),
  (21, [(16, .istore 2, 1), (17, .aload 0, 1), (18, .getfield 515, 3), (21, .getfield 192, 3)]),
  (29, [(24, .iload 1, 1), (25, .putfield 386, 3), (28, .iload 2, 1), (29, .ireturn, 1)])]
/-- 126: EightBlocks.count(I)I -/
def tb_126 : am_T := [(36, [(0, .iload 1, 1), (1, .tableswitch 69 0 3 #[32, 43, 51, 56], 31), (32, .aload 0, 1), (33, .getfield 515, 3), (36, .getfield 192, 3)]),
  (47, [(39, .getfield 385, 3), (42, .ireturn, 1), (43, .aload 0, 1), (44, .getfield 515, 3), (47, .getfield 194, 3)]),
  (56, [(50, .ireturn, 1), (51, .aload 0, 1), (52, .invokevirtual 139, 3), (55, .ireturn, 1), (56, .aload 0, 1)]),
  (67, [(57, .getfield 522, 3), (60, .ifCond .eq 67, 3), (63, .sipush 1, 1), (64, .goto 68, 3), (67, .sipush 0, 1)]),
  (70, [(68, .ireturn, 1), (69, .sipush (-1), 1), (70, .ireturn, 1)])]
/-- 127: EightBlocks.image()I -/
def tb_127 : am_T := [(5, [(0, .aload 0, 1), (1, .getfield 516, 3), (4, .aload 0, 1), (5, .getfield 515, 3)]),
  (13, [(8, .invokevirtual 42, 3), (11, .aload 0, 1), (12, .sipush 1, 1), (13, .putfield 522, 3)]),
  (17, [(16, .sipush 1, 1), (17, .ireturn, 1)])]
/-- 128: EightBlocks.restore()I -/
def tb_128 : am_T := [(7, [(0, .aload 0, 1), (1, .getfield 522, 3), (4, .ifCond .ne 10, 3), (7, .sipush (-4), 2)]),
  (14, [(9, .ireturn, 1), (10, .aload 0, 1), (11, .getfield 515, 3), (14, .aload 0, 1)]),
  (22, [(15, .getfield 516, 3), (18, .invokevirtual 42, 3), (21, .sipush 1, 1), (22, .ireturn, 1)])]
/-- 129: EightBlocks.retrace(IIIII)I -/
def tb_129 : am_T := [(20, [(0, .iload 1, 1), (1, .sipush 16, 2), (3, .invokestatic 135, 3), (6, .ifCond .ne 30, 3), (9, .iload 2, 1), (10, .iload 3, 1), (11, .invokestatic 137, 3), (14, .ifCond .ne 30, 3), (17, .iload 5, 2), (19, .sipush 1, 1), (20, .if_icmp .lt 30, 3)]),
  (40, [(23, .iload 5, 2), (25, .sipush 8, 2), (27, .if_icmp .le 32, 3), (30, .sipush (-1), 1), (31, .ireturn, 1), (32, .aload 0, 1), (33, .getfield 518, 3), (36, .iload 2, 1), (37, .iload 3, 1), (38, .iload 4, 2), (40, .sipush 2, 1)]),
  (59, [(41, .iload 5, 2), (43, .imul, 1), (44, .invokevirtual 72, 3), (47, .istore 6, 2), (49, .iload 6, 2), (51, .ifCond .eq 57, 3), (54, .iload 6, 2), (56, .ireturn, 1), (57, .aload 0, 1), (58, .iload 1, 1), (59, .invokevirtual 140, 3)]),
  (82, [(62, .ifCond .eq 82, 3), (65, .aload 0, 1), (66, .getfield 518, 3), (69, .iload 2, 1), (70, .iload 4, 2), (72, .sipush 2, 1), (73, .iload 5, 2), (75, .imul, 1), (76, .invokevirtual 75, 3), (79, .ifCond .ne 85, 3), (82, .sipush (-2), 2)]),
  (103, [(84, .ireturn, 1), (85, .aload 0, 1), (86, .getfield 520, 3), (89, .sipush (-4), 2), (91, .invokestatic 257, 3), (94, .sipush 0, 1), (95, .istore 7, 2), (97, .iload 4, 2), (99, .istore 8, 2), (101, .iload 8, 2), (103, .iload 4, 2)]),
  (123, [(105, .sipush 2, 1), (106, .iload 5, 2), (108, .imul, 1), (109, .iadd, 1), (110, .if_icmp .ge 189, 3), (113, .aload 0, 1), (114, .getfield 518, 3), (117, .iload 2, 1), (118, .iload 8, 2), (120, .invokevirtual 76, 3), (123, .istore 9, 2)]),
  (143, [(125, .aload 0, 1), (126, .getfield 518, 3), (129, .iload 2, 1), (130, .iload 8, 2), (132, .sipush 1, 1), (133, .iadd, 1), (134, .invokevirtual 76, 3), (137, .istore 10, 2), (139, .aload 0, 1), (140, .getfield 520, 3), (143, .iload 9, 2)]),
  (164, [(145, .iaload, 1), (146, .sipush (-4), 2), (148, .if_icmp .eq 165, 3), (151, .aload 0, 1), (152, .getfield 520, 3), (155, .iload 9, 2), (157, .iaload, 1), (158, .iload 10, 2), (160, .if_icmp .eq 165, 3), (163, .sipush 0, 1), (164, .ireturn, 1)]),
  (181, [(165, .aload 0, 1), (166, .getfield 520, 3), (169, .iload 9, 2), (171, .iload 10, 2), (173, .iastore, 1), (174, .iload 7, 2), (176, .sipush 1, 1), (177, .iload 9, 2), (179, .ishl, 1), (180, .ior, 1), (181, .istore 7, 2)]),
  (204, [(183, .iinc 8 2, 3), (186, .goto 101, 3), (189, .aload 0, 1), (190, .iload 1, 1), (191, .iload 7, 2), (193, .invokevirtual 141, 3), (196, .aload 0, 1), (197, .getfield 513, 3), (200, .aload 0, 1), (201, .getfield 520, 3), (204, .aload 0, 1)]),
  (227, [(205, .getfield 521, 3), (208, .invokevirtual 5, 3), (211, .ifCond .ne 216, 3), (214, .sipush 0, 1), (215, .ireturn, 1), (216, .aload 0, 1), (217, .getfield 515, 3), (220, .getfield 192, 3), (223, .getfield 384, 3), (226, .sipush 4, 1), (227, .aaload, 1)]),
  (247, [(228, .aload 0, 1), (229, .getfield 521, 3), (232, .invokestatic 46, 3), (235, .aload 0, 1), (236, .getfield 513, 3), (239, .iload 7, 2), (241, .invokestatic 254, 3), (244, .invokevirtual 4, 3), (247, .ireturn, 1)])]
/-- 130: EightBlocks.film(IIII)I -/
def tb_130 : am_T := [(10, [(0, .iload 1, 1), (1, .sipush 5, 1), (2, .invokestatic 135, 3), (5, .ifCond .ne 16, 3), (8, .iload 2, 1), (9, .iload 3, 1), (10, .invokestatic 137, 3)]),
  (23, [(13, .ifCond .eq 18, 3), (16, .sipush (-1), 1), (17, .ireturn, 1), (18, .aload 0, 1), (19, .getfield 518, 3), (22, .iload 2, 1), (23, .iload 3, 1)]),
  (38, [(24, .iload 4, 2), (26, .sipush 24, 2), (28, .invokevirtual 72, 3), (31, .istore 5, 2), (33, .iload 5, 2), (35, .ifCond .eq 41, 3), (38, .iload 5, 2)]),
  (51, [(40, .ireturn, 1), (41, .sipush 0, 1), (42, .istore 6, 2), (44, .iload 6, 2), (46, .sipush 24, 2), (48, .if_icmp .ge 86, 3), (51, .aload 0, 1)]),
  (62, [(52, .getfield 518, 3), (55, .iload 2, 1), (56, .iload 4, 2), (58, .iload 6, 2), (60, .iadd, 1), (61, .aload 0, 1), (62, .getfield 515, 3)]),
  (76, [(65, .getfield 192, 3), (68, .getfield 384, 3), (71, .iload 1, 1), (72, .aaload, 1), (73, .iload 6, 2), (75, .iaload, 1), (76, .i2l, 1)]),
  (88, [(77, .invokevirtual 74, 3), (80, .iinc 6 1, 3), (83, .goto 44, 3), (86, .sipush 24, 2), (88, .ireturn, 1)])]
/-- 131: EightBlocks.sheet(III)I -/
def tb_131 : am_T := [(8, [(0, .iload 1, 1), (1, .iload 2, 1), (2, .invokestatic 137, 3), (5, .ifCond .ne 14, 3), (8, .iload 3, 1)]),
  (16, [(9, .sipush 32, 2), (11, .if_icmp .le 16, 3), (14, .sipush (-1), 1), (15, .ireturn, 1), (16, .iload 3, 1)]),
  (24, [(17, .ifCond .ge 23, 3), (20, .sipush (-14), 2), (22, .ireturn, 1), (23, .aload 0, 1), (24, .getfield 518, 3)]),
  (33, [(27, .iload 1, 1), (28, .iload 2, 1), (29, .iload 3, 1), (30, .invokevirtual 70, 3), (33, .iload 3, 1)]),
  (34, [(34, .ireturn, 1)])]
/-- 132: EightBlocks.drop(I)I -/
def tb_132 : am_T := [(5, [(0, .iload 1, 1), (1, .sipush 4, 1), (2, .invokestatic 135, 3), (5, .ifCond .eq 10, 3)]),
  (11, [(8, .sipush (-1), 1), (9, .ireturn, 1), (10, .aload 0, 1), (11, .getfield 518, 3)]),
  (18, [(14, .iload 1, 1), (15, .invokevirtual 71, 3), (18, .ireturn, 1)])]
/-- 133: EightBlocks.item(IIIJ)I -/
def tb_133 : am_T := [(8, [(0, .iload 1, 1), (1, .iload 2, 1), (2, .invokestatic 137, 3), (5, .ifCond .eq 10, 3), (8, .sipush (-1), 1)]),
  (15, [(9, .ireturn, 1), (10, .aload 0, 1), (11, .getfield 518, 3), (14, .iload 1, 1), (15, .iload 2, 1)]),
  (23, [(16, .iload 3, 1), (17, .sipush 1, 1), (18, .invokevirtual 72, 3), (21, .istore 6, 2), (23, .iload 6, 2)]),
  (32, [(25, .ifCond .eq 31, 3), (28, .iload 6, 2), (30, .ireturn, 1), (31, .aload 0, 1), (32, .getfield 518, 3)]),
  (42, [(35, .iload 1, 1), (36, .iload 3, 1), (37, .lload 4, 2), (39, .invokevirtual 74, 3), (42, .sipush 1, 1)]),
  (43, [(43, .ireturn, 1)])]
/-- 134: EightBlocks.copy(IIIII)I -/
def tb_134 : am_T := [(5, [(0, .iload 1, 1), (1, .sipush 4, 1), (2, .invokestatic 135, 3), (5, .ifCond .ne 16, 3)]),
  (13, [(8, .iload 3, 1), (9, .sipush 4, 1), (10, .invokestatic 135, 3), (13, .ifCond .eq 18, 3)]),
  (19, [(16, .sipush (-1), 1), (17, .ireturn, 1), (18, .aload 0, 1), (19, .getfield 518, 3)]),
  (25, [(22, .iload 1, 1), (23, .iload 2, 1), (24, .iload 3, 1), (25, .iload 4, 2)]),
  (32, [(27, .iload 5, 2), (29, .invokevirtual 77, 3), (32, .ireturn, 1)])]
/-- 135: EightBlocks.isOutside(II)Z -/
def tb_135 : am_T := [(5, [(0, .iload 0, 1), (1, .ifCond .lt 9, 3), (4, .iload 0, 1), (5, .iload 1, 1)]),
  (13, [(6, .if_icmp .lt 13, 3), (9, .sipush 1, 1), (10, .goto 14, 3), (13, .sipush 0, 1)]),
  (14, [(14, .ireturn, 1)])]
/-- 136: EightBlocks.isNoSet(I)Z -/
def tb_136 : am_T := [(5, [(0, .iload 0, 1), (1, .ifCond .lt 11, 3), (4, .iload 0, 1), (5, .sipush 16777215, 3)]),
  (15, [(8, .if_icmp .le 15, 3), (11, .sipush 1, 1), (12, .goto 16, 3), (15, .sipush 0, 1)]),
  (16, [(16, .ireturn, 1)])]
/-- 137: EightBlocks.isNoLane(II)Z -/
def tb_137 : am_T := [(5, [(0, .iload 0, 1), (1, .sipush 4, 1), (2, .invokestatic 135, 3), (5, .ifCond .ne 16, 3)]),
  (13, [(8, .iload 1, 1), (9, .sipush 4, 1), (10, .invokestatic 135, 3), (13, .ifCond .eq 20, 3)]),
  (21, [(16, .sipush 1, 1), (17, .goto 21, 3), (20, .sipush 0, 1), (21, .ireturn, 1)])]
/-- 138: EightBlocks.whereChosenGoes([I)I -/
def tb_138 : am_T := [(10, [(0, .aload 0, 1), (1, .getfield 515, 3), (4, .getfield 192, 3), (7, .getfield 385, 3), (10, .istore 2, 1)]),
  (17, [(11, .aload 1, 1), (12, .iload 2, 1), (13, .invokestatic 51, 3), (16, .istore 3, 1), (17, .iload 3, 1)]),
  (24, [(18, .iload 2, 1), (19, .if_icmp .ne 24, 3), (22, .sipush 1, 1), (23, .ireturn, 1), (24, .iload 3, 1)]),
  (33, [(25, .sipush 16777215, 3), (28, .iload 2, 1), (29, .ixor, 1), (30, .if_icmp .ne 37, 3), (33, .sipush 2, 1)]),
  (38, [(34, .goto 38, 3), (37, .sipush 0, 1), (38, .ireturn, 1)])]
/-- 139: EightBlocks.preservingMoves()I -/
def tb_139 : am_T := [(4, [(0, .sipush 0, 1), (1, .istore 1, 1), (2, .sipush 0, 1), (3, .istore 2, 1), (4, .iload 2, 1)]),
  (13, [(5, .sipush 5, 1), (6, .if_icmp .ge 43, 3), (9, .aload 0, 1), (10, .getfield 512, 3), (13, .aload 0, 1)]),
  (24, [(14, .getfield 515, 3), (17, .getfield 192, 3), (20, .getfield 384, 3), (23, .iload 2, 1), (24, .aaload, 1)]),
  (33, [(25, .invokevirtual 32, 3), (28, .ifCond .eq 37, 3), (31, .iload 1, 1), (32, .sipush 1, 1), (33, .iload 2, 1)]),
  (40, [(34, .ishl, 1), (35, .ior, 1), (36, .istore 1, 1), (37, .iinc 2 1, 3), (40, .goto 4, 3)]),
  (44, [(43, .iload 1, 1), (44, .ireturn, 1)])]
/-- 140: EightBlocks.preserveCode(I)Z -/
def tb_140 : am_T := [(5, [(0, .iload 1, 1), (1, .aload 0, 1), (2, .invokevirtual 139, 3), (5, .sipush (-1), 1)]),
  (11, [(6, .ixor, 1), (7, .iand, 1), (8, .ifCond .ne 15, 3), (11, .sipush 1, 1)]),
  (16, [(12, .goto 16, 3), (15, .sipush 0, 1), (16, .ireturn, 1)])]
/-- 141: EightBlocks.buildChain(II)V -/
def tb_141 : am_T := [(8, [(0, .aload 0, 1), (1, .getfield 513, 3), (4, .iload 2, 1), (5, .invokevirtual 1, 3), (8, .sipush 0, 1)]),
  (15, [(9, .istore 3, 1), (10, .iload 3, 1), (11, .sipush 4, 1), (12, .if_icmp .ge 49, 3), (15, .iload 1, 1)]),
  (20, [(16, .iload 3, 1), (17, .ishr, 1), (18, .sipush 1, 1), (19, .iand, 1), (20, .sipush 1, 1)]),
  (29, [(21, .if_icmp .ne 43, 3), (24, .aload 0, 1), (25, .getfield 513, 3), (28, .aload 0, 1), (29, .getfield 515, 3)]),
  (40, [(32, .getfield 192, 3), (35, .getfield 384, 3), (38, .iload 3, 1), (39, .aaload, 1), (40, .invokevirtual 2, 3)]),
  (49, [(43, .iinc 3 1, 3), (46, .goto 10, 3), (49, .return_, 1)])]
/-- 142: EightBlocks.findOrbits(II)V -/
def tb_142 : am_T := [(8, [(0, .aload 0, 1), (1, .getfield 514, 3), (4, .iload 2, 1), (5, .invokevirtual 60, 3), (8, .sipush 0, 1)]),
  (15, [(9, .istore 3, 1), (10, .iload 3, 1), (11, .sipush 4, 1), (12, .if_icmp .ge 53, 3), (15, .iload 1, 1)]),
  (20, [(16, .iload 3, 1), (17, .ishr, 1), (18, .sipush 1, 1), (19, .iand, 1), (20, .sipush 1, 1)]),
  (29, [(21, .if_icmp .ne 47, 3), (24, .aload 0, 1), (25, .getfield 514, 3), (28, .aload 0, 1), (29, .getfield 512, 3)]),
  (42, [(32, .aload 0, 1), (33, .getfield 515, 3), (36, .getfield 192, 3), (39, .getfield 384, 3), (42, .iload 3, 1)]),
  (53, [(43, .aaload, 1), (44, .invokevirtual 61, 3), (47, .iinc 3 1, 3), (50, .goto 10, 3), (53, .return_, 1)])]
/-- 143: EightBlocks.reachedFrom(II)I -/
def tb_143 : am_T := [(7, [(0, .iload 2, 1), (1, .istore 3, 1), (2, .sipush 0, 1), (3, .istore 4, 2), (5, .iload 4, 2), (7, .sipush 24, 2)]),
  (18, [(9, .if_icmp .ge 63, 3), (12, .sipush 0, 1), (13, .istore 5, 2), (15, .iload 5, 2), (17, .sipush 4, 1), (18, .if_icmp .ge 57, 3)]),
  (27, [(21, .iload 1, 1), (22, .iload 5, 2), (24, .ishr, 1), (25, .sipush 1, 1), (26, .iand, 1), (27, .sipush 1, 1)]),
  (39, [(28, .if_icmp .ne 51, 3), (31, .iload 3, 1), (32, .aload 0, 1), (33, .getfield 515, 3), (36, .getfield 192, 3), (39, .getfield 384, 3)]),
  (50, [(42, .iload 5, 2), (44, .aaload, 1), (45, .iload 3, 1), (46, .invokestatic 51, 3), (49, .ior, 1), (50, .istore 3, 1)]),
  (64, [(51, .iinc 5 1, 3), (54, .goto 15, 3), (57, .iinc 4 1, 3), (60, .goto 5, 3), (63, .iload 3, 1), (64, .ireturn, 1)])]
/-- 144: EightBlocks.turnAtRandom(LEightBlocks$State;)V -/
def tb_144 : am_T := [(13, [(0, .aload 1, 1), (1, .aload 1, 1), (2, .getfield 386, 3), (5, .i2l, 1), (6, .jsr_w 1103515245, 3), (9, .lmul, 1), (10, .jsr_w 12345, 3), (13, .ladd, 1)]),
  (29, [(14, .jsr_w 2147483647, 3), (17, .land, 1), (18, .l2i, 1), (19, .putfield 386, 3), (22, .aload 1, 1), (23, .getfield 386, 3), (26, .sipush 65536, 3), (29, .idiv, 1)]),
  (39, [(30, .istore 2, 1), (31, .iload 2, 1), (32, .sipush 8, 2), (34, .idiv, 1), (35, .istore 3, 1), (36, .iload 2, 1), (37, .sipush 8, 2), (39, .irem, 1)]),
  (55, [(40, .ifCond .ne 61, 3), (43, .aload 1, 1), (44, .aload 0, 1), (45, .getfield 512, 3), (48, .getfield 130, 3), (51, .iload 3, 1), (52, .sipush 2576, 3), (55, .irem, 1)]),
  (69, [(56, .iaload, 1), (57, .putfield 385, 3), (60, .return_, 1), (61, .aload 0, 1), (62, .getfield 521, 3), (65, .aload 1, 1), (66, .getfield 384, 3), (69, .iload 2, 1)]),
  (81, [(70, .sipush 4, 1), (71, .irem, 1), (72, .aaload, 1), (73, .invokestatic 46, 3), (76, .aload 0, 1), (77, .getfield 521, 3), (80, .aload 1, 1), (81, .getfield 384, 3)]),
  (95, [(84, .iload 3, 1), (85, .sipush 5, 1), (86, .irem, 1), (87, .aaload, 1), (88, .invokestatic 47, 3), (91, .aload 1, 1), (92, .getfield 384, 3), (95, .iload 2, 1)]),
  (106, [(96, .sipush 4, 1), (97, .irem, 1), (98, .aaload, 1), (99, .aload 0, 1), (100, .getfield 521, 3), (103, .invokestatic 46, 3), (106, .return_, 1)])]
/-- 145: EightBlocksModel.in(JJJ)Z -/
def tb_145 : am_T := [(3, [(0, .lload 0, 1), (1, .lload 2, 1), (2, .lcmp, 1), (3, .ifCond .lt 17, 3)]),
  (10, [(6, .lload 0, 1), (7, .lload 4, 2), (9, .lcmp, 1), (10, .ifCond .gt 17, 3)]),
  (18, [(13, .sipush 1, 1), (14, .goto 18, 3), (17, .sipush 0, 1), (18, .ireturn, 1)])]
/-- 146: EightBlocksModel.init()V -/
def tb_146 : am_T := [(28, [(0, .aload 0, 1), (1, .monitorexit, 3), (4, .aload 0, 1), (5, .sipush 122, 2), (7, .newarray .int, 2), (9, .putfield 576, 3), (12, .aload 0, 1), (13, .sipush 12, 2), (15, .newarray .int, 2), (17, .putfield 577, 3), (20, .aload 0, 1), (21, .sipush 12, 2), (23, .newarray .int, 2), (25, .putfield 578, 3), (28, .aload 0, 1)]),
  (59, [(29, .sipush 4096, 3), (32, .newarray .int, 2), (34, .putfield 580, 3), (37, .aload 0, 1), (38, .sipush 759, 3), (41, .newarray .int, 2), (43, .putfield 581, 3), (46, .aload 0, 1), (47, .sipush 100, 2), (49, .newarray .int, 2), (51, .putfield 582, 3), (54, .aload 0, 1), (55, .sipush 100, 2), (57, .newarray .int, 2), (59, .putfield 584, 3)]),
  (90, [(62, .aload 0, 1), (63, .sipush 24, 2), (65, .newarray .int, 2), (67, .putfield 587, 3), (70, .aload 0, 1), (71, .sipush 168, 3), (74, .newarray .int, 2), (76, .putfield 588, 3), (79, .aload 0, 1), (80, .sipush 24, 2), (82, .newarray .int, 2), (84, .putfield 589, 3), (87, .aload 0, 1), (88, .sipush 24, 2), (90, .newarray .int, 2)]),
  (122, [(92, .putfield 591, 3), (95, .aload 0, 1), (96, .sipush 576, 3), (99, .newarray .int, 2), (101, .putfield 592, 3), (104, .aload 0, 1), (105, .sipush 2976, 3), (108, .newarray .int, 2), (110, .putfield 593, 3), (113, .aload 0, 1), (114, .sipush 124, 2), (116, .newarray .int, 2), (118, .putfield 594, 3), (121, .aload 0, 1), (122, .sipush 24, 2)]),
  (151, [(124, .newarray .int, 2), (126, .putfield 596, 3), (129, .aload 0, 1), (130, .sipush (-1), 1), (131, .putfield 597, 3), (134, .aload 0, 1), (135, .sipush 96, 2), (137, .newarray .int, 2), (139, .putfield 599, 3), (142, .aload 0, 1), (143, .sipush 48, 2), (145, .newarray .int, 2), (147, .putfield 600, 3), (150, .aload 0, 1), (151, .sipush 4096, 3)]),
  (185, [(154, .newarray .boolean, 2), (156, .putfield 601, 3), (159, .aload 0, 1), (160, .sipush 4096, 3), (163, .newarray .int, 2), (165, .putfield 602, 3), (168, .aload 0, 1), (169, .sipush 732, 3), (172, .newarray .int, 2), (174, .putfield 603, 3), (177, .aload 0, 1), (178, .sipush 122, 2), (180, .newarray .int, 2), (182, .putfield 605, 3), (185, .aload 0, 1)]),
  (213, [(186, .sipush 732, 3), (189, .newarray .int, 2), (191, .putfield 606, 3), (194, .aload 0, 1), (195, .sipush (-1), 1), (196, .putfield 607, 3), (199, .aload 0, 1), (200, .sipush 4, 1), (201, .newarray .int, 2), (203, .putfield 608, 3), (206, .aload 0, 1), (207, .sipush 4, 1), (208, .newarray .int, 2), (210, .putfield 609, 3), (213, .aload 0, 1)]),
  (241, [(214, .sipush 128, 3), (217, .newarray .long, 2), (219, .putfield 610, 3), (222, .aload 0, 1), (223, .sipush 32, 2), (225, .newarray .long, 2), (227, .putfield 611, 3), (230, .aload 0, 1), (231, .sipush 24, 2), (233, .newarray .int, 2), (235, .putfield 612, 3), (238, .sipush 0, 1), (239, .istore 1, 1), (240, .iload 1, 1), (241, .sipush 5, 1)]),
  (264, [(242, .if_icmp .ge 281, 3), (245, .sipush 0, 1), (246, .istore 2, 1), (247, .iload 2, 1), (248, .sipush 24, 2), (250, .if_icmp .ge 275, 3), (253, .aload 0, 1), (254, .getfield 576, 3), (257, .sipush 24, 2), (259, .iload 1, 1), (260, .imul, 1), (261, .iload 2, 1), (262, .iadd, 1), (263, .iload 1, 1), (264, .iload 2, 1)]),
  (295, [(265, .invokestatic 152, 3), (268, .iastore, 1), (269, .iinc 2 1, 3), (272, .goto 247, 3), (275, .iinc 1 1, 3), (278, .goto 240, 3), (281, .aload 0, 1), (282, .getfield 576, 3), (285, .sipush 121, 2), (287, .sipush 1, 1), (288, .iastore, 1), (289, .aload 0, 1), (290, .getfield 576, 3), (293, .sipush 120, 2), (295, .sipush 0, 1)]),
  (319, [(296, .invokestatic 154, 3), (299, .iastore, 1), (300, .sipush 0, 1), (301, .istore 1, 1), (302, .iload 1, 1), (303, .sipush 12, 2), (305, .if_icmp .ge 325, 3), (308, .aload 0, 1), (309, .iload 1, 1), (310, .invokestatic 154, 3), (313, .sipush 1, 1), (314, .iload 1, 1), (315, .ishl, 1), (316, .invokevirtual 156, 3), (319, .iinc 1 1, 3)]),
  (346, [(322, .goto 302, 3), (325, .sipush 0, 1), (326, .istore 1, 1), (327, .sipush 0, 1), (328, .istore 2, 1), (329, .iload 2, 1), (330, .sipush 4096, 3), (333, .if_icmp .ge 405, 3), (336, .aload 0, 1), (337, .getfield 580, 3), (340, .iload 2, 1), (341, .iload 2, 1), (342, .ifCond .ne 349, 3), (345, .sipush 0, 1), (346, .goto 369, 3)]),
  (369, [(349, .aload 0, 1), (350, .getfield 580, 3), (353, .iload 2, 1), (354, .iload 2, 1), (355, .sipush 1, 1), (356, .isub, 1), (357, .iand, 1), (358, .iaload, 1), (359, .aload 0, 1), (360, .getfield 577, 3), (363, .iload 2, 1), (364, .invokestatic 149, 3), (367, .iaload, 1), (368, .ixor, 1), (369, .iastore, 1)]),
  (395, [(370, .aload 0, 1), (371, .getfield 580, 3), (374, .iload 2, 1), (375, .iaload, 1), (376, .invokestatic 148, 3), (379, .sipush 8, 2), (381, .if_icmp .ne 399, 3), (384, .aload 0, 1), (385, .getfield 581, 3), (388, .iload 1, 1), (389, .aload 0, 1), (390, .getfield 580, 3), (393, .iload 2, 1), (394, .iaload, 1), (395, .iastore, 1)]),
  (422, [(396, .iinc 1 1, 3), (399, .iinc 2 1, 3), (402, .goto 329, 3), (405, .sipush 0, 1), (406, .istore 2, 1), (407, .iload 2, 1), (408, .sipush 4, 1), (409, .if_icmp .ge 425, 3), (412, .aload 0, 1), (413, .getfield 608, 3), (416, .iload 2, 1), (417, .sipush (-1), 1), (418, .iastore, 1), (419, .iinc 2 1, 3), (422, .goto 407, 3)]),
  (425, [(425, .return_, 1)])]
/-- 147: EightBlocksModel.has(II)Z -/
def tb_147 : am_T := [(3, [(0, .iload 0, 1), (1, .iload 1, 1), (2, .ishr, 1), (3, .sipush 1, 1)]),
  (9, [(4, .iand, 1), (5, .sipush 1, 1), (6, .if_icmp .ne 13, 3), (9, .sipush 1, 1)]),
  (14, [(10, .goto 14, 3), (13, .sipush 0, 1), (14, .ireturn, 1)])]
/-- 148: EightBlocksModel.bits(I)I -/
def tb_148 : am_T := [(3, [(0, .sipush 0, 1), (1, .istore 1, 1), (2, .iload 0, 1), (3, .istore 2, 1)]),
  (11, [(4, .iload 2, 1), (5, .ifCond .eq 20, 3), (8, .iinc 1 1, 3), (11, .iload 2, 1)]),
  (15, [(12, .iload 2, 1), (13, .sipush 1, 1), (14, .isub, 1), (15, .iand, 1)]),
  (21, [(16, .istore 2, 1), (17, .goto 4, 3), (20, .iload 1, 1), (21, .ireturn, 1)])]
/-- 149: EightBlocksModel.lowest(I)I -/
def tb_149 : am_T := [(3, [(0, .sipush 0, 1), (1, .istore 1, 1), (2, .iload 1, 1), (3, .sipush 31, 2)]),
  (10, [(5, .if_icmp .ge 22, 3), (8, .iload 0, 1), (9, .iload 1, 1), (10, .invokestatic 147, 3)]),
  (22, [(13, .ifCond .ne 22, 3), (16, .iinc 1 1, 3), (19, .goto 2, 3), (22, .iload 1, 1)]),
  (23, [(23, .ireturn, 1)])]
/-- 150: EightBlocksModel.isSet(I)Z -/
def tb_150 : am_T := [(3, [(0, .iload 0, 1), (1, .i2l, 1), (2, .jsr_w 0, 1), (3, .jsr_w 16777215, 3)]),
  (9, [(6, .invokestatic 145, 3), (9, .ireturn, 1)])]
/-- 151: EightBlocksModel.isPlace(J)Z -/
def tb_151 : am_T := [(5, [(0, .lload 0, 1), (1, .jsr_w 0, 1), (2, .jsr_w 23, 3), (5, .invokestatic 145, 3)]),
  (8, [(8, .ireturn, 1)])]
/-- 152: EightBlocksModel.named(II)I -/
def tb_152 : am_T := [(39, [(0, .iload 0, 1), (1, .tableswitch 110 0 3 #[32, 50, 68, 73], 31), (32, .iload 1, 1), (33, .sipush 23, 2), (35, .if_icmp .ge 47, 3), (38, .iload 1, 1), (39, .sipush 1, 1)]),
  (50, [(40, .iadd, 1), (41, .sipush 23, 2), (43, .irem, 1), (44, .goto 49, 3), (47, .sipush 23, 2), (49, .ireturn, 1), (50, .iload 1, 1)]),
  (61, [(51, .sipush 23, 2), (53, .if_icmp .ge 65, 3), (56, .sipush 2, 1), (57, .iload 1, 1), (58, .imul, 1), (59, .sipush 23, 2), (61, .irem, 1)]),
  (73, [(62, .goto 67, 3), (65, .sipush 23, 2), (67, .ireturn, 1), (68, .iload 1, 1), (69, .invokestatic 153, 3), (72, .ireturn, 1), (73, .iload 1, 1)]),
  (88, [(74, .sipush 23, 2), (76, .if_icmp .ge 107, 3), (79, .sipush 340830, 2), (81, .iload 1, 1), (82, .invokestatic 147, 3), (85, .ifCond .eq 93, 3), (88, .sipush 18, 2)]),
  (99, [(90, .goto 95, 3), (93, .sipush 9, 2), (95, .iload 1, 1), (96, .imul, 1), (97, .iload 1, 1), (98, .imul, 1), (99, .iload 1, 1)]),
  (110, [(100, .imul, 1), (101, .sipush 23, 2), (103, .irem, 1), (104, .goto 109, 3), (107, .sipush 23, 2), (109, .ireturn, 1), (110, .iload 1, 1)]),
  (111, [(111, .ireturn, 1)])]
/-- 153: EightBlocksModel.overOf(I)I -/
def tb_153 : am_T := [(10, [(0, .iload 0, 1), (1, .ifCond .ne 9, 3), (4, .sipush 23, 2), (6, .goto 10, 3), (9, .sipush 0, 1), (10, .istore 1, 1)]),
  (19, [(11, .sipush 1, 1), (12, .istore 2, 1), (13, .iload 2, 1), (14, .sipush 23, 2), (16, .if_icmp .ge 54, 3), (19, .iload 0, 1)]),
  (31, [(20, .i2l, 1), (21, .jsr_w 1, 1), (22, .jsr_w 22, 3), (25, .invokestatic 145, 3), (28, .ifCond .eq 46, 3), (31, .iload 0, 1)]),
  (39, [(32, .iload 2, 1), (33, .imul, 1), (34, .sipush 23, 2), (36, .irem, 1), (37, .sipush 22, 2), (39, .if_icmp .ne 46, 3)]),
  (51, [(42, .iload 2, 1), (43, .goto 47, 3), (46, .iload 1, 1), (47, .istore 1, 1), (48, .iinc 2 1, 3), (51, .goto 13, 3)]),
  (55, [(54, .iload 1, 1), (55, .ireturn, 1)])]
/-- 154: EightBlocksModel.basic(I)I -/
def tb_154 : am_T := [(5, [(0, .sipush 8388608, 2), (2, .istore 1, 1), (3, .sipush 0, 1), (4, .istore 2, 1), (5, .iload 2, 1)]),
  (14, [(6, .sipush 23, 2), (8, .if_icmp .ge 44, 3), (11, .iload 1, 1), (12, .sipush 8047776, 2), (14, .iload 2, 1)]),
  (23, [(15, .invokestatic 147, 3), (18, .ifCond .eq 35, 3), (21, .sipush 1, 1), (22, .iload 2, 1), (23, .iload 0, 1)]),
  (30, [(24, .isub, 1), (25, .sipush 23, 2), (27, .iadd, 1), (28, .sipush 23, 2), (30, .irem, 1)]),
  (37, [(31, .ishl, 1), (32, .goto 36, 3), (35, .sipush 0, 1), (36, .ior, 1), (37, .istore 1, 1)]),
  (45, [(38, .iinc 2 1, 3), (41, .goto 5, 3), (44, .iload 1, 1), (45, .ireturn, 1)])]
/-- 155: EightBlocksModel.highest(I)I -/
def tb_155 : am_T := [(4, [(0, .sipush 23, 2), (2, .istore 1, 1), (3, .iload 1, 1), (4, .ifCond .le 21, 3)]),
  (12, [(7, .iload 0, 1), (8, .iload 1, 1), (9, .invokestatic 147, 3), (12, .ifCond .ne 21, 3)]),
  (22, [(15, .iinc 1 (-1), 3), (18, .goto 3, 3), (21, .iload 1, 1), (22, .ireturn, 1)])]
/-- 156: EightBlocksModel.comes(II)V -/
def tb_156 : am_T := [(17, [(0, .iload 1, 1), (1, .istore 3, 1), (2, .iload 2, 1), (3, .istore 4, 2), (5, .sipush 0, 1), (6, .istore 5, 2), (8, .iload 5, 2), (10, .aload 0, 1), (11, .getfield 579, 3), (14, .if_icmp .ge 62, 3), (17, .iload 3, 1)]),
  (39, [(18, .aload 0, 1), (19, .getfield 577, 3), (22, .iload 5, 2), (24, .iaload, 1), (25, .invokestatic 155, 3), (28, .invokestatic 147, 3), (31, .ifCond .eq 56, 3), (34, .iload 3, 1), (35, .aload 0, 1), (36, .getfield 577, 3), (39, .iload 5, 2)]),
  (56, [(41, .iaload, 1), (42, .ixor, 1), (43, .istore 3, 1), (44, .iload 4, 2), (46, .aload 0, 1), (47, .getfield 578, 3), (50, .iload 5, 2), (52, .iaload, 1), (53, .ixor, 1), (54, .istore 4, 2), (56, .iinc 5 1, 3)]),
  (79, [(59, .goto 8, 3), (62, .iload 3, 1), (63, .invokestatic 155, 3), (66, .istore 5, 2), (68, .aload 0, 1), (69, .getfield 579, 3), (72, .istore 6, 2), (74, .aload 0, 1), (75, .getfield 579, 3), (78, .sipush 1, 1), (79, .isub, 1)]),
  (102, [(80, .istore 7, 2), (82, .iload 7, 2), (84, .ifCond .lt 182, 3), (87, .aload 0, 1), (88, .getfield 577, 3), (91, .iload 7, 2), (93, .iaload, 1), (94, .iload 5, 2), (96, .invokestatic 147, 3), (99, .ifCond .eq 125, 3), (102, .aload 0, 1)]),
  (119, [(103, .getfield 577, 3), (106, .iload 7, 2), (108, .dup2, 1), (109, .iaload, 1), (110, .iload 3, 1), (111, .ixor, 1), (112, .iastore, 1), (113, .aload 0, 1), (114, .getfield 578, 3), (117, .iload 7, 2), (119, .dup2, 1)]),
  (137, [(120, .iaload, 1), (121, .iload 4, 2), (123, .ixor, 1), (124, .iastore, 1), (125, .aload 0, 1), (126, .getfield 577, 3), (129, .iload 7, 2), (131, .iaload, 1), (132, .invokestatic 155, 3), (135, .iload 5, 2), (137, .if_icmp .le 176, 3)]),
  (156, [(140, .aload 0, 1), (141, .getfield 577, 3), (144, .iload 7, 2), (146, .sipush 1, 1), (147, .iadd, 1), (148, .aload 0, 1), (149, .getfield 577, 3), (152, .iload 7, 2), (154, .iaload, 1), (155, .iastore, 1), (156, .aload 0, 1)]),
  (174, [(157, .getfield 578, 3), (160, .iload 7, 2), (162, .sipush 1, 1), (163, .iadd, 1), (164, .aload 0, 1), (165, .getfield 578, 3), (168, .iload 7, 2), (170, .iaload, 1), (171, .iastore, 1), (172, .iload 7, 2), (174, .istore 6, 2)]),
  (196, [(176, .iinc 7 (-1), 3), (179, .goto 82, 3), (182, .aload 0, 1), (183, .getfield 577, 3), (186, .iload 6, 2), (188, .iload 3, 1), (189, .iastore, 1), (190, .aload 0, 1), (191, .getfield 578, 3), (194, .iload 6, 2), (196, .iload 4, 2)]),
  (209, [(198, .iastore, 1), (199, .aload 0, 1), (200, .dup, 1), (201, .getfield 579, 3), (204, .sipush 1, 1), (205, .iadd, 1), (206, .putfield 579, 3), (209, .return_, 1)])]
/-- 157: EightBlocksModel.numberOf(I)I -/
def tb_157 : am_T := [(6, [(0, .iload 1, 1), (1, .istore 2, 1), (2, .sipush 0, 1), (3, .istore 3, 1), (4, .sipush 11, 2), (6, .istore 4, 2)]),
  (18, [(8, .iload 4, 2), (10, .ifCond .lt 56, 3), (13, .iload 2, 1), (14, .aload 0, 1), (15, .getfield 577, 3), (18, .iload 4, 2)]),
  (31, [(20, .iaload, 1), (21, .invokestatic 155, 3), (24, .invokestatic 147, 3), (27, .ifCond .eq 50, 3), (30, .iload 2, 1), (31, .aload 0, 1)]),
  (40, [(32, .getfield 577, 3), (35, .iload 4, 2), (37, .iaload, 1), (38, .ixor, 1), (39, .istore 2, 1), (40, .iload 3, 1)]),
  (49, [(41, .aload 0, 1), (42, .getfield 578, 3), (45, .iload 4, 2), (47, .iaload, 1), (48, .ixor, 1), (49, .istore 3, 1)]),
  (61, [(50, .iinc 4 (-1), 3), (53, .goto 8, 3), (56, .iload 2, 1), (57, .ifCond .ne 64, 3), (60, .iload 3, 1), (61, .goto 66, 3)]),
  (66, [(64, .sipush (-4), 2), (66, .ireturn, 1)])]
/-- 158: EightBlocksModel.wordOf(I)I -/
def tb_158 : am_T := [(4, [(0, .sipush 0, 1), (1, .istore 1, 1), (2, .sipush 0, 1), (3, .istore 2, 1), (4, .iload 2, 1)]),
  (12, [(5, .sipush 12, 2), (7, .if_icmp .ge 35, 3), (10, .iload 1, 1), (11, .iload 0, 1), (12, .iload 2, 1)]),
  (23, [(13, .invokestatic 147, 3), (16, .ifCond .eq 26, 3), (19, .iload 2, 1), (20, .invokestatic 154, 3), (23, .goto 27, 3)]),
  (32, [(26, .sipush 0, 1), (27, .ixor, 1), (28, .istore 1, 1), (29, .iinc 2 1, 3), (32, .goto 4, 3)]),
  (36, [(35, .iload 1, 1), (36, .ireturn, 1)])]
/-- 159: EightBlocksModel.closest(II)I -/
def tb_159 : am_T := [(12, [(0, .sipush 25, 2), (2, .istore 3, 1), (3, .sipush 0, 1), (4, .istore 4, 2), (6, .sipush 0, 1), (7, .istore 5, 2), (9, .sipush 4095, 3), (12, .istore 6, 2)]),
  (27, [(14, .iload 6, 2), (16, .ifCond .lt 99, 3), (19, .iload 1, 1), (20, .aload 0, 1), (21, .getfield 580, 3), (24, .iload 6, 2), (26, .iaload, 1), (27, .ixor, 1)]),
  (43, [(28, .invokestatic 148, 3), (31, .istore 7, 2), (33, .iload 7, 2), (35, .iload 3, 1), (36, .if_icmp .ge 43, 3), (39, .sipush 1, 1), (40, .goto 58, 3), (43, .iload 7, 2)]),
  (58, [(45, .iload 3, 1), (46, .if_icmp .ne 56, 3), (49, .iload 4, 2), (51, .sipush 1, 1), (52, .iadd, 1), (53, .goto 58, 3), (56, .iload 4, 2), (58, .istore 4, 2)]),
  (73, [(60, .iload 7, 2), (62, .iload 3, 1), (63, .if_icmp .gt 76, 3), (66, .aload 0, 1), (67, .getfield 580, 3), (70, .iload 6, 2), (72, .iaload, 1), (73, .goto 78, 3)]),
  (91, [(76, .iload 5, 2), (78, .istore 5, 2), (80, .iload 7, 2), (82, .iload 3, 1), (83, .if_icmp .ge 91, 3), (86, .iload 7, 2), (88, .goto 92, 3), (91, .iload 3, 1)]),
  (105, [(92, .istore 3, 1), (93, .iinc 6 (-1), 3), (96, .goto 14, 3), (99, .iload 2, 1), (100, .sipush 2, 1), (101, .if_icmp .ne 108, 3), (104, .iload 3, 1), (105, .goto 120, 3)]),
  (120, [(108, .iload 2, 1), (109, .sipush 3, 1), (110, .if_icmp .ne 118, 3), (113, .iload 4, 2), (115, .goto 120, 3), (118, .iload 5, 2), (120, .ireturn, 1)])]
/-- 160: EightBlocksModel.octadsIn(I)I -/
def tb_160 : am_T := [(4, [(0, .sipush 0, 1), (1, .istore 2, 1), (2, .sipush 0, 1), (3, .istore 3, 1), (4, .iload 3, 1)]),
  (13, [(5, .sipush 759, 3), (8, .if_icmp .ge 38, 3), (11, .iload 2, 1), (12, .aload 0, 1), (13, .getfield 581, 3)]),
  (20, [(16, .iload 3, 1), (17, .iaload, 1), (18, .iload 1, 1), (19, .sipush (-1), 1), (20, .ixor, 1)]),
  (29, [(21, .iand, 1), (22, .ifCond .ne 29, 3), (25, .sipush 1, 1), (26, .goto 30, 3), (29, .sipush 0, 1)]),
  (38, [(30, .iadd, 1), (31, .istore 2, 1), (32, .iinc 3 1, 3), (35, .goto 4, 3), (38, .iload 2, 1)]),
  (39, [(39, .ireturn, 1)])]
/-- 161: EightBlocksModel.octadsWith(I)I -/
def tb_161 : am_T := [(4, [(0, .sipush 0, 1), (1, .istore 2, 1), (2, .sipush 0, 1), (3, .istore 3, 1), (4, .iload 3, 1)]),
  (13, [(5, .sipush 759, 3), (8, .if_icmp .ge 38, 3), (11, .iload 2, 1), (12, .iload 1, 1), (13, .aload 0, 1)]),
  (20, [(14, .getfield 581, 3), (17, .iload 3, 1), (18, .iaload, 1), (19, .sipush (-1), 1), (20, .ixor, 1)]),
  (29, [(21, .iand, 1), (22, .ifCond .ne 29, 3), (25, .sipush 1, 1), (26, .goto 30, 3), (29, .sipush 0, 1)]),
  (38, [(30, .iadd, 1), (31, .istore 2, 1), (32, .iinc 3 1, 3), (35, .goto 4, 3), (38, .iload 2, 1)]),
  (39, [(39, .ireturn, 1)])]
/-- 162: EightBlocksModel.word(II)I -/
def tb_162 : am_T := [(8, [(0, .iload 1, 1), (1, .invokestatic 150, 3), (4, .ifCond .ne 9, 3), (7, .sipush (-1), 1), (8, .ireturn, 1)]),
  (56, [(9, .iload 2, 1), (10, .tableswitch 82 0 6 #[52, 57, 63, 63, 63, 70, 76], 42), (52, .iload 1, 1), (53, .invokestatic 148, 3), (56, .ireturn, 1)]),
  (63, [(57, .aload 0, 1), (58, .iload 1, 1), (59, .invokevirtual 157, 3), (62, .ireturn, 1), (63, .aload 0, 1)]),
  (70, [(64, .iload 1, 1), (65, .iload 2, 1), (66, .invokevirtual 159, 3), (69, .ireturn, 1), (70, .aload 0, 1)]),
  (77, [(71, .iload 1, 1), (72, .invokevirtual 160, 3), (75, .ireturn, 1), (76, .aload 0, 1), (77, .iload 1, 1)]),
  (83, [(78, .invokevirtual 161, 3), (81, .ireturn, 1), (82, .sipush (-1), 1), (83, .ireturn, 1)])]
/-- 163: EightBlocksModel.dodecad(I)I -/
def tb_163 : am_T := [(5, [(0, .iload 1, 1), (1, .istore 2, 1), (2, .sipush 0, 1), (3, .istore 3, 1), (4, .iload 3, 1), (5, .sipush 4095, 3)]),
  (19, [(8, .if_icmp .ge 57, 3), (11, .iload 2, 1), (12, .ifCond .gt 29, 3), (15, .aload 0, 1), (16, .getfield 580, 3), (19, .iload 3, 1)]),
  (30, [(20, .iaload, 1), (21, .invokestatic 148, 3), (24, .sipush 12, 2), (26, .if_icmp .eq 57, 3), (29, .iload 2, 1), (30, .aload 0, 1)]),
  (41, [(31, .getfield 580, 3), (34, .iload 3, 1), (35, .iaload, 1), (36, .invokestatic 148, 3), (39, .sipush 12, 2), (41, .if_icmp .ne 48, 3)]),
  (51, [(44, .sipush 1, 1), (45, .goto 49, 3), (48, .sipush 0, 1), (49, .isub, 1), (50, .istore 2, 1), (51, .iinc 3 1, 3)]),
  (63, [(54, .goto 4, 3), (57, .aload 0, 1), (58, .getfield 580, 3), (61, .iload 3, 1), (62, .iaload, 1), (63, .ireturn, 1)])]
/-- 164: EightBlocksModel.block(II)I -/
def tb_164 : am_T := [(31, [(0, .iload 1, 1), (1, .tableswitch 94 0 2 #[28, 49, 72], 27), (28, .iload 2, 1), (29, .i2l, 1), (30, .jsr_w 0, 1), (31, .jsr_w 4095, 3)]),
  (47, [(34, .invokestatic 145, 3), (37, .ifCond .eq 47, 3), (40, .iload 2, 1), (41, .invokestatic 158, 3), (44, .goto 48, 3), (47, .sipush (-1), 1)]),
  (55, [(48, .ireturn, 1), (49, .iload 2, 1), (50, .i2l, 1), (51, .jsr_w 0, 1), (52, .jsr_w 758, 3), (55, .invokestatic 145, 3)]),
  (67, [(58, .ifCond .eq 70, 3), (61, .aload 0, 1), (62, .getfield 581, 3), (65, .iload 2, 1), (66, .iaload, 1), (67, .goto 71, 3)]),
  (75, [(70, .sipush (-1), 1), (71, .ireturn, 1), (72, .iload 2, 1), (73, .i2l, 1), (74, .jsr_w 0, 1), (75, .jsr_w 2575, 3)]),
  (89, [(78, .invokestatic 145, 3), (81, .ifCond .eq 92, 3), (84, .aload 0, 1), (85, .iload 2, 1), (86, .invokevirtual 163, 3), (89, .goto 93, 3)]),
  (95, [(92, .sipush (-1), 1), (93, .ireturn, 1), (94, .sipush (-1), 1), (95, .ireturn, 1)])]
/-- 165: EightBlocksModel.octadOf(I)I -/
def tb_165 : am_T := [(6, [(0, .sipush 0, 1), (1, .istore 2, 1), (2, .iload 2, 1), (3, .sipush 758, 3), (6, .if_icmp .ge 28, 3)]),
  (15, [(9, .iload 1, 1), (10, .aload 0, 1), (11, .getfield 581, 3), (14, .iload 2, 1), (15, .iaload, 1)]),
  (22, [(16, .sipush (-1), 1), (17, .ixor, 1), (18, .iand, 1), (19, .ifCond .eq 28, 3), (22, .iinc 2 1, 3)]),
  (33, [(25, .goto 2, 3), (28, .aload 0, 1), (29, .getfield 581, 3), (32, .iload 2, 1), (33, .iaload, 1)]),
  (34, [(34, .ireturn, 1)])]
/-- 166: EightBlocksModel.complete(I)I -/
def tb_166 : am_T := [(7, [(0, .iload 1, 1), (1, .invokestatic 150, 3), (4, .ifCond .ne 11, 3), (7, .sipush (-1), 1)]),
  (15, [(8, .goto 29, 3), (11, .iload 1, 1), (12, .invokestatic 148, 3), (15, .sipush 5, 1)]),
  (24, [(16, .if_icmp .eq 24, 3), (19, .sipush (-2), 2), (21, .goto 29, 3), (24, .aload 0, 1)]),
  (29, [(25, .iload 1, 1), (26, .invokevirtual 165, 3), (29, .ireturn, 1)])]
/-- 167: EightBlocksModel.tetradAt(II)I -/
def tb_167 : am_T := [(5, [(0, .iload 1, 1), (1, .iload 2, 1), (2, .invokestatic 147, 3), (5, .ifCond .eq 12, 3)]),
  (13, [(8, .iload 1, 1), (9, .goto 25, 3), (12, .aload 0, 1), (13, .iload 1, 1)]),
  (17, [(14, .sipush 1, 1), (15, .iload 2, 1), (16, .ishl, 1), (17, .ior, 1)]),
  (23, [(18, .invokevirtual 165, 3), (21, .iload 1, 1), (22, .sipush (-1), 1), (23, .ixor, 1)]),
  (25, [(24, .iand, 1), (25, .ireturn, 1)])]
/-- 168: EightBlocksModel.sextet(II)I -/
def tb_168 : am_T := [(9, [(0, .iload 1, 1), (1, .invokestatic 150, 3), (4, .ifCond .eq 19, 3), (7, .iload 2, 1), (8, .i2l, 1), (9, .jsr_w 0, 1)]),
  (21, [(10, .jsr_w 5, 3), (13, .invokestatic 145, 3), (16, .ifCond .ne 21, 3), (19, .sipush (-1), 1), (20, .ireturn, 1), (21, .iload 1, 1)]),
  (32, [(22, .invokestatic 148, 3), (25, .sipush 4, 1), (26, .if_icmp .eq 32, 3), (29, .sipush (-2), 2), (31, .ireturn, 1), (32, .sipush 16777215, 2)]),
  (41, [(34, .istore 3, 1), (35, .sipush 0, 1), (36, .istore 4, 2), (38, .sipush 0, 1), (39, .istore 5, 2), (41, .iload 5, 2)]),
  (50, [(43, .iload 2, 1), (44, .if_icmp .gt 71, 3), (47, .aload 0, 1), (48, .iload 1, 1), (49, .iload 3, 1), (50, .invokestatic 149, 3)]),
  (62, [(53, .invokevirtual 167, 3), (56, .istore 4, 2), (58, .iload 3, 1), (59, .iload 4, 2), (61, .sipush (-1), 1), (62, .ixor, 1)]),
  (73, [(63, .iand, 1), (64, .istore 3, 1), (65, .iinc 5 1, 3), (68, .goto 41, 3), (71, .iload 4, 2), (73, .ireturn, 1)])]
/-- 169: EightBlocksModel.isOfTwo(II)Z -/
def tb_169 : am_T := [(5, [(0, .sipush 1, 1), (1, .istore 3, 1), (2, .sipush 0, 1), (3, .istore 4, 2), (5, .iload 4, 2)]),
  (16, [(7, .sipush 24, 2), (9, .if_icmp .ge 51, 3), (12, .iload 3, 1), (13, .ifCond .eq 51, 3), (16, .iload 1, 1)]),
  (26, [(17, .iload 4, 2), (19, .invokestatic 147, 3), (22, .ifCond .eq 39, 3), (25, .aload 0, 1), (26, .iload 2, 1)]),
  (34, [(27, .iload 4, 2), (29, .invokevirtual 167, 3), (32, .iload 1, 1), (33, .sipush (-1), 1), (34, .ixor, 1)]),
  (43, [(35, .iand, 1), (36, .ifCond .ne 43, 3), (39, .sipush 1, 1), (40, .goto 44, 3), (43, .sipush 0, 1)]),
  (52, [(44, .istore 3, 1), (45, .iinc 4 1, 3), (48, .goto 5, 3), (51, .iload 3, 1), (52, .ireturn, 1)])]
/-- 170: EightBlocksModel.both(II)I -/
def tb_170 : am_T := [(14, [(0, .iload 1, 1), (1, .invokestatic 150, 3), (4, .ifCond .eq 14, 3), (7, .iload 2, 1), (8, .invokestatic 150, 3), (11, .ifCond .ne 16, 3), (14, .sipush (-1), 1)]),
  (25, [(15, .ireturn, 1), (16, .iload 1, 1), (17, .invokestatic 148, 3), (20, .sipush 4, 1), (21, .if_icmp .ne 32, 3), (24, .iload 2, 1), (25, .invokestatic 148, 3)]),
  (37, [(28, .sipush 4, 1), (29, .if_icmp .eq 35, 3), (32, .sipush (-2), 2), (34, .ireturn, 1), (35, .sipush 0, 1), (36, .istore 3, 1), (37, .sipush 0, 1)]),
  (50, [(38, .istore 4, 2), (40, .iload 4, 2), (42, .sipush 759, 3), (45, .if_icmp .ge 92, 3), (48, .iload 3, 1), (49, .aload 0, 1), (50, .aload 0, 1)]),
  (64, [(51, .getfield 581, 3), (54, .iload 4, 2), (56, .iaload, 1), (57, .iload 1, 1), (58, .invokevirtual 169, 3), (61, .ifCond .eq 83, 3), (64, .aload 0, 1)]),
  (76, [(65, .aload 0, 1), (66, .getfield 581, 3), (69, .iload 4, 2), (71, .iaload, 1), (72, .iload 2, 1), (73, .invokevirtual 169, 3), (76, .ifCond .eq 83, 3)]),
  (89, [(79, .sipush 1, 1), (80, .goto 84, 3), (83, .sipush 0, 1), (84, .iadd, 1), (85, .istore 3, 1), (86, .iinc 4 1, 3), (89, .goto 40, 3)]),
  (93, [(92, .iload 3, 1), (93, .ireturn, 1)])]
/-- 171: EightBlocksModel.met(II)I -/
def tb_171 : am_T := [(9, [(0, .iload 1, 1), (1, .invokestatic 150, 3), (4, .ifCond .eq 19, 3), (7, .iload 2, 1), (8, .i2l, 1), (9, .jsr_w 0, 1)]),
  (21, [(10, .jsr_w 8, 3), (13, .invokestatic 145, 3), (16, .ifCond .ne 21, 3), (19, .sipush (-1), 1), (20, .ireturn, 1), (21, .sipush 0, 1)]),
  (31, [(22, .istore 3, 1), (23, .sipush 0, 1), (24, .istore 4, 2), (26, .iload 4, 2), (28, .sipush 759, 3), (31, .if_icmp .ge 64, 3)]),
  (42, [(34, .iload 3, 1), (35, .aload 0, 1), (36, .getfield 581, 3), (39, .iload 4, 2), (41, .iaload, 1), (42, .iload 1, 1)]),
  (52, [(43, .iand, 1), (44, .invokestatic 148, 3), (47, .iload 2, 1), (48, .if_icmp .ne 55, 3), (51, .sipush 1, 1), (52, .goto 56, 3)]),
  (64, [(55, .sipush 0, 1), (56, .iadd, 1), (57, .istore 3, 1), (58, .iinc 4 1, 3), (61, .goto 26, 3), (64, .iload 3, 1)]),
  (65, [(65, .ireturn, 1)])]
/-- 172: EightBlocksModel.isMove(I)Z -/
def tb_172 : am_T := [(3, [(0, .iload 0, 1), (1, .i2l, 1), (2, .jsr_w 0, 1), (3, .jsr_w 4, 3)]),
  (9, [(6, .invokestatic 145, 3), (9, .ireturn, 1)])]
/-- 173: EightBlocksModel.to(II)I -/
def tb_173 : am_T := [(6, [(0, .aload 0, 1), (1, .getfield 576, 3), (4, .sipush 24, 2), (6, .iload 1, 1)]),
  (10, [(7, .imul, 1), (8, .iload 2, 1), (9, .iadd, 1), (10, .iaload, 1)]),
  (11, [(11, .ireturn, 1)])]
/-- 174: EightBlocksModel.move(II)I -/
def tb_174 : am_T := [(7, [(0, .iload 1, 1), (1, .invokestatic 172, 3), (4, .ifCond .eq 24, 3), (7, .iload 2, 1)]),
  (15, [(8, .i2l, 1), (9, .invokestatic 151, 3), (12, .ifCond .eq 24, 3), (15, .aload 0, 1)]),
  (21, [(16, .iload 1, 1), (17, .iload 2, 1), (18, .invokevirtual 173, 3), (21, .goto 25, 3)]),
  (25, [(24, .sipush (-1), 1), (25, .ireturn, 1)])]
/-- 175: EightBlocksModel.goes(II)I -/
def tb_175 : am_T := [(5, [(0, .sipush 0, 1), (1, .istore 3, 1), (2, .sipush 0, 1), (3, .istore 4, 2), (5, .iload 4, 2)]),
  (14, [(7, .sipush 24, 2), (9, .if_icmp .ge 43, 3), (12, .iload 3, 1), (13, .iload 2, 1), (14, .iload 4, 2)]),
  (24, [(16, .invokestatic 147, 3), (19, .ifCond .eq 34, 3), (22, .sipush 1, 1), (23, .aload 0, 1), (24, .iload 1, 1)]),
  (34, [(25, .iload 4, 2), (27, .invokevirtual 173, 3), (30, .ishl, 1), (31, .goto 35, 3), (34, .sipush 0, 1)]),
  (43, [(35, .ior, 1), (36, .istore 3, 1), (37, .iinc 4 1, 3), (40, .goto 5, 3), (43, .iload 3, 1)]),
  (44, [(44, .ireturn, 1)])]
/-- 176: EightBlocksModel.sent(II)I -/
def tb_176 : am_T := [(7, [(0, .iload 1, 1), (1, .invokestatic 172, 3), (4, .ifCond .eq 23, 3), (7, .iload 2, 1)]),
  (15, [(8, .invokestatic 150, 3), (11, .ifCond .eq 23, 3), (14, .aload 0, 1), (15, .iload 1, 1)]),
  (23, [(16, .iload 2, 1), (17, .invokevirtual 175, 3), (20, .goto 24, 3), (23, .sipush (-1), 1)]),
  (24, [(24, .ireturn, 1)])]
/-- 177: EightBlocksModel.keeps(I)Z -/
def tb_177 : am_T := [(4, [(0, .sipush 1, 1), (1, .istore 2, 1), (2, .sipush 0, 1), (3, .istore 3, 1), (4, .iload 3, 1)]),
  (14, [(5, .sipush 12, 2), (7, .if_icmp .ge 42, 3), (10, .iload 2, 1), (11, .ifCond .eq 42, 3), (14, .aload 0, 1)]),
  (21, [(15, .aload 0, 1), (16, .iload 1, 1), (17, .iload 3, 1), (18, .invokestatic 154, 3), (21, .invokevirtual 175, 3)]),
  (34, [(24, .invokevirtual 157, 3), (27, .ifCond .lt 34, 3), (30, .sipush 1, 1), (31, .goto 35, 3), (34, .sipush 0, 1)]),
  (43, [(35, .istore 2, 1), (36, .iinc 3 1, 3), (39, .goto 4, 3), (42, .iload 2, 1), (43, .ireturn, 1)])]
/-- 178: EightBlocksModel.ring(II)I -/
def tb_178 : am_T := [(4, [(0, .sipush 1, 1), (1, .istore 3, 1), (2, .aload 0, 1), (3, .iload 1, 1), (4, .iload 2, 1)]),
  (13, [(5, .invokevirtual 173, 3), (8, .istore 4, 2), (10, .iload 4, 2), (12, .iload 2, 1), (13, .if_icmp .eq 37, 3)]),
  (25, [(16, .iload 3, 1), (17, .sipush 24, 2), (19, .if_icmp .ge 37, 3), (22, .iinc 3 1, 3), (25, .aload 0, 1)]),
  (34, [(26, .iload 1, 1), (27, .iload 4, 2), (29, .invokevirtual 173, 3), (32, .istore 4, 2), (34, .goto 10, 3)]),
  (38, [(37, .iload 3, 1), (38, .ireturn, 1)])]
/-- 179: EightBlocksModel.isLeast(II)Z -/
def tb_179 : am_T := [(5, [(0, .sipush 1, 1), (1, .istore 3, 1), (2, .iload 2, 1), (3, .istore 4, 2), (5, .sipush 0, 1)]),
  (15, [(6, .istore 5, 2), (8, .iload 5, 2), (10, .sipush 24, 2), (12, .if_icmp .ge 46, 3), (15, .iload 3, 1)]),
  (23, [(16, .ifCond .eq 46, 3), (19, .aload 0, 1), (20, .iload 1, 1), (21, .iload 4, 2), (23, .invokevirtual 173, 3)]),
  (34, [(26, .istore 4, 2), (28, .iload 4, 2), (30, .iload 2, 1), (31, .if_icmp .lt 38, 3), (34, .sipush 1, 1)]),
  (43, [(35, .goto 39, 3), (38, .sipush 0, 1), (39, .istore 3, 1), (40, .iinc 5 1, 3), (43, .goto 8, 3)]),
  (47, [(46, .iload 3, 1), (47, .ireturn, 1)])]
/-- 180: EightBlocksModel.rings(I)I -/
def tb_180 : am_T := [(4, [(0, .sipush 0, 1), (1, .istore 2, 1), (2, .sipush 0, 1), (3, .istore 3, 1), (4, .iload 3, 1)]),
  (12, [(5, .sipush 24, 2), (7, .if_icmp .ge 33, 3), (10, .iload 2, 1), (11, .aload 0, 1), (12, .iload 1, 1)]),
  (21, [(13, .iload 3, 1), (14, .invokevirtual 179, 3), (17, .ifCond .eq 24, 3), (20, .sipush 1, 1), (21, .goto 25, 3)]),
  (30, [(24, .sipush 0, 1), (25, .iadd, 1), (26, .istore 2, 1), (27, .iinc 3 1, 3), (30, .goto 4, 3)]),
  (34, [(33, .iload 2, 1), (34, .ireturn, 1)])]
/-- 181: EightBlocksModel.orderOf(I)I -/
def tb_181 : am_T := [(5, [(0, .sipush 1, 1), (1, .istore 2, 1), (2, .sipush 0, 1), (3, .istore 3, 1), (4, .iload 3, 1), (5, .sipush 24, 2)]),
  (16, [(7, .if_icmp .ge 55, 3), (10, .aload 0, 1), (11, .iload 1, 1), (12, .iload 3, 1), (13, .invokevirtual 178, 3), (16, .istore 4, 2)]),
  (26, [(18, .iload 2, 1), (19, .istore 5, 2), (21, .sipush 1, 1), (22, .istore 6, 2), (24, .iload 6, 2), (26, .sipush 24, 2)]),
  (38, [(28, .if_icmp .ge 49, 3), (31, .iload 2, 1), (32, .iload 4, 2), (34, .irem, 1), (35, .ifCond .eq 49, 3), (38, .iload 2, 1)]),
  (49, [(39, .iload 5, 2), (41, .iadd, 1), (42, .istore 2, 1), (43, .iinc 6 1, 3), (46, .goto 24, 3), (49, .iinc 3 1, 3)]),
  (56, [(52, .goto 4, 3), (55, .iload 2, 1), (56, .ireturn, 1)])]
/-- 182: EightBlocksModel.stays(I)I -/
def tb_182 : am_T := [(4, [(0, .sipush 0, 1), (1, .istore 2, 1), (2, .sipush 0, 1), (3, .istore 3, 1), (4, .iload 3, 1)]),
  (12, [(5, .sipush 24, 2), (7, .if_icmp .ge 34, 3), (10, .iload 2, 1), (11, .aload 0, 1), (12, .iload 1, 1)]),
  (21, [(13, .iload 3, 1), (14, .invokevirtual 173, 3), (17, .iload 3, 1), (18, .if_icmp .ne 25, 3), (21, .sipush 1, 1)]),
  (28, [(22, .goto 26, 3), (25, .sipush 0, 1), (26, .iadd, 1), (27, .istore 2, 1), (28, .iinc 3 1, 3)]),
  (35, [(31, .goto 4, 3), (34, .iload 2, 1), (35, .ireturn, 1)])]
/-- 183: EightBlocksModel.octadsKept(I)I -/
def tb_183 : am_T := [(4, [(0, .sipush 0, 1), (1, .istore 2, 1), (2, .sipush 0, 1), (3, .istore 3, 1), (4, .iload 3, 1)]),
  (13, [(5, .sipush 759, 3), (8, .if_icmp .ge 45, 3), (11, .iload 2, 1), (12, .aload 0, 1), (13, .iload 1, 1)]),
  (20, [(14, .aload 0, 1), (15, .getfield 581, 3), (18, .iload 3, 1), (19, .iaload, 1), (20, .invokevirtual 175, 3)]),
  (29, [(23, .aload 0, 1), (24, .getfield 581, 3), (27, .iload 3, 1), (28, .iaload, 1), (29, .if_icmp .ne 36, 3)]),
  (38, [(32, .sipush 1, 1), (33, .goto 37, 3), (36, .sipush 0, 1), (37, .iadd, 1), (38, .istore 2, 1)]),
  (46, [(39, .iinc 3 1, 3), (42, .goto 4, 3), (45, .iload 2, 1), (46, .ireturn, 1)])]
/-- 184: EightBlocksModel.puts(I)V -/
def tb_184 : am_T := [(5, [(0, .aload 0, 1), (1, .getfield 582, 3), (4, .aload 0, 1), (5, .getfield 583, 3)]),
  (11, [(8, .iload 1, 1), (9, .iastore, 1), (10, .aload 0, 1), (11, .dup, 1)]),
  (17, [(12, .getfield 583, 3), (15, .sipush 1, 1), (16, .iadd, 1), (17, .putfield 583, 3)]),
  (20, [(20, .return_, 1)])]
/-- 185: EightBlocksModel.putsRing(II)V -/
def tb_185 : am_T := [(9, [(0, .aload 0, 1), (1, .sipush 40, 2), (3, .invokevirtual 184, 3), (6, .iload 2, 1), (7, .istore 3, 1), (8, .aload 0, 1), (9, .iload 1, 1)]),
  (22, [(10, .iload 2, 1), (11, .invokevirtual 178, 3), (14, .istore 4, 2), (16, .iload 4, 2), (18, .ifCond .le 79, 3), (21, .iload 3, 1), (22, .sipush 9, 2)]),
  (34, [(24, .if_icmp .le 38, 3), (27, .aload 0, 1), (28, .sipush 48, 2), (30, .iload 3, 1), (31, .sipush 10, 2), (33, .idiv, 1), (34, .iadd, 1)]),
  (45, [(35, .invokevirtual 184, 3), (38, .aload 0, 1), (39, .sipush 48, 2), (41, .iload 3, 1), (42, .sipush 10, 2), (44, .irem, 1), (45, .iadd, 1)]),
  (58, [(46, .invokevirtual 184, 3), (49, .aload 0, 1), (50, .iload 4, 2), (52, .sipush 1, 1), (53, .if_icmp .le 61, 3), (56, .sipush 44, 2), (58, .goto 63, 3)]),
  (72, [(61, .sipush 41, 2), (63, .invokevirtual 184, 3), (66, .aload 0, 1), (67, .iload 1, 1), (68, .iload 3, 1), (69, .invokevirtual 173, 3), (72, .istore 3, 1)]),
  (79, [(73, .iinc 4 (-1), 3), (76, .goto 16, 3), (79, .return_, 1)])]
/-- 186: EightBlocksModel.texts(I)I -/
def tb_186 : am_T := [(6, [(0, .aload 0, 1), (1, .sipush 0, 1), (2, .putfield 583, 3), (5, .sipush 0, 1), (6, .istore 2, 1)]),
  (14, [(7, .iload 2, 1), (8, .sipush 24, 2), (10, .if_icmp .ge 44, 3), (13, .aload 0, 1), (14, .iload 1, 1)]),
  (23, [(15, .iload 2, 1), (16, .invokevirtual 179, 3), (19, .ifCond .eq 38, 3), (22, .aload 0, 1), (23, .iload 1, 1)]),
  (32, [(24, .iload 2, 1), (25, .invokevirtual 173, 3), (28, .iload 2, 1), (29, .if_icmp .eq 38, 3), (32, .aload 0, 1)]),
  (41, [(33, .iload 1, 1), (34, .iload 2, 1), (35, .invokevirtual 185, 3), (38, .iinc 2 1, 3), (41, .goto 7, 3)]),
  (48, [(44, .aload 0, 1), (45, .getfield 583, 3), (48, .ireturn, 1)])]
/-- 187: EightBlocksModel.told(II)I -/
def tb_187 : am_T := [(57, [(0, .iload 1, 1), (1, .invokestatic 172, 3), (4, .ifCond .ne 9, 3), (7, .sipush (-1), 1), (8, .ireturn, 1), (9, .iload 2, 1), (10, .tableswitch 168 0 7 #[56, 70, 76, 82, 88, 99, 105, 162], 46), (56, .aload 0, 1), (57, .iload 1, 1)]),
  (72, [(58, .invokevirtual 177, 3), (61, .ifCond .eq 68, 3), (64, .sipush 1, 1), (65, .goto 69, 3), (68, .sipush 0, 1), (69, .ireturn, 1), (70, .aload 0, 1), (71, .iload 1, 1), (72, .invokevirtual 182, 3)]),
  (87, [(75, .ireturn, 1), (76, .aload 0, 1), (77, .iload 1, 1), (78, .invokevirtual 180, 3), (81, .ireturn, 1), (82, .aload 0, 1), (83, .iload 1, 1), (84, .invokevirtual 181, 3), (87, .ireturn, 1)]),
  (99, [(88, .sipush 24, 2), (90, .aload 0, 1), (91, .iload 1, 1), (92, .invokevirtual 180, 3), (95, .isub, 1), (96, .sipush 2, 1), (97, .irem, 1), (98, .ireturn, 1), (99, .aload 0, 1)]),
  (113, [(100, .iload 1, 1), (101, .invokevirtual 183, 3), (104, .ireturn, 1), (105, .aload 0, 1), (106, .iload 1, 1), (107, .aload 0, 1), (108, .getfield 576, 3), (111, .sipush 120, 2), (113, .iaload, 1)]),
  (131, [(114, .invokevirtual 175, 3), (117, .aload 0, 1), (118, .getfield 576, 3), (121, .sipush 120, 2), (123, .iaload, 1), (124, .if_icmp .ne 131, 3), (127, .sipush 1, 1), (128, .goto 161, 3), (131, .aload 0, 1)]),
  (146, [(132, .iload 1, 1), (133, .aload 0, 1), (134, .getfield 576, 3), (137, .sipush 120, 2), (139, .iaload, 1), (140, .invokevirtual 175, 3), (143, .sipush 16777215, 2), (145, .aload 0, 1), (146, .getfield 576, 3)]),
  (162, [(149, .sipush 120, 2), (151, .iaload, 1), (152, .ixor, 1), (153, .if_icmp .ne 160, 3), (156, .sipush 2, 1), (157, .goto 161, 3), (160, .sipush 0, 1), (161, .ireturn, 1), (162, .aload 0, 1)]),
  (169, [(163, .iload 1, 1), (164, .invokevirtual 186, 3), (167, .ireturn, 1), (168, .sipush (-1), 1), (169, .ireturn, 1)])]
/-- 188: EightBlocksModel.letter(II)I -/
def tb_188 : am_T := [(7, [(0, .iload 1, 1), (1, .invokestatic 172, 3), (4, .ifCond .eq 11, 3), (7, .iload 2, 1)]),
  (13, [(8, .ifCond .ge 13, 3), (11, .sipush (-1), 1), (12, .ireturn, 1), (13, .iload 2, 1)]),
  (19, [(14, .aload 0, 1), (15, .iload 1, 1), (16, .invokevirtual 186, 3), (19, .if_icmp .ge 31, 3)]),
  (27, [(22, .aload 0, 1), (23, .getfield 582, 3), (26, .iload 2, 1), (27, .iaload, 1)]),
  (33, [(28, .goto 33, 3), (31, .sipush (-4), 2), (33, .ireturn, 1)])]
/-- 189: EightBlocksModel.type(I)I -/
def tb_189 : am_T := [(8, [(0, .iload 1, 1), (1, .i2l, 1), (2, .jsr_w 32, 3), (5, .jsr_w 126, 3), (8, .invokestatic 145, 3)]),
  (17, [(11, .ifCond .ne 16, 3), (14, .sipush (-1), 1), (15, .ireturn, 1), (16, .aload 0, 1), (17, .getfield 585, 3)]),
  (28, [(20, .sipush 100, 2), (22, .if_icmp .ne 28, 3), (25, .sipush (-3), 2), (27, .ireturn, 1), (28, .aload 0, 1)]),
  (37, [(29, .getfield 584, 3), (32, .aload 0, 1), (33, .getfield 585, 3), (36, .iload 1, 1), (37, .iastore, 1)]),
  (44, [(38, .aload 0, 1), (39, .dup, 1), (40, .getfield 585, 3), (43, .sipush 1, 1), (44, .iadd, 1)]),
  (52, [(45, .putfield 585, 3), (48, .aload 0, 1), (49, .getfield 585, 3), (52, .ireturn, 1)])]
/-- 190: EightBlocksModel.here()I -/
def tb_190 : am_T := [(11, [(0, .aload 0, 1), (1, .getfield 586, 3), (4, .aload 0, 1), (5, .getfield 585, 3), (8, .if_icmp .ge 38, 3), (11, .aload 0, 1)]),
  (22, [(12, .getfield 584, 3), (15, .aload 0, 1), (16, .getfield 586, 3), (19, .iaload, 1), (20, .sipush 32, 2), (22, .if_icmp .ne 38, 3)]),
  (32, [(25, .aload 0, 1), (26, .dup, 1), (27, .getfield 586, 3), (30, .sipush 1, 1), (31, .iadd, 1), (32, .putfield 586, 3)]),
  (46, [(35, .goto 0, 3), (38, .aload 0, 1), (39, .getfield 586, 3), (42, .aload 0, 1), (43, .getfield 585, 3), (46, .if_icmp .ge 61, 3)]),
  (58, [(49, .aload 0, 1), (50, .getfield 584, 3), (53, .aload 0, 1), (54, .getfield 586, 3), (57, .iaload, 1), (58, .goto 62, 3)]),
  (62, [(61, .sipush 0, 1), (62, .ireturn, 1)])]
/-- 191: EightBlocksModel.isFigure(I)Z -/
def tb_191 : am_T := [(5, [(0, .iload 0, 1), (1, .i2l, 1), (2, .jsr_w 48, 3), (5, .jsr_w 57, 3)]),
  (11, [(8, .invokestatic 145, 3), (11, .ireturn, 1)])]
/-- 192: EightBlocksModel.isLow(I)Z -/
def tb_192 : am_T := [(5, [(0, .iload 0, 1), (1, .i2l, 1), (2, .jsr_w 97, 3), (5, .jsr_w 122, 3)]),
  (11, [(8, .invokestatic 145, 3), (11, .ireturn, 1)])]
/-- 193: EightBlocksModel.row(Z)I -/
def tb_193 : am_T := [(7, [(0, .aload 0, 1), (1, .invokevirtual 190, 3), (4, .pop, 1), (5, .sipush 0, 1), (6, .istore 2, 1), (7, .aload 0, 1)]),
  (19, [(8, .getfield 586, 3), (11, .aload 0, 1), (12, .getfield 585, 3), (15, .if_icmp .ge 71, 3), (18, .iload 1, 1), (19, .ifCond .eq 40, 3)]),
  (31, [(22, .aload 0, 1), (23, .getfield 584, 3), (26, .aload 0, 1), (27, .getfield 586, 3), (30, .iaload, 1), (31, .invokestatic 191, 3)]),
  (45, [(34, .ifCond .eq 71, 3), (37, .goto 55, 3), (40, .aload 0, 1), (41, .getfield 584, 3), (44, .aload 0, 1), (45, .getfield 586, 3)]),
  (57, [(48, .iaload, 1), (49, .invokestatic 192, 3), (52, .ifCond .eq 71, 3), (55, .aload 0, 1), (56, .dup, 1), (57, .getfield 586, 3)]),
  (71, [(60, .sipush 1, 1), (61, .iadd, 1), (62, .putfield 586, 3), (65, .iinc 2 1, 3), (68, .goto 7, 3), (71, .iload 2, 1)]),
  (72, [(72, .ireturn, 1)])]
/-- 194: EightBlocksModel.number(I)I -/
def tb_194 : am_T := [(11, [(0, .aload 0, 1), (1, .sipush 1, 1), (2, .invokevirtual 193, 3), (5, .istore 2, 1), (6, .iload 2, 1), (7, .sipush 1, 1), (8, .if_icmp .ne 28, 3), (11, .aload 0, 1)]),
  (24, [(12, .getfield 584, 3), (15, .aload 0, 1), (16, .getfield 586, 3), (19, .sipush 1, 1), (20, .isub, 1), (21, .iaload, 1), (22, .sipush 48, 2), (24, .isub, 1)]),
  (39, [(25, .goto 68, 3), (28, .iload 2, 1), (29, .sipush 2, 1), (30, .if_icmp .ne 66, 3), (33, .sipush 10, 2), (35, .aload 0, 1), (36, .getfield 584, 3), (39, .aload 0, 1)]),
  (51, [(40, .getfield 586, 3), (43, .sipush 2, 1), (44, .isub, 1), (45, .iaload, 1), (46, .imul, 1), (47, .aload 0, 1), (48, .getfield 584, 3), (51, .aload 0, 1)]),
  (63, [(52, .getfield 586, 3), (55, .sipush 1, 1), (56, .isub, 1), (57, .iaload, 1), (58, .iadd, 1), (59, .sipush 528, 3), (62, .isub, 1), (63, .goto 68, 3)]),
  (78, [(66, .sipush 100, 2), (68, .istore 3, 1), (69, .iload 2, 1), (70, .ifCond .eq 78, 3), (73, .iload 3, 1), (74, .iload 1, 1), (75, .if_icmp .le 90, 3), (78, .aload 0, 1)]),
  (90, [(79, .dup, 1), (80, .getfield 586, 3), (83, .iload 2, 1), (84, .isub, 1), (85, .putfield 586, 3), (88, .sipush (-1), 1), (89, .ireturn, 1), (90, .iload 3, 1)]),
  (91, [(91, .ireturn, 1)])]
/-- 195: EightBlocksModel.isName(IIIIIII)Z -/
def tb_195 : am_T := [(9, [(0, .aload 0, 1), (1, .getfield 586, 3), (4, .iload 1, 1), (5, .isub, 1), (6, .istore 8, 2), (8, .iload 1, 1), (9, .iload 2, 1)]),
  (21, [(10, .if_icmp .ne 89, 3), (13, .aload 0, 1), (14, .getfield 584, 3), (17, .iload 8, 2), (19, .iaload, 1), (20, .iload 3, 1), (21, .if_icmp .ne 89, 3)]),
  (33, [(24, .aload 0, 1), (25, .getfield 584, 3), (28, .iload 8, 2), (30, .sipush 1, 1), (31, .iadd, 1), (32, .iaload, 1), (33, .iload 4, 2)]),
  (46, [(35, .if_icmp .ne 89, 3), (38, .aload 0, 1), (39, .getfield 584, 3), (42, .iload 8, 2), (44, .sipush 2, 1), (45, .iadd, 1), (46, .iaload, 1)]),
  (59, [(47, .iload 5, 2), (49, .if_icmp .ne 89, 3), (52, .aload 0, 1), (53, .getfield 584, 3), (56, .iload 8, 2), (58, .sipush 3, 1), (59, .iadd, 1)]),
  (71, [(60, .iaload, 1), (61, .iload 6, 2), (63, .if_icmp .ne 89, 3), (66, .iload 2, 1), (67, .sipush 5, 1), (68, .if_icmp .lt 85, 3), (71, .aload 0, 1)]),
  (82, [(72, .getfield 584, 3), (75, .iload 8, 2), (77, .sipush 4, 1), (78, .iadd, 1), (79, .iaload, 1), (80, .iload 7, 2), (82, .if_icmp .ne 89, 3)]),
  (90, [(85, .sipush 1, 1), (86, .goto 90, 3), (89, .sipush 0, 1), (90, .ireturn, 1)])]
/-- 196: EightBlocksModel.nameOf(I)I -/
def tb_196 : am_T := [(14, [(0, .iload 1, 1), (1, .sipush 1, 1), (2, .if_icmp .ne 49, 3), (5, .aload 0, 1), (6, .getfield 584, 3), (9, .aload 0, 1), (10, .getfield 586, 3), (13, .sipush 1, 1), (14, .isub, 1)]),
  (33, [(15, .iaload, 1), (16, .i2l, 1), (17, .jsr_w 97, 3), (20, .jsr_w 101, 3), (23, .invokestatic 145, 3), (26, .ifCond .eq 46, 3), (29, .aload 0, 1), (30, .getfield 584, 3), (33, .aload 0, 1)]),
  (48, [(34, .getfield 586, 3), (37, .sipush 1, 1), (38, .isub, 1), (39, .iaload, 1), (40, .sipush 92, 2), (42, .isub, 1), (43, .goto 48, 3), (46, .sipush (-4), 2), (48, .ireturn, 1)]),
  (61, [(49, .aload 0, 1), (50, .iload 1, 1), (51, .sipush 4, 1), (52, .sipush 115, 2), (54, .sipush 116, 2), (56, .sipush 101, 2), (58, .sipush 112, 2), (60, .sipush 0, 1), (61, .invokevirtual 195, 3)]),
  (78, [(64, .ifCond .eq 71, 3), (67, .sipush 0, 1), (68, .goto 162, 3), (71, .aload 0, 1), (72, .iload 1, 1), (73, .sipush 5, 1), (74, .sipush 116, 2), (76, .sipush 119, 2), (78, .sipush 105, 2)]),
  (96, [(80, .sipush 99, 2), (82, .sipush 101, 2), (84, .invokevirtual 195, 3), (87, .ifCond .eq 94, 3), (90, .sipush 1, 1), (91, .goto 162, 3), (94, .aload 0, 1), (95, .iload 1, 1), (96, .sipush 4, 1)]),
  (113, [(97, .sipush 111, 2), (99, .sipush 118, 2), (101, .sipush 101, 2), (103, .sipush 114, 2), (105, .sipush 0, 1), (106, .invokevirtual 195, 3), (109, .ifCond .eq 116, 3), (112, .sipush 2, 1), (113, .goto 162, 3)]),
  (128, [(116, .aload 0, 1), (117, .iload 1, 1), (118, .sipush 4, 1), (119, .sipush 119, 2), (121, .sipush 105, 2), (123, .sipush 108, 2), (125, .sipush 100, 2), (127, .sipush 0, 1), (128, .invokevirtual 195, 3)]),
  (145, [(131, .ifCond .eq 138, 3), (134, .sipush 3, 1), (135, .goto 162, 3), (138, .aload 0, 1), (139, .iload 1, 1), (140, .sipush 4, 1), (141, .sipush 115, 2), (143, .sipush 97, 2), (145, .sipush 109, 2)]),
  (162, [(147, .sipush 101, 2), (149, .sipush 0, 1), (150, .invokevirtual 195, 3), (153, .ifCond .eq 160, 3), (156, .sipush 4, 1), (157, .goto 162, 3), (160, .sipush (-4), 2), (162, .ireturn, 1)])]
/-- 197: EightBlocksModel.readsName()Z -/
def tb_197 : am_T := [(8, [(0, .aload 0, 1), (1, .sipush 0, 1), (2, .invokevirtual 193, 3), (5, .istore 1, 1), (6, .aload 0, 1), (7, .iload 1, 1), (8, .invokevirtual 196, 3)]),
  (21, [(11, .istore 2, 1), (12, .iload 2, 1), (13, .ifCond .ge 28, 3), (16, .aload 0, 1), (17, .dup, 1), (18, .getfield 586, 3), (21, .iload 1, 1)]),
  (30, [(22, .isub, 1), (23, .putfield 586, 3), (26, .sipush 0, 1), (27, .ireturn, 1), (28, .sipush 0, 1), (29, .istore 3, 1), (30, .iload 3, 1)]),
  (42, [(31, .sipush 24, 2), (33, .if_icmp .ge 69, 3), (36, .aload 0, 1), (37, .getfield 587, 3), (40, .iload 3, 1), (41, .iload 2, 1), (42, .sipush 5, 1)]),
  (55, [(43, .if_icmp .ge 54, 3), (46, .iload 2, 1), (47, .iload 3, 1), (48, .invokestatic 152, 3), (51, .goto 62, 3), (54, .aload 0, 1), (55, .iload 2, 1)]),
  (66, [(56, .sipush 5, 1), (57, .isub, 1), (58, .iload 3, 1), (59, .invokevirtual 173, 3), (62, .iastore, 1), (63, .iinc 3 1, 3), (66, .goto 30, 3)]),
  (70, [(69, .sipush 1, 1), (70, .ireturn, 1)])]
/-- 198: EightBlocksModel.readsRing()Z -/
def tb_198 : am_T := [(15, [(0, .sipush 0, 1), (1, .istore 1, 1), (2, .iload 1, 1), (3, .sipush 24, 2), (5, .if_icmp .ge 21, 3), (8, .aload 0, 1), (9, .getfield 587, 3), (12, .iload 1, 1), (13, .iload 1, 1), (14, .iastore, 1), (15, .iinc 1 1, 3)]),
  (34, [(18, .goto 2, 3), (21, .aload 0, 1), (22, .dup, 1), (23, .getfield 586, 3), (26, .sipush 1, 1), (27, .iadd, 1), (28, .putfield 586, 3), (31, .sipush 0, 1), (32, .istore 1, 1), (33, .sipush (-1), 1), (34, .istore 2, 1)]),
  (51, [(35, .sipush (-1), 1), (36, .istore 3, 1), (37, .sipush 1, 1), (38, .istore 4, 2), (40, .iload 4, 2), (42, .ifCond .eq 157, 3), (45, .aload 0, 1), (46, .invokevirtual 190, 3), (49, .pop, 1), (50, .aload 0, 1), (51, .getfield 586, 3)]),
  (75, [(54, .istore 5, 2), (56, .aload 0, 1), (57, .sipush 23, 2), (59, .invokevirtual 194, 3), (62, .istore 6, 2), (64, .iload 6, 2), (66, .ifCond .lt 78, 3), (69, .iload 1, 1), (70, .iload 6, 2), (72, .invokestatic 147, 3), (75, .ifCond .eq 86, 3)]),
  (92, [(78, .aload 0, 1), (79, .iload 5, 2), (81, .putfield 586, 3), (84, .sipush 0, 1), (85, .ireturn, 1), (86, .iload 1, 1), (87, .sipush 1, 1), (88, .iload 6, 2), (90, .ishl, 1), (91, .ior, 1), (92, .istore 1, 1)]),
  (112, [(93, .iload 2, 1), (94, .ifCond .ge 102, 3), (97, .iload 6, 2), (99, .goto 103, 3), (102, .iload 2, 1), (103, .istore 2, 1), (104, .iload 3, 1), (105, .ifCond .lt 116, 3), (108, .aload 0, 1), (109, .getfield 587, 3), (112, .iload 3, 1)]),
  (132, [(113, .iload 6, 2), (115, .iastore, 1), (116, .iload 6, 2), (118, .istore 3, 1), (119, .aload 0, 1), (120, .invokevirtual 190, 3), (123, .sipush 44, 2), (125, .if_icmp .ne 132, 3), (128, .sipush 1, 1), (129, .goto 133, 3), (132, .sipush 0, 1)]),
  (151, [(133, .istore 4, 2), (135, .aload 0, 1), (136, .dup, 1), (137, .getfield 586, 3), (140, .iload 4, 2), (142, .ifCond .eq 149, 3), (145, .sipush 1, 1), (146, .goto 150, 3), (149, .sipush 0, 1), (150, .iadd, 1), (151, .putfield 586, 3)]),
  (173, [(154, .goto 40, 3), (157, .aload 0, 1), (158, .getfield 587, 3), (161, .iload 3, 1), (162, .iload 2, 1), (163, .iastore, 1), (164, .aload 0, 1), (165, .invokevirtual 190, 3), (168, .sipush 41, 2), (170, .if_icmp .ne 177, 3), (173, .sipush 1, 1)]),
  (194, [(174, .goto 178, 3), (177, .sipush 0, 1), (178, .istore 5, 2), (180, .aload 0, 1), (181, .dup, 1), (182, .getfield 586, 3), (185, .iload 5, 2), (187, .ifCond .eq 194, 3), (190, .sipush 1, 1), (191, .goto 195, 3), (194, .sipush 0, 1)]),
  (201, [(195, .iadd, 1), (196, .putfield 586, 3), (199, .iload 5, 2), (201, .ireturn, 1)])]
/-- 199: EightBlocksModel.turnsBack()V -/
def tb_199 : am_T := [(8, [(0, .sipush 0, 1), (1, .istore 1, 1), (2, .iload 1, 1), (3, .sipush 24, 2), (5, .if_icmp .ge 26, 3), (8, .aload 0, 1)]),
  (18, [(9, .getfield 589, 3), (12, .aload 0, 1), (13, .getfield 587, 3), (16, .iload 1, 1), (17, .iaload, 1), (18, .iload 1, 1)]),
  (28, [(19, .iastore, 1), (20, .iinc 1 1, 3), (23, .goto 2, 3), (26, .sipush 0, 1), (27, .istore 1, 1), (28, .iload 1, 1)]),
  (39, [(29, .sipush 24, 2), (31, .if_icmp .ge 52, 3), (34, .aload 0, 1), (35, .getfield 587, 3), (38, .iload 1, 1), (39, .aload 0, 1)]),
  (49, [(40, .getfield 589, 3), (43, .iload 1, 1), (44, .iaload, 1), (45, .iastore, 1), (46, .iinc 1 1, 3), (49, .goto 28, 3)]),
  (52, [(52, .return_, 1)])]
/-- 200: EightBlocksModel.readsOften()Z -/
def tb_200 : am_T := [(13, [(0, .sipush 1, 1), (1, .istore 1, 1), (2, .aload 0, 1), (3, .invokevirtual 190, 3), (6, .sipush 94, 2), (8, .if_icmp .ne 51, 3), (11, .aload 0, 1), (12, .dup, 1), (13, .getfield 586, 3)]),
  (31, [(16, .sipush 1, 1), (17, .iadd, 1), (18, .putfield 586, 3), (21, .aload 0, 1), (22, .invokevirtual 190, 3), (25, .sipush 45, 2), (27, .if_icmp .ne 44, 3), (30, .aload 0, 1), (31, .dup, 1)]),
  (47, [(32, .getfield 586, 3), (35, .sipush 1, 1), (36, .iadd, 1), (37, .putfield 586, 3), (40, .aload 0, 1), (41, .invokevirtual 199, 3), (44, .aload 0, 1), (45, .sipush 99, 2), (47, .invokevirtual 194, 3)]),
  (63, [(50, .istore 1, 1), (51, .sipush 0, 1), (52, .istore 2, 1), (53, .iload 2, 1), (54, .sipush 24, 2), (56, .if_icmp .ge 121, 3), (59, .iload 1, 1), (60, .ifCond .lt 121, 3), (63, .aload 0, 1)]),
  (77, [(64, .getfield 588, 3), (67, .sipush 24, 2), (69, .aload 0, 1), (70, .getfield 590, 3), (73, .imul, 1), (74, .iload 2, 1), (75, .iadd, 1), (76, .iaload, 1), (77, .istore 3, 1)]),
  (92, [(78, .sipush 0, 1), (79, .istore 4, 2), (81, .iload 4, 2), (83, .iload 1, 1), (84, .if_icmp .ge 100, 3), (87, .aload 0, 1), (88, .getfield 587, 3), (91, .iload 3, 1), (92, .iaload, 1)]),
  (110, [(93, .istore 3, 1), (94, .iinc 4 1, 3), (97, .goto 81, 3), (100, .aload 0, 1), (101, .getfield 588, 3), (104, .sipush 24, 2), (106, .aload 0, 1), (107, .getfield 590, 3), (110, .imul, 1)]),
  (125, [(111, .iload 2, 1), (112, .iadd, 1), (113, .iload 3, 1), (114, .iastore, 1), (115, .iinc 2 1, 3), (118, .goto 53, 3), (121, .iload 1, 1), (122, .ifCond .lt 129, 3), (125, .sipush 1, 1)]),
  (130, [(126, .goto 130, 3), (129, .sipush 0, 1), (130, .ireturn, 1)])]
/-- 201: EightBlocksModel.begins()V -/
def tb_201 : am_T := [(3, [(0, .sipush 0, 1), (1, .istore 1, 1), (2, .iload 1, 1), (3, .sipush 24, 2)]),
  (12, [(5, .if_icmp .ge 29, 3), (8, .aload 0, 1), (9, .getfield 588, 3), (12, .sipush 24, 2)]),
  (19, [(14, .aload 0, 1), (15, .getfield 590, 3), (18, .imul, 1), (19, .iload 1, 1)]),
  (23, [(20, .iadd, 1), (21, .iload 1, 1), (22, .iastore, 1), (23, .iinc 1 1, 3)]),
  (29, [(26, .goto 2, 3), (29, .return_, 1)])]
/-- 202: EightBlocksModel.closes()V -/
def tb_202 : am_T := [(5, [(0, .sipush 0, 1), (1, .istore 1, 1), (2, .iload 1, 1), (3, .sipush 24, 2), (5, .if_icmp .ge 34, 3)]),
  (14, [(8, .aload 0, 1), (9, .getfield 587, 3), (12, .iload 1, 1), (13, .aload 0, 1), (14, .getfield 588, 3)]),
  (24, [(17, .sipush 24, 2), (19, .aload 0, 1), (20, .getfield 590, 3), (23, .imul, 1), (24, .iload 1, 1)]),
  (31, [(25, .iadd, 1), (26, .iaload, 1), (27, .iastore, 1), (28, .iinc 1 1, 3), (31, .goto 2, 3)]),
  (40, [(34, .aload 0, 1), (35, .dup, 1), (36, .getfield 590, 3), (39, .sipush 1, 1), (40, .isub, 1)]),
  (44, [(41, .putfield 590, 3), (44, .return_, 1)])]
/-- 203: EightBlocksModel.readsFactor()Z -/
def tb_203 : am_T := [(10, [(0, .aload 0, 1), (1, .invokevirtual 190, 3), (4, .invokestatic 192, 3), (7, .ifCond .eq 17, 3), (10, .aload 0, 1)]),
  (21, [(11, .invokevirtual 197, 3), (14, .goto 38, 3), (17, .aload 0, 1), (18, .invokevirtual 190, 3), (21, .sipush 40, 2)]),
  (33, [(23, .if_icmp .ne 37, 3), (26, .aload 0, 1), (27, .invokevirtual 198, 3), (30, .ifCond .eq 37, 3), (33, .sipush 1, 1)]),
  (40, [(34, .goto 38, 3), (37, .sipush 0, 1), (38, .istore 1, 1), (39, .iload 1, 1), (40, .ifCond .eq 54, 3)]),
  (51, [(43, .aload 0, 1), (44, .invokevirtual 200, 3), (47, .ifCond .eq 54, 3), (50, .sipush 1, 1), (51, .goto 55, 3)]),
  (55, [(54, .sipush 0, 1), (55, .ireturn, 1)])]
/-- 204: EightBlocksModel.isText()Z -/
def tb_204 : am_T := [(15, [(0, .aload 0, 1), (1, .sipush 0, 1), (2, .putfield 586, 3), (5, .aload 0, 1), (6, .sipush 0, 1), (7, .putfield 590, 3), (10, .aload 0, 1), (11, .invokevirtual 201, 3), (14, .sipush 1, 1), (15, .istore 1, 1)]),
  (33, [(16, .sipush 1, 1), (17, .istore 2, 1), (18, .iload 2, 1), (19, .ifCond .eq 168, 3), (22, .iload 1, 1), (23, .ifCond .ne 33, 3), (26, .aload 0, 1), (27, .invokevirtual 190, 3), (30, .ifCond .eq 168, 3), (33, .aload 0, 1)]),
  (52, [(34, .invokevirtual 190, 3), (37, .istore 3, 1), (38, .iload 1, 1), (39, .ifCond .eq 84, 3), (42, .iload 3, 1), (43, .sipush 91, 2), (45, .if_icmp .ne 84, 3), (48, .aload 0, 1), (49, .getfield 590, 3), (52, .sipush 6, 2)]),
  (69, [(54, .if_icmp .ge 84, 3), (57, .aload 0, 1), (58, .dup, 1), (59, .getfield 586, 3), (62, .sipush 1, 1), (63, .iadd, 1), (64, .putfield 586, 3), (67, .aload 0, 1), (68, .dup, 1), (69, .getfield 590, 3)]),
  (89, [(72, .sipush 1, 1), (73, .iadd, 1), (74, .putfield 590, 3), (77, .aload 0, 1), (78, .invokevirtual 201, 3), (81, .goto 165, 3), (84, .iload 1, 1), (85, .ifCond .eq 98, 3), (88, .aload 0, 1), (89, .invokevirtual 203, 3)]),
  (108, [(92, .istore 2, 1), (93, .sipush 0, 1), (94, .istore 1, 1), (95, .goto 165, 3), (98, .iload 3, 1), (99, .sipush 93, 2), (101, .if_icmp .ne 133, 3), (104, .aload 0, 1), (105, .getfield 590, 3), (108, .ifCond .le 133, 3)]),
  (126, [(111, .aload 0, 1), (112, .dup, 1), (113, .getfield 586, 3), (116, .sipush 1, 1), (117, .iadd, 1), (118, .putfield 586, 3), (121, .aload 0, 1), (122, .invokevirtual 202, 3), (125, .aload 0, 1), (126, .invokevirtual 200, 3)]),
  (145, [(129, .istore 2, 1), (130, .goto 165, 3), (133, .iload 3, 1), (134, .sipush 42, 2), (136, .if_icmp .ne 143, 3), (139, .sipush 1, 1), (140, .goto 144, 3), (143, .sipush 0, 1), (144, .istore 2, 1), (145, .iload 2, 1)]),
  (161, [(146, .istore 1, 1), (147, .aload 0, 1), (148, .dup, 1), (149, .getfield 586, 3), (152, .iload 2, 1), (153, .ifCond .eq 160, 3), (156, .sipush 1, 1), (157, .goto 161, 3), (160, .sipush 0, 1), (161, .iadd, 1)]),
  (183, [(162, .putfield 586, 3), (165, .goto 18, 3), (168, .iload 2, 1), (169, .ifCond .eq 183, 3), (172, .aload 0, 1), (173, .getfield 590, 3), (176, .ifCond .ne 183, 3), (179, .sipush 1, 1), (180, .goto 184, 3), (183, .sipush 0, 1)]),
  (184, [(184, .ireturn, 1)])]
/-- 205: EightBlocksModel.read(I)I -/
def tb_205 : am_T := [(13, [(0, .iload 1, 1), (1, .i2l, 1), (2, .jsr_w 0, 1), (3, .jsr_w 3, 3), (6, .invokestatic 145, 3), (9, .ifCond .ne 14, 3), (12, .sipush (-1), 1), (13, .ireturn, 1)]),
  (27, [(14, .aload 0, 1), (15, .invokevirtual 204, 3), (18, .istore 2, 1), (19, .aload 0, 1), (20, .invokevirtual 190, 3), (23, .ifCond .ne 33, 3), (26, .aload 0, 1), (27, .getfield 585, 3)]),
  (43, [(30, .goto 37, 3), (33, .aload 0, 1), (34, .getfield 586, 3), (37, .istore 3, 1), (38, .aload 0, 1), (39, .sipush 0, 1), (40, .putfield 585, 3), (43, .iload 2, 1)]),
  (56, [(44, .ifCond .ne 52, 3), (47, .sipush (-20), 2), (49, .iload 3, 1), (50, .isub, 1), (51, .ireturn, 1), (52, .aload 0, 1), (53, .invokevirtual 234, 3), (56, .sipush 0, 1)]),
  (71, [(57, .istore 4, 2), (59, .sipush 0, 1), (60, .istore 5, 2), (62, .iload 5, 2), (64, .sipush 24, 2), (66, .if_icmp .ge 121, 3), (69, .iload 4, 2), (71, .aload 0, 1)]),
  (85, [(72, .iload 1, 1), (73, .iload 5, 2), (75, .invokevirtual 173, 3), (78, .aload 0, 1), (79, .getfield 588, 3), (82, .iload 5, 2), (84, .iaload, 1), (85, .if_icmp .eq 92, 3)]),
  (100, [(88, .sipush 1, 1), (89, .goto 93, 3), (92, .sipush 0, 1), (93, .iadd, 1), (94, .istore 4, 2), (96, .aload 0, 1), (97, .getfield 576, 3), (100, .sipush 24, 2)]),
  (113, [(102, .iload 1, 1), (103, .imul, 1), (104, .iload 5, 2), (106, .iadd, 1), (107, .aload 0, 1), (108, .getfield 588, 3), (111, .iload 5, 2), (113, .iaload, 1)]),
  (123, [(114, .iastore, 1), (115, .iinc 5 1, 3), (118, .goto 62, 3), (121, .iload 4, 2), (123, .ireturn, 1)])]
/-- 206: EightBlocksModel.takesBack(I)V -/
def tb_206 : am_T := [(8, [(0, .sipush 0, 1), (1, .istore 2, 1), (2, .iload 2, 1), (3, .sipush 24, 2), (5, .if_icmp .ge 31, 3), (8, .aload 0, 1)]),
  (19, [(9, .getfield 589, 3), (12, .aload 0, 1), (13, .getfield 593, 3), (16, .sipush 24, 2), (18, .iload 1, 1), (19, .imul, 1)]),
  (25, [(20, .iload 2, 1), (21, .iadd, 1), (22, .iaload, 1), (23, .iload 2, 1), (24, .iastore, 1), (25, .iinc 2 1, 3)]),
  (36, [(28, .goto 2, 3), (31, .sipush 0, 1), (32, .istore 2, 1), (33, .iload 2, 1), (34, .sipush 24, 2), (36, .if_icmp .ge 62, 3)]),
  (48, [(39, .aload 0, 1), (40, .getfield 596, 3), (43, .iload 2, 1), (44, .aload 0, 1), (45, .getfield 589, 3), (48, .aload 0, 1)]),
  (56, [(49, .getfield 596, 3), (52, .iload 2, 1), (53, .iaload, 1), (54, .iaload, 1), (55, .iastore, 1), (56, .iinc 2 1, 3)]),
  (62, [(59, .goto 33, 3), (62, .return_, 1)])]
/-- 207: EightBlocksModel.sifts()I -/
def tb_207 : am_T := [(8, [(0, .sipush 0, 1), (1, .istore 1, 1), (2, .iload 1, 1), (3, .sipush 24, 2), (5, .if_icmp .ge 63, 3), (8, .aload 0, 1)]),
  (18, [(9, .getfield 596, 3), (12, .aload 0, 1), (13, .getfield 591, 3), (16, .iload 1, 1), (17, .iaload, 1), (18, .iaload, 1)]),
  (27, [(19, .istore 2, 1), (20, .aload 0, 1), (21, .getfield 592, 3), (24, .sipush 24, 2), (26, .iload 1, 1), (27, .imul, 1)]),
  (33, [(28, .iload 2, 1), (29, .iadd, 1), (30, .iaload, 1), (31, .istore 3, 1), (32, .iload 3, 1), (33, .ifCond .ge 48, 3)]),
  (43, [(36, .iload 2, 1), (37, .aload 0, 1), (38, .getfield 591, 3), (41, .iload 1, 1), (42, .iaload, 1), (43, .if_icmp .eq 48, 3)]),
  (53, [(46, .iload 1, 1), (47, .ireturn, 1), (48, .iload 3, 1), (49, .ifCond .lt 57, 3), (52, .aload 0, 1), (53, .iload 3, 1)]),
  (64, [(54, .invokevirtual 206, 3), (57, .iinc 1 1, 3), (60, .goto 2, 3), (63, .sipush (-1), 1), (64, .ireturn, 1)])]
/-- 208: EightBlocksModel.adds()V -/
def tb_208 : am_T := [(13, [(0, .aload 0, 1), (1, .invokevirtual 207, 3), (4, .istore 1, 1), (5, .iload 1, 1), (6, .ifCond .lt 18, 3), (9, .aload 0, 1), (10, .getfield 595, 3), (13, .sipush 124, 2)]),
  (27, [(15, .if_icmp .ne 19, 3), (18, .return_, 1), (19, .aload 0, 1), (20, .getfield 592, 3), (23, .sipush 24, 2), (25, .iload 1, 1), (26, .imul, 1), (27, .aload 0, 1)]),
  (39, [(28, .getfield 596, 3), (31, .aload 0, 1), (32, .getfield 591, 3), (35, .iload 1, 1), (36, .iaload, 1), (37, .iaload, 1), (38, .iadd, 1), (39, .aload 0, 1)]),
  (53, [(40, .getfield 595, 3), (43, .iastore, 1), (44, .aload 0, 1), (45, .getfield 594, 3), (48, .aload 0, 1), (49, .getfield 595, 3), (52, .iload 1, 1), (53, .iastore, 1)]),
  (66, [(54, .sipush 0, 1), (55, .istore 2, 1), (56, .iload 2, 1), (57, .sipush 24, 2), (59, .if_icmp .ge 88, 3), (62, .aload 0, 1), (63, .getfield 593, 3), (66, .sipush 24, 2)]),
  (79, [(68, .aload 0, 1), (69, .getfield 595, 3), (72, .imul, 1), (73, .iload 2, 1), (74, .iadd, 1), (75, .aload 0, 1), (76, .getfield 596, 3), (79, .iload 2, 1)]),
  (93, [(80, .iaload, 1), (81, .iastore, 1), (82, .iinc 2 1, 3), (85, .goto 56, 3), (88, .aload 0, 1), (89, .dup, 1), (90, .getfield 595, 3), (93, .sipush 1, 1)]),
  (98, [(94, .iadd, 1), (95, .putfield 595, 3), (98, .return_, 1)])]
/-- 209: EightBlocksModel.tries(II)V -/
def tb_209 : am_T := [(7, [(0, .aload 0, 1), (1, .getfield 594, 3), (4, .iload 1, 1), (5, .iaload, 1), (6, .aload 0, 1), (7, .getfield 594, 3)]),
  (17, [(10, .iload 2, 1), (11, .iaload, 1), (12, .if_icmp .le 16, 3), (15, .return_, 1), (16, .sipush 0, 1), (17, .istore 3, 1)]),
  (28, [(18, .iload 3, 1), (19, .sipush 24, 2), (21, .if_icmp .ge 57, 3), (24, .aload 0, 1), (25, .getfield 596, 3), (28, .iload 3, 1)]),
  (37, [(29, .aload 0, 1), (30, .getfield 593, 3), (33, .sipush 24, 2), (35, .iload 2, 1), (36, .imul, 1), (37, .aload 0, 1)]),
  (46, [(38, .getfield 593, 3), (41, .sipush 24, 2), (43, .iload 1, 1), (44, .imul, 1), (45, .iload 3, 1), (46, .iadd, 1)]),
  (54, [(47, .iaload, 1), (48, .iadd, 1), (49, .iaload, 1), (50, .iastore, 1), (51, .iinc 3 1, 3), (54, .goto 18, 3)]),
  (61, [(57, .aload 0, 1), (58, .invokevirtual 208, 3), (61, .return_, 1)])]
/-- 210: EightBlocksModel.bases(I)V -/
def tb_210 : am_T := [(4, [(0, .sipush 0, 1), (1, .istore 2, 1), (2, .sipush 0, 1), (3, .istore 3, 1), (4, .iload 3, 1)]),
  (12, [(5, .sipush 48, 2), (7, .if_icmp .ge 51, 3), (10, .iload 1, 1), (11, .iload 3, 1), (12, .sipush 24, 2)]),
  (21, [(14, .irem, 1), (15, .invokestatic 147, 3), (18, .iload 3, 1), (19, .sipush 24, 2), (21, .if_icmp .ge 28, 3)]),
  (32, [(24, .sipush 1, 1), (25, .goto 29, 3), (28, .sipush 0, 1), (29, .if_icmp .ne 45, 3), (32, .aload 0, 1)]),
  (40, [(33, .getfield 591, 3), (36, .iload 2, 1), (37, .iload 3, 1), (38, .sipush 24, 2), (40, .irem, 1)]),
  (51, [(41, .iastore, 1), (42, .iinc 2 1, 3), (45, .iinc 3 1, 3), (48, .goto 4, 3), (51, .return_, 1)])]
/-- 211: EightBlocksModel.stands(II)Z -/
def tb_211 : am_T := [(9, [(0, .aload 0, 1), (1, .getfield 597, 3), (4, .iload 1, 1), (5, .if_icmp .ne 20, 3), (8, .aload 0, 1), (9, .getfield 598, 3)]),
  (21, [(12, .iload 2, 1), (13, .if_icmp .ne 20, 3), (16, .sipush 1, 1), (17, .goto 21, 3), (20, .sipush 0, 1), (21, .istore 3, 1)]),
  (32, [(22, .sipush 0, 1), (23, .istore 4, 2), (25, .iload 4, 2), (27, .sipush 96, 2), (29, .if_icmp .ge 65, 3), (32, .iload 3, 1)]),
  (43, [(33, .ifCond .eq 65, 3), (36, .aload 0, 1), (37, .getfield 599, 3), (40, .iload 4, 2), (42, .iaload, 1), (43, .aload 0, 1)]),
  (54, [(44, .getfield 576, 3), (47, .iload 4, 2), (49, .iaload, 1), (50, .if_icmp .ne 57, 3), (53, .sipush 1, 1), (54, .goto 58, 3)]),
  (66, [(57, .sipush 0, 1), (58, .istore 3, 1), (59, .iinc 4 1, 3), (62, .goto 25, 3), (65, .iload 3, 1), (66, .ireturn, 1)])]
/-- 212: EightBlocksModel.builds(II)V -/
def tb_212 : am_T := [(15, [(0, .aload 0, 1), (1, .iload 1, 1), (2, .iload 2, 1), (3, .invokevirtual 211, 3), (6, .ifCond .eq 10, 3), (9, .return_, 1), (10, .aload 0, 1), (11, .iload 1, 1), (12, .putfield 597, 3), (15, .aload 0, 1)]),
  (32, [(16, .iload 2, 1), (17, .putfield 598, 3), (20, .sipush 0, 1), (21, .istore 3, 1), (22, .iload 3, 1), (23, .sipush 96, 2), (25, .if_icmp .ge 46, 3), (28, .aload 0, 1), (29, .getfield 599, 3), (32, .iload 3, 1)]),
  (48, [(33, .aload 0, 1), (34, .getfield 576, 3), (37, .iload 3, 1), (38, .iaload, 1), (39, .iastore, 1), (40, .iinc 3 1, 3), (43, .goto 22, 3), (46, .aload 0, 1), (47, .iload 2, 1), (48, .invokevirtual 210, 3)]),
  (66, [(51, .aload 0, 1), (52, .sipush 0, 1), (53, .putfield 595, 3), (56, .sipush 0, 1), (57, .istore 3, 1), (58, .iload 3, 1), (59, .sipush 576, 3), (62, .if_icmp .ge 78, 3), (65, .aload 0, 1), (66, .getfield 592, 3)]),
  (82, [(69, .iload 3, 1), (70, .sipush (-1), 1), (71, .iastore, 1), (72, .iinc 3 1, 3), (75, .goto 58, 3), (78, .sipush 0, 1), (79, .istore 3, 1), (80, .iload 3, 1), (81, .sipush 4, 1), (82, .if_icmp .ge 138, 3)]),
  (102, [(85, .sipush 0, 1), (86, .istore 4, 2), (88, .iload 4, 2), (90, .sipush 24, 2), (92, .if_icmp .ge 128, 3), (95, .aload 0, 1), (96, .getfield 596, 3), (99, .iload 4, 2), (101, .iload 1, 1), (102, .iload 3, 1)]),
  (122, [(103, .invokestatic 147, 3), (106, .ifCond .eq 119, 3), (109, .aload 0, 1), (110, .iload 3, 1), (111, .iload 4, 2), (113, .invokevirtual 173, 3), (116, .goto 121, 3), (119, .iload 4, 2), (121, .iastore, 1), (122, .iinc 4 1, 3)]),
  (142, [(125, .goto 88, 3), (128, .aload 0, 1), (129, .invokevirtual 208, 3), (132, .iinc 3 1, 3), (135, .goto 80, 3), (138, .sipush 0, 1), (139, .istore 3, 1), (140, .iload 3, 1), (141, .aload 0, 1), (142, .getfield 595, 3)]),
  (161, [(145, .if_icmp .ge 183, 3), (148, .sipush 0, 1), (149, .istore 4, 2), (151, .iload 4, 2), (153, .iload 3, 1), (154, .if_icmp .gt 177, 3), (157, .aload 0, 1), (158, .iload 3, 1), (159, .iload 4, 2), (161, .invokevirtual 209, 3)]),
  (183, [(164, .aload 0, 1), (165, .iload 4, 2), (167, .iload 3, 1), (168, .invokevirtual 209, 3), (171, .iinc 4 1, 3), (174, .goto 151, 3), (177, .iinc 3 1, 3), (180, .goto 140, 3), (183, .return_, 1)])]
/-- 213: EightBlocksModel.manyFrom(I)I -/
def tb_213 : am_T := [(5, [(0, .sipush 1, 1), (1, .istore 2, 1), (2, .iload 1, 1), (3, .istore 3, 1), (4, .iload 3, 1), (5, .sipush 24, 2)]),
  (16, [(7, .if_icmp .ge 65, 3), (10, .sipush 1, 1), (11, .istore 4, 2), (13, .sipush 0, 1), (14, .istore 5, 2), (16, .iload 5, 2)]),
  (29, [(18, .sipush 24, 2), (20, .if_icmp .ge 54, 3), (23, .iload 4, 2), (25, .aload 0, 1), (26, .getfield 592, 3), (29, .sipush 24, 2)]),
  (37, [(31, .iload 3, 1), (32, .imul, 1), (33, .iload 5, 2), (35, .iadd, 1), (36, .iaload, 1), (37, .ifCond .lt 44, 3)]),
  (48, [(40, .sipush 1, 1), (41, .goto 45, 3), (44, .sipush 0, 1), (45, .iadd, 1), (46, .istore 4, 2), (48, .iinc 5 1, 3)]),
  (59, [(51, .goto 16, 3), (54, .iload 2, 1), (55, .iload 4, 2), (57, .imul, 1), (58, .istore 2, 1), (59, .iinc 3 1, 3)]),
  (66, [(62, .goto 4, 3), (65, .iload 2, 1), (66, .ireturn, 1)])]
/-- 214: EightBlocksModel.isGroup(I)Z -/
def tb_214 : am_T := [(3, [(0, .iload 0, 1), (1, .i2l, 1), (2, .jsr_w 0, 1), (3, .jsr_w 15, 3)]),
  (9, [(6, .invokestatic 145, 3), (9, .ireturn, 1)])]
/-- 215: EightBlocksModel.allKeep(I)Z -/
def tb_215 : am_T := [(4, [(0, .sipush 1, 1), (1, .istore 2, 1), (2, .sipush 0, 1), (3, .istore 3, 1), (4, .iload 3, 1)]),
  (13, [(5, .sipush 4, 1), (6, .if_icmp .ge 41, 3), (9, .iload 2, 1), (10, .ifCond .eq 33, 3), (13, .iload 1, 1)]),
  (22, [(14, .iload 3, 1), (15, .invokestatic 147, 3), (18, .ifCond .eq 29, 3), (21, .aload 0, 1), (22, .iload 3, 1)]),
  (33, [(23, .invokevirtual 177, 3), (26, .ifCond .eq 33, 3), (29, .sipush 1, 1), (30, .goto 34, 3), (33, .sipush 0, 1)]),
  (42, [(34, .istore 2, 1), (35, .iinc 3 1, 3), (38, .goto 4, 3), (41, .iload 2, 1), (42, .ireturn, 1)])]
/-- 216: EightBlocksModel.reaches(II)I -/
def tb_216 : am_T := [(6, [(0, .iload 2, 1), (1, .istore 3, 1), (2, .sipush 0, 1), (3, .istore 4, 2), (5, .sipush 0, 1), (6, .istore 5, 2)]),
  (18, [(8, .iload 5, 2), (10, .sipush 25, 2), (12, .if_icmp .ge 68, 3), (15, .iload 4, 2), (17, .iload 3, 1), (18, .if_icmp .eq 68, 3)]),
  (29, [(21, .iload 3, 1), (22, .istore 4, 2), (24, .sipush 0, 1), (25, .istore 6, 2), (27, .iload 6, 2), (29, .sipush 4, 1)]),
  (40, [(30, .if_icmp .ge 62, 3), (33, .iload 3, 1), (34, .iload 1, 1), (35, .iload 6, 2), (37, .invokestatic 147, 3), (40, .ifCond .eq 53, 3)]),
  (53, [(43, .aload 0, 1), (44, .iload 6, 2), (46, .iload 3, 1), (47, .invokevirtual 175, 3), (50, .goto 54, 3), (53, .sipush 0, 1)]),
  (65, [(54, .ior, 1), (55, .istore 3, 1), (56, .iinc 6 1, 3), (59, .goto 27, 3), (62, .iinc 5 1, 3), (65, .goto 8, 3)]),
  (69, [(68, .iload 3, 1), (69, .ireturn, 1)])]
/-- 217: EightBlocksModel.orbitsOfPlaces(I)I -/
def tb_217 : am_T := [(5, [(0, .sipush 0, 1), (1, .istore 2, 1), (2, .sipush 16777215, 2), (4, .istore 3, 1), (5, .sipush 0, 1)]),
  (15, [(6, .istore 4, 2), (8, .iload 4, 2), (10, .sipush 24, 2), (12, .if_icmp .ge 44, 3), (15, .iload 3, 1)]),
  (22, [(16, .ifCond .eq 44, 3), (19, .iload 3, 1), (20, .aload 0, 1), (21, .iload 1, 1), (22, .sipush 1, 1)]),
  (31, [(23, .iload 3, 1), (24, .invokestatic 149, 3), (27, .ishl, 1), (28, .invokevirtual 216, 3), (31, .sipush (-1), 1)]),
  (38, [(32, .ixor, 1), (33, .iand, 1), (34, .istore 3, 1), (35, .iinc 2 1, 3), (38, .iinc 4 1, 3)]),
  (45, [(41, .goto 8, 3), (44, .iload 2, 1), (45, .ireturn, 1)])]
/-- 218: EightBlocksModel.imagesOf(I)V -/
def tb_218 : am_T := [(7, [(0, .sipush 0, 1), (1, .istore 2, 1), (2, .iload 2, 1), (3, .sipush 4, 1), (4, .if_icmp .ge 65, 3), (7, .sipush 0, 1)]),
  (16, [(8, .istore 3, 1), (9, .iload 3, 1), (10, .sipush 12, 2), (12, .if_icmp .ge 59, 3), (15, .aload 0, 1), (16, .getfield 600, 3)]),
  (25, [(19, .sipush 12, 2), (21, .iload 2, 1), (22, .imul, 1), (23, .iload 3, 1), (24, .iadd, 1), (25, .iload 1, 1)]),
  (35, [(26, .iload 2, 1), (27, .invokestatic 147, 3), (30, .ifCond .eq 49, 3), (33, .aload 0, 1), (34, .aload 0, 1), (35, .iload 2, 1)]),
  (49, [(36, .iload 3, 1), (37, .invokestatic 154, 3), (40, .invokevirtual 175, 3), (43, .invokevirtual 157, 3), (46, .goto 52, 3), (49, .sipush 1, 1)]),
  (59, [(50, .iload 3, 1), (51, .ishl, 1), (52, .iastore, 1), (53, .iinc 3 1, 3), (56, .goto 9, 3), (59, .iinc 2 1, 3)]),
  (65, [(62, .goto 2, 3), (65, .return_, 1)])]
/-- 219: EightBlocksModel.imageOf(II)I -/
def tb_219 : am_T := [(5, [(0, .sipush 0, 1), (1, .istore 3, 1), (2, .sipush 0, 1), (3, .istore 4, 2), (5, .iload 4, 2)]),
  (14, [(7, .sipush 12, 2), (9, .if_icmp .ge 46, 3), (12, .iload 3, 1), (13, .iload 2, 1), (14, .iload 4, 2)]),
  (26, [(16, .invokestatic 147, 3), (19, .ifCond .eq 37, 3), (22, .aload 0, 1), (23, .getfield 600, 3), (26, .sipush 12, 2)]),
  (33, [(28, .iload 1, 1), (29, .imul, 1), (30, .iload 4, 2), (32, .iadd, 1), (33, .iaload, 1)]),
  (40, [(34, .goto 38, 3), (37, .sipush 0, 1), (38, .ixor, 1), (39, .istore 3, 1), (40, .iinc 4 1, 3)]),
  (47, [(43, .goto 5, 3), (46, .iload 3, 1), (47, .ireturn, 1)])]
/-- 220: EightBlocksModel.spreads(I)I -/
def tb_220 : am_T := [(11, [(0, .aload 0, 1), (1, .getfield 601, 3), (4, .iload 1, 1), (5, .baload, 1), (6, .ifCond .eq 11, 3), (9, .sipush 0, 1), (10, .ireturn, 1), (11, .sipush 1, 1)]),
  (21, [(12, .istore 2, 1), (13, .aload 0, 1), (14, .getfield 601, 3), (17, .iload 1, 1), (18, .sipush 1, 1), (19, .bastore, 1), (20, .aload 0, 1), (21, .getfield 602, 3)]),
  (31, [(24, .sipush 0, 1), (25, .iload 1, 1), (26, .iastore, 1), (27, .sipush 0, 1), (28, .istore 3, 1), (29, .iload 3, 1), (30, .iload 2, 1), (31, .if_icmp .ge 98, 3)]),
  (46, [(34, .sipush 0, 1), (35, .istore 4, 2), (37, .iload 4, 2), (39, .sipush 4, 1), (40, .if_icmp .ge 92, 3), (43, .aload 0, 1), (44, .iload 4, 2), (46, .aload 0, 1)]),
  (61, [(47, .getfield 602, 3), (50, .iload 3, 1), (51, .iaload, 1), (52, .invokevirtual 219, 3), (55, .istore 5, 2), (57, .aload 0, 1), (58, .getfield 601, 3), (61, .iload 5, 2)]),
  (75, [(63, .baload, 1), (64, .ifCond .ne 86, 3), (67, .aload 0, 1), (68, .getfield 601, 3), (71, .iload 5, 2), (73, .sipush 1, 1), (74, .bastore, 1), (75, .aload 0, 1)]),
  (92, [(76, .getfield 602, 3), (79, .iload 2, 1), (80, .iload 5, 2), (82, .iastore, 1), (83, .iinc 2 1, 3), (86, .iinc 4 1, 3), (89, .goto 37, 3), (92, .iinc 3 1, 3)]),
  (99, [(95, .goto 29, 3), (98, .iload 2, 1), (99, .ireturn, 1)])]
/-- 221: EightBlocksModel.unmarks()V -/
def tb_221 : am_T := [(3, [(0, .sipush 0, 1), (1, .istore 1, 1), (2, .iload 1, 1), (3, .sipush 4096, 3)]),
  (13, [(6, .if_icmp .ge 22, 3), (9, .aload 0, 1), (10, .getfield 601, 3), (13, .iload 1, 1)]),
  (19, [(14, .sipush 0, 1), (15, .bastore, 1), (16, .iinc 1 1, 3), (19, .goto 2, 3)]),
  (22, [(22, .return_, 1)])]
/-- 222: EightBlocksModel.orbitsOfWords(II)I -/
def tb_222 : am_T := [(9, [(0, .aload 0, 1), (1, .iload 1, 1), (2, .invokevirtual 218, 3), (5, .aload 0, 1), (6, .invokevirtual 221, 3), (9, .sipush 0, 1)]),
  (19, [(10, .istore 3, 1), (11, .sipush 0, 1), (12, .istore 4, 2), (14, .iload 4, 2), (16, .sipush 4096, 3), (19, .if_icmp .ge 57, 3)]),
  (32, [(22, .iload 3, 1), (23, .iload 4, 2), (25, .invokestatic 158, 3), (28, .invokestatic 148, 3), (31, .iload 2, 1), (32, .if_icmp .ne 48, 3)]),
  (45, [(35, .aload 0, 1), (36, .iload 4, 2), (38, .invokevirtual 220, 3), (41, .ifCond .le 48, 3), (44, .sipush 1, 1), (45, .goto 49, 3)]),
  (57, [(48, .sipush 0, 1), (49, .iadd, 1), (50, .istore 3, 1), (51, .iinc 4 1, 3), (54, .goto 14, 3), (57, .iload 3, 1)]),
  (58, [(58, .ireturn, 1)])]
/-- 223: EightBlocksModel.rankOf(I)I -/
def tb_223 : am_T := [(8, [(0, .iload 0, 1), (1, .iload 0, 1), (2, .sipush 1, 1), (3, .isub, 1), (4, .iand, 1), (5, .invokestatic 149, 3), (8, .istore 1, 1)]),
  (16, [(9, .iload 0, 1), (10, .sipush (-2), 2), (12, .iand, 1), (13, .sipush 1, 1), (14, .iload 1, 1), (15, .ishl, 1), (16, .sipush (-1), 1)]),
  (27, [(17, .ixor, 1), (18, .iand, 1), (19, .invokestatic 149, 3), (22, .istore 2, 1), (23, .iload 0, 1), (24, .invokestatic 155, 3), (27, .istore 3, 1)]),
  (34, [(28, .iload 3, 1), (29, .sipush 1, 1), (30, .isub, 1), (31, .iload 3, 1), (32, .sipush 2, 1), (33, .isub, 1), (34, .imul, 1)]),
  (42, [(35, .iload 3, 1), (36, .sipush 3, 1), (37, .isub, 1), (38, .imul, 1), (39, .sipush 6, 2), (41, .idiv, 1), (42, .iload 2, 1)]),
  (49, [(43, .sipush 1, 1), (44, .isub, 1), (45, .iload 2, 1), (46, .sipush 2, 1), (47, .isub, 1), (48, .imul, 1), (49, .sipush 2, 1)]),
  (56, [(50, .idiv, 1), (51, .iadd, 1), (52, .iload 1, 1), (53, .iadd, 1), (54, .sipush 1, 1), (55, .isub, 1), (56, .ireturn, 1)])]
/-- 224: EightBlocksModel.fourBy(II)I -/
def tb_224 : am_T := [(3, [(0, .aload 0, 1), (1, .aload 0, 1), (2, .iload 1, 1), (3, .iload 2, 1)]),
  (11, [(4, .invokevirtual 175, 3), (7, .sipush 0, 1), (8, .invokevirtual 167, 3), (11, .ireturn, 1)])]
/-- 225: EightBlocksModel.spreadsFours(II)I -/
def tb_225 : am_T := [(13, [(0, .aload 0, 1), (1, .getfield 601, 3), (4, .iload 2, 1), (5, .invokestatic 223, 3), (8, .baload, 1), (9, .ifCond .eq 14, 3), (12, .sipush 0, 1), (13, .ireturn, 1)]),
  (25, [(14, .sipush 1, 1), (15, .istore 3, 1), (16, .aload 0, 1), (17, .getfield 601, 3), (20, .iload 2, 1), (21, .invokestatic 223, 3), (24, .sipush 1, 1), (25, .bastore, 1)]),
  (36, [(26, .aload 0, 1), (27, .getfield 602, 3), (30, .sipush 0, 1), (31, .iload 2, 1), (32, .iastore, 1), (33, .sipush 0, 1), (34, .istore 4, 2), (36, .iload 4, 2)]),
  (51, [(38, .iload 3, 1), (39, .if_icmp .ge 132, 3), (42, .sipush 0, 1), (43, .istore 5, 2), (45, .iload 5, 2), (47, .sipush 4, 1), (48, .if_icmp .ge 126, 3), (51, .iload 1, 1)]),
  (67, [(52, .iload 5, 2), (54, .invokestatic 147, 3), (57, .ifCond .eq 76, 3), (60, .aload 0, 1), (61, .iload 5, 2), (63, .aload 0, 1), (64, .getfield 602, 3), (67, .iload 4, 2)]),
  (83, [(69, .iaload, 1), (70, .invokevirtual 224, 3), (73, .goto 83, 3), (76, .aload 0, 1), (77, .getfield 602, 3), (80, .iload 4, 2), (82, .iaload, 1), (83, .istore 6, 2)]),
  (99, [(85, .aload 0, 1), (86, .getfield 601, 3), (89, .iload 6, 2), (91, .invokestatic 223, 3), (94, .baload, 1), (95, .ifCond .ne 120, 3), (98, .aload 0, 1), (99, .getfield 601, 3)]),
  (114, [(102, .iload 6, 2), (104, .invokestatic 223, 3), (107, .sipush 1, 1), (108, .bastore, 1), (109, .aload 0, 1), (110, .getfield 602, 3), (113, .iload 3, 1), (114, .iload 6, 2)]),
  (133, [(116, .iastore, 1), (117, .iinc 3 1, 3), (120, .iinc 5 1, 3), (123, .goto 45, 3), (126, .iinc 4 1, 3), (129, .goto 36, 3), (132, .iload 3, 1), (133, .ireturn, 1)])]
/-- 226: EightBlocksModel.orbitsOfSextets(I)I -/
def tb_226 : am_T := [(8, [(0, .aload 0, 1), (1, .invokevirtual 221, 3), (4, .sipush 0, 1), (5, .istore 2, 1), (6, .sipush 1, 1), (7, .istore 3, 1), (8, .iload 3, 1)]),
  (19, [(9, .sipush 22, 2), (11, .if_icmp .ge 88, 3), (14, .iload 3, 1), (15, .sipush 1, 1), (16, .iadd, 1), (17, .istore 4, 2), (19, .iload 4, 2)]),
  (32, [(21, .sipush 23, 2), (23, .if_icmp .ge 82, 3), (26, .iload 4, 2), (28, .sipush 1, 1), (29, .iadd, 1), (30, .istore 5, 2), (32, .iload 5, 2)]),
  (43, [(34, .sipush 24, 2), (36, .if_icmp .ge 76, 3), (39, .iload 2, 1), (40, .aload 0, 1), (41, .iload 1, 1), (42, .sipush 1, 1), (43, .sipush 1, 1)]),
  (51, [(44, .iload 3, 1), (45, .ishl, 1), (46, .ior, 1), (47, .sipush 1, 1), (48, .iload 4, 2), (50, .ishl, 1), (51, .ior, 1)]),
  (63, [(52, .sipush 1, 1), (53, .iload 5, 2), (55, .ishl, 1), (56, .ior, 1), (57, .invokevirtual 225, 3), (60, .ifCond .le 67, 3), (63, .sipush 1, 1)]),
  (76, [(64, .goto 68, 3), (67, .sipush 0, 1), (68, .iadd, 1), (69, .istore 2, 1), (70, .iinc 5 1, 3), (73, .goto 32, 3), (76, .iinc 4 1, 3)]),
  (89, [(79, .goto 19, 3), (82, .iinc 3 1, 3), (85, .goto 8, 3), (88, .iload 2, 1), (89, .ireturn, 1)])]
/-- 227: EightBlocksModel.group(II)I -/
def tb_227 : am_T := [(10, [(0, .iload 1, 1), (1, .invokestatic 214, 3), (4, .ifCond .eq 19, 3), (7, .iload 2, 1), (8, .i2l, 1), (9, .jsr_w 0, 1), (10, .jsr_w 4, 3)]),
  (23, [(13, .invokestatic 145, 3), (16, .ifCond .ne 21, 3), (19, .sipush (-1), 1), (20, .ireturn, 1), (21, .aload 0, 1), (22, .iload 1, 1), (23, .invokevirtual 215, 3)]),
  (69, [(26, .ifCond .ne 32, 3), (29, .sipush (-2), 2), (31, .ireturn, 1), (32, .iload 2, 1), (33, .tableswitch 92 0 4 #[68, 80, 92, 92, 86], 35), (68, .aload 0, 1), (69, .iload 1, 1)]),
  (80, [(70, .sipush 0, 1), (71, .invokevirtual 212, 3), (74, .aload 0, 1), (75, .sipush 0, 1), (76, .invokevirtual 213, 3), (79, .ireturn, 1), (80, .aload 0, 1)]),
  (91, [(81, .iload 1, 1), (82, .invokevirtual 217, 3), (85, .ireturn, 1), (86, .aload 0, 1), (87, .iload 1, 1), (88, .invokevirtual 226, 3), (91, .ireturn, 1)]),
  (101, [(92, .aload 0, 1), (93, .iload 1, 1), (94, .iload 2, 1), (95, .sipush 2, 1), (96, .if_icmp .ne 104, 3), (99, .sipush 8, 2), (101, .goto 106, 3)]),
  (109, [(104, .sipush 12, 2), (106, .invokevirtual 222, 3), (109, .ireturn, 1)])]
/-- 228: EightBlocksModel.held(III)I -/
def tb_228 : am_T := [(15, [(0, .iload 1, 1), (1, .invokestatic 214, 3), (4, .ifCond .eq 26, 3), (7, .iload 2, 1), (8, .invokestatic 150, 3), (11, .ifCond .eq 26, 3), (14, .iload 3, 1), (15, .i2l, 1)]),
  (29, [(16, .jsr_w 0, 1), (17, .jsr_w 2, 3), (20, .invokestatic 145, 3), (23, .ifCond .ne 28, 3), (26, .sipush (-1), 1), (27, .ireturn, 1), (28, .aload 0, 1), (29, .iload 1, 1)]),
  (43, [(30, .invokevirtual 215, 3), (33, .ifCond .eq 49, 3), (36, .iload 3, 1), (37, .sipush 2, 1), (38, .if_icmp .ne 52, 3), (41, .aload 0, 1), (42, .iload 2, 1), (43, .invokevirtual 157, 3)]),
  (58, [(46, .ifCond .ge 52, 3), (49, .sipush (-2), 2), (51, .ireturn, 1), (52, .iload 3, 1), (53, .ifCond .ne 63, 3), (56, .aload 0, 1), (57, .iload 1, 1), (58, .iload 2, 1)]),
  (70, [(59, .invokevirtual 216, 3), (62, .ireturn, 1), (63, .aload 0, 1), (64, .iload 1, 1), (65, .iload 2, 1), (66, .invokevirtual 212, 3), (69, .iload 3, 1), (70, .sipush 1, 1)]),
  (84, [(71, .if_icmp .ne 83, 3), (74, .aload 0, 1), (75, .iload 2, 1), (76, .invokestatic 148, 3), (79, .invokevirtual 213, 3), (82, .ireturn, 1), (83, .aload 0, 1), (84, .iload 1, 1)]),
  (98, [(85, .invokevirtual 218, 3), (88, .aload 0, 1), (89, .invokevirtual 221, 3), (92, .aload 0, 1), (93, .sipush 0, 1), (94, .invokevirtual 213, 3), (97, .aload 0, 1), (98, .aload 0, 1)]),
  (107, [(99, .iload 2, 1), (100, .invokevirtual 157, 3), (103, .invokevirtual 220, 3), (106, .idiv, 1), (107, .ireturn, 1)])]
/-- 229: EightBlocksModel.holds(II)I -/
def tb_229 : am_T := [(11, [(0, .iload 1, 1), (1, .invokestatic 214, 3), (4, .ifCond .eq 14, 3), (7, .iload 2, 1), (8, .invokestatic 172, 3), (11, .ifCond .ne 16, 3)]),
  (21, [(14, .sipush (-1), 1), (15, .ireturn, 1), (16, .aload 0, 1), (17, .iload 1, 1), (18, .invokevirtual 215, 3), (21, .ifCond .ne 27, 3)]),
  (30, [(24, .sipush (-2), 2), (26, .ireturn, 1), (27, .aload 0, 1), (28, .iload 1, 1), (29, .sipush 0, 1), (30, .invokevirtual 212, 3)]),
  (41, [(33, .sipush 0, 1), (34, .istore 3, 1), (35, .iload 3, 1), (36, .sipush 24, 2), (38, .if_icmp .ge 59, 3), (41, .aload 0, 1)]),
  (49, [(42, .getfield 596, 3), (45, .iload 3, 1), (46, .aload 0, 1), (47, .iload 2, 1), (48, .iload 3, 1), (49, .invokevirtual 173, 3)]),
  (63, [(52, .iastore, 1), (53, .iinc 3 1, 3), (56, .goto 35, 3), (59, .aload 0, 1), (60, .invokevirtual 207, 3), (63, .ifCond .ge 70, 3)]),
  (71, [(66, .sipush 1, 1), (67, .goto 71, 3), (70, .sipush 0, 1), (71, .ireturn, 1)])]
/-- 230: EightBlocksModel.choose(I)I -/
def tb_230 : am_T := [(9, [(0, .iload 1, 1), (1, .invokestatic 150, 3), (4, .ifCond .ne 9, 3), (7, .sipush (-1), 1), (8, .ireturn, 1), (9, .aload 0, 1)]),
  (18, [(10, .getfield 576, 3), (13, .sipush 120, 2), (15, .iaload, 1), (16, .istore 2, 1), (17, .iload 1, 1), (18, .invokestatic 148, 3)]),
  (31, [(21, .sipush 12, 2), (23, .if_icmp .ne 39, 3), (26, .aload 0, 1), (27, .iload 1, 1), (28, .invokevirtual 157, 3), (31, .ifCond .lt 39, 3)]),
  (42, [(34, .iload 1, 1), (35, .iload 2, 1), (36, .if_icmp .ne 42, 3), (39, .sipush (-2), 2), (41, .ireturn, 1), (42, .aload 0, 1)]),
  (53, [(43, .invokevirtual 234, 3), (46, .aload 0, 1), (47, .getfield 576, 3), (50, .sipush 120, 2), (52, .iload 1, 1), (53, .iastore, 1)]),
  (55, [(54, .iload 2, 1), (55, .ireturn, 1)])]
/-- 231: EightBlocksModel.hexad(I)I -/
def tb_231 : am_T := [(8, [(0, .iload 1, 1), (1, .invokestatic 150, 3), (4, .ifCond .ne 9, 3), (7, .sipush (-1), 1), (8, .ireturn, 1)]),
  (17, [(9, .iload 1, 1), (10, .invokestatic 148, 3), (13, .sipush 5, 1), (14, .if_icmp .ne 31, 3), (17, .iload 1, 1)]),
  (25, [(18, .aload 0, 1), (19, .getfield 576, 3), (22, .sipush 120, 2), (24, .iaload, 1), (25, .sipush (-1), 1)]),
  (33, [(26, .ixor, 1), (27, .iand, 1), (28, .ifCond .eq 36, 3), (31, .sipush (-2), 2), (33, .goto 49, 3)]),
  (42, [(36, .aload 0, 1), (37, .iload 1, 1), (38, .invokevirtual 165, 3), (41, .aload 0, 1), (42, .getfield 576, 3)]),
  (49, [(45, .sipush 120, 2), (47, .iaload, 1), (48, .iand, 1), (49, .ireturn, 1)])]
/-- 232: EightBlocksModel.turn(II)I -/
def tb_232 : am_T := [(16, [(0, .iload 1, 1), (1, .i2l, 1), (2, .invokestatic 151, 3), (5, .ifCond .eq 16, 3), (8, .iload 2, 1), (9, .i2l, 1), (10, .invokestatic 151, 3), (13, .ifCond .ne 18, 3), (16, .sipush (-1), 1)]),
  (25, [(17, .ireturn, 1), (18, .sipush 1, 1), (19, .iload 1, 1), (20, .ishl, 1), (21, .sipush 1, 1), (22, .iload 2, 1), (23, .ishl, 1), (24, .ior, 1), (25, .istore 3, 1)]),
  (39, [(26, .iload 1, 1), (27, .iload 2, 1), (28, .if_icmp .eq 43, 3), (31, .iload 3, 1), (32, .aload 0, 1), (33, .getfield 576, 3), (36, .sipush 120, 2), (38, .iaload, 1), (39, .iand, 1)]),
  (55, [(40, .ifCond .eq 46, 3), (43, .sipush (-2), 2), (45, .ireturn, 1), (46, .sipush (-4), 2), (48, .istore 4, 2), (50, .sipush 0, 1), (51, .istore 5, 2), (53, .iload 5, 2), (55, .sipush 759, 3)]),
  (74, [(58, .if_icmp .ge 141, 3), (61, .aload 0, 1), (62, .getfield 581, 3), (65, .iload 5, 2), (67, .iaload, 1), (68, .aload 0, 1), (69, .getfield 576, 3), (72, .sipush 120, 2), (74, .iaload, 1)]),
  (88, [(75, .sipush (-1), 1), (76, .ixor, 1), (77, .iand, 1), (78, .iload 3, 1), (79, .if_icmp .ne 109, 3), (82, .aload 0, 1), (83, .getfield 581, 3), (86, .iload 5, 2), (88, .iaload, 1)]),
  (106, [(89, .aload 0, 1), (90, .getfield 576, 3), (93, .sipush 120, 2), (95, .iaload, 1), (96, .invokestatic 149, 3), (99, .invokestatic 147, 3), (102, .ifCond .eq 109, 3), (105, .sipush 1, 1), (106, .goto 110, 3)]),
  (124, [(109, .sipush 0, 1), (110, .istore 6, 2), (112, .iload 6, 2), (114, .ifCond .eq 131, 3), (117, .aload 0, 1), (118, .getfield 581, 3), (121, .iload 5, 2), (123, .iaload, 1), (124, .iload 3, 1)]),
  (141, [(125, .sipush (-1), 1), (126, .ixor, 1), (127, .iand, 1), (128, .goto 133, 3), (131, .iload 4, 2), (133, .istore 4, 2), (135, .iinc 5 1, 3), (138, .goto 53, 3), (141, .iload 4, 2)]),
  (143, [(143, .ireturn, 1)])]
/-- 233: EightBlocksModel.pair(I)I -/
def tb_233 : am_T := [(9, [(0, .iload 1, 1), (1, .invokestatic 150, 3), (4, .ifCond .ne 9, 3), (7, .sipush (-1), 1), (8, .ireturn, 1), (9, .sipush (-2), 2)]),
  (18, [(11, .istore 2, 1), (12, .sipush 0, 1), (13, .istore 3, 1), (14, .iload 3, 1), (15, .sipush 759, 3), (18, .if_icmp .ge 69, 3)]),
  (31, [(21, .iload 1, 1), (22, .invokestatic 148, 3), (25, .sipush 6, 2), (27, .if_icmp .ne 61, 3), (30, .aload 0, 1), (31, .getfield 581, 3)]),
  (42, [(34, .iload 3, 1), (35, .iaload, 1), (36, .aload 0, 1), (37, .getfield 576, 3), (40, .sipush 120, 2), (42, .iaload, 1)]),
  (52, [(43, .iand, 1), (44, .iload 1, 1), (45, .if_icmp .ne 61, 3), (48, .aload 0, 1), (49, .getfield 581, 3), (52, .iload 3, 1)]),
  (58, [(53, .iaload, 1), (54, .iload 1, 1), (55, .sipush (-1), 1), (56, .ixor, 1), (57, .iand, 1), (58, .goto 62, 3)]),
  (70, [(61, .iload 2, 1), (62, .istore 2, 1), (63, .iinc 3 1, 3), (66, .goto 14, 3), (69, .iload 2, 1), (70, .ireturn, 1)])]
/-- 234: EightBlocksModel.notes()V -/
def tb_234 : am_T := [(12, [(0, .aload 0, 1), (1, .getfield 604, 3), (4, .sipush 6, 2), (6, .if_icmp .ne 45, 3), (9, .sipush 122, 2), (11, .istore 1, 1), (12, .iload 1, 1)]),
  (26, [(13, .sipush 732, 3), (16, .if_icmp .ge 40, 3), (19, .aload 0, 1), (20, .getfield 603, 3), (23, .iload 1, 1), (24, .sipush 122, 2), (26, .isub, 1)]),
  (37, [(27, .aload 0, 1), (28, .getfield 603, 3), (31, .iload 1, 1), (32, .iaload, 1), (33, .iastore, 1), (34, .iinc 1 1, 3), (37, .goto 12, 3)]),
  (48, [(40, .aload 0, 1), (41, .sipush 5, 1), (42, .putfield 604, 3), (45, .sipush 0, 1), (46, .istore 1, 1), (47, .iload 1, 1), (48, .sipush 122, 2)]),
  (63, [(50, .if_icmp .ge 79, 3), (53, .aload 0, 1), (54, .getfield 603, 3), (57, .sipush 122, 2), (59, .aload 0, 1), (60, .getfield 604, 3), (63, .imul, 1)]),
  (72, [(64, .iload 1, 1), (65, .iadd, 1), (66, .aload 0, 1), (67, .getfield 576, 3), (70, .iload 1, 1), (71, .iaload, 1), (72, .iastore, 1)]),
  (85, [(73, .iinc 1 1, 3), (76, .goto 47, 3), (79, .aload 0, 1), (80, .dup, 1), (81, .getfield 604, 3), (84, .sipush 1, 1), (85, .iadd, 1)]),
  (89, [(86, .putfield 604, 3), (89, .return_, 1)])]
/-- 235: EightBlocksModel.undo()I -/
def tb_235 : am_T := [(10, [(0, .aload 0, 1), (1, .getfield 604, 3), (4, .ifCond .ne 10, 3), (7, .sipush (-4), 2), (9, .ireturn, 1), (10, .aload 0, 1)]),
  (20, [(11, .dup, 1), (12, .getfield 604, 3), (15, .sipush 1, 1), (16, .isub, 1), (17, .putfield 604, 3), (20, .sipush 0, 1)]),
  (29, [(21, .istore 1, 1), (22, .iload 1, 1), (23, .sipush 122, 2), (25, .if_icmp .ge 54, 3), (28, .aload 0, 1), (29, .getfield 576, 3)]),
  (40, [(32, .iload 1, 1), (33, .aload 0, 1), (34, .getfield 603, 3), (37, .sipush 122, 2), (39, .aload 0, 1), (40, .getfield 604, 3)]),
  (48, [(43, .imul, 1), (44, .iload 1, 1), (45, .iadd, 1), (46, .iaload, 1), (47, .iastore, 1), (48, .iinc 1 1, 3)]),
  (58, [(51, .goto 22, 3), (54, .aload 0, 1), (55, .getfield 604, 3), (58, .ireturn, 1)])]
/-- 236: EightBlocksModel.doubles(II)V -/
def tb_236 : am_T := [(8, [(0, .sipush 0, 1), (1, .istore 3, 1), (2, .iload 3, 1), (3, .sipush 24, 2), (5, .if_icmp .ge 31, 3), (8, .aload 0, 1)]),
  (16, [(9, .getfield 589, 3), (12, .iload 3, 1), (13, .aload 0, 1), (14, .iload 2, 1), (15, .aload 0, 1), (16, .iload 1, 1)]),
  (28, [(17, .iload 3, 1), (18, .invokevirtual 173, 3), (21, .invokevirtual 173, 3), (24, .iastore, 1), (25, .iinc 3 1, 3), (28, .goto 2, 3)]),
  (39, [(31, .sipush 0, 1), (32, .istore 3, 1), (33, .iload 3, 1), (34, .sipush 24, 2), (36, .if_icmp .ge 62, 3), (39, .aload 0, 1)]),
  (48, [(40, .getfield 576, 3), (43, .sipush 24, 2), (45, .iload 1, 1), (46, .imul, 1), (47, .iload 3, 1), (48, .iadd, 1)]),
  (56, [(49, .aload 0, 1), (50, .getfield 589, 3), (53, .iload 3, 1), (54, .iaload, 1), (55, .iastore, 1), (56, .iinc 3 1, 3)]),
  (62, [(59, .goto 33, 3), (62, .return_, 1)])]
/-- 237: EightBlocksModel.drift(I)I -/
def tb_237 : am_T := [(13, [(0, .iload 1, 1), (1, .i2l, 1), (2, .jsr_w 1, 1), (3, .jsr_w 40, 3), (6, .invokestatic 145, 3), (9, .ifCond .ne 14, 3), (12, .sipush (-1), 1), (13, .ireturn, 1)]),
  (25, [(14, .sipush 0, 1), (15, .istore 2, 1), (16, .iload 2, 1), (17, .iload 1, 1), (18, .if_icmp .ge 115, 3), (21, .aload 0, 1), (22, .invokevirtual 234, 3), (25, .aload 0, 1)]),
  (40, [(26, .getfield 576, 3), (29, .sipush 121, 2), (31, .iaload, 1), (32, .i2l, 1), (33, .jsr_w 1103515245, 3), (36, .lmul, 1), (37, .jsr_w 12345, 3), (40, .ladd, 1)]),
  (52, [(41, .jsr_w 2147483648, 3), (44, .lrem, 1), (45, .lstore 3, 1), (46, .lload 3, 1), (47, .jsr_w 65536, 3), (50, .ldiv, 1), (51, .l2i, 1), (52, .istore 5, 2)]),
  (65, [(54, .aload 0, 1), (55, .getfield 576, 3), (58, .sipush 121, 2), (60, .lload 3, 1), (61, .l2i, 1), (62, .iastore, 1), (63, .iload 5, 2), (65, .sipush 8, 2)]),
  (80, [(67, .irem, 1), (68, .ifCond .ne 94, 3), (71, .aload 0, 1), (72, .getfield 576, 3), (75, .sipush 120, 2), (77, .aload 0, 1), (78, .iload 5, 2), (80, .sipush 8, 2)]),
  (95, [(82, .idiv, 1), (83, .sipush 2576, 3), (86, .irem, 1), (87, .invokevirtual 163, 3), (90, .iastore, 1), (91, .goto 109, 3), (94, .aload 0, 1), (95, .iload 5, 2)]),
  (106, [(97, .sipush 4, 1), (98, .irem, 1), (99, .iload 5, 2), (101, .sipush 8, 2), (103, .idiv, 1), (104, .sipush 5, 1), (105, .irem, 1), (106, .invokevirtual 236, 3)]),
  (122, [(109, .iinc 2 1, 3), (112, .goto 16, 3), (115, .aload 0, 1), (116, .getfield 576, 3), (119, .sipush 120, 2), (121, .iaload, 1), (122, .ireturn, 1)])]
/-- 238: EightBlocksModel.seed(I)I -/
def tb_238 : am_T := [(5, [(0, .iload 1, 1), (1, .ifCond .ge 6, 3), (4, .sipush (-1), 1), (5, .ireturn, 1)]),
  (12, [(6, .aload 0, 1), (7, .getfield 576, 3), (10, .sipush 121, 2), (12, .iaload, 1)]),
  (18, [(13, .istore 2, 1), (14, .aload 0, 1), (15, .getfield 576, 3), (18, .sipush 121, 2)]),
  (23, [(20, .iload 1, 1), (21, .iastore, 1), (22, .iload 2, 1), (23, .ireturn, 1)])]
/-- 239: EightBlocksModel.count(I)I -/
def tb_239 : am_T := [(33, [(0, .sipush 0, 1), (1, .istore 2, 1), (2, .iload 1, 1), (3, .tableswitch 91 0 3 #[32, 40, 45, 78], 29), (32, .aload 0, 1), (33, .getfield 576, 3)]),
  (44, [(36, .sipush 120, 2), (38, .iaload, 1), (39, .ireturn, 1), (40, .aload 0, 1), (41, .getfield 604, 3), (44, .ireturn, 1)]),
  (52, [(45, .sipush 0, 1), (46, .istore 3, 1), (47, .iload 3, 1), (48, .sipush 5, 1), (49, .if_icmp .ge 76, 3), (52, .iload 2, 1)]),
  (62, [(53, .aload 0, 1), (54, .iload 3, 1), (55, .invokevirtual 177, 3), (58, .ifCond .eq 67, 3), (61, .sipush 1, 1), (62, .iload 3, 1)]),
  (70, [(63, .ishl, 1), (64, .goto 68, 3), (67, .sipush 0, 1), (68, .ior, 1), (69, .istore 2, 1), (70, .iinc 3 1, 3)]),
  (82, [(73, .goto 47, 3), (76, .iload 2, 1), (77, .ireturn, 1), (78, .aload 0, 1), (79, .getfield 607, 3), (82, .ifCond .ge 89, 3)]),
  (92, [(85, .sipush 0, 1), (86, .goto 90, 3), (89, .sipush 1, 1), (90, .ireturn, 1), (91, .sipush (-1), 1), (92, .ireturn, 1)])]
/-- 240: EightBlocksModel.image()I -/
def tb_240 : am_T := [(8, [(0, .sipush 0, 1), (1, .istore 1, 1), (2, .iload 1, 1), (3, .sipush 122, 2), (5, .if_icmp .ge 26, 3), (8, .aload 0, 1)]),
  (18, [(9, .getfield 605, 3), (12, .iload 1, 1), (13, .aload 0, 1), (14, .getfield 576, 3), (17, .iload 1, 1), (18, .iaload, 1)]),
  (28, [(19, .iastore, 1), (20, .iinc 1 1, 3), (23, .goto 2, 3), (26, .sipush 0, 1), (27, .istore 1, 1), (28, .iload 1, 1)]),
  (40, [(29, .sipush 732, 3), (32, .if_icmp .ge 53, 3), (35, .aload 0, 1), (36, .getfield 606, 3), (39, .iload 1, 1), (40, .aload 0, 1)]),
  (50, [(41, .getfield 603, 3), (44, .iload 1, 1), (45, .iaload, 1), (46, .iastore, 1), (47, .iinc 1 1, 3), (50, .goto 28, 3)]),
  (62, [(53, .aload 0, 1), (54, .aload 0, 1), (55, .getfield 604, 3), (58, .putfield 607, 3), (61, .sipush 1, 1), (62, .ireturn, 1)])]
/-- 241: EightBlocksModel.restore()I -/
def tb_241 : am_T := [(10, [(0, .aload 0, 1), (1, .getfield 607, 3), (4, .ifCond .ge 10, 3), (7, .sipush (-4), 2), (9, .ireturn, 1), (10, .sipush 0, 1)]),
  (19, [(11, .istore 1, 1), (12, .iload 1, 1), (13, .sipush 122, 2), (15, .if_icmp .ge 36, 3), (18, .aload 0, 1), (19, .getfield 576, 3)]),
  (29, [(22, .iload 1, 1), (23, .aload 0, 1), (24, .getfield 605, 3), (27, .iload 1, 1), (28, .iaload, 1), (29, .iastore, 1)]),
  (39, [(30, .iinc 1 1, 3), (33, .goto 12, 3), (36, .sipush 0, 1), (37, .istore 1, 1), (38, .iload 1, 1), (39, .sipush 732, 3)]),
  (51, [(42, .if_icmp .ge 63, 3), (45, .aload 0, 1), (46, .getfield 603, 3), (49, .iload 1, 1), (50, .aload 0, 1), (51, .getfield 606, 3)]),
  (63, [(54, .iload 1, 1), (55, .iaload, 1), (56, .iastore, 1), (57, .iinc 1 1, 3), (60, .goto 38, 3), (63, .aload 0, 1)]),
  (72, [(64, .aload 0, 1), (65, .getfield 607, 3), (68, .putfield 604, 3), (71, .sipush 1, 1), (72, .ireturn, 1)])]
/-- 242: EightBlocksModel.isSheet(I)Z -/
def tb_242 : am_T := [(3, [(0, .iload 0, 1), (1, .i2l, 1), (2, .jsr_w 0, 1), (3, .jsr_w 3, 3)]),
  (9, [(6, .invokestatic 145, 3), (9, .ireturn, 1)])]
/-- 243: EightBlocksModel.cut(JI)J -/
def tb_243 : am_T := [(6, [(0, .iload 2, 1), (1, .ifCond .ne 11, 3), (4, .lload 0, 1), (5, .l2i, 1), (6, .i2b, 1)]),
  (13, [(7, .i2l, 1), (8, .goto 35, 3), (11, .iload 2, 1), (12, .sipush 1, 1), (13, .if_icmp .ne 23, 3)]),
  (20, [(16, .lload 0, 1), (17, .l2i, 1), (18, .i2s, 1), (19, .i2l, 1), (20, .goto 35, 3)]),
  (29, [(23, .iload 2, 1), (24, .sipush 2, 1), (25, .if_icmp .ne 34, 3), (28, .lload 0, 1), (29, .l2i, 1)]),
  (35, [(30, .i2l, 1), (31, .goto 35, 3), (34, .lload 0, 1), (35, .lreturn, 1)])]
/-- 244: EightBlocksModel.sheet(III)I -/
def tb_244 : am_T := [(10, [(0, .iload 1, 1), (1, .invokestatic 242, 3), (4, .ifCond .eq 25, 3), (7, .iload 2, 1), (8, .i2l, 1), (9, .jsr_w 0, 1), (10, .jsr_w 3, 3)]),
  (26, [(13, .invokestatic 145, 3), (16, .ifCond .eq 25, 3), (19, .iload 3, 1), (20, .sipush 32, 2), (22, .if_icmp .le 27, 3), (25, .sipush (-1), 1), (26, .ireturn, 1)]),
  (38, [(27, .iload 3, 1), (28, .ifCond .ge 34, 3), (31, .sipush (-14), 2), (33, .ireturn, 1), (34, .aload 0, 1), (35, .getfield 608, 3), (38, .iload 1, 1)]),
  (47, [(39, .iload 2, 1), (40, .iastore, 1), (41, .aload 0, 1), (42, .getfield 609, 3), (45, .iload 1, 1), (46, .iload 3, 1), (47, .iastore, 1)]),
  (59, [(48, .sipush 0, 1), (49, .istore 4, 2), (51, .iload 4, 2), (53, .sipush 32, 2), (55, .if_icmp .ge 77, 3), (58, .aload 0, 1), (59, .getfield 610, 3)]),
  (70, [(62, .sipush 32, 2), (64, .iload 1, 1), (65, .imul, 1), (66, .iload 4, 2), (68, .iadd, 1), (69, .jsr_w 0, 1), (70, .lastore, 1)]),
  (78, [(71, .iinc 4 1, 3), (74, .goto 51, 3), (77, .iload 3, 1), (78, .ireturn, 1)])]
/-- 245: EightBlocksModel.drop(I)I -/
def tb_245 : am_T := [(8, [(0, .iload 1, 1), (1, .invokestatic 242, 3), (4, .ifCond .ne 9, 3), (7, .sipush (-1), 1), (8, .ireturn, 1)]),
  (15, [(9, .aload 0, 1), (10, .getfield 608, 3), (13, .iload 1, 1), (14, .iaload, 1), (15, .ifCond .ge 21, 3)]),
  (25, [(18, .sipush (-11), 2), (20, .ireturn, 1), (21, .aload 0, 1), (22, .getfield 608, 3), (25, .iload 1, 1)]),
  (32, [(26, .sipush (-1), 1), (27, .iastore, 1), (28, .aload 0, 1), (29, .getfield 609, 3), (32, .iload 1, 1)]),
  (34, [(33, .iaload, 1), (34, .ireturn, 1)])]
/-- 246: EightBlocksModel.why(IIII)I -/
def tb_246 : am_T := [(6, [(0, .aload 0, 1), (1, .getfield 608, 3), (4, .iload 1, 1), (5, .iaload, 1), (6, .ifCond .ge 12, 3)]),
  (16, [(9, .sipush (-11), 2), (11, .ireturn, 1), (12, .aload 0, 1), (13, .getfield 608, 3), (16, .iload 1, 1)]),
  (24, [(17, .iaload, 1), (18, .iload 2, 1), (19, .if_icmp .eq 25, 3), (22, .sipush (-12), 2), (24, .ireturn, 1)]),
  (32, [(25, .iload 3, 1), (26, .ifCond .lt 42, 3), (29, .iload 4, 2), (31, .aload 0, 1), (32, .getfield 609, 3)]),
  (39, [(35, .iload 1, 1), (36, .iaload, 1), (37, .iload 3, 1), (38, .isub, 1), (39, .if_icmp .le 47, 3)]),
  (48, [(42, .sipush (-13), 2), (44, .goto 48, 3), (47, .sipush 0, 1), (48, .ireturn, 1)])]
/-- 247: EightBlocksModel.item(IIIJ)I -/
def tb_247 : am_T := [(9, [(0, .iload 1, 1), (1, .invokestatic 242, 3), (4, .ifCond .eq 19, 3), (7, .iload 2, 1), (8, .i2l, 1), (9, .jsr_w 0, 1)]),
  (21, [(10, .jsr_w 3, 3), (13, .invokestatic 145, 3), (16, .ifCond .ne 21, 3), (19, .sipush (-1), 1), (20, .ireturn, 1), (21, .aload 0, 1)]),
  (29, [(22, .iload 1, 1), (23, .iload 2, 1), (24, .iload 3, 1), (25, .sipush 1, 1), (26, .invokevirtual 246, 3), (29, .istore 6, 2)]),
  (40, [(31, .iload 6, 2), (33, .ifCond .ge 39, 3), (36, .iload 6, 2), (38, .ireturn, 1), (39, .aload 0, 1), (40, .getfield 610, 3)]),
  (49, [(43, .sipush 32, 2), (45, .iload 1, 1), (46, .imul, 1), (47, .iload 3, 1), (48, .iadd, 1), (49, .lload 4, 2)]),
  (57, [(51, .iload 2, 1), (52, .invokestatic 243, 3), (55, .lastore, 1), (56, .sipush 1, 1), (57, .ireturn, 1)])]
/-- 248: EightBlocksModel.copy(IIIII)I -/
def tb_248 : am_T := [(17, [(0, .iload 1, 1), (1, .invokestatic 242, 3), (4, .ifCond .eq 14, 3), (7, .iload 3, 1), (8, .invokestatic 242, 3), (11, .ifCond .ne 16, 3), (14, .sipush (-1), 1), (15, .ireturn, 1), (16, .aload 0, 1), (17, .getfield 608, 3)]),
  (36, [(20, .iload 1, 1), (21, .iaload, 1), (22, .ifCond .lt 34, 3), (25, .aload 0, 1), (26, .getfield 608, 3), (29, .iload 3, 1), (30, .iaload, 1), (31, .ifCond .ge 37, 3), (34, .sipush (-11), 2), (36, .ireturn, 1)]),
  (52, [(37, .aload 0, 1), (38, .getfield 608, 3), (41, .iload 1, 1), (42, .iaload, 1), (43, .aload 0, 1), (44, .getfield 608, 3), (47, .iload 3, 1), (48, .iaload, 1), (49, .if_icmp .eq 55, 3), (52, .sipush (-12), 2)]),
  (71, [(54, .ireturn, 1), (55, .iload 5, 2), (57, .ifCond .lt 104, 3), (60, .iload 2, 1), (61, .ifCond .lt 104, 3), (64, .iload 4, 2), (66, .ifCond .lt 104, 3), (69, .iload 2, 1), (70, .i2l, 1), (71, .iload 5, 2)]),
  (86, [(73, .i2l, 1), (74, .ladd, 1), (75, .aload 0, 1), (76, .getfield 609, 3), (79, .iload 1, 1), (80, .iaload, 1), (81, .i2l, 1), (82, .lcmp, 1), (83, .ifCond .gt 104, 3), (86, .iload 4, 2)]),
  (100, [(88, .i2l, 1), (89, .iload 5, 2), (91, .i2l, 1), (92, .ladd, 1), (93, .aload 0, 1), (94, .getfield 609, 3), (97, .iload 3, 1), (98, .iaload, 1), (99, .i2l, 1), (100, .lcmp, 1)]),
  (118, [(101, .ifCond .le 107, 3), (104, .sipush (-13), 2), (106, .ireturn, 1), (107, .sipush 0, 1), (108, .istore 6, 2), (110, .iload 6, 2), (112, .iload 5, 2), (114, .if_icmp .ge 144, 3), (117, .aload 0, 1), (118, .getfield 611, 3)]),
  (135, [(121, .iload 6, 2), (123, .aload 0, 1), (124, .getfield 610, 3), (127, .sipush 32, 2), (129, .iload 1, 1), (130, .imul, 1), (131, .iload 2, 1), (132, .iadd, 1), (133, .iload 6, 2), (135, .iadd, 1)]),
  (154, [(136, .laload, 1), (137, .lastore, 1), (138, .iinc 6 1, 3), (141, .goto 110, 3), (144, .sipush 0, 1), (145, .istore 6, 2), (147, .iload 6, 2), (149, .iload 5, 2), (151, .if_icmp .ge 182, 3), (154, .aload 0, 1)]),
  (169, [(155, .getfield 610, 3), (158, .sipush 32, 2), (160, .iload 3, 1), (161, .imul, 1), (162, .iload 4, 2), (164, .iadd, 1), (165, .iload 6, 2), (167, .iadd, 1), (168, .aload 0, 1), (169, .getfield 611, 3)]),
  (184, [(172, .iload 6, 2), (174, .laload, 1), (175, .lastore, 1), (176, .iinc 6 1, 3), (179, .goto 147, 3), (182, .iload 5, 2), (184, .ireturn, 1)])]
/-- 249: EightBlocksModel.film(IIII)I -/
def tb_249 : am_T := [(14, [(0, .iload 1, 1), (1, .invokestatic 172, 3), (4, .ifCond .eq 26, 3), (7, .iload 2, 1), (8, .invokestatic 242, 3), (11, .ifCond .eq 26, 3), (14, .iload 3, 1)]),
  (27, [(15, .i2l, 1), (16, .jsr_w 0, 1), (17, .jsr_w 3, 3), (20, .invokestatic 145, 3), (23, .ifCond .ne 28, 3), (26, .sipush (-1), 1), (27, .ireturn, 1)]),
  (38, [(28, .aload 0, 1), (29, .iload 2, 1), (30, .iload 3, 1), (31, .iload 4, 2), (33, .sipush 24, 2), (35, .invokevirtual 246, 3), (38, .istore 5, 2)]),
  (51, [(40, .iload 5, 2), (42, .ifCond .ge 48, 3), (45, .iload 5, 2), (47, .ireturn, 1), (48, .sipush 0, 1), (49, .istore 6, 2), (51, .iload 6, 2)]),
  (65, [(53, .sipush 24, 2), (55, .if_icmp .ge 87, 3), (58, .aload 0, 1), (59, .getfield 610, 3), (62, .sipush 32, 2), (64, .iload 2, 1), (65, .imul, 1)]),
  (74, [(66, .iload 4, 2), (68, .iadd, 1), (69, .iload 6, 2), (71, .iadd, 1), (72, .aload 0, 1), (73, .iload 1, 1), (74, .iload 6, 2)]),
  (89, [(76, .invokevirtual 173, 3), (79, .i2l, 1), (80, .lastore, 1), (81, .iinc 6 1, 3), (84, .goto 51, 3), (87, .sipush 24, 2), (89, .ireturn, 1)])]
/-- 250: EightBlocksModel.wants(II)I -/
def tb_250 : am_T := [(10, [(0, .sipush 0, 1), (1, .istore 3, 1), (2, .sipush 0, 1), (3, .istore 4, 2), (5, .sipush 0, 1), (6, .istore 5, 2), (8, .iload 5, 2), (10, .iload 2, 1)]),
  (23, [(11, .if_icmp .ge 99, 3), (14, .aload 0, 1), (15, .getfield 610, 3), (18, .iload 1, 1), (19, .sipush 2, 1), (20, .iload 5, 2), (22, .imul, 1), (23, .iadd, 1)]),
  (34, [(24, .laload, 1), (25, .l2i, 1), (26, .istore 6, 2), (28, .aload 0, 1), (29, .getfield 610, 3), (32, .iload 1, 1), (33, .sipush 2, 1), (34, .iload 5, 2)]),
  (44, [(36, .imul, 1), (37, .iadd, 1), (38, .sipush 1, 1), (39, .iadd, 1), (40, .laload, 1), (41, .l2i, 1), (42, .istore 7, 2), (44, .iload 4, 2)]),
  (62, [(46, .ifCond .ne 70, 3), (49, .iload 3, 1), (50, .iload 6, 2), (52, .invokestatic 147, 3), (55, .ifCond .eq 74, 3), (58, .aload 0, 1), (59, .getfield 612, 3), (62, .iload 6, 2)]),
  (77, [(64, .iaload, 1), (65, .iload 7, 2), (67, .if_icmp .eq 74, 3), (70, .sipush 1, 1), (71, .goto 75, 3), (74, .sipush 0, 1), (75, .istore 4, 2), (77, .aload 0, 1)]),
  (90, [(78, .getfield 612, 3), (81, .iload 6, 2), (83, .iload 7, 2), (85, .iastore, 1), (86, .iload 3, 1), (87, .sipush 1, 1), (88, .iload 6, 2), (90, .ishl, 1)]),
  (105, [(91, .ior, 1), (92, .istore 3, 1), (93, .iinc 5 1, 3), (96, .goto 8, 3), (99, .iload 4, 2), (101, .ifCond .eq 108, 3), (104, .sipush (-1), 1), (105, .goto 109, 3)]),
  (109, [(108, .iload 3, 1), (109, .ireturn, 1)])]
/-- 251: EightBlocksModel.sends(II)I -/
def tb_251 : am_T := [(12, [(0, .sipush (-1), 1), (1, .istore 3, 1), (2, .sipush 0, 1), (3, .istore 4, 2), (5, .iload 4, 2), (7, .sipush 24, 2), (9, .if_icmp .ge 129, 3), (12, .iload 4, 2)]),
  (27, [(14, .aload 0, 1), (15, .getfield 591, 3), (18, .iload 1, 1), (19, .iaload, 1), (20, .if_icmp .eq 38, 3), (23, .aload 0, 1), (24, .getfield 592, 3), (27, .sipush 24, 2)]),
  (39, [(29, .iload 1, 1), (30, .imul, 1), (31, .iload 4, 2), (33, .iadd, 1), (34, .iaload, 1), (35, .ifCond .lt 42, 3), (38, .sipush 1, 1), (39, .goto 43, 3)]),
  (54, [(42, .sipush 0, 1), (43, .istore 5, 2), (45, .iload 1, 1), (46, .iload 2, 1), (47, .if_icmp .ge 79, 3), (50, .aload 0, 1), (51, .getfield 596, 3), (54, .iload 4, 2)]),
  (67, [(56, .iaload, 1), (57, .aload 0, 1), (58, .getfield 612, 3), (61, .aload 0, 1), (62, .getfield 591, 3), (65, .iload 1, 1), (66, .iaload, 1), (67, .iaload, 1)]),
  (83, [(68, .if_icmp .ne 75, 3), (71, .sipush 1, 1), (72, .goto 104, 3), (75, .sipush 0, 1), (76, .goto 104, 3), (79, .iload 3, 1), (80, .ifCond .lt 99, 3), (83, .aload 0, 1)]),
  (96, [(84, .getfield 596, 3), (87, .iload 4, 2), (89, .iaload, 1), (90, .aload 0, 1), (91, .getfield 596, 3), (94, .iload 3, 1), (95, .iaload, 1), (96, .if_icmp .ge 103, 3)]),
  (113, [(99, .sipush 1, 1), (100, .goto 104, 3), (103, .sipush 0, 1), (104, .istore 6, 2), (106, .iload 5, 2), (108, .ifCond .eq 121, 3), (111, .iload 6, 2), (113, .ifCond .eq 121, 3)]),
  (130, [(116, .iload 4, 2), (118, .goto 122, 3), (121, .iload 3, 1), (122, .istore 3, 1), (123, .iinc 4 1, 3), (126, .goto 5, 3), (129, .iload 3, 1), (130, .ireturn, 1)])]
/-- 252: EightBlocksModel.finds(I)Z -/
def tb_252 : am_T := [(13, [(0, .sipush 0, 1), (1, .istore 2, 1), (2, .iload 2, 1), (3, .sipush 24, 2), (5, .if_icmp .ge 21, 3), (8, .aload 0, 1), (9, .getfield 596, 3), (12, .iload 2, 1), (13, .iload 2, 1)]),
  (29, [(14, .iastore, 1), (15, .iinc 2 1, 3), (18, .goto 2, 3), (21, .sipush 0, 1), (22, .istore 2, 1), (23, .iload 2, 1), (24, .sipush 24, 2), (26, .if_icmp .ge 147, 3), (29, .aload 0, 1)]),
  (42, [(30, .iload 2, 1), (31, .iload 1, 1), (32, .invokevirtual 251, 3), (35, .istore 3, 1), (36, .iload 3, 1), (37, .ifCond .ge 42, 3), (40, .sipush 0, 1), (41, .ireturn, 1), (42, .aload 0, 1)]),
  (55, [(43, .getfield 592, 3), (46, .sipush 24, 2), (48, .iload 2, 1), (49, .imul, 1), (50, .iload 3, 1), (51, .iadd, 1), (52, .iaload, 1), (53, .istore 4, 2), (55, .sipush 0, 1)]),
  (73, [(56, .istore 5, 2), (58, .iload 5, 2), (60, .sipush 24, 2), (62, .if_icmp .ge 111, 3), (65, .aload 0, 1), (66, .getfield 589, 3), (69, .iload 5, 2), (71, .iload 4, 2), (73, .ifCond .ge 86, 3)]),
  (91, [(76, .aload 0, 1), (77, .getfield 596, 3), (80, .iload 5, 2), (82, .iaload, 1), (83, .goto 104, 3), (86, .aload 0, 1), (87, .getfield 596, 3), (90, .aload 0, 1), (91, .getfield 593, 3)]),
  (105, [(94, .sipush 24, 2), (96, .iload 4, 2), (98, .imul, 1), (99, .iload 5, 2), (101, .iadd, 1), (102, .iaload, 1), (103, .iaload, 1), (104, .iastore, 1), (105, .iinc 5 1, 3)]),
  (125, [(108, .goto 58, 3), (111, .sipush 0, 1), (112, .istore 5, 2), (114, .iload 5, 2), (116, .sipush 24, 2), (118, .if_icmp .ge 141, 3), (121, .aload 0, 1), (122, .getfield 596, 3), (125, .iload 5, 2)]),
  (144, [(127, .aload 0, 1), (128, .getfield 589, 3), (131, .iload 5, 2), (133, .iaload, 1), (134, .iastore, 1), (135, .iinc 5 1, 3), (138, .goto 114, 3), (141, .iinc 2 1, 3), (144, .goto 23, 3)]),
  (148, [(147, .sipush 1, 1), (148, .ireturn, 1)])]
/-- 253: EightBlocksModel.retrace(IIIII)I -/
def tb_253 : am_T := [(20, [(0, .iload 1, 1), (1, .invokestatic 214, 3), (4, .ifCond .eq 39, 3), (7, .iload 2, 1), (8, .invokestatic 242, 3), (11, .ifCond .eq 39, 3), (14, .iload 3, 1), (15, .i2l, 1), (16, .jsr_w 0, 1), (17, .jsr_w 3, 3), (20, .invokestatic 145, 3)]),
  (42, [(23, .ifCond .eq 39, 3), (26, .iload 5, 2), (28, .i2l, 1), (29, .jsr_w 1, 1), (30, .jsr_w 8, 3), (33, .invokestatic 145, 3), (36, .ifCond .ne 41, 3), (39, .sipush (-1), 1), (40, .ireturn, 1), (41, .aload 0, 1), (42, .iload 2, 1)]),
  (62, [(43, .iload 3, 1), (44, .iload 4, 2), (46, .sipush 2, 1), (47, .iload 5, 2), (49, .imul, 1), (50, .invokevirtual 246, 3), (53, .istore 6, 2), (55, .iload 6, 2), (57, .ifCond .ge 63, 3), (60, .iload 6, 2), (62, .ireturn, 1)]),
  (79, [(63, .aload 0, 1), (64, .iload 1, 1), (65, .invokevirtual 215, 3), (68, .istore 7, 2), (70, .sipush 0, 1), (71, .istore 8, 2), (73, .iload 8, 2), (75, .sipush 2, 1), (76, .iload 5, 2), (78, .imul, 1), (79, .if_icmp .ge 121, 3)]),
  (100, [(82, .iload 7, 2), (84, .ifCond .eq 112, 3), (87, .aload 0, 1), (88, .getfield 610, 3), (91, .sipush 32, 2), (93, .iload 2, 1), (94, .imul, 1), (95, .iload 4, 2), (97, .iadd, 1), (98, .iload 8, 2), (100, .iadd, 1)]),
  (123, [(101, .laload, 1), (102, .invokestatic 151, 3), (105, .ifCond .eq 112, 3), (108, .sipush 1, 1), (109, .goto 113, 3), (112, .sipush 0, 1), (113, .istore 7, 2), (115, .iinc 8 1, 3), (118, .goto 73, 3), (121, .iload 7, 2), (123, .ifCond .ne 129, 3)]),
  (142, [(126, .sipush (-2), 2), (128, .ireturn, 1), (129, .aload 0, 1), (130, .sipush 32, 2), (132, .iload 2, 1), (133, .imul, 1), (134, .iload 4, 2), (136, .iadd, 1), (137, .iload 5, 2), (139, .invokevirtual 250, 3), (142, .istore 8, 2)]),
  (161, [(144, .iload 8, 2), (146, .ifCond .ge 151, 3), (149, .sipush 0, 1), (150, .ireturn, 1), (151, .aload 0, 1), (152, .iload 1, 1), (153, .iload 8, 2), (155, .invokevirtual 212, 3), (158, .aload 0, 1), (159, .iload 8, 2), (161, .invokestatic 148, 3)]),
  (183, [(164, .invokevirtual 252, 3), (167, .ifCond .ne 172, 3), (170, .sipush 0, 1), (171, .ireturn, 1), (172, .sipush 0, 1), (173, .istore 9, 2), (175, .iload 9, 2), (177, .sipush 24, 2), (179, .if_icmp .ge 205, 3), (182, .aload 0, 1), (183, .getfield 576, 3)]),
  (205, [(186, .sipush 96, 2), (188, .iload 9, 2), (190, .iadd, 1), (191, .aload 0, 1), (192, .getfield 596, 3), (195, .iload 9, 2), (197, .iaload, 1), (198, .iastore, 1), (199, .iinc 9 1, 3), (202, .goto 175, 3), (205, .aload 0, 1)]),
  (214, [(206, .iload 8, 2), (208, .invokestatic 148, 3), (211, .invokevirtual 213, 3), (214, .ireturn, 1)])]
/-- 254: java/lang/Integer.bitCount(I)I -/
def tb_254 : am_T := [(7, [(0, .iload 0, 1), (1, .iload 0, 1), (2, .sipush 1, 1), (3, .iushr, 1), (4, .sipush 1431655765, 3), (7, .iand, 1)]),
  (15, [(8, .isub, 1), (9, .istore 0, 1), (10, .iload 0, 1), (11, .sipush 858993459, 3), (14, .iand, 1), (15, .iload 0, 1)]),
  (23, [(16, .sipush 2, 1), (17, .iushr, 1), (18, .sipush 858993459, 3), (21, .iand, 1), (22, .iadd, 1), (23, .istore 0, 1)]),
  (29, [(24, .iload 0, 1), (25, .iload 0, 1), (26, .sipush 4, 1), (27, .iushr, 1), (28, .iadd, 1), (29, .sipush 252645135, 3)]),
  (38, [(32, .iand, 1), (33, .istore 0, 1), (34, .iload 0, 1), (35, .iload 0, 1), (36, .sipush 8, 2), (38, .iushr, 1)]),
  (45, [(39, .iadd, 1), (40, .istore 0, 1), (41, .iload 0, 1), (42, .iload 0, 1), (43, .sipush 16, 2), (45, .iushr, 1)]),
  (52, [(46, .iadd, 1), (47, .istore 0, 1), (48, .iload 0, 1), (49, .sipush 63, 2), (51, .iand, 1), (52, .ireturn, 1)])]
/-- 255: java/lang/Math.floorMod(II)I -/
def tb_255 : am_T := [(3, [(0, .iload 0, 1), (1, .iload 1, 1), (2, .irem, 1), (3, .istore 2, 1)]),
  (7, [(4, .iload 0, 1), (5, .iload 1, 1), (6, .ixor, 1), (7, .ifCond .ge 18, 3)]),
  (15, [(10, .iload 2, 1), (11, .ifCond .eq 18, 3), (14, .iload 2, 1), (15, .iload 1, 1)]),
  (19, [(16, .iadd, 1), (17, .ireturn, 1), (18, .iload 2, 1), (19, .ireturn, 1)])]
/-- 256: java/util/Arrays.fill([JJ)V -/
def tb_256 : am_T := [(3, [(0, .sipush 0, 1), (1, .istore 3, 1), (2, .aload 0, 1), (3, .arraylength, 1)]),
  (9, [(4, .istore 4, 2), (6, .iload 3, 1), (7, .iload 4, 2), (9, .if_icmp .ge 22, 3)]),
  (15, [(12, .aload 0, 1), (13, .iload 3, 1), (14, .lload 1, 1), (15, .lastore, 1)]),
  (22, [(16, .iinc 3 1, 3), (19, .goto 6, 3), (22, .return_, 1)])]
/-- 257: java/util/Arrays.fill([II)V -/
def tb_257 : am_T := [(3, [(0, .sipush 0, 1), (1, .istore 2, 1), (2, .aload 0, 1), (3, .arraylength, 1)]),
  (7, [(4, .istore 3, 1), (5, .iload 2, 1), (6, .iload 3, 1), (7, .if_icmp .ge 20, 3)]),
  (13, [(10, .aload 0, 1), (11, .iload 2, 1), (12, .iload 1, 1), (13, .iastore, 1)]),
  (20, [(14, .iinc 2 1, 3), (17, .goto 5, 3), (20, .return_, 1)])]
/-- 258: EightBlocksLaw.law([I)Z -/
def tb_law_0 : am_T := [(178, [(0, .new 8, 3), (3, .dup, 1), (4, .invokespecial 103, 3), (7, .astore 1, 1), (8, .new 9, 3), (11, .dup, 1), (12, .invokespecial 146, 3), (15, .astore 2, 1), (16, .sipush 0, 1), (17, .istore 3, 1), (18, .iload 3, 1), (19, .aload 0, 1), (20, .arraylength, 1), (21, .sipush 6, 2), (23, .isub, 1), (24, .if_icmp .gt 1191, 3), (27, .aload 0, 1), (28, .iload 3, 1), (29, .iaload, 1), (30, .sipush 31, 2), (32, .iand, 1), (33, .tableswitch 1185 0 30 #[172, 205, 238, 261, 294, 327, 360, 393, 426, 459, 492, 515, 538, 571, 614, 647, 670, 693, 726, 749, 772, 785, 808, 831, 844, 857, 920, 973, 1016, 1039, 1122], 139), (172, .aload 1, 1), (173, .aload 0, 1), (174, .iload 3, 1), (175, .sipush 1, 1), (176, .iadd, 1), (177, .iaload, 1), (178, .aload 0, 1)]),
  (213, [(179, .iload 3, 1), (180, .sipush 2, 1), (181, .iadd, 1), (182, .iaload, 1), (183, .invokevirtual 104, 3), (186, .aload 2, 1), (187, .aload 0, 1), (188, .iload 3, 1), (189, .sipush 1, 1), (190, .iadd, 1), (191, .iaload, 1), (192, .aload 0, 1), (193, .iload 3, 1), (194, .sipush 2, 1), (195, .iadd, 1), (196, .iaload, 1), (197, .invokevirtual 162, 3), (200, .if_icmp .eq 1185, 3), (203, .sipush 0, 1), (204, .ireturn, 1), (205, .aload 1, 1), (206, .aload 0, 1), (207, .iload 3, 1), (208, .sipush 1, 1), (209, .iadd, 1), (210, .iaload, 1), (211, .aload 0, 1), (212, .iload 3, 1), (213, .sipush 2, 1)])]
def tb_law_1 : am_T := [(250, [(214, .iadd, 1), (215, .iaload, 1), (216, .invokevirtual 105, 3), (219, .aload 2, 1), (220, .aload 0, 1), (221, .iload 3, 1), (222, .sipush 1, 1), (223, .iadd, 1), (224, .iaload, 1), (225, .aload 0, 1), (226, .iload 3, 1), (227, .sipush 2, 1), (228, .iadd, 1), (229, .iaload, 1), (230, .invokevirtual 164, 3), (233, .if_icmp .eq 1185, 3), (236, .sipush 0, 1), (237, .ireturn, 1), (238, .aload 1, 1), (239, .aload 0, 1), (240, .iload 3, 1), (241, .sipush 1, 1), (242, .iadd, 1), (243, .iaload, 1), (244, .invokevirtual 106, 3), (247, .aload 2, 1), (248, .aload 0, 1), (249, .iload 3, 1), (250, .sipush 1, 1)]),
  (285, [(251, .iadd, 1), (252, .iaload, 1), (253, .invokevirtual 166, 3), (256, .if_icmp .eq 1185, 3), (259, .sipush 0, 1), (260, .ireturn, 1), (261, .aload 1, 1), (262, .aload 0, 1), (263, .iload 3, 1), (264, .sipush 1, 1), (265, .iadd, 1), (266, .iaload, 1), (267, .aload 0, 1), (268, .iload 3, 1), (269, .sipush 2, 1), (270, .iadd, 1), (271, .iaload, 1), (272, .invokevirtual 107, 3), (275, .aload 2, 1), (276, .aload 0, 1), (277, .iload 3, 1), (278, .sipush 1, 1), (279, .iadd, 1), (280, .iaload, 1), (281, .aload 0, 1), (282, .iload 3, 1), (283, .sipush 2, 1), (284, .iadd, 1), (285, .iaload, 1)])]
def tb_law_2 : am_T := [(322, [(286, .invokevirtual 168, 3), (289, .if_icmp .eq 1185, 3), (292, .sipush 0, 1), (293, .ireturn, 1), (294, .aload 1, 1), (295, .aload 0, 1), (296, .iload 3, 1), (297, .sipush 1, 1), (298, .iadd, 1), (299, .iaload, 1), (300, .aload 0, 1), (301, .iload 3, 1), (302, .sipush 2, 1), (303, .iadd, 1), (304, .iaload, 1), (305, .invokevirtual 108, 3), (308, .aload 2, 1), (309, .aload 0, 1), (310, .iload 3, 1), (311, .sipush 1, 1), (312, .iadd, 1), (313, .iaload, 1), (314, .aload 0, 1), (315, .iload 3, 1), (316, .sipush 2, 1), (317, .iadd, 1), (318, .iaload, 1), (319, .invokevirtual 170, 3), (322, .if_icmp .eq 1185, 3)]),
  (359, [(325, .sipush 0, 1), (326, .ireturn, 1), (327, .aload 1, 1), (328, .aload 0, 1), (329, .iload 3, 1), (330, .sipush 1, 1), (331, .iadd, 1), (332, .iaload, 1), (333, .aload 0, 1), (334, .iload 3, 1), (335, .sipush 2, 1), (336, .iadd, 1), (337, .iaload, 1), (338, .invokevirtual 109, 3), (341, .aload 2, 1), (342, .aload 0, 1), (343, .iload 3, 1), (344, .sipush 1, 1), (345, .iadd, 1), (346, .iaload, 1), (347, .aload 0, 1), (348, .iload 3, 1), (349, .sipush 2, 1), (350, .iadd, 1), (351, .iaload, 1), (352, .invokevirtual 171, 3), (355, .if_icmp .eq 1185, 3), (358, .sipush 0, 1), (359, .ireturn, 1)])]
def tb_law_3 : am_T := [(394, [(360, .aload 1, 1), (361, .aload 0, 1), (362, .iload 3, 1), (363, .sipush 1, 1), (364, .iadd, 1), (365, .iaload, 1), (366, .aload 0, 1), (367, .iload 3, 1), (368, .sipush 2, 1), (369, .iadd, 1), (370, .iaload, 1), (371, .invokevirtual 110, 3), (374, .aload 2, 1), (375, .aload 0, 1), (376, .iload 3, 1), (377, .sipush 1, 1), (378, .iadd, 1), (379, .iaload, 1), (380, .aload 0, 1), (381, .iload 3, 1), (382, .sipush 2, 1), (383, .iadd, 1), (384, .iaload, 1), (385, .invokevirtual 174, 3), (388, .if_icmp .eq 1185, 3), (391, .sipush 0, 1), (392, .ireturn, 1), (393, .aload 1, 1), (394, .aload 0, 1)]),
  (429, [(395, .iload 3, 1), (396, .sipush 1, 1), (397, .iadd, 1), (398, .iaload, 1), (399, .aload 0, 1), (400, .iload 3, 1), (401, .sipush 2, 1), (402, .iadd, 1), (403, .iaload, 1), (404, .invokevirtual 111, 3), (407, .aload 2, 1), (408, .aload 0, 1), (409, .iload 3, 1), (410, .sipush 1, 1), (411, .iadd, 1), (412, .iaload, 1), (413, .aload 0, 1), (414, .iload 3, 1), (415, .sipush 2, 1), (416, .iadd, 1), (417, .iaload, 1), (418, .invokevirtual 187, 3), (421, .if_icmp .eq 1185, 3), (424, .sipush 0, 1), (425, .ireturn, 1), (426, .aload 1, 1), (427, .aload 0, 1), (428, .iload 3, 1), (429, .sipush 1, 1)])]
def tb_law_4 : am_T := [(464, [(430, .iadd, 1), (431, .iaload, 1), (432, .aload 0, 1), (433, .iload 3, 1), (434, .sipush 2, 1), (435, .iadd, 1), (436, .iaload, 1), (437, .invokevirtual 112, 3), (440, .aload 2, 1), (441, .aload 0, 1), (442, .iload 3, 1), (443, .sipush 1, 1), (444, .iadd, 1), (445, .iaload, 1), (446, .aload 0, 1), (447, .iload 3, 1), (448, .sipush 2, 1), (449, .iadd, 1), (450, .iaload, 1), (451, .invokevirtual 188, 3), (454, .if_icmp .eq 1185, 3), (457, .sipush 0, 1), (458, .ireturn, 1), (459, .aload 1, 1), (460, .aload 0, 1), (461, .iload 3, 1), (462, .sipush 1, 1), (463, .iadd, 1), (464, .iaload, 1)]),
  (501, [(465, .aload 0, 1), (466, .iload 3, 1), (467, .sipush 2, 1), (468, .iadd, 1), (469, .iaload, 1), (470, .invokevirtual 113, 3), (473, .aload 2, 1), (474, .aload 0, 1), (475, .iload 3, 1), (476, .sipush 1, 1), (477, .iadd, 1), (478, .iaload, 1), (479, .aload 0, 1), (480, .iload 3, 1), (481, .sipush 2, 1), (482, .iadd, 1), (483, .iaload, 1), (484, .invokevirtual 176, 3), (487, .if_icmp .eq 1185, 3), (490, .sipush 0, 1), (491, .ireturn, 1), (492, .aload 1, 1), (493, .aload 0, 1), (494, .iload 3, 1), (495, .sipush 1, 1), (496, .iadd, 1), (497, .iaload, 1), (498, .invokevirtual 114, 3), (501, .aload 2, 1)])]
def tb_law_5 : am_T := [(540, [(502, .aload 0, 1), (503, .iload 3, 1), (504, .sipush 1, 1), (505, .iadd, 1), (506, .iaload, 1), (507, .invokevirtual 189, 3), (510, .if_icmp .eq 1185, 3), (513, .sipush 0, 1), (514, .ireturn, 1), (515, .aload 1, 1), (516, .aload 0, 1), (517, .iload 3, 1), (518, .sipush 1, 1), (519, .iadd, 1), (520, .iaload, 1), (521, .invokevirtual 115, 3), (524, .aload 2, 1), (525, .aload 0, 1), (526, .iload 3, 1), (527, .sipush 1, 1), (528, .iadd, 1), (529, .iaload, 1), (530, .invokevirtual 205, 3), (533, .if_icmp .eq 1185, 3), (536, .sipush 0, 1), (537, .ireturn, 1), (538, .aload 1, 1), (539, .aload 0, 1), (540, .iload 3, 1)]),
  (575, [(541, .sipush 1, 1), (542, .iadd, 1), (543, .iaload, 1), (544, .aload 0, 1), (545, .iload 3, 1), (546, .sipush 2, 1), (547, .iadd, 1), (548, .iaload, 1), (549, .invokevirtual 116, 3), (552, .aload 2, 1), (553, .aload 0, 1), (554, .iload 3, 1), (555, .sipush 1, 1), (556, .iadd, 1), (557, .iaload, 1), (558, .aload 0, 1), (559, .iload 3, 1), (560, .sipush 2, 1), (561, .iadd, 1), (562, .iaload, 1), (563, .invokevirtual 227, 3), (566, .if_icmp .eq 1185, 3), (569, .sipush 0, 1), (570, .ireturn, 1), (571, .aload 1, 1), (572, .aload 0, 1), (573, .iload 3, 1), (574, .sipush 1, 1), (575, .iadd, 1)])]
def tb_law_6 : am_T := [(606, [(576, .iaload, 1), (577, .aload 0, 1), (578, .iload 3, 1), (579, .sipush 2, 1), (580, .iadd, 1), (581, .iaload, 1), (582, .aload 0, 1), (583, .iload 3, 1), (584, .sipush 3, 1), (585, .iadd, 1), (586, .iaload, 1), (587, .invokevirtual 117, 3), (590, .aload 2, 1), (591, .aload 0, 1), (592, .iload 3, 1), (593, .sipush 1, 1), (594, .iadd, 1), (595, .iaload, 1), (596, .aload 0, 1), (597, .iload 3, 1), (598, .sipush 2, 1), (599, .iadd, 1), (600, .iaload, 1), (601, .aload 0, 1), (602, .iload 3, 1), (603, .sipush 3, 1), (604, .iadd, 1), (605, .iaload, 1), (606, .invokevirtual 228, 3)]),
  (645, [(609, .if_icmp .eq 1185, 3), (612, .sipush 0, 1), (613, .ireturn, 1), (614, .aload 1, 1), (615, .aload 0, 1), (616, .iload 3, 1), (617, .sipush 1, 1), (618, .iadd, 1), (619, .iaload, 1), (620, .aload 0, 1), (621, .iload 3, 1), (622, .sipush 2, 1), (623, .iadd, 1), (624, .iaload, 1), (625, .invokevirtual 118, 3), (628, .aload 2, 1), (629, .aload 0, 1), (630, .iload 3, 1), (631, .sipush 1, 1), (632, .iadd, 1), (633, .iaload, 1), (634, .aload 0, 1), (635, .iload 3, 1), (636, .sipush 2, 1), (637, .iadd, 1), (638, .iaload, 1), (639, .invokevirtual 229, 3), (642, .if_icmp .eq 1185, 3), (645, .sipush 0, 1)])]
def tb_law_7 : am_T := [(682, [(646, .ireturn, 1), (647, .aload 1, 1), (648, .aload 0, 1), (649, .iload 3, 1), (650, .sipush 1, 1), (651, .iadd, 1), (652, .iaload, 1), (653, .invokevirtual 119, 3), (656, .aload 2, 1), (657, .aload 0, 1), (658, .iload 3, 1), (659, .sipush 1, 1), (660, .iadd, 1), (661, .iaload, 1), (662, .invokevirtual 230, 3), (665, .if_icmp .eq 1185, 3), (668, .sipush 0, 1), (669, .ireturn, 1), (670, .aload 1, 1), (671, .aload 0, 1), (672, .iload 3, 1), (673, .sipush 1, 1), (674, .iadd, 1), (675, .iaload, 1), (676, .invokevirtual 120, 3), (679, .aload 2, 1), (680, .aload 0, 1), (681, .iload 3, 1), (682, .sipush 1, 1)]),
  (717, [(683, .iadd, 1), (684, .iaload, 1), (685, .invokevirtual 231, 3), (688, .if_icmp .eq 1185, 3), (691, .sipush 0, 1), (692, .ireturn, 1), (693, .aload 1, 1), (694, .aload 0, 1), (695, .iload 3, 1), (696, .sipush 1, 1), (697, .iadd, 1), (698, .iaload, 1), (699, .aload 0, 1), (700, .iload 3, 1), (701, .sipush 2, 1), (702, .iadd, 1), (703, .iaload, 1), (704, .invokevirtual 121, 3), (707, .aload 2, 1), (708, .aload 0, 1), (709, .iload 3, 1), (710, .sipush 1, 1), (711, .iadd, 1), (712, .iaload, 1), (713, .aload 0, 1), (714, .iload 3, 1), (715, .sipush 2, 1), (716, .iadd, 1), (717, .iaload, 1)])]
def tb_law_8 : am_T := [(758, [(718, .invokevirtual 232, 3), (721, .if_icmp .eq 1185, 3), (724, .sipush 0, 1), (725, .ireturn, 1), (726, .aload 1, 1), (727, .aload 0, 1), (728, .iload 3, 1), (729, .sipush 1, 1), (730, .iadd, 1), (731, .iaload, 1), (732, .invokevirtual 122, 3), (735, .aload 2, 1), (736, .aload 0, 1), (737, .iload 3, 1), (738, .sipush 1, 1), (739, .iadd, 1), (740, .iaload, 1), (741, .invokevirtual 233, 3), (744, .if_icmp .eq 1185, 3), (747, .sipush 0, 1), (748, .ireturn, 1), (749, .aload 1, 1), (750, .aload 0, 1), (751, .iload 3, 1), (752, .sipush 1, 1), (753, .iadd, 1), (754, .iaload, 1), (755, .invokevirtual 123, 3), (758, .aload 2, 1)]),
  (799, [(759, .aload 0, 1), (760, .iload 3, 1), (761, .sipush 1, 1), (762, .iadd, 1), (763, .iaload, 1), (764, .invokevirtual 237, 3), (767, .if_icmp .eq 1185, 3), (770, .sipush 0, 1), (771, .ireturn, 1), (772, .aload 1, 1), (773, .invokevirtual 124, 3), (776, .aload 2, 1), (777, .invokevirtual 235, 3), (780, .if_icmp .eq 1185, 3), (783, .sipush 0, 1), (784, .ireturn, 1), (785, .aload 1, 1), (786, .aload 0, 1), (787, .iload 3, 1), (788, .sipush 1, 1), (789, .iadd, 1), (790, .iaload, 1), (791, .invokevirtual 125, 3), (794, .aload 2, 1), (795, .aload 0, 1), (796, .iload 3, 1), (797, .sipush 1, 1), (798, .iadd, 1), (799, .iaload, 1)])]
def tb_law_9 : am_T := [(844, [(800, .invokevirtual 238, 3), (803, .if_icmp .eq 1185, 3), (806, .sipush 0, 1), (807, .ireturn, 1), (808, .aload 1, 1), (809, .aload 0, 1), (810, .iload 3, 1), (811, .sipush 1, 1), (812, .iadd, 1), (813, .iaload, 1), (814, .invokevirtual 126, 3), (817, .aload 2, 1), (818, .aload 0, 1), (819, .iload 3, 1), (820, .sipush 1, 1), (821, .iadd, 1), (822, .iaload, 1), (823, .invokevirtual 239, 3), (826, .if_icmp .eq 1185, 3), (829, .sipush 0, 1), (830, .ireturn, 1), (831, .aload 1, 1), (832, .invokevirtual 127, 3), (835, .aload 2, 1), (836, .invokevirtual 240, 3), (839, .if_icmp .eq 1185, 3), (842, .sipush 0, 1), (843, .ireturn, 1), (844, .aload 1, 1)]),
  (879, [(845, .invokevirtual 128, 3), (848, .aload 2, 1), (849, .invokevirtual 241, 3), (852, .if_icmp .eq 1185, 3), (855, .sipush 0, 1), (856, .ireturn, 1), (857, .aload 1, 1), (858, .aload 0, 1), (859, .iload 3, 1), (860, .sipush 1, 1), (861, .iadd, 1), (862, .iaload, 1), (863, .aload 0, 1), (864, .iload 3, 1), (865, .sipush 2, 1), (866, .iadd, 1), (867, .iaload, 1), (868, .aload 0, 1), (869, .iload 3, 1), (870, .sipush 3, 1), (871, .iadd, 1), (872, .iaload, 1), (873, .aload 0, 1), (874, .iload 3, 1), (875, .sipush 4, 1), (876, .iadd, 1), (877, .iaload, 1), (878, .aload 0, 1), (879, .iload 3, 1)])]
def tb_law_10 : am_T := [(910, [(880, .sipush 5, 1), (881, .iadd, 1), (882, .iaload, 1), (883, .invokevirtual 129, 3), (886, .aload 2, 1), (887, .aload 0, 1), (888, .iload 3, 1), (889, .sipush 1, 1), (890, .iadd, 1), (891, .iaload, 1), (892, .aload 0, 1), (893, .iload 3, 1), (894, .sipush 2, 1), (895, .iadd, 1), (896, .iaload, 1), (897, .aload 0, 1), (898, .iload 3, 1), (899, .sipush 3, 1), (900, .iadd, 1), (901, .iaload, 1), (902, .aload 0, 1), (903, .iload 3, 1), (904, .sipush 4, 1), (905, .iadd, 1), (906, .iaload, 1), (907, .aload 0, 1), (908, .iload 3, 1), (909, .sipush 5, 1), (910, .iadd, 1)]),
  (945, [(911, .iaload, 1), (912, .invokevirtual 253, 3), (915, .if_icmp .eq 1185, 3), (918, .sipush 0, 1), (919, .ireturn, 1), (920, .aload 1, 1), (921, .aload 0, 1), (922, .iload 3, 1), (923, .sipush 1, 1), (924, .iadd, 1), (925, .iaload, 1), (926, .aload 0, 1), (927, .iload 3, 1), (928, .sipush 2, 1), (929, .iadd, 1), (930, .iaload, 1), (931, .aload 0, 1), (932, .iload 3, 1), (933, .sipush 3, 1), (934, .iadd, 1), (935, .iaload, 1), (936, .aload 0, 1), (937, .iload 3, 1), (938, .sipush 4, 1), (939, .iadd, 1), (940, .iaload, 1), (941, .invokevirtual 130, 3), (944, .aload 2, 1), (945, .aload 0, 1)])]
def tb_law_11 : am_T := [(978, [(946, .iload 3, 1), (947, .sipush 1, 1), (948, .iadd, 1), (949, .iaload, 1), (950, .aload 0, 1), (951, .iload 3, 1), (952, .sipush 2, 1), (953, .iadd, 1), (954, .iaload, 1), (955, .aload 0, 1), (956, .iload 3, 1), (957, .sipush 3, 1), (958, .iadd, 1), (959, .iaload, 1), (960, .aload 0, 1), (961, .iload 3, 1), (962, .sipush 4, 1), (963, .iadd, 1), (964, .iaload, 1), (965, .invokevirtual 249, 3), (968, .if_icmp .eq 1185, 3), (971, .sipush 0, 1), (972, .ireturn, 1), (973, .aload 1, 1), (974, .aload 0, 1), (975, .iload 3, 1), (976, .sipush 1, 1), (977, .iadd, 1), (978, .iaload, 1)]),
  (1011, [(979, .aload 0, 1), (980, .iload 3, 1), (981, .sipush 2, 1), (982, .iadd, 1), (983, .iaload, 1), (984, .aload 0, 1), (985, .iload 3, 1), (986, .sipush 3, 1), (987, .iadd, 1), (988, .iaload, 1), (989, .invokevirtual 131, 3), (992, .aload 2, 1), (993, .aload 0, 1), (994, .iload 3, 1), (995, .sipush 1, 1), (996, .iadd, 1), (997, .iaload, 1), (998, .aload 0, 1), (999, .iload 3, 1), (1000, .sipush 2, 1), (1001, .iadd, 1), (1002, .iaload, 1), (1003, .aload 0, 1), (1004, .iload 3, 1), (1005, .sipush 3, 1), (1006, .iadd, 1), (1007, .iaload, 1), (1008, .invokevirtual 244, 3), (1011, .if_icmp .eq 1185, 3)])]
def tb_law_12 : am_T := [(1048, [(1014, .sipush 0, 1), (1015, .ireturn, 1), (1016, .aload 1, 1), (1017, .aload 0, 1), (1018, .iload 3, 1), (1019, .sipush 1, 1), (1020, .iadd, 1), (1021, .iaload, 1), (1022, .invokevirtual 132, 3), (1025, .aload 2, 1), (1026, .aload 0, 1), (1027, .iload 3, 1), (1028, .sipush 1, 1), (1029, .iadd, 1), (1030, .iaload, 1), (1031, .invokevirtual 245, 3), (1034, .if_icmp .eq 1185, 3), (1037, .sipush 0, 1), (1038, .ireturn, 1), (1039, .aload 1, 1), (1040, .aload 0, 1), (1041, .iload 3, 1), (1042, .sipush 1, 1), (1043, .iadd, 1), (1044, .iaload, 1), (1045, .aload 0, 1), (1046, .iload 3, 1), (1047, .sipush 2, 1), (1048, .iadd, 1)]),
  (1082, [(1049, .iaload, 1), (1050, .aload 0, 1), (1051, .iload 3, 1), (1052, .sipush 3, 1), (1053, .iadd, 1), (1054, .iaload, 1), (1055, .aload 0, 1), (1056, .iload 3, 1), (1057, .sipush 4, 1), (1058, .iadd, 1), (1059, .iaload, 1), (1060, .i2l, 1), (1061, .sipush 32, 2), (1063, .lshl, 1), (1064, .aload 0, 1), (1065, .iload 3, 1), (1066, .sipush 5, 1), (1067, .iadd, 1), (1068, .iaload, 1), (1069, .i2l, 1), (1070, .jsr_w 4294967295, 3), (1073, .land, 1), (1074, .lor, 1), (1075, .invokevirtual 133, 3), (1078, .aload 2, 1), (1079, .aload 0, 1), (1080, .iload 3, 1), (1081, .sipush 1, 1), (1082, .iadd, 1)])]
def tb_law_13 : am_T := [(1114, [(1083, .iaload, 1), (1084, .aload 0, 1), (1085, .iload 3, 1), (1086, .sipush 2, 1), (1087, .iadd, 1), (1088, .iaload, 1), (1089, .aload 0, 1), (1090, .iload 3, 1), (1091, .sipush 3, 1), (1092, .iadd, 1), (1093, .iaload, 1), (1094, .aload 0, 1), (1095, .iload 3, 1), (1096, .sipush 4, 1), (1097, .iadd, 1), (1098, .iaload, 1), (1099, .i2l, 1), (1100, .sipush 32, 2), (1102, .lshl, 1), (1103, .aload 0, 1), (1104, .iload 3, 1), (1105, .sipush 5, 1), (1106, .iadd, 1), (1107, .iaload, 1), (1108, .i2l, 1), (1109, .jsr_w 4294967295, 3), (1112, .land, 1), (1113, .lor, 1), (1114, .invokevirtual 247, 3)]),
  (1147, [(1117, .if_icmp .eq 1185, 3), (1120, .sipush 0, 1), (1121, .ireturn, 1), (1122, .aload 1, 1), (1123, .aload 0, 1), (1124, .iload 3, 1), (1125, .sipush 1, 1), (1126, .iadd, 1), (1127, .iaload, 1), (1128, .aload 0, 1), (1129, .iload 3, 1), (1130, .sipush 2, 1), (1131, .iadd, 1), (1132, .iaload, 1), (1133, .aload 0, 1), (1134, .iload 3, 1), (1135, .sipush 3, 1), (1136, .iadd, 1), (1137, .iaload, 1), (1138, .aload 0, 1), (1139, .iload 3, 1), (1140, .sipush 4, 1), (1141, .iadd, 1), (1142, .iaload, 1), (1143, .aload 0, 1), (1144, .iload 3, 1), (1145, .sipush 5, 1), (1146, .iadd, 1), (1147, .iaload, 1)])]
def tb_law_14 : am_T := [(1180, [(1148, .invokevirtual 134, 3), (1151, .aload 2, 1), (1152, .aload 0, 1), (1153, .iload 3, 1), (1154, .sipush 1, 1), (1155, .iadd, 1), (1156, .iaload, 1), (1157, .aload 0, 1), (1158, .iload 3, 1), (1159, .sipush 2, 1), (1160, .iadd, 1), (1161, .iaload, 1), (1162, .aload 0, 1), (1163, .iload 3, 1), (1164, .sipush 3, 1), (1165, .iadd, 1), (1166, .iaload, 1), (1167, .aload 0, 1), (1168, .iload 3, 1), (1169, .sipush 4, 1), (1170, .iadd, 1), (1171, .iaload, 1), (1172, .aload 0, 1), (1173, .iload 3, 1), (1174, .sipush 5, 1), (1175, .iadd, 1), (1176, .iaload, 1), (1177, .invokevirtual 248, 3), (1180, .if_icmp .eq 1185, 3)]),
  (1192, [(1183, .sipush 0, 1), (1184, .ireturn, 1), (1185, .iinc 3 6, 3), (1188, .goto 18, 3), (1191, .sipush 1, 1), (1192, .ireturn, 1)])]
def tb_258 : am_T := tb_law_0 ++ (tb_law_1 ++ (tb_law_2 ++ (tb_law_3 ++ (tb_law_4 ++ (tb_law_5 ++ (tb_law_6 ++ (tb_law_7 ++ (tb_law_8 ++ (tb_law_9 ++ (tb_law_10 ++ (tb_law_11 ++ (tb_law_12 ++ (tb_law_13 ++ (tb_law_14))))))))))))))
def am_tb (k : Nat) : am_T := (cond (Nat.ble k 128) (cond (Nat.ble k 63) (cond (Nat.ble k 31) (cond (Nat.ble k 15) (cond (Nat.ble k 7) (cond (Nat.ble k 3) (cond (Nat.ble k 1) (cond (Nat.ble k 0) tb_0 tb_1) (cond (Nat.ble k 2) tb_2 tb_3)) (cond (Nat.ble k 5) (cond (Nat.ble k 4) tb_4 tb_5) (cond (Nat.ble k 6) tb_6 tb_7))) (cond (Nat.ble k 11) (cond (Nat.ble k 9) (cond (Nat.ble k 8) tb_8 tb_9) (cond (Nat.ble k 10) tb_10 tb_11)) (cond (Nat.ble k 13) (cond (Nat.ble k 12) tb_12 tb_13) (cond (Nat.ble k 14) tb_14 tb_15)))) (cond (Nat.ble k 23) (cond (Nat.ble k 19) (cond (Nat.ble k 17) (cond (Nat.ble k 16) tb_16 tb_17) (cond (Nat.ble k 18) tb_18 tb_19)) (cond (Nat.ble k 21) (cond (Nat.ble k 20) tb_20 tb_21) (cond (Nat.ble k 22) tb_22 tb_23))) (cond (Nat.ble k 27) (cond (Nat.ble k 25) (cond (Nat.ble k 24) tb_24 tb_25) (cond (Nat.ble k 26) tb_26 tb_27)) (cond (Nat.ble k 29) (cond (Nat.ble k 28) tb_28 tb_29) (cond (Nat.ble k 30) tb_30 tb_31))))) (cond (Nat.ble k 47) (cond (Nat.ble k 39) (cond (Nat.ble k 35) (cond (Nat.ble k 33) (cond (Nat.ble k 32) tb_32 tb_33) (cond (Nat.ble k 34) tb_34 tb_35)) (cond (Nat.ble k 37) (cond (Nat.ble k 36) tb_36 tb_37) (cond (Nat.ble k 38) tb_38 tb_39))) (cond (Nat.ble k 43) (cond (Nat.ble k 41) (cond (Nat.ble k 40) tb_40 tb_41) (cond (Nat.ble k 42) tb_42 tb_43)) (cond (Nat.ble k 45) (cond (Nat.ble k 44) tb_44 tb_45) (cond (Nat.ble k 46) tb_46 tb_47)))) (cond (Nat.ble k 55) (cond (Nat.ble k 51) (cond (Nat.ble k 49) (cond (Nat.ble k 48) tb_48 tb_49) (cond (Nat.ble k 50) tb_50 tb_51)) (cond (Nat.ble k 53) (cond (Nat.ble k 52) tb_52 tb_53) (cond (Nat.ble k 54) tb_54 tb_55))) (cond (Nat.ble k 59) (cond (Nat.ble k 57) (cond (Nat.ble k 56) tb_56 tb_57) (cond (Nat.ble k 58) tb_58 tb_59)) (cond (Nat.ble k 61) (cond (Nat.ble k 60) tb_60 tb_61) (cond (Nat.ble k 62) tb_62 tb_63)))))) (cond (Nat.ble k 95) (cond (Nat.ble k 79) (cond (Nat.ble k 71) (cond (Nat.ble k 67) (cond (Nat.ble k 65) (cond (Nat.ble k 64) tb_64 tb_65) (cond (Nat.ble k 66) tb_66 tb_67)) (cond (Nat.ble k 69) (cond (Nat.ble k 68) tb_68 tb_69) (cond (Nat.ble k 70) tb_70 tb_71))) (cond (Nat.ble k 75) (cond (Nat.ble k 73) (cond (Nat.ble k 72) tb_72 tb_73) (cond (Nat.ble k 74) tb_74 tb_75)) (cond (Nat.ble k 77) (cond (Nat.ble k 76) tb_76 tb_77) (cond (Nat.ble k 78) tb_78 tb_79)))) (cond (Nat.ble k 87) (cond (Nat.ble k 83) (cond (Nat.ble k 81) (cond (Nat.ble k 80) tb_80 tb_81) (cond (Nat.ble k 82) tb_82 tb_83)) (cond (Nat.ble k 85) (cond (Nat.ble k 84) tb_84 tb_85) (cond (Nat.ble k 86) tb_86 tb_87))) (cond (Nat.ble k 91) (cond (Nat.ble k 89) (cond (Nat.ble k 88) tb_88 tb_89) (cond (Nat.ble k 90) tb_90 tb_91)) (cond (Nat.ble k 93) (cond (Nat.ble k 92) tb_92 tb_93) (cond (Nat.ble k 94) tb_94 tb_95))))) (cond (Nat.ble k 111) (cond (Nat.ble k 103) (cond (Nat.ble k 99) (cond (Nat.ble k 97) (cond (Nat.ble k 96) tb_96 tb_97) (cond (Nat.ble k 98) tb_98 tb_99)) (cond (Nat.ble k 101) (cond (Nat.ble k 100) tb_100 tb_101) (cond (Nat.ble k 102) tb_102 tb_103))) (cond (Nat.ble k 107) (cond (Nat.ble k 105) (cond (Nat.ble k 104) tb_104 tb_105) (cond (Nat.ble k 106) tb_106 tb_107)) (cond (Nat.ble k 109) (cond (Nat.ble k 108) tb_108 tb_109) (cond (Nat.ble k 110) tb_110 tb_111)))) (cond (Nat.ble k 119) (cond (Nat.ble k 115) (cond (Nat.ble k 113) (cond (Nat.ble k 112) tb_112 tb_113) (cond (Nat.ble k 114) tb_114 tb_115)) (cond (Nat.ble k 117) (cond (Nat.ble k 116) tb_116 tb_117) (cond (Nat.ble k 118) tb_118 tb_119))) (cond (Nat.ble k 123) (cond (Nat.ble k 121) (cond (Nat.ble k 120) tb_120 tb_121) (cond (Nat.ble k 122) tb_122 tb_123)) (cond (Nat.ble k 125) (cond (Nat.ble k 124) tb_124 tb_125) (cond (Nat.ble k 126) tb_126 (cond (Nat.ble k 127) tb_127 tb_128)))))))) (cond (Nat.ble k 193) (cond (Nat.ble k 160) (cond (Nat.ble k 144) (cond (Nat.ble k 136) (cond (Nat.ble k 132) (cond (Nat.ble k 130) (cond (Nat.ble k 129) tb_129 tb_130) (cond (Nat.ble k 131) tb_131 tb_132)) (cond (Nat.ble k 134) (cond (Nat.ble k 133) tb_133 tb_134) (cond (Nat.ble k 135) tb_135 tb_136))) (cond (Nat.ble k 140) (cond (Nat.ble k 138) (cond (Nat.ble k 137) tb_137 tb_138) (cond (Nat.ble k 139) tb_139 tb_140)) (cond (Nat.ble k 142) (cond (Nat.ble k 141) tb_141 tb_142) (cond (Nat.ble k 143) tb_143 tb_144)))) (cond (Nat.ble k 152) (cond (Nat.ble k 148) (cond (Nat.ble k 146) (cond (Nat.ble k 145) tb_145 tb_146) (cond (Nat.ble k 147) tb_147 tb_148)) (cond (Nat.ble k 150) (cond (Nat.ble k 149) tb_149 tb_150) (cond (Nat.ble k 151) tb_151 tb_152))) (cond (Nat.ble k 156) (cond (Nat.ble k 154) (cond (Nat.ble k 153) tb_153 tb_154) (cond (Nat.ble k 155) tb_155 tb_156)) (cond (Nat.ble k 158) (cond (Nat.ble k 157) tb_157 tb_158) (cond (Nat.ble k 159) tb_159 tb_160))))) (cond (Nat.ble k 176) (cond (Nat.ble k 168) (cond (Nat.ble k 164) (cond (Nat.ble k 162) (cond (Nat.ble k 161) tb_161 tb_162) (cond (Nat.ble k 163) tb_163 tb_164)) (cond (Nat.ble k 166) (cond (Nat.ble k 165) tb_165 tb_166) (cond (Nat.ble k 167) tb_167 tb_168))) (cond (Nat.ble k 172) (cond (Nat.ble k 170) (cond (Nat.ble k 169) tb_169 tb_170) (cond (Nat.ble k 171) tb_171 tb_172)) (cond (Nat.ble k 174) (cond (Nat.ble k 173) tb_173 tb_174) (cond (Nat.ble k 175) tb_175 tb_176)))) (cond (Nat.ble k 184) (cond (Nat.ble k 180) (cond (Nat.ble k 178) (cond (Nat.ble k 177) tb_177 tb_178) (cond (Nat.ble k 179) tb_179 tb_180)) (cond (Nat.ble k 182) (cond (Nat.ble k 181) tb_181 tb_182) (cond (Nat.ble k 183) tb_183 tb_184))) (cond (Nat.ble k 188) (cond (Nat.ble k 186) (cond (Nat.ble k 185) tb_185 tb_186) (cond (Nat.ble k 187) tb_187 tb_188)) (cond (Nat.ble k 190) (cond (Nat.ble k 189) tb_189 tb_190) (cond (Nat.ble k 191) tb_191 (cond (Nat.ble k 192) tb_192 tb_193))))))) (cond (Nat.ble k 225) (cond (Nat.ble k 209) (cond (Nat.ble k 201) (cond (Nat.ble k 197) (cond (Nat.ble k 195) (cond (Nat.ble k 194) tb_194 tb_195) (cond (Nat.ble k 196) tb_196 tb_197)) (cond (Nat.ble k 199) (cond (Nat.ble k 198) tb_198 tb_199) (cond (Nat.ble k 200) tb_200 tb_201))) (cond (Nat.ble k 205) (cond (Nat.ble k 203) (cond (Nat.ble k 202) tb_202 tb_203) (cond (Nat.ble k 204) tb_204 tb_205)) (cond (Nat.ble k 207) (cond (Nat.ble k 206) tb_206 tb_207) (cond (Nat.ble k 208) tb_208 tb_209)))) (cond (Nat.ble k 217) (cond (Nat.ble k 213) (cond (Nat.ble k 211) (cond (Nat.ble k 210) tb_210 tb_211) (cond (Nat.ble k 212) tb_212 tb_213)) (cond (Nat.ble k 215) (cond (Nat.ble k 214) tb_214 tb_215) (cond (Nat.ble k 216) tb_216 tb_217))) (cond (Nat.ble k 221) (cond (Nat.ble k 219) (cond (Nat.ble k 218) tb_218 tb_219) (cond (Nat.ble k 220) tb_220 tb_221)) (cond (Nat.ble k 223) (cond (Nat.ble k 222) tb_222 tb_223) (cond (Nat.ble k 224) tb_224 tb_225))))) (cond (Nat.ble k 241) (cond (Nat.ble k 233) (cond (Nat.ble k 229) (cond (Nat.ble k 227) (cond (Nat.ble k 226) tb_226 tb_227) (cond (Nat.ble k 228) tb_228 tb_229)) (cond (Nat.ble k 231) (cond (Nat.ble k 230) tb_230 tb_231) (cond (Nat.ble k 232) tb_232 tb_233))) (cond (Nat.ble k 237) (cond (Nat.ble k 235) (cond (Nat.ble k 234) tb_234 tb_235) (cond (Nat.ble k 236) tb_236 tb_237)) (cond (Nat.ble k 239) (cond (Nat.ble k 238) tb_238 tb_239) (cond (Nat.ble k 240) tb_240 tb_241)))) (cond (Nat.ble k 249) (cond (Nat.ble k 245) (cond (Nat.ble k 243) (cond (Nat.ble k 242) tb_242 tb_243) (cond (Nat.ble k 244) tb_244 tb_245)) (cond (Nat.ble k 247) (cond (Nat.ble k 246) tb_246 tb_247) (cond (Nat.ble k 248) tb_248 tb_249))) (cond (Nat.ble k 253) (cond (Nat.ble k 251) (cond (Nat.ble k 250) tb_250 tb_251) (cond (Nat.ble k 252) tb_252 tb_253)) (cond (Nat.ble k 255) (cond (Nat.ble k 254) tb_254 tb_255) (cond (Nat.ble k 256) tb_256 (cond (Nat.ble k 257) tb_257 tb_258)))))))))
def am_mt (k : Nat) : Nat × Nat × Nat × Nat × Nat := (cond (Nat.ble k 128) (cond (Nat.ble k 63) (cond (Nat.ble k 31) (cond (Nat.ble k 15) (cond (Nat.ble k 7) (cond (Nat.ble k 3) (cond (Nat.ble k 1) (cond (Nat.ble k 0) (1, 0, 1, 1305, 32520) (2, 0, 1, 0, 0)) (cond (Nat.ble k 2) (2, 0, 1, 0, 0) (3, 1, 1, 0, 0))) (cond (Nat.ble k 5) (cond (Nat.ble k 4) (2, 1, 1, 0, 0) (3, 1, 1, 0, 0)) (cond (Nat.ble k 6) (3, 1, 1, 0, 0) (3, 1, 1, 0, 0)))) (cond (Nat.ble k 11) (cond (Nat.ble k 9) (cond (Nat.ble k 8) (3, 3, 1, 0, 0) (3, 0, 1, 0, 0)) (cond (Nat.ble k 10) (3, 0, 1, 0, 0) (4, 0, 1, 0, 0))) (cond (Nat.ble k 13) (cond (Nat.ble k 12) (1, 0, 2, 1, 74) (2, 1, 2, 0, 0)) (cond (Nat.ble k 14) (3, 0, 2, 0, 0) (2, 0, 2, 0, 0))))) (cond (Nat.ble k 23) (cond (Nat.ble k 19) (cond (Nat.ble k 17) (cond (Nat.ble k 16) (2, 1, 2, 0, 0) (1, 0, 3, 6, 15635)) (cond (Nat.ble k 18) (1, 0, 3, 0, 0) (3, 0, 3, 0, 0))) (cond (Nat.ble k 21) (cond (Nat.ble k 20) (1, 0, 3, 0, 0) (1, 1, 0, 0, 0)) (cond (Nat.ble k 22) (2, 1, 3, 0, 0) (2, 1, 3, 0, 0)))) (cond (Nat.ble k 27) (cond (Nat.ble k 25) (cond (Nat.ble k 24) (2, 1, 3, 0, 0) (2, 1, 3, 0, 0)) (cond (Nat.ble k 26) (2, 1, 3, 0, 0) (2, 1, 3, 0, 0))) (cond (Nat.ble k 29) (cond (Nat.ble k 28) (2, 1, 3, 0, 0) (2, 1, 3, 0, 0)) (cond (Nat.ble k 30) (3, 1, 3, 0, 0) (2, 1, 3, 0, 0)))))) (cond (Nat.ble k 47) (cond (Nat.ble k 39) (cond (Nat.ble k 35) (cond (Nat.ble k 33) (cond (Nat.ble k 32) (2, 1, 3, 0, 0) (2, 1, 3, 0, 0)) (cond (Nat.ble k 34) (3, 1, 3, 0, 0) (3, 1, 3, 0, 0))) (cond (Nat.ble k 37) (cond (Nat.ble k 36) (3, 1, 3, 0, 0) (3, 1, 3, 0, 0)) (cond (Nat.ble k 38) (1, 0, 4, 50, 902) (1, 0, 4, 0, 0)))) (cond (Nat.ble k 43) (cond (Nat.ble k 41) (cond (Nat.ble k 40) (1, 0, 4, 0, 0) (1, 1, 4, 0, 0)) (cond (Nat.ble k 42) (2, 0, 4, 0, 0) (1, 0, 0, 0, 0))) (cond (Nat.ble k 45) (cond (Nat.ble k 44) (2, 1, 0, 0, 0) (1, 0, 0, 0, 0)) (cond (Nat.ble k 46) (2, 0, 0, 0, 0) (2, 0, 0, 0, 0))))) (cond (Nat.ble k 55) (cond (Nat.ble k 51) (cond (Nat.ble k 49) (cond (Nat.ble k 48) (3, 0, 0, 0, 0) (2, 0, 0, 0, 0)) (cond (Nat.ble k 50) (2, 1, 0, 0, 0) (2, 1, 0, 0, 0))) (cond (Nat.ble k 53) (cond (Nat.ble k 52) (2, 1, 0, 0, 0) (1, 1, 0, 0, 0)) (cond (Nat.ble k 54) (2, 1, 0, 0, 0) (2, 1, 0, 0, 0)))) (cond (Nat.ble k 59) (cond (Nat.ble k 57) (cond (Nat.ble k 56) (1, 1, 0, 0, 0) (1, 1, 0, 0, 0)) (cond (Nat.ble k 58) (2, 1, 0, 0, 0) (1, 0, 5, 2, 8192))) (cond (Nat.ble k 61) (cond (Nat.ble k 60) (2, 0, 5, 0, 0) (3, 0, 5, 0, 0)) (cond (Nat.ble k 62) (3, 0, 5, 0, 0) (4, 1, 5, 0, 0))))))) (cond (Nat.ble k 95) (cond (Nat.ble k 79) (cond (Nat.ble k 71) (cond (Nat.ble k 67) (cond (Nat.ble k 65) (cond (Nat.ble k 64) (3, 0, 5, 0, 0) (2, 1, 5, 0, 0)) (cond (Nat.ble k 66) (1, 1, 5, 0, 0) (3, 1, 5, 0, 0))) (cond (Nat.ble k 69) (cond (Nat.ble k 68) (2, 1, 5, 0, 0) (1, 0, 6, 7, 140)) (cond (Nat.ble k 70) (4, 0, 6, 0, 0) (2, 1, 6, 0, 0)))) (cond (Nat.ble k 75) (cond (Nat.ble k 73) (cond (Nat.ble k 72) (5, 1, 6, 0, 0) (4, 1, 6, 0, 0)) (cond (Nat.ble k 74) (4, 0, 6, 0, 0) (4, 1, 6, 0, 0))) (cond (Nat.ble k 77) (cond (Nat.ble k 76) (3, 1, 6, 0, 0) (6, 1, 6, 0, 0)) (cond (Nat.ble k 78) (1, 0, 7, 6, 125) (2, 0, 7, 0, 0))))) (cond (Nat.ble k 87) (cond (Nat.ble k 83) (cond (Nat.ble k 81) (cond (Nat.ble k 80) (2, 0, 8, 18, 474) (2, 1, 8, 0, 0)) (cond (Nat.ble k 82) (1, 0, 8, 0, 0) (1, 1, 8, 0, 0))) (cond (Nat.ble k 85) (cond (Nat.ble k 84) (1, 3, 8, 0, 0) (2, 1, 8, 0, 0)) (cond (Nat.ble k 86) (2, 1, 8, 0, 0) (2, 1, 8, 0, 0)))) (cond (Nat.ble k 91) (cond (Nat.ble k 89) (cond (Nat.ble k 88) (2, 1, 8, 0, 0) (2, 1, 8, 0, 0)) (cond (Nat.ble k 90) (2, 1, 8, 0, 0) (2, 1, 8, 0, 0))) (cond (Nat.ble k 93) (cond (Nat.ble k 92) (2, 1, 8, 0, 0) (1, 3, 0, 0, 0)) (cond (Nat.ble k 94) (3, 1, 8, 0, 0) (2, 1, 8, 0, 0)))))) (cond (Nat.ble k 111) (cond (Nat.ble k 103) (cond (Nat.ble k 99) (cond (Nat.ble k 97) (cond (Nat.ble k 96) (1, 1, 8, 0, 0) (2, 1, 8, 0, 0)) (cond (Nat.ble k 98) (4, 0, 8, 0, 0) (2, 1, 8, 0, 0))) (cond (Nat.ble k 101) (cond (Nat.ble k 100) (2, 1, 8, 0, 0) (1, 1, 8, 0, 0)) (cond (Nat.ble k 102) (3, 1, 8, 0, 0) (1, 0, 9, 1455, 59050)))) (cond (Nat.ble k 107) (cond (Nat.ble k 105) (cond (Nat.ble k 104) (3, 1, 9, 0, 0) (3, 1, 9, 0, 0)) (cond (Nat.ble k 106) (2, 1, 9, 0, 0) (3, 1, 9, 0, 0))) (cond (Nat.ble k 109) (cond (Nat.ble k 108) (3, 1, 9, 0, 0) (3, 1, 9, 0, 0)) (cond (Nat.ble k 110) (3, 1, 9, 0, 0) (3, 1, 9, 0, 0))))) (cond (Nat.ble k 119) (cond (Nat.ble k 115) (cond (Nat.ble k 113) (cond (Nat.ble k 112) (3, 1, 9, 0, 0) (3, 1, 9, 0, 0)) (cond (Nat.ble k 114) (2, 1, 9, 0, 0) (2, 1, 9, 0, 0))) (cond (Nat.ble k 117) (cond (Nat.ble k 116) (3, 1, 9, 0, 0) (4, 1, 9, 0, 0)) (cond (Nat.ble k 118) (3, 1, 9, 0, 0) (2, 1, 9, 0, 0)))) (cond (Nat.ble k 123) (cond (Nat.ble k 121) (cond (Nat.ble k 120) (2, 1, 9, 0, 0) (3, 1, 9, 0, 0)) (cond (Nat.ble k 122) (2, 1, 9, 0, 0) (2, 1, 9, 0, 0))) (cond (Nat.ble k 125) (cond (Nat.ble k 124) (1, 1, 9, 0, 0) (2, 1, 9, 0, 0)) (cond (Nat.ble k 126) (2, 1, 9, 0, 0) (cond (Nat.ble k 127) (1, 1, 9, 0, 0) (1, 1, 9, 0, 0))))))))) (cond (Nat.ble k 193) (cond (Nat.ble k 160) (cond (Nat.ble k 144) (cond (Nat.ble k 136) (cond (Nat.ble k 132) (cond (Nat.ble k 130) (cond (Nat.ble k 129) (6, 1, 9, 0, 0) (5, 1, 9, 0, 0)) (cond (Nat.ble k 131) (4, 1, 9, 0, 0) (2, 1, 9, 0, 0))) (cond (Nat.ble k 134) (cond (Nat.ble k 133) (5, 1, 9, 0, 0) (6, 1, 9, 0, 0)) (cond (Nat.ble k 135) (2, 1, 0, 0, 0) (1, 1, 0, 0, 0)))) (cond (Nat.ble k 140) (cond (Nat.ble k 138) (cond (Nat.ble k 137) (2, 1, 0, 0, 0) (2, 1, 9, 0, 0)) (cond (Nat.ble k 139) (1, 1, 9, 0, 0) (2, 1, 9, 0, 0))) (cond (Nat.ble k 142) (cond (Nat.ble k 141) (3, 0, 9, 0, 0) (3, 0, 9, 0, 0)) (cond (Nat.ble k 143) (3, 1, 9, 0, 0) (2, 0, 9, 0, 0))))) (cond (Nat.ble k 152) (cond (Nat.ble k 148) (cond (Nat.ble k 146) (cond (Nat.ble k 145) (3, 1, 0, 0, 0) (1, 0, 10, 27, 19255)) (cond (Nat.ble k 147) (2, 1, 0, 0, 0) (1, 1, 0, 0, 0))) (cond (Nat.ble k 150) (cond (Nat.ble k 149) (1, 1, 0, 0, 0) (1, 1, 0, 0, 0)) (cond (Nat.ble k 151) (1, 1, 0, 0, 0) (2, 1, 0, 0, 0)))) (cond (Nat.ble k 156) (cond (Nat.ble k 154) (cond (Nat.ble k 153) (1, 1, 0, 0, 0) (1, 1, 0, 0, 0)) (cond (Nat.ble k 155) (1, 1, 0, 0, 0) (3, 0, 10, 0, 0))) (cond (Nat.ble k 158) (cond (Nat.ble k 157) (2, 1, 10, 0, 0) (1, 1, 0, 0, 0)) (cond (Nat.ble k 159) (3, 1, 10, 0, 0) (2, 1, 10, 0, 0)))))) (cond (Nat.ble k 176) (cond (Nat.ble k 168) (cond (Nat.ble k 164) (cond (Nat.ble k 162) (cond (Nat.ble k 161) (2, 1, 10, 0, 0) (3, 1, 10, 0, 0)) (cond (Nat.ble k 163) (2, 1, 10, 0, 0) (3, 1, 10, 0, 0))) (cond (Nat.ble k 166) (cond (Nat.ble k 165) (2, 1, 10, 0, 0) (2, 1, 10, 0, 0)) (cond (Nat.ble k 167) (3, 1, 10, 0, 0) (3, 1, 10, 0, 0)))) (cond (Nat.ble k 172) (cond (Nat.ble k 170) (cond (Nat.ble k 169) (3, 1, 10, 0, 0) (3, 1, 10, 0, 0)) (cond (Nat.ble k 171) (3, 1, 10, 0, 0) (1, 1, 0, 0, 0))) (cond (Nat.ble k 174) (cond (Nat.ble k 173) (3, 1, 10, 0, 0) (3, 1, 10, 0, 0)) (cond (Nat.ble k 175) (3, 1, 10, 0, 0) (3, 1, 10, 0, 0))))) (cond (Nat.ble k 184) (cond (Nat.ble k 180) (cond (Nat.ble k 178) (cond (Nat.ble k 177) (2, 1, 10, 0, 0) (3, 1, 10, 0, 0)) (cond (Nat.ble k 179) (3, 1, 10, 0, 0) (2, 1, 10, 0, 0))) (cond (Nat.ble k 182) (cond (Nat.ble k 181) (2, 1, 10, 0, 0) (2, 1, 10, 0, 0)) (cond (Nat.ble k 183) (2, 1, 10, 0, 0) (2, 0, 10, 0, 0)))) (cond (Nat.ble k 188) (cond (Nat.ble k 186) (cond (Nat.ble k 185) (3, 0, 10, 0, 0) (2, 1, 10, 0, 0)) (cond (Nat.ble k 187) (3, 1, 10, 0, 0) (3, 1, 10, 0, 0))) (cond (Nat.ble k 190) (cond (Nat.ble k 189) (2, 1, 10, 0, 0) (1, 1, 10, 0, 0)) (cond (Nat.ble k 191) (1, 1, 0, 0, 0) (cond (Nat.ble k 192) (1, 1, 0, 0, 0) (2, 1, 10, 0, 0)))))))) (cond (Nat.ble k 225) (cond (Nat.ble k 209) (cond (Nat.ble k 201) (cond (Nat.ble k 197) (cond (Nat.ble k 195) (cond (Nat.ble k 194) (2, 1, 10, 0, 0) (8, 1, 10, 0, 0)) (cond (Nat.ble k 196) (2, 1, 10, 0, 0) (1, 1, 10, 0, 0))) (cond (Nat.ble k 199) (cond (Nat.ble k 198) (1, 1, 10, 0, 0) (1, 0, 10, 0, 0)) (cond (Nat.ble k 200) (1, 1, 10, 0, 0) (1, 0, 10, 0, 0)))) (cond (Nat.ble k 205) (cond (Nat.ble k 203) (cond (Nat.ble k 202) (1, 0, 10, 0, 0) (1, 1, 10, 0, 0)) (cond (Nat.ble k 204) (1, 1, 10, 0, 0) (2, 1, 10, 0, 0))) (cond (Nat.ble k 207) (cond (Nat.ble k 206) (2, 0, 10, 0, 0) (1, 1, 10, 0, 0)) (cond (Nat.ble k 208) (1, 0, 10, 0, 0) (3, 0, 10, 0, 0))))) (cond (Nat.ble k 217) (cond (Nat.ble k 213) (cond (Nat.ble k 211) (cond (Nat.ble k 210) (2, 0, 10, 0, 0) (3, 1, 10, 0, 0)) (cond (Nat.ble k 212) (3, 0, 10, 0, 0) (2, 1, 10, 0, 0))) (cond (Nat.ble k 215) (cond (Nat.ble k 214) (1, 1, 0, 0, 0) (2, 1, 10, 0, 0)) (cond (Nat.ble k 216) (3, 1, 10, 0, 0) (2, 1, 10, 0, 0)))) (cond (Nat.ble k 221) (cond (Nat.ble k 219) (cond (Nat.ble k 218) (2, 0, 10, 0, 0) (3, 1, 10, 0, 0)) (cond (Nat.ble k 220) (2, 1, 10, 0, 0) (1, 0, 10, 0, 0))) (cond (Nat.ble k 223) (cond (Nat.ble k 222) (3, 1, 10, 0, 0) (1, 1, 0, 0, 0)) (cond (Nat.ble k 224) (3, 1, 10, 0, 0) (3, 1, 10, 0, 0)))))) (cond (Nat.ble k 241) (cond (Nat.ble k 233) (cond (Nat.ble k 229) (cond (Nat.ble k 227) (cond (Nat.ble k 226) (2, 1, 10, 0, 0) (3, 1, 10, 0, 0)) (cond (Nat.ble k 228) (4, 1, 10, 0, 0) (3, 1, 10, 0, 0))) (cond (Nat.ble k 231) (cond (Nat.ble k 230) (2, 1, 10, 0, 0) (2, 1, 10, 0, 0)) (cond (Nat.ble k 232) (3, 1, 10, 0, 0) (2, 1, 10, 0, 0)))) (cond (Nat.ble k 237) (cond (Nat.ble k 235) (cond (Nat.ble k 234) (1, 0, 10, 0, 0) (1, 1, 10, 0, 0)) (cond (Nat.ble k 236) (3, 0, 10, 0, 0) (2, 1, 10, 0, 0))) (cond (Nat.ble k 239) (cond (Nat.ble k 238) (2, 1, 10, 0, 0) (2, 1, 10, 0, 0)) (cond (Nat.ble k 240) (1, 1, 10, 0, 0) (1, 1, 10, 0, 0))))) (cond (Nat.ble k 249) (cond (Nat.ble k 245) (cond (Nat.ble k 243) (cond (Nat.ble k 242) (1, 1, 0, 0, 0) (2, 2, 0, 0, 0)) (cond (Nat.ble k 244) (4, 1, 10, 0, 0) (2, 1, 10, 0, 0))) (cond (Nat.ble k 247) (cond (Nat.ble k 246) (5, 1, 10, 0, 0) (5, 1, 10, 0, 0)) (cond (Nat.ble k 248) (6, 1, 10, 0, 0) (5, 1, 10, 0, 0)))) (cond (Nat.ble k 253) (cond (Nat.ble k 251) (cond (Nat.ble k 250) (3, 1, 10, 0, 0) (3, 1, 10, 0, 0)) (cond (Nat.ble k 252) (2, 1, 10, 0, 0) (6, 1, 10, 0, 0))) (cond (Nat.ble k 255) (cond (Nat.ble k 254) (1, 1, 0, 0, 0) (2, 1, 0, 0, 0)) (cond (Nat.ble k 256) (2, 0, 0, 0, 0) (cond (Nat.ble k 257) (2, 0, 0, 0, 0) (1, 1, 0, 0, 0))))))))))
def am_mL (k : Nat) : Nat := (cond (Nat.ble k 128) (cond (Nat.ble k 63) (cond (Nat.ble k 31) (cond (Nat.ble k 15) (cond (Nat.ble k 7) (cond (Nat.ble k 3) (cond (Nat.ble k 1) (cond (Nat.ble k 0) 1 6) (cond (Nat.ble k 2) 2 5)) (cond (Nat.ble k 5) (cond (Nat.ble k 4) 4 6) (cond (Nat.ble k 6) 5 3))) (cond (Nat.ble k 11) (cond (Nat.ble k 9) (cond (Nat.ble k 8) 3 8) (cond (Nat.ble k 10) 4 4)) (cond (Nat.ble k 13) (cond (Nat.ble k 12) 1 3) (cond (Nat.ble k 14) 6 2)))) (cond (Nat.ble k 23) (cond (Nat.ble k 19) (cond (Nat.ble k 17) (cond (Nat.ble k 16) 2 3) (cond (Nat.ble k 18) 6 8)) (cond (Nat.ble k 21) (cond (Nat.ble k 20) 5 1) (cond (Nat.ble k 22) 2 4))) (cond (Nat.ble k 27) (cond (Nat.ble k 25) (cond (Nat.ble k 24) 2 2) (cond (Nat.ble k 26) 2 5)) (cond (Nat.ble k 29) (cond (Nat.ble k 28) 7 7) (cond (Nat.ble k 30) 8 7))))) (cond (Nat.ble k 47) (cond (Nat.ble k 39) (cond (Nat.ble k 35) (cond (Nat.ble k 33) (cond (Nat.ble k 32) 6 2) (cond (Nat.ble k 34) 3 7)) (cond (Nat.ble k 37) (cond (Nat.ble k 36) 6 7) (cond (Nat.ble k 38) 2 1))) (cond (Nat.ble k 43) (cond (Nat.ble k 41) (cond (Nat.ble k 40) 3 1) (cond (Nat.ble k 42) 3 3)) (cond (Nat.ble k 45) (cond (Nat.ble k 44) 2 2) (cond (Nat.ble k 46) 3 3)))) (cond (Nat.ble k 55) (cond (Nat.ble k 51) (cond (Nat.ble k 49) (cond (Nat.ble k 48) 5 4) (cond (Nat.ble k 50) 3 4)) (cond (Nat.ble k 53) (cond (Nat.ble k 52) 4 3) (cond (Nat.ble k 54) 4 4))) (cond (Nat.ble k 59) (cond (Nat.ble k 57) (cond (Nat.ble k 56) 3 3) (cond (Nat.ble k 58) 3 1)) (cond (Nat.ble k 61) (cond (Nat.ble k 60) 3 4) (cond (Nat.ble k 62) 5 4)))))) (cond (Nat.ble k 95) (cond (Nat.ble k 79) (cond (Nat.ble k 71) (cond (Nat.ble k 67) (cond (Nat.ble k 65) (cond (Nat.ble k 64) 5 5) (cond (Nat.ble k 66) 3 5)) (cond (Nat.ble k 69) (cond (Nat.ble k 68) 5 1) (cond (Nat.ble k 70) 4 2))) (cond (Nat.ble k 75) (cond (Nat.ble k 73) (cond (Nat.ble k 72) 5 4) (cond (Nat.ble k 74) 5 5)) (cond (Nat.ble k 77) (cond (Nat.ble k 76) 3 6) (cond (Nat.ble k 78) 1 3)))) (cond (Nat.ble k 87) (cond (Nat.ble k 83) (cond (Nat.ble k 81) (cond (Nat.ble k 80) 2 2) (cond (Nat.ble k 82) 1 1)) (cond (Nat.ble k 85) (cond (Nat.ble k 84) 1 2) (cond (Nat.ble k 86) 3 4))) (cond (Nat.ble k 91) (cond (Nat.ble k 89) (cond (Nat.ble k 88) 2 2) (cond (Nat.ble k 90) 7 4)) (cond (Nat.ble k 93) (cond (Nat.ble k 92) 3 1) (cond (Nat.ble k 94) 4 3))))) (cond (Nat.ble k 111) (cond (Nat.ble k 103) (cond (Nat.ble k 99) (cond (Nat.ble k 97) (cond (Nat.ble k 96) 2 4) (cond (Nat.ble k 98) 5 2)) (cond (Nat.ble k 101) (cond (Nat.ble k 100) 2 1) (cond (Nat.ble k 102) 4 3))) (cond (Nat.ble k 107) (cond (Nat.ble k 105) (cond (Nat.ble k 104) 3 3) (cond (Nat.ble k 106) 2 3)) (cond (Nat.ble k 109) (cond (Nat.ble k 108) 3 3) (cond (Nat.ble k 110) 3 4)))) (cond (Nat.ble k 119) (cond (Nat.ble k 115) (cond (Nat.ble k 113) (cond (Nat.ble k 112) 3 3) (cond (Nat.ble k 114) 2 5)) (cond (Nat.ble k 117) (cond (Nat.ble k 116) 3 4) (cond (Nat.ble k 118) 3 3))) (cond (Nat.ble k 123) (cond (Nat.ble k 121) (cond (Nat.ble k 120) 3 10) (cond (Nat.ble k 122) 4 3)) (cond (Nat.ble k 125) (cond (Nat.ble k 124) 1 3) (cond (Nat.ble k 126) 2 (cond (Nat.ble k 127) 1 1)))))))) (cond (Nat.ble k 193) (cond (Nat.ble k 160) (cond (Nat.ble k 144) (cond (Nat.ble k 136) (cond (Nat.ble k 132) (cond (Nat.ble k 130) (cond (Nat.ble k 129) 11 7) (cond (Nat.ble k 131) 4 2)) (cond (Nat.ble k 134) (cond (Nat.ble k 133) 7 6) (cond (Nat.ble k 135) 2 1))) (cond (Nat.ble k 140) (cond (Nat.ble k 138) (cond (Nat.ble k 137) 2 4) (cond (Nat.ble k 139) 3 2)) (cond (Nat.ble k 142) (cond (Nat.ble k 141) 4 4) (cond (Nat.ble k 143) 6 4)))) (cond (Nat.ble k 152) (cond (Nat.ble k 148) (cond (Nat.ble k 146) (cond (Nat.ble k 145) 6 3) (cond (Nat.ble k 147) 2 3)) (cond (Nat.ble k 150) (cond (Nat.ble k 149) 2 1) (cond (Nat.ble k 151) 2 2))) (cond (Nat.ble k 156) (cond (Nat.ble k 154) (cond (Nat.ble k 153) 3 3) (cond (Nat.ble k 155) 2 8)) (cond (Nat.ble k 158) (cond (Nat.ble k 157) 5 3) (cond (Nat.ble k 159) 8 4))))) (cond (Nat.ble k 176) (cond (Nat.ble k 168) (cond (Nat.ble k 164) (cond (Nat.ble k 162) (cond (Nat.ble k 161) 4 3) (cond (Nat.ble k 163) 4 3)) (cond (Nat.ble k 166) (cond (Nat.ble k 165) 3 2) (cond (Nat.ble k 167) 3 6))) (cond (Nat.ble k 172) (cond (Nat.ble k 170) (cond (Nat.ble k 169) 5 5) (cond (Nat.ble k 171) 5 1)) (cond (Nat.ble k 174) (cond (Nat.ble k 173) 3 3) (cond (Nat.ble k 175) 5 3)))) (cond (Nat.ble k 184) (cond (Nat.ble k 180) (cond (Nat.ble k 178) (cond (Nat.ble k 177) 4 5) (cond (Nat.ble k 179) 6 4)) (cond (Nat.ble k 182) (cond (Nat.ble k 181) 7 4) (cond (Nat.ble k 183) 4 2))) (cond (Nat.ble k 188) (cond (Nat.ble k 186) (cond (Nat.ble k 185) 5 3) (cond (Nat.ble k 187) 3 3)) (cond (Nat.ble k 190) (cond (Nat.ble k 189) 2 1) (cond (Nat.ble k 191) 1 (cond (Nat.ble k 192) 1 3))))))) (cond (Nat.ble k 225) (cond (Nat.ble k 209) (cond (Nat.ble k 201) (cond (Nat.ble k 197) (cond (Nat.ble k 195) (cond (Nat.ble k 194) 4 9) (cond (Nat.ble k 196) 2 4)) (cond (Nat.ble k 199) (cond (Nat.ble k 198) 7 2) (cond (Nat.ble k 200) 5 2))) (cond (Nat.ble k 205) (cond (Nat.ble k 203) (cond (Nat.ble k 202) 2 2) (cond (Nat.ble k 204) 4 6)) (cond (Nat.ble k 207) (cond (Nat.ble k 206) 3 4) (cond (Nat.ble k 208) 3 4)))) (cond (Nat.ble k 217) (cond (Nat.ble k 213) (cond (Nat.ble k 211) (cond (Nat.ble k 210) 4 5) (cond (Nat.ble k 212) 5 6)) (cond (Nat.ble k 215) (cond (Nat.ble k 214) 1 4) (cond (Nat.ble k 216) 7 5))) (cond (Nat.ble k 221) (cond (Nat.ble k 219) (cond (Nat.ble k 218) 4 5) (cond (Nat.ble k 220) 6 2)) (cond (Nat.ble k 223) (cond (Nat.ble k 222) 5 4) (cond (Nat.ble k 224) 3 7))))) (cond (Nat.ble k 241) (cond (Nat.ble k 233) (cond (Nat.ble k 229) (cond (Nat.ble k 227) (cond (Nat.ble k 226) 6 3) (cond (Nat.ble k 228) 4 4)) (cond (Nat.ble k 231) (cond (Nat.ble k 230) 3 2) (cond (Nat.ble k 232) 7 4))) (cond (Nat.ble k 237) (cond (Nat.ble k 235) (cond (Nat.ble k 234) 2 2) (cond (Nat.ble k 236) 4 6)) (cond (Nat.ble k 239) (cond (Nat.ble k 238) 3 4) (cond (Nat.ble k 240) 2 2)))) (cond (Nat.ble k 249) (cond (Nat.ble k 245) (cond (Nat.ble k 243) (cond (Nat.ble k 242) 1 3) (cond (Nat.ble k 244) 5 2)) (cond (Nat.ble k 247) (cond (Nat.ble k 246) 5 7) (cond (Nat.ble k 248) 7 7))) (cond (Nat.ble k 253) (cond (Nat.ble k 251) (cond (Nat.ble k 250) 8 7) (cond (Nat.ble k 252) 6 10)) (cond (Nat.ble k 255) (cond (Nat.ble k 254) 1 3) (cond (Nat.ble k 256) 5 (cond (Nat.ble k 257) 4 4)))))))))
def am_bz (k : Nat) : Bool := (cond (Nat.ble k 128) (cond (Nat.ble k 63) (cond (Nat.ble k 31) (cond (Nat.ble k 15) (cond (Nat.ble k 7) (cond (Nat.ble k 3) (cond (Nat.ble k 1) (cond (Nat.ble k 0) false false) (cond (Nat.ble k 2) false true)) (cond (Nat.ble k 5) (cond (Nat.ble k 4) false true) (cond (Nat.ble k 6) false true))) (cond (Nat.ble k 11) (cond (Nat.ble k 9) (cond (Nat.ble k 8) false false) (cond (Nat.ble k 10) false false)) (cond (Nat.ble k 13) (cond (Nat.ble k 12) false false) (cond (Nat.ble k 14) false false)))) (cond (Nat.ble k 23) (cond (Nat.ble k 19) (cond (Nat.ble k 17) (cond (Nat.ble k 16) false false) (cond (Nat.ble k 18) false false)) (cond (Nat.ble k 21) (cond (Nat.ble k 20) false false) (cond (Nat.ble k 22) false false))) (cond (Nat.ble k 27) (cond (Nat.ble k 25) (cond (Nat.ble k 24) true false) (cond (Nat.ble k 26) false false)) (cond (Nat.ble k 29) (cond (Nat.ble k 28) false false) (cond (Nat.ble k 30) false false))))) (cond (Nat.ble k 47) (cond (Nat.ble k 39) (cond (Nat.ble k 35) (cond (Nat.ble k 33) (cond (Nat.ble k 32) true false) (cond (Nat.ble k 34) false false)) (cond (Nat.ble k 37) (cond (Nat.ble k 36) true false) (cond (Nat.ble k 38) false false))) (cond (Nat.ble k 43) (cond (Nat.ble k 41) (cond (Nat.ble k 40) false false) (cond (Nat.ble k 42) false false)) (cond (Nat.ble k 45) (cond (Nat.ble k 44) false false) (cond (Nat.ble k 46) false false)))) (cond (Nat.ble k 55) (cond (Nat.ble k 51) (cond (Nat.ble k 49) (cond (Nat.ble k 48) false false) (cond (Nat.ble k 50) false false)) (cond (Nat.ble k 53) (cond (Nat.ble k 52) false false) (cond (Nat.ble k 54) false true))) (cond (Nat.ble k 59) (cond (Nat.ble k 57) (cond (Nat.ble k 56) false false) (cond (Nat.ble k 58) false false)) (cond (Nat.ble k 61) (cond (Nat.ble k 60) false false) (cond (Nat.ble k 62) false false)))))) (cond (Nat.ble k 95) (cond (Nat.ble k 79) (cond (Nat.ble k 71) (cond (Nat.ble k 67) (cond (Nat.ble k 65) (cond (Nat.ble k 64) false false) (cond (Nat.ble k 66) false false)) (cond (Nat.ble k 69) (cond (Nat.ble k 68) false false) (cond (Nat.ble k 70) false false))) (cond (Nat.ble k 75) (cond (Nat.ble k 73) (cond (Nat.ble k 72) false true) (cond (Nat.ble k 74) false true)) (cond (Nat.ble k 77) (cond (Nat.ble k 76) false false) (cond (Nat.ble k 78) false false)))) (cond (Nat.ble k 87) (cond (Nat.ble k 83) (cond (Nat.ble k 81) (cond (Nat.ble k 80) false false) (cond (Nat.ble k 82) false false)) (cond (Nat.ble k 85) (cond (Nat.ble k 84) false true) (cond (Nat.ble k 86) true true))) (cond (Nat.ble k 91) (cond (Nat.ble k 89) (cond (Nat.ble k 88) true true) (cond (Nat.ble k 90) true true)) (cond (Nat.ble k 93) (cond (Nat.ble k 92) false false) (cond (Nat.ble k 94) true false))))) (cond (Nat.ble k 111) (cond (Nat.ble k 103) (cond (Nat.ble k 99) (cond (Nat.ble k 97) (cond (Nat.ble k 96) false false) (cond (Nat.ble k 98) false true)) (cond (Nat.ble k 101) (cond (Nat.ble k 100) true true) (cond (Nat.ble k 102) false false))) (cond (Nat.ble k 107) (cond (Nat.ble k 105) (cond (Nat.ble k 104) false false) (cond (Nat.ble k 106) false false)) (cond (Nat.ble k 109) (cond (Nat.ble k 108) false false) (cond (Nat.ble k 110) false false)))) (cond (Nat.ble k 119) (cond (Nat.ble k 115) (cond (Nat.ble k 113) (cond (Nat.ble k 112) false false) (cond (Nat.ble k 114) false false)) (cond (Nat.ble k 117) (cond (Nat.ble k 116) false false) (cond (Nat.ble k 118) false false))) (cond (Nat.ble k 123) (cond (Nat.ble k 121) (cond (Nat.ble k 120) false false) (cond (Nat.ble k 122) false false)) (cond (Nat.ble k 125) (cond (Nat.ble k 124) false false) (cond (Nat.ble k 126) false (cond (Nat.ble k 127) false false)))))))) (cond (Nat.ble k 193) (cond (Nat.ble k 160) (cond (Nat.ble k 144) (cond (Nat.ble k 136) (cond (Nat.ble k 132) (cond (Nat.ble k 130) (cond (Nat.ble k 129) false false) (cond (Nat.ble k 131) false false)) (cond (Nat.ble k 134) (cond (Nat.ble k 133) false false) (cond (Nat.ble k 135) true true))) (cond (Nat.ble k 140) (cond (Nat.ble k 138) (cond (Nat.ble k 137) true false) (cond (Nat.ble k 139) false true)) (cond (Nat.ble k 142) (cond (Nat.ble k 141) false false) (cond (Nat.ble k 143) false false)))) (cond (Nat.ble k 152) (cond (Nat.ble k 148) (cond (Nat.ble k 146) (cond (Nat.ble k 145) true false) (cond (Nat.ble k 147) true false)) (cond (Nat.ble k 150) (cond (Nat.ble k 149) false true) (cond (Nat.ble k 151) true false))) (cond (Nat.ble k 156) (cond (Nat.ble k 154) (cond (Nat.ble k 153) false false) (cond (Nat.ble k 155) false false)) (cond (Nat.ble k 158) (cond (Nat.ble k 157) false false) (cond (Nat.ble k 159) false false))))) (cond (Nat.ble k 176) (cond (Nat.ble k 168) (cond (Nat.ble k 164) (cond (Nat.ble k 162) (cond (Nat.ble k 161) false false) (cond (Nat.ble k 163) false false)) (cond (Nat.ble k 166) (cond (Nat.ble k 165) false false) (cond (Nat.ble k 167) false false))) (cond (Nat.ble k 172) (cond (Nat.ble k 170) (cond (Nat.ble k 169) true false) (cond (Nat.ble k 171) false true)) (cond (Nat.ble k 174) (cond (Nat.ble k 173) false false) (cond (Nat.ble k 175) false false)))) (cond (Nat.ble k 184) (cond (Nat.ble k 180) (cond (Nat.ble k 178) (cond (Nat.ble k 177) true false) (cond (Nat.ble k 179) true false)) (cond (Nat.ble k 182) (cond (Nat.ble k 181) false false) (cond (Nat.ble k 183) false false))) (cond (Nat.ble k 188) (cond (Nat.ble k 186) (cond (Nat.ble k 185) false false) (cond (Nat.ble k 187) false false)) (cond (Nat.ble k 190) (cond (Nat.ble k 189) false false) (cond (Nat.ble k 191) true (cond (Nat.ble k 192) true false))))))) (cond (Nat.ble k 225) (cond (Nat.ble k 209) (cond (Nat.ble k 201) (cond (Nat.ble k 197) (cond (Nat.ble k 195) (cond (Nat.ble k 194) false true) (cond (Nat.ble k 196) false true)) (cond (Nat.ble k 199) (cond (Nat.ble k 198) true false) (cond (Nat.ble k 200) true false))) (cond (Nat.ble k 205) (cond (Nat.ble k 203) (cond (Nat.ble k 202) false true) (cond (Nat.ble k 204) true false)) (cond (Nat.ble k 207) (cond (Nat.ble k 206) false false) (cond (Nat.ble k 208) false false)))) (cond (Nat.ble k 217) (cond (Nat.ble k 213) (cond (Nat.ble k 211) (cond (Nat.ble k 210) false true) (cond (Nat.ble k 212) false false)) (cond (Nat.ble k 215) (cond (Nat.ble k 214) true true) (cond (Nat.ble k 216) false false))) (cond (Nat.ble k 221) (cond (Nat.ble k 219) (cond (Nat.ble k 218) false false) (cond (Nat.ble k 220) false false)) (cond (Nat.ble k 223) (cond (Nat.ble k 222) false false) (cond (Nat.ble k 224) false false))))) (cond (Nat.ble k 241) (cond (Nat.ble k 233) (cond (Nat.ble k 229) (cond (Nat.ble k 227) (cond (Nat.ble k 226) false false) (cond (Nat.ble k 228) false false)) (cond (Nat.ble k 231) (cond (Nat.ble k 230) false false) (cond (Nat.ble k 232) false false))) (cond (Nat.ble k 237) (cond (Nat.ble k 235) (cond (Nat.ble k 234) false false) (cond (Nat.ble k 236) false false)) (cond (Nat.ble k 239) (cond (Nat.ble k 238) false false) (cond (Nat.ble k 240) false false)))) (cond (Nat.ble k 249) (cond (Nat.ble k 245) (cond (Nat.ble k 243) (cond (Nat.ble k 242) true false) (cond (Nat.ble k 244) false false)) (cond (Nat.ble k 247) (cond (Nat.ble k 246) false false) (cond (Nat.ble k 248) false false))) (cond (Nat.ble k 253) (cond (Nat.ble k 251) (cond (Nat.ble k 250) false false) (cond (Nat.ble k 252) true false)) (cond (Nat.ble k 255) (cond (Nat.ble k 254) false false) (cond (Nat.ble k 256) false (cond (Nat.ble k 257) false true)))))))))
abbrev k_Ch_init : Nat := 0
abbrev k_Ch_begin : Nat := 1
abbrev k_Ch_include : Nat := 2
abbrev k_Ch_contains : Nat := 3
abbrev k_Ch_orderFrom : Nat := 4
abbrev k_Ch_findLowest : Nat := 5
abbrev k_Ch_lowestSource : Nat := 6
abbrev k_Ch_isReached : Nat := 7
abbrev k_Ch_back : Nat := 8
abbrev k_Ch_admit : Nat := 9
abbrev k_Ch_settle : Nat := 10
abbrev k_Ch_reach : Nat := 11
abbrev k_Cy_init : Nat := 12
abbrev k_Cy_write : Nat := 13
abbrev k_Cy_writeCycle : Nat := 14
abbrev k_Cy_append : Nat := 15
abbrev k_Cy_letterAt : Nat := 16
abbrev k_Go_init : Nat := 17
abbrev k_Go_fillBasis : Nat := 18
abbrev k_Go_fillWordsOfWeight : Nat := 19
abbrev k_Go_fillLeaders : Nat := 20
abbrev k_Go_place : Nat := 21
abbrev k_Go_rest : Nat := 22
abbrev k_Go_wordOf : Nat := 23
abbrev k_Go_isWord : Nat := 24
abbrev k_Go_numberOf : Nat := 25
abbrev k_Go_distance : Nat := 26
abbrev k_Go_lowestNearest : Nat := 27
abbrev k_Go_octadsInside : Nat := 28
abbrev k_Go_octadsAround : Nat := 29
abbrev k_Go_octadsMeeting : Nat := 30
abbrev k_Go_octadsFixedBy : Nat := 31
abbrev k_Go_isPreservedBy : Nat := 32
abbrev k_Go_octadWith : Nat := 33
abbrev k_Go_tetradWith : Nat := 34
abbrev k_Go_tetrad : Nat := 35
abbrev k_Go_isUnionOfTetrads : Nat := 36
abbrev k_Go_sharedOctads : Nat := 37
abbrev k_Hi_init : Nat := 38
abbrev k_Hi_keep : Nat := 39
abbrev k_Hi_forgetOldest : Nat := 40
abbrev k_Hi_takeBack : Nat := 41
abbrev k_Hi_become : Nat := 42
abbrev k_Mo_fillNamed : Nat := 43
abbrev k_Mo_to : Nat := 44
abbrev k_Mo_makeSame : Nat := 45
abbrev k_Mo_assign : Nat := 46
abbrev k_Mo_follow : Nat := 47
abbrev k_Mo_combine : Nat := 48
abbrev k_Mo_invert : Nat := 49
abbrev k_Mo_sourceOf : Nat := 50
abbrev k_Mo_imageOf : Nat := 51
abbrev k_Mo_differences : Nat := 52
abbrev k_Mo_fixedPoints : Nat := 53
abbrev k_Mo_cycleLength : Nat := 54
abbrev k_Mo_isLowestInCycle : Nat := 55
abbrev k_Mo_cycleCount : Nat := 56
abbrev k_Mo_order : Nat := 57
abbrev k_Mo_commonMultiple : Nat := 58
abbrev k_Or_init : Nat := 59
abbrev k_Or_begin : Nat := 60
abbrev k_Or_joinBy : Nat := 61
abbrev k_Or_fillGoals : Nat := 62
abbrev k_Or_goalOf : Nat := 63
abbrev k_Or_join : Nat := 64
abbrev k_Or_root : Nat := 65
abbrev k_Or_number : Nat := 66
abbrev k_Or_numberOfWeight : Nat := 67
abbrev k_Or_sizeOf : Nat := 68
abbrev k_Sh_init : Nat := 69
abbrev k_Sh_create : Nat := 70
abbrev k_Sh_remove : Nat := 71
abbrev k_Sh_fault : Nat := 72
abbrev k_Sh_isInside : Nat := 73
abbrev k_Sh_put : Nat := 74
abbrev k_Sh_holdPoints : Nat := 75
abbrev k_Sh_pointAt : Nat := 76
abbrev k_Sh_transfer : Nat := 77
abbrev k_St_init : Nat := 78
abbrev k_St_become : Nat := 79
abbrev k_Ta_init : Nat := 80
abbrev k_Ta_append : Nat := 81
abbrev k_Ta_clear : Nat := 82
abbrev k_Ta_faultPosition : Nat := 83
abbrev k_Ta_value : Nat := 84
abbrev k_Ta_evaluate : Nat := 85
abbrev k_Ta_isProduct : Nat := 86
abbrev k_Ta_isFactor : Nat := 87
abbrev k_Ta_isPlainFactor : Nat := 88
abbrev k_Ta_isBracket : Nat := 89
abbrev k_Ta_isCycle : Nat := 90
abbrev k_Ta_isName : Nat := 91
abbrev k_Ta_nameUpTo : Nat := 92
abbrev k_Ta_nameOf : Nat := 93
abbrev k_Ta_isWritten : Nat := 94
abbrev k_Ta_acceptPoint : Nat := 95
abbrev k_Ta_acceptPower : Nat := 96
abbrev k_Ta_numberUpTo : Nat := 97
abbrev k_Ta_raise : Nat := 98
abbrev k_Ta_accept : Nat := 99
abbrev k_Ta_isNext : Nat := 100
abbrev k_Ta_isAtEnd : Nat := 101
abbrev k_Ta_endOfRun : Nat := 102
abbrev k_X_init : Nat := 103
abbrev k_X_word : Nat := 104
abbrev k_X_block : Nat := 105
abbrev k_X_complete : Nat := 106
abbrev k_X_sextet : Nat := 107
abbrev k_X_both : Nat := 108
abbrev k_X_met : Nat := 109
abbrev k_X_move : Nat := 110
abbrev k_X_told : Nat := 111
abbrev k_X_letter : Nat := 112
abbrev k_X_sent : Nat := 113
abbrev k_X_type : Nat := 114
abbrev k_X_read : Nat := 115
abbrev k_X_group : Nat := 116
abbrev k_X_held : Nat := 117
abbrev k_X_holds : Nat := 118
abbrev k_X_choose : Nat := 119
abbrev k_X_hexad : Nat := 120
abbrev k_X_turn : Nat := 121
abbrev k_X_pair : Nat := 122
abbrev k_X_drift : Nat := 123
abbrev k_X_undo : Nat := 124
abbrev k_X_seed : Nat := 125
abbrev k_X_count : Nat := 126
abbrev k_X_image : Nat := 127
abbrev k_X_restore : Nat := 128
abbrev k_X_retrace : Nat := 129
abbrev k_X_film : Nat := 130
abbrev k_X_sheet : Nat := 131
abbrev k_X_drop : Nat := 132
abbrev k_X_item : Nat := 133
abbrev k_X_copy : Nat := 134
abbrev k_X_isOutside : Nat := 135
abbrev k_X_isNoSet : Nat := 136
abbrev k_X_isNoLane : Nat := 137
abbrev k_X_whereChosenGoes : Nat := 138
abbrev k_X_preservingMoves : Nat := 139
abbrev k_X_preserveCode : Nat := 140
abbrev k_X_buildChain : Nat := 141
abbrev k_X_findOrbits : Nat := 142
abbrev k_X_reachedFrom : Nat := 143
abbrev k_X_turnAtRandom : Nat := 144
abbrev k_M_in : Nat := 145
abbrev k_M_init : Nat := 146
abbrev k_M_has : Nat := 147
abbrev k_M_bits : Nat := 148
abbrev k_M_lowest : Nat := 149
abbrev k_M_isSet : Nat := 150
abbrev k_M_isPlace : Nat := 151
abbrev k_M_named : Nat := 152
abbrev k_M_overOf : Nat := 153
abbrev k_M_basic : Nat := 154
abbrev k_M_highest : Nat := 155
abbrev k_M_comes : Nat := 156
abbrev k_M_numberOf : Nat := 157
abbrev k_M_wordOf : Nat := 158
abbrev k_M_closest : Nat := 159
abbrev k_M_octadsIn : Nat := 160
abbrev k_M_octadsWith : Nat := 161
abbrev k_M_word : Nat := 162
abbrev k_M_dodecad : Nat := 163
abbrev k_M_block : Nat := 164
abbrev k_M_octadOf : Nat := 165
abbrev k_M_complete : Nat := 166
abbrev k_M_tetradAt : Nat := 167
abbrev k_M_sextet : Nat := 168
abbrev k_M_isOfTwo : Nat := 169
abbrev k_M_both : Nat := 170
abbrev k_M_met : Nat := 171
abbrev k_M_isMove : Nat := 172
abbrev k_M_to : Nat := 173
abbrev k_M_move : Nat := 174
abbrev k_M_goes : Nat := 175
abbrev k_M_sent : Nat := 176
abbrev k_M_keeps : Nat := 177
abbrev k_M_ring : Nat := 178
abbrev k_M_isLeast : Nat := 179
abbrev k_M_rings : Nat := 180
abbrev k_M_orderOf : Nat := 181
abbrev k_M_stays : Nat := 182
abbrev k_M_octadsKept : Nat := 183
abbrev k_M_puts : Nat := 184
abbrev k_M_putsRing : Nat := 185
abbrev k_M_texts : Nat := 186
abbrev k_M_told : Nat := 187
abbrev k_M_letter : Nat := 188
abbrev k_M_type : Nat := 189
abbrev k_M_here : Nat := 190
abbrev k_M_isFigure : Nat := 191
abbrev k_M_isLow : Nat := 192
abbrev k_M_row : Nat := 193
abbrev k_M_number : Nat := 194
abbrev k_M_isName : Nat := 195
abbrev k_M_nameOf : Nat := 196
abbrev k_M_readsName : Nat := 197
abbrev k_M_readsRing : Nat := 198
abbrev k_M_turnsBack : Nat := 199
abbrev k_M_readsOften : Nat := 200
abbrev k_M_begins : Nat := 201
abbrev k_M_closes : Nat := 202
abbrev k_M_readsFactor : Nat := 203
abbrev k_M_isText : Nat := 204
abbrev k_M_read : Nat := 205
abbrev k_M_takesBack : Nat := 206
abbrev k_M_sifts : Nat := 207
abbrev k_M_adds : Nat := 208
abbrev k_M_tries : Nat := 209
abbrev k_M_bases : Nat := 210
abbrev k_M_stands : Nat := 211
abbrev k_M_builds : Nat := 212
abbrev k_M_manyFrom : Nat := 213
abbrev k_M_isGroup : Nat := 214
abbrev k_M_allKeep : Nat := 215
abbrev k_M_reaches : Nat := 216
abbrev k_M_orbitsOfPlaces : Nat := 217
abbrev k_M_imagesOf : Nat := 218
abbrev k_M_imageOf : Nat := 219
abbrev k_M_spreads : Nat := 220
abbrev k_M_unmarks : Nat := 221
abbrev k_M_orbitsOfWords : Nat := 222
abbrev k_M_rankOf : Nat := 223
abbrev k_M_fourBy : Nat := 224
abbrev k_M_spreadsFours : Nat := 225
abbrev k_M_orbitsOfSextets : Nat := 226
abbrev k_M_group : Nat := 227
abbrev k_M_held : Nat := 228
abbrev k_M_holds : Nat := 229
abbrev k_M_choose : Nat := 230
abbrev k_M_hexad : Nat := 231
abbrev k_M_turn : Nat := 232
abbrev k_M_pair : Nat := 233
abbrev k_M_notes : Nat := 234
abbrev k_M_undo : Nat := 235
abbrev k_M_doubles : Nat := 236
abbrev k_M_drift : Nat := 237
abbrev k_M_seed : Nat := 238
abbrev k_M_count : Nat := 239
abbrev k_M_image : Nat := 240
abbrev k_M_restore : Nat := 241
abbrev k_M_isSheet : Nat := 242
abbrev k_M_cut : Nat := 243
abbrev k_M_sheet : Nat := 244
abbrev k_M_drop : Nat := 245
abbrev k_M_why : Nat := 246
abbrev k_M_item : Nat := 247
abbrev k_M_copy : Nat := 248
abbrev k_M_film : Nat := 249
abbrev k_M_wants : Nat := 250
abbrev k_M_sends : Nat := 251
abbrev k_M_finds : Nat := 252
abbrev k_M_retrace : Nat := 253
abbrev k_J_bitCount : Nat := 254
abbrev k_J_floorMod : Nat := 255
abbrev k_J_fill : Nat := 256
abbrev k_J_fill2 : Nat := 257
abbrev k_L_law : Nat := 258
end
section
/-! THE ABSTRACT MACHINE'S LAWS -/
theorem am_pi_mono {st : List Value} {f g : Int32 → List Value → Prop} (h : ∀ x r, f x r → g x r) : am_pi st f → am_pi st g := by
  unfold am_pi
  split
  · exact h _ _
  · exact id
theorem am_pl_mono {st : List Value} {f g : Int64 → List Value → Prop} (h : ∀ x r, f x r → g x r) : am_pl st f → am_pl st g := by
  unfold am_pl
  split
  · exact h _ _
  · exact id
theorem am_pr_mono {st : List Value} {f g : Nat → List Value → Prop} (h : ∀ x r, f x r → g x r) : am_pr st f → am_pr st g := by
  unfold am_pr
  split
  · exact h _ _
  · exact id
theorem am_g_mono {b : Bool} {p q : Prop} (h : p → q) : am_g b p → am_g b q := by
  cases b
  · exact id
  · exact h
theorem am_p1_mono {st : List Value} {f g : Value → List Value → Prop} (h : ∀ x r, f x r → g x r) : am_p1 st f → am_p1 st g := by
  unfold am_p1
  split
  · exact am_g_mono (h _ _)
  · exact id
theorem am_ob_mono {o : Option Nat} {f g : Nat → Prop} (h : ∀ x, f x → g x) : am_ob o f → am_ob o g := by
  cases o
  · exact id
  · exact h _
theorem am_br_mono {A p q p' q' : Prop} (h1 : p → p') (h2 : q → q') : am_br A p q → am_br A p' q' := fun h => ⟨fun a => h1 (h.1 a), fun a => h2 (h.2 a)⟩
theorem am_li_mono {L : am_L} {i : Nat} {f g : Int32 → Prop} (h : ∀ x, f x → g x) : am_li L i f → am_li L i g := by
  unfold am_li
  split
  · exact h _
  · exact id
theorem am_ll_mono {L : am_L} {i : Nat} {f g : Int64 → Prop} (h : ∀ x, f x → g x) : am_ll L i f → am_ll L i g := by
  unfold am_ll
  split
  · exact h _
  · exact id
theorem am_lr_mono {L : am_L} {i : Nat} {f g : Nat → Prop} (h : ∀ x, f x → g x) : am_lr L i f → am_lr L i g := by
  unfold am_lr
  split
  · exact h _
  · exact id
theorem am_sw_mono {x : Int32} {f g : Nat → Prop} {d : Nat} (h : ∀ t, f t → g t) : ∀ (ts : List Int) (k : Int), am_sw x k ts f d → am_sw x k ts g d
  | [], _ => h _
  | _ :: r, k => fun q => ⟨fun a => h _ (q.1 a), fun a => am_sw_mono h r (k + 1) (q.2 a)⟩
theorem am_lw_mono {x : Int32} {f g : Nat → Prop} {d : Nat} (h : ∀ t, f t → g t) : ∀ (ts : List (Int × Int)), am_lw x ts f d → am_lw x ts g d
  | [] => h _
  | _ :: r => fun q => ⟨fun a => h _ (q.1 a), fun a => am_lw_mono h r (q.2 a)⟩
theorem am_pop_mono {f g : List Value → List Value → Prop} (h : ∀ a r, f a r → g a r) : ∀ (n : Nat) (st acc : List Value), am_pop n st acc f → am_pop n st acc g
  | 0, _, _ => h _ _
  | n + 1, v :: st, acc => am_pop_mono h n st (v :: acc)
  | _ + 1, [], _ => id
theorem am_aft_mono {rk : Nat} {v : Option Value} {f g : List Value → Prop} (h : ∀ a, f a → g a) : am_aft rk v f → am_aft rk v g := by
  unfold am_aft
  split
  · exact And.imp id (h _)
  · exact fun ⟨x, a, b⟩ => ⟨x, a, h _ b⟩
  · exact fun ⟨x, a, b⟩ => ⟨x, a, h _ b⟩
  · exact fun ⟨x, a, b⟩ => ⟨x, a, h _ b⟩
theorem am_cond_mono {b : Bool} {p q p' q' : Prop} (h : p → p') (h2 : q → q') : cond b p q → cond b p' q' := by
  cases b
  · exact h2
  · exact h
theorem am_imp_mono {p q q' : Prop} (h : q → q') : (p ∧ q) → (p ∧ q') := And.imp id h
def am_CM (C C' : am_C) : Prop := ∀ k as M (Q Q' : Option Value → am_M → Prop), (∀ v M, Q v M → Q' v M) → C k as M Q → C' k as M Q'
set_option maxHeartbeats 4000000 in
theorem am_one_mono {mt : Nat → Nat × Nat × Nat × Nat × Nat} {C C' : am_C} {zm sm : Nat} {Rt Rt' : Option Value → am_M → Prop} {P P' : am_K} (hC : am_CM C C') (hR : ∀ v M, Rt v M → Rt' v M) (hP : ∀ pc L st M, P pc L st M → P' pc L st M) {ins : Instr} {ln pc : Nat} {L : am_L} {st : List Value} {M : am_M} :
    am_one mt C zm sm Rt ins ln pc L st M P → am_one mt C' zm sm Rt' ins ln pc L st M P' := by
  cases ins
  case invokeinterface i c =>
    match i with
    | 0 => exact am_pi_mono fun _ _ => am_pi_mono fun _ _ => am_g_mono (hP _ _ _ _)
    | 1 => exact am_pi_mono fun _ _ => am_pi_mono fun _ _ => am_g_mono (hP _ _ _ _)
    | 2 => exact am_pr_mono fun _ _ => am_g_mono (hP _ _ _ _)
    | 3 => exact am_pi_mono fun _ _ => am_pr_mono fun _ _ => am_g_mono (am_imp_mono (hP _ _ _ _))
    | 4 => exact am_pi_mono fun _ _ => am_pi_mono fun _ _ => am_pr_mono fun _ _ => am_pi_mono fun _ _ => am_pr_mono fun _ _ => am_g_mono (am_imp_mono (hP _ _ _ _))
    | _ + 5 => exact id
  case ifCond c t => exact am_pi_mono fun _ _ => by cases c <;> exact am_br_mono (hP _ _ _ _) (hP _ _ _ _)
  case if_icmp c t => exact am_pi_mono fun _ _ => am_pi_mono fun _ _ => by cases c <;> exact am_br_mono (hP _ _ _ _) (hP _ _ _ _)
  case invokestatic k => exact am_pop_mono (fun _ _ => am_g_mono (hC _ _ _ _ _ fun _ _ => am_aft_mono fun _ => hP _ _ _ _)) _ _ _
  case invokevirtual k => exact am_pop_mono (fun _ _ => am_pr_mono fun _ _ => am_g_mono (hC _ _ _ _ _ fun _ _ => am_aft_mono fun _ => hP _ _ _ _)) _ _ _
  case invokespecial k => exact am_pop_mono (fun _ _ => am_pr_mono fun _ _ => am_g_mono (am_imp_mono (hC _ _ _ _ _ fun _ _ => am_aft_mono fun _ => hP _ _ _ _))) _ _ _
  case tableswitch d lo hi ts => exact am_pi_mono fun _ _ => am_sw_mono (fun _ => hP _ _ _ _) _ _
  case lookupswitch d ps => exact am_pi_mono fun _ _ => am_lw_mono (fun _ => hP _ _ _ _) _
  all_goals first
    | exact id
    | exact hP _ _ _ _
    | exact am_pi_mono fun _ _ => hP _ _ _ _
    | exact am_pl_mono fun _ _ => hP _ _ _ _
    | exact am_pi_mono fun _ _ => am_pi_mono fun _ _ => hP _ _ _ _
    | exact am_pl_mono fun _ _ => am_pl_mono fun _ _ => hP _ _ _ _
    | exact am_li_mono fun _ => hP _ _ _ _
    | exact am_ll_mono fun _ => hP _ _ _ _
    | exact am_lr_mono fun _ => hP _ _ _ _
    | exact am_pi_mono fun _ _ => am_g_mono (hP _ _ _ _)
    | exact am_pr_mono fun _ _ => am_g_mono (hP _ _ _ _)
    | exact am_pl_mono fun _ _ => am_g_mono (hP _ _ _ _)
    | exact am_li_mono fun _ => am_g_mono (hP _ _ _ _)
    | exact am_pi_mono fun _ _ => am_g_mono (hR _ _)
    | exact am_pl_mono fun _ _ => am_g_mono (hR _ _)
    | exact am_pr_mono fun _ _ => am_g_mono (hR _ _)
    | exact am_g_mono (hR _ _)
    | exact am_p1_mono fun _ _ => hP _ _ _ _
    | exact am_p1_mono fun _ _ => am_p1_mono fun _ _ => hP _ _ _ _
    | exact am_pi_mono fun _ _ => am_pi_mono fun _ _ => am_g_mono (hP _ _ _ _)
    | exact am_pl_mono fun _ _ => am_pl_mono fun _ _ => am_g_mono (hP _ _ _ _)
    | exact am_pi_mono fun _ _ => am_pl_mono fun _ _ => hP _ _ _ _
    | exact am_pi_mono fun _ _ => am_pr_mono fun _ _ => am_g_mono (am_imp_mono (hP _ _ _ _))
    | exact am_pi_mono fun _ _ => am_pr_mono fun _ _ => am_g_mono (am_imp_mono (am_ob_mono fun _ => hP _ _ _ _))
    | exact am_pi_mono fun _ _ => am_pi_mono fun _ _ => am_pr_mono fun _ _ => am_g_mono (am_imp_mono (hP _ _ _ _))
    | exact am_pl_mono fun _ _ => am_pi_mono fun _ _ => am_pr_mono fun _ _ => am_g_mono (am_imp_mono (hP _ _ _ _))
    | exact am_pr_mono fun _ _ => am_pi_mono fun _ _ => am_pr_mono fun _ _ => am_g_mono (am_imp_mono (hP _ _ _ _))
    | exact am_pr_mono fun _ _ => am_g_mono (am_cond_mono (am_ob_mono fun _ => hP _ _ _ _) (hP _ _ _ _))
    | exact am_cond_mono (am_pr_mono fun _ _ => am_pr_mono fun _ _ => am_g_mono (hP _ _ _ _)) (am_pi_mono fun _ _ => am_pr_mono fun _ _ => am_g_mono (hP _ _ _ _))
    | exact am_g_mono (am_imp_mono (hP _ _ _ _))
    | exact am_pi_mono fun _ _ => am_g_mono (am_imp_mono (hP _ _ _ _))
    | exact am_pi_mono fun _ _ => am_pi_mono fun _ _ => am_g_mono (am_imp_mono (am_imp_mono (hP _ _ _ _)))
theorem am_F_mono {mt : Nat → Nat × Nat × Nat × Nat × Nat} {C C' : am_C} {T : am_T} {zm sm : Nat} {Rt Rt' : Option Value → am_M → Prop} {P P' : am_K} (hC : am_CM C C') (hR : ∀ v M, Rt v M → Rt' v M) (hP : ∀ pc L st M, P pc L st M → P' pc L st M) {pc : Nat} {L : am_L} {st : List Value} {M : am_M} : am_F mt C T zm sm Rt P pc L st M → am_F mt C' T zm sm Rt' P' pc L st M := by
  unfold am_F
  split
  · exact am_one_mono hC hR hP
  · exact id
theorem am_WP_mono {mt : Nat → Nat × Nat × Nat × Nat × Nat} {C C' : am_C} {T : am_T} {zm sm : Nat} {Rt Rt' : Option Value → am_M → Prop} (hC : am_CM C C') (hR : ∀ v M, Rt v M → Rt' v M) {pc : Nat} {L : am_L} {st : List Value} {M : am_M} (h : am_WP mt C T zm sm Rt pc L st M) : am_WP mt C' T zm sm Rt' pc L st M := by
  intro X hX
  exact h X fun pc L st M q => hX _ _ _ _ (am_F_mono hC hR (fun _ _ _ _ => id) q)
section AW
variable {mt : Nat → Nat × Nat × Nat × Nat × Nat} {C : am_C} {T : am_T} {zm sm : Nat} {Rt : Option Value → am_M → Prop}
theorem am_WP_fold (hC : am_CM C C) {pc : Nat} {L : am_L} {st : List Value} {M : am_M} (h : am_F mt C T zm sm Rt (am_WP mt C T zm sm Rt) pc L st M) : am_WP mt C T zm sm Rt pc L st M := by
  intro X hX
  exact hX _ _ _ _ (am_F_mono hC (fun _ _ => id) (fun _ _ _ _ q => q X hX) h)
theorem am_WP_blk (hC : am_CM C C) (cuts : List Nat) : ∀ (n : Nat) {pc : Nat} {L : am_L} {st : List Value} {M : am_M}, am_blk mt C T zm sm Rt cuts (am_WP mt C T zm sm Rt) n pc L st M → am_WP mt C T zm sm Rt pc L st M
  | 0, _, _, _, _, h => h
  | n + 1, pc, L, st, M, h => by
    unfold am_blk at h
    cases hc : cuts.any (Nat.beq pc) with
    | true => rw [hc] at h; exact h
    | false =>
      rw [hc] at h
      exact am_WP_fold hC (am_F_mono hC (fun _ _ => id) (fun _ _ _ _ q => am_WP_blk hC cuts n q) h)
/-- from a place on: one instruction, then to the next cut -/
theorem am_go (hC : am_CM C C) (cuts : List Nat) (n : Nat) {pc : Nat} {L : am_L} {st : List Value} {M : am_M} (h : am_F mt C T zm sm Rt (am_blk mt C T zm sm Rt cuts (am_WP mt C T zm sm Rt) n) pc L st M) : am_WP mt C T zm sm Rt pc L st M := am_WP_fold hC (am_F_mono hC (fun _ _ => id) (fun _ _ _ _ q => am_WP_blk hC cuts n q) h)
end AW
end
section
/-! LINKS: what the tables say of each instruction that links, and the check of the methods' tables against their bytes -/
def cl_R (o : Nat) : String := match o with
  | 0 => RX0
  | 1 => RX1
  | 2 => RX2
  | 3 => RX3
  | 4 => RX5
  | 5 => RX6
  | 6 => RX7
  | 7 => RX8
  | 8 => RX9
  | 9 => RX10
  | 10 => RX4
  | 11 => RL
  | 12 => RJ6
  | 13 => RJ9
  | 14 => RJ7
  | _ => ""
def cl_T (o : Nat) : u_T := match o with
  | 0 => TX0
  | 1 => TX1
  | 2 => TX2
  | 3 => TX3
  | 4 => TX5
  | 5 => TX6
  | 6 => TX7
  | 7 => TX8
  | 8 => TX9
  | 9 => TX10
  | _ => TX4
def cl_Y (o : Nat) : Nat → FieldType := match o with
  | 0 => tyX0
  | 1 => tyX1
  | 2 => tyX2
  | 3 => tyX3
  | 4 => tyX5
  | 5 => tyX6
  | 6 => tyX7
  | 7 => tyX8
  | 8 => tyX9
  | 9 => tyX10
  | _ => tyX4
def cl_N (o : Nat) : Nat := match o with
  | 0 => 9
  | 1 => 2
  | 2 => 6
  | 3 => 3
  | 4 => 4
  | 5 => 3
  | 6 => 3
  | 7 => 8
  | 8 => 11
  | 9 => 37
  | _ => 0
def ml_o (k : Nat) : Nat := (cond (Nat.ble k 128) (cond (Nat.ble k 63) (cond (Nat.ble k 31) (cond (Nat.ble k 15) (cond (Nat.ble k 7) (cond (Nat.ble k 3) (cond (Nat.ble k 1) (cond (Nat.ble k 0) 0 0) (cond (Nat.ble k 2) 0 0)) (cond (Nat.ble k 5) (cond (Nat.ble k 4) 0 0) (cond (Nat.ble k 6) 0 0))) (cond (Nat.ble k 11) (cond (Nat.ble k 9) (cond (Nat.ble k 8) 0 0) (cond (Nat.ble k 10) 0 0)) (cond (Nat.ble k 13) (cond (Nat.ble k 12) 1 1) (cond (Nat.ble k 14) 1 1)))) (cond (Nat.ble k 23) (cond (Nat.ble k 19) (cond (Nat.ble k 17) (cond (Nat.ble k 16) 1 2) (cond (Nat.ble k 18) 2 2)) (cond (Nat.ble k 21) (cond (Nat.ble k 20) 2 2) (cond (Nat.ble k 22) 2 2))) (cond (Nat.ble k 27) (cond (Nat.ble k 25) (cond (Nat.ble k 24) 2 2) (cond (Nat.ble k 26) 2 2)) (cond (Nat.ble k 29) (cond (Nat.ble k 28) 2 2) (cond (Nat.ble k 30) 2 2))))) (cond (Nat.ble k 47) (cond (Nat.ble k 39) (cond (Nat.ble k 35) (cond (Nat.ble k 33) (cond (Nat.ble k 32) 2 2) (cond (Nat.ble k 34) 2 2)) (cond (Nat.ble k 37) (cond (Nat.ble k 36) 2 2) (cond (Nat.ble k 38) 3 3))) (cond (Nat.ble k 43) (cond (Nat.ble k 41) (cond (Nat.ble k 40) 3 3) (cond (Nat.ble k 42) 3 10)) (cond (Nat.ble k 45) (cond (Nat.ble k 44) 10 10) (cond (Nat.ble k 46) 10 10)))) (cond (Nat.ble k 55) (cond (Nat.ble k 51) (cond (Nat.ble k 49) (cond (Nat.ble k 48) 10 10) (cond (Nat.ble k 50) 10 10)) (cond (Nat.ble k 53) (cond (Nat.ble k 52) 10 10) (cond (Nat.ble k 54) 10 10))) (cond (Nat.ble k 59) (cond (Nat.ble k 57) (cond (Nat.ble k 56) 10 10) (cond (Nat.ble k 58) 10 4)) (cond (Nat.ble k 61) (cond (Nat.ble k 60) 4 4) (cond (Nat.ble k 62) 4 4)))))) (cond (Nat.ble k 95) (cond (Nat.ble k 79) (cond (Nat.ble k 71) (cond (Nat.ble k 67) (cond (Nat.ble k 65) (cond (Nat.ble k 64) 4 4) (cond (Nat.ble k 66) 4 4)) (cond (Nat.ble k 69) (cond (Nat.ble k 68) 4 5) (cond (Nat.ble k 70) 5 5))) (cond (Nat.ble k 75) (cond (Nat.ble k 73) (cond (Nat.ble k 72) 5 5) (cond (Nat.ble k 74) 5 5)) (cond (Nat.ble k 77) (cond (Nat.ble k 76) 5 5) (cond (Nat.ble k 78) 6 6)))) (cond (Nat.ble k 87) (cond (Nat.ble k 83) (cond (Nat.ble k 81) (cond (Nat.ble k 80) 7 7) (cond (Nat.ble k 82) 7 7)) (cond (Nat.ble k 85) (cond (Nat.ble k 84) 7 7) (cond (Nat.ble k 86) 7 7))) (cond (Nat.ble k 91) (cond (Nat.ble k 89) (cond (Nat.ble k 88) 7 7) (cond (Nat.ble k 90) 7 7)) (cond (Nat.ble k 93) (cond (Nat.ble k 92) 7 7) (cond (Nat.ble k 94) 7 7))))) (cond (Nat.ble k 111) (cond (Nat.ble k 103) (cond (Nat.ble k 99) (cond (Nat.ble k 97) (cond (Nat.ble k 96) 7 7) (cond (Nat.ble k 98) 7 7)) (cond (Nat.ble k 101) (cond (Nat.ble k 100) 7 7) (cond (Nat.ble k 102) 7 8))) (cond (Nat.ble k 107) (cond (Nat.ble k 105) (cond (Nat.ble k 104) 8 8) (cond (Nat.ble k 106) 8 8)) (cond (Nat.ble k 109) (cond (Nat.ble k 108) 8 8) (cond (Nat.ble k 110) 8 8)))) (cond (Nat.ble k 119) (cond (Nat.ble k 115) (cond (Nat.ble k 113) (cond (Nat.ble k 112) 8 8) (cond (Nat.ble k 114) 8 8)) (cond (Nat.ble k 117) (cond (Nat.ble k 116) 8 8) (cond (Nat.ble k 118) 8 8))) (cond (Nat.ble k 123) (cond (Nat.ble k 121) (cond (Nat.ble k 120) 8 8) (cond (Nat.ble k 122) 8 8)) (cond (Nat.ble k 125) (cond (Nat.ble k 124) 8 8) (cond (Nat.ble k 126) 8 (cond (Nat.ble k 127) 8 8)))))))) (cond (Nat.ble k 193) (cond (Nat.ble k 160) (cond (Nat.ble k 144) (cond (Nat.ble k 136) (cond (Nat.ble k 132) (cond (Nat.ble k 130) (cond (Nat.ble k 129) 8 8) (cond (Nat.ble k 131) 8 8)) (cond (Nat.ble k 134) (cond (Nat.ble k 133) 8 8) (cond (Nat.ble k 135) 8 8))) (cond (Nat.ble k 140) (cond (Nat.ble k 138) (cond (Nat.ble k 137) 8 8) (cond (Nat.ble k 139) 8 8)) (cond (Nat.ble k 142) (cond (Nat.ble k 141) 8 8) (cond (Nat.ble k 143) 8 8)))) (cond (Nat.ble k 152) (cond (Nat.ble k 148) (cond (Nat.ble k 146) (cond (Nat.ble k 145) 9 9) (cond (Nat.ble k 147) 9 9)) (cond (Nat.ble k 150) (cond (Nat.ble k 149) 9 9) (cond (Nat.ble k 151) 9 9))) (cond (Nat.ble k 156) (cond (Nat.ble k 154) (cond (Nat.ble k 153) 9 9) (cond (Nat.ble k 155) 9 9)) (cond (Nat.ble k 158) (cond (Nat.ble k 157) 9 9) (cond (Nat.ble k 159) 9 9))))) (cond (Nat.ble k 176) (cond (Nat.ble k 168) (cond (Nat.ble k 164) (cond (Nat.ble k 162) (cond (Nat.ble k 161) 9 9) (cond (Nat.ble k 163) 9 9)) (cond (Nat.ble k 166) (cond (Nat.ble k 165) 9 9) (cond (Nat.ble k 167) 9 9))) (cond (Nat.ble k 172) (cond (Nat.ble k 170) (cond (Nat.ble k 169) 9 9) (cond (Nat.ble k 171) 9 9)) (cond (Nat.ble k 174) (cond (Nat.ble k 173) 9 9) (cond (Nat.ble k 175) 9 9)))) (cond (Nat.ble k 184) (cond (Nat.ble k 180) (cond (Nat.ble k 178) (cond (Nat.ble k 177) 9 9) (cond (Nat.ble k 179) 9 9)) (cond (Nat.ble k 182) (cond (Nat.ble k 181) 9 9) (cond (Nat.ble k 183) 9 9))) (cond (Nat.ble k 188) (cond (Nat.ble k 186) (cond (Nat.ble k 185) 9 9) (cond (Nat.ble k 187) 9 9)) (cond (Nat.ble k 190) (cond (Nat.ble k 189) 9 9) (cond (Nat.ble k 191) 9 (cond (Nat.ble k 192) 9 9))))))) (cond (Nat.ble k 225) (cond (Nat.ble k 209) (cond (Nat.ble k 201) (cond (Nat.ble k 197) (cond (Nat.ble k 195) (cond (Nat.ble k 194) 9 9) (cond (Nat.ble k 196) 9 9)) (cond (Nat.ble k 199) (cond (Nat.ble k 198) 9 9) (cond (Nat.ble k 200) 9 9))) (cond (Nat.ble k 205) (cond (Nat.ble k 203) (cond (Nat.ble k 202) 9 9) (cond (Nat.ble k 204) 9 9)) (cond (Nat.ble k 207) (cond (Nat.ble k 206) 9 9) (cond (Nat.ble k 208) 9 9)))) (cond (Nat.ble k 217) (cond (Nat.ble k 213) (cond (Nat.ble k 211) (cond (Nat.ble k 210) 9 9) (cond (Nat.ble k 212) 9 9)) (cond (Nat.ble k 215) (cond (Nat.ble k 214) 9 9) (cond (Nat.ble k 216) 9 9))) (cond (Nat.ble k 221) (cond (Nat.ble k 219) (cond (Nat.ble k 218) 9 9) (cond (Nat.ble k 220) 9 9)) (cond (Nat.ble k 223) (cond (Nat.ble k 222) 9 9) (cond (Nat.ble k 224) 9 9))))) (cond (Nat.ble k 241) (cond (Nat.ble k 233) (cond (Nat.ble k 229) (cond (Nat.ble k 227) (cond (Nat.ble k 226) 9 9) (cond (Nat.ble k 228) 9 9)) (cond (Nat.ble k 231) (cond (Nat.ble k 230) 9 9) (cond (Nat.ble k 232) 9 9))) (cond (Nat.ble k 237) (cond (Nat.ble k 235) (cond (Nat.ble k 234) 9 9) (cond (Nat.ble k 236) 9 9)) (cond (Nat.ble k 239) (cond (Nat.ble k 238) 9 9) (cond (Nat.ble k 240) 9 9)))) (cond (Nat.ble k 249) (cond (Nat.ble k 245) (cond (Nat.ble k 243) (cond (Nat.ble k 242) 9 9) (cond (Nat.ble k 244) 9 9)) (cond (Nat.ble k 247) (cond (Nat.ble k 246) 9 9) (cond (Nat.ble k 248) 9 9))) (cond (Nat.ble k 253) (cond (Nat.ble k 251) (cond (Nat.ble k 250) 9 9) (cond (Nat.ble k 252) 9 9)) (cond (Nat.ble k 255) (cond (Nat.ble k 254) 12 13) (cond (Nat.ble k 256) 14 (cond (Nat.ble k 257) 14 11)))))))))
def ml_y (k : Nat) : MethodName := (cond (Nat.ble k 128) (cond (Nat.ble k 63) (cond (Nat.ble k 31) (cond (Nat.ble k 15) (cond (Nat.ble k 7) (cond (Nat.ble k 3) (cond (Nat.ble k 1) (cond (Nat.ble k 0) yX0_init yX0_begin) (cond (Nat.ble k 2) yX0_include yX0_contains)) (cond (Nat.ble k 5) (cond (Nat.ble k 4) yX0_orderFrom yX0_findLowest) (cond (Nat.ble k 6) yX0_lowestSource yX0_isReached))) (cond (Nat.ble k 11) (cond (Nat.ble k 9) (cond (Nat.ble k 8) yX0_back yX0_admit) (cond (Nat.ble k 10) yX0_settle yX0_reach)) (cond (Nat.ble k 13) (cond (Nat.ble k 12) yX1_init yX1_write) (cond (Nat.ble k 14) yX1_writeCycle yX1_append)))) (cond (Nat.ble k 23) (cond (Nat.ble k 19) (cond (Nat.ble k 17) (cond (Nat.ble k 16) yX1_letterAt yX2_init) (cond (Nat.ble k 18) yX2_fillBasis yX2_fillWordsOfWeight)) (cond (Nat.ble k 21) (cond (Nat.ble k 20) yX2_fillLeaders yX2_place) (cond (Nat.ble k 22) yX2_rest yX2_wordOf))) (cond (Nat.ble k 27) (cond (Nat.ble k 25) (cond (Nat.ble k 24) yX2_isWord yX2_numberOf) (cond (Nat.ble k 26) yX2_distance yX2_lowestNearest)) (cond (Nat.ble k 29) (cond (Nat.ble k 28) yX2_octadsInside yX2_octadsAround) (cond (Nat.ble k 30) yX2_octadsMeeting yX2_octadsFixedBy))))) (cond (Nat.ble k 47) (cond (Nat.ble k 39) (cond (Nat.ble k 35) (cond (Nat.ble k 33) (cond (Nat.ble k 32) yX2_isPreservedBy yX2_octadWith) (cond (Nat.ble k 34) yX2_tetradWith yX2_tetrad)) (cond (Nat.ble k 37) (cond (Nat.ble k 36) yX2_isUnionOfTetrads yX2_sharedOctads) (cond (Nat.ble k 38) yX3_init yX3_keep))) (cond (Nat.ble k 43) (cond (Nat.ble k 41) (cond (Nat.ble k 40) yX3_forgetOldest yX3_takeBack) (cond (Nat.ble k 42) yX3_become yX4_fillNamed)) (cond (Nat.ble k 45) (cond (Nat.ble k 44) yX4_to yX4_makeSame) (cond (Nat.ble k 46) yX4_assign yX4_follow)))) (cond (Nat.ble k 55) (cond (Nat.ble k 51) (cond (Nat.ble k 49) (cond (Nat.ble k 48) yX4_combine yX4_invert) (cond (Nat.ble k 50) yX4_sourceOf yX4_imageOf)) (cond (Nat.ble k 53) (cond (Nat.ble k 52) yX4_differences yX4_fixedPoints) (cond (Nat.ble k 54) yX4_cycleLength yX4_isLowestInCycle))) (cond (Nat.ble k 59) (cond (Nat.ble k 57) (cond (Nat.ble k 56) yX4_cycleCount yX4_order) (cond (Nat.ble k 58) yX4_commonMultiple yX5_init)) (cond (Nat.ble k 61) (cond (Nat.ble k 60) yX5_begin yX5_joinBy) (cond (Nat.ble k 62) yX5_fillGoals yX5_goalOf)))))) (cond (Nat.ble k 95) (cond (Nat.ble k 79) (cond (Nat.ble k 71) (cond (Nat.ble k 67) (cond (Nat.ble k 65) (cond (Nat.ble k 64) yX5_join yX5_root) (cond (Nat.ble k 66) yX5_number yX5_numberOfWeight)) (cond (Nat.ble k 69) (cond (Nat.ble k 68) yX5_sizeOf yX6_init) (cond (Nat.ble k 70) yX6_create yX6_remove))) (cond (Nat.ble k 75) (cond (Nat.ble k 73) (cond (Nat.ble k 72) yX6_fault yX6_isInside) (cond (Nat.ble k 74) yX6_put yX6_holdPoints)) (cond (Nat.ble k 77) (cond (Nat.ble k 76) yX6_pointAt yX6_transfer) (cond (Nat.ble k 78) yX7_init yX7_become)))) (cond (Nat.ble k 87) (cond (Nat.ble k 83) (cond (Nat.ble k 81) (cond (Nat.ble k 80) yX8_init yX8_append) (cond (Nat.ble k 82) yX8_clear yX8_faultPosition)) (cond (Nat.ble k 85) (cond (Nat.ble k 84) yX8_value yX8_evaluate) (cond (Nat.ble k 86) yX8_isProduct yX8_isFactor))) (cond (Nat.ble k 91) (cond (Nat.ble k 89) (cond (Nat.ble k 88) yX8_isPlainFactor yX8_isBracket) (cond (Nat.ble k 90) yX8_isCycle yX8_isName)) (cond (Nat.ble k 93) (cond (Nat.ble k 92) yX8_nameUpTo yX8_nameOf) (cond (Nat.ble k 94) yX8_isWritten yX8_acceptPoint))))) (cond (Nat.ble k 111) (cond (Nat.ble k 103) (cond (Nat.ble k 99) (cond (Nat.ble k 97) (cond (Nat.ble k 96) yX8_acceptPower yX8_numberUpTo) (cond (Nat.ble k 98) yX8_raise yX8_accept)) (cond (Nat.ble k 101) (cond (Nat.ble k 100) yX8_isNext yX8_isAtEnd) (cond (Nat.ble k 102) yX8_endOfRun yX9_init))) (cond (Nat.ble k 107) (cond (Nat.ble k 105) (cond (Nat.ble k 104) yX9_word yX9_block) (cond (Nat.ble k 106) yX9_complete yX9_sextet)) (cond (Nat.ble k 109) (cond (Nat.ble k 108) yX9_both yX9_met) (cond (Nat.ble k 110) yX9_move yX9_told)))) (cond (Nat.ble k 119) (cond (Nat.ble k 115) (cond (Nat.ble k 113) (cond (Nat.ble k 112) yX9_letter yX9_sent) (cond (Nat.ble k 114) yX9_type yX9_read)) (cond (Nat.ble k 117) (cond (Nat.ble k 116) yX9_group yX9_held) (cond (Nat.ble k 118) yX9_holds yX9_choose))) (cond (Nat.ble k 123) (cond (Nat.ble k 121) (cond (Nat.ble k 120) yX9_hexad yX9_turn) (cond (Nat.ble k 122) yX9_pair yX9_drift)) (cond (Nat.ble k 125) (cond (Nat.ble k 124) yX9_undo yX9_seed) (cond (Nat.ble k 126) yX9_count (cond (Nat.ble k 127) yX9_image yX9_restore)))))))) (cond (Nat.ble k 193) (cond (Nat.ble k 160) (cond (Nat.ble k 144) (cond (Nat.ble k 136) (cond (Nat.ble k 132) (cond (Nat.ble k 130) (cond (Nat.ble k 129) yX9_retrace yX9_film) (cond (Nat.ble k 131) yX9_sheet yX9_drop)) (cond (Nat.ble k 134) (cond (Nat.ble k 133) yX9_item yX9_copy) (cond (Nat.ble k 135) yX9_isOutside yX9_isNoSet))) (cond (Nat.ble k 140) (cond (Nat.ble k 138) (cond (Nat.ble k 137) yX9_isNoLane yX9_whereChosenGoes) (cond (Nat.ble k 139) yX9_preservingMoves yX9_preserveCode)) (cond (Nat.ble k 142) (cond (Nat.ble k 141) yX9_buildChain yX9_findOrbits) (cond (Nat.ble k 143) yX9_reachedFrom yX9_turnAtRandom)))) (cond (Nat.ble k 152) (cond (Nat.ble k 148) (cond (Nat.ble k 146) (cond (Nat.ble k 145) yX10_in yX10_init) (cond (Nat.ble k 147) yX10_has yX10_bits)) (cond (Nat.ble k 150) (cond (Nat.ble k 149) yX10_lowest yX10_isSet) (cond (Nat.ble k 151) yX10_isPlace yX10_named))) (cond (Nat.ble k 156) (cond (Nat.ble k 154) (cond (Nat.ble k 153) yX10_overOf yX10_basic) (cond (Nat.ble k 155) yX10_highest yX10_comes)) (cond (Nat.ble k 158) (cond (Nat.ble k 157) yX10_numberOf yX10_wordOf) (cond (Nat.ble k 159) yX10_closest yX10_octadsIn))))) (cond (Nat.ble k 176) (cond (Nat.ble k 168) (cond (Nat.ble k 164) (cond (Nat.ble k 162) (cond (Nat.ble k 161) yX10_octadsWith yX10_word) (cond (Nat.ble k 163) yX10_dodecad yX10_block)) (cond (Nat.ble k 166) (cond (Nat.ble k 165) yX10_octadOf yX10_complete) (cond (Nat.ble k 167) yX10_tetradAt yX10_sextet))) (cond (Nat.ble k 172) (cond (Nat.ble k 170) (cond (Nat.ble k 169) yX10_isOfTwo yX10_both) (cond (Nat.ble k 171) yX10_met yX10_isMove)) (cond (Nat.ble k 174) (cond (Nat.ble k 173) yX10_to yX10_move) (cond (Nat.ble k 175) yX10_goes yX10_sent)))) (cond (Nat.ble k 184) (cond (Nat.ble k 180) (cond (Nat.ble k 178) (cond (Nat.ble k 177) yX10_keeps yX10_ring) (cond (Nat.ble k 179) yX10_isLeast yX10_rings)) (cond (Nat.ble k 182) (cond (Nat.ble k 181) yX10_orderOf yX10_stays) (cond (Nat.ble k 183) yX10_octadsKept yX10_puts))) (cond (Nat.ble k 188) (cond (Nat.ble k 186) (cond (Nat.ble k 185) yX10_putsRing yX10_texts) (cond (Nat.ble k 187) yX10_told yX10_letter)) (cond (Nat.ble k 190) (cond (Nat.ble k 189) yX10_type yX10_here) (cond (Nat.ble k 191) yX10_isFigure (cond (Nat.ble k 192) yX10_isLow yX10_row))))))) (cond (Nat.ble k 225) (cond (Nat.ble k 209) (cond (Nat.ble k 201) (cond (Nat.ble k 197) (cond (Nat.ble k 195) (cond (Nat.ble k 194) yX10_number yX10_isName) (cond (Nat.ble k 196) yX10_nameOf yX10_readsName)) (cond (Nat.ble k 199) (cond (Nat.ble k 198) yX10_readsRing yX10_turnsBack) (cond (Nat.ble k 200) yX10_readsOften yX10_begins))) (cond (Nat.ble k 205) (cond (Nat.ble k 203) (cond (Nat.ble k 202) yX10_closes yX10_readsFactor) (cond (Nat.ble k 204) yX10_isText yX10_read)) (cond (Nat.ble k 207) (cond (Nat.ble k 206) yX10_takesBack yX10_sifts) (cond (Nat.ble k 208) yX10_adds yX10_tries)))) (cond (Nat.ble k 217) (cond (Nat.ble k 213) (cond (Nat.ble k 211) (cond (Nat.ble k 210) yX10_bases yX10_stands) (cond (Nat.ble k 212) yX10_builds yX10_manyFrom)) (cond (Nat.ble k 215) (cond (Nat.ble k 214) yX10_isGroup yX10_allKeep) (cond (Nat.ble k 216) yX10_reaches yX10_orbitsOfPlaces))) (cond (Nat.ble k 221) (cond (Nat.ble k 219) (cond (Nat.ble k 218) yX10_imagesOf yX10_imageOf) (cond (Nat.ble k 220) yX10_spreads yX10_unmarks)) (cond (Nat.ble k 223) (cond (Nat.ble k 222) yX10_orbitsOfWords yX10_rankOf) (cond (Nat.ble k 224) yX10_fourBy yX10_spreadsFours))))) (cond (Nat.ble k 241) (cond (Nat.ble k 233) (cond (Nat.ble k 229) (cond (Nat.ble k 227) (cond (Nat.ble k 226) yX10_orbitsOfSextets yX10_group) (cond (Nat.ble k 228) yX10_held yX10_holds)) (cond (Nat.ble k 231) (cond (Nat.ble k 230) yX10_choose yX10_hexad) (cond (Nat.ble k 232) yX10_turn yX10_pair))) (cond (Nat.ble k 237) (cond (Nat.ble k 235) (cond (Nat.ble k 234) yX10_notes yX10_undo) (cond (Nat.ble k 236) yX10_doubles yX10_drift)) (cond (Nat.ble k 239) (cond (Nat.ble k 238) yX10_seed yX10_count) (cond (Nat.ble k 240) yX10_image yX10_restore)))) (cond (Nat.ble k 249) (cond (Nat.ble k 245) (cond (Nat.ble k 243) (cond (Nat.ble k 242) yX10_isSheet yX10_cut) (cond (Nat.ble k 244) yX10_sheet yX10_drop)) (cond (Nat.ble k 247) (cond (Nat.ble k 246) yX10_why yX10_item) (cond (Nat.ble k 248) yX10_copy yX10_film))) (cond (Nat.ble k 253) (cond (Nat.ble k 251) (cond (Nat.ble k 250) yX10_wants yX10_sends) (cond (Nat.ble k 252) yX10_finds yX10_retrace)) (cond (Nat.ble k 255) (cond (Nat.ble k 254) yJ6_bitCount_0f7a4 yJ9_floorMod_7cf53) (cond (Nat.ble k 256) yJ7_fill_d0a16 (cond (Nat.ble k 257) yJ7_fill_53178 x)))))))))
def ml_b (k : Nat) : ByteArray := (cond (Nat.ble k 128) (cond (Nat.ble k 63) (cond (Nat.ble k 31) (cond (Nat.ble k 15) (cond (Nat.ble k 7) (cond (Nat.ble k 3) (cond (Nat.ble k 1) (cond (Nat.ble k 0) cX0_init cX0_begin) (cond (Nat.ble k 2) cX0_include cX0_contains)) (cond (Nat.ble k 5) (cond (Nat.ble k 4) cX0_orderFrom cX0_findLowest) (cond (Nat.ble k 6) cX0_lowestSource cX0_isReached))) (cond (Nat.ble k 11) (cond (Nat.ble k 9) (cond (Nat.ble k 8) cX0_back cX0_admit) (cond (Nat.ble k 10) cX0_settle cX0_reach)) (cond (Nat.ble k 13) (cond (Nat.ble k 12) cX1_init cX1_write) (cond (Nat.ble k 14) cX1_writeCycle cX1_append)))) (cond (Nat.ble k 23) (cond (Nat.ble k 19) (cond (Nat.ble k 17) (cond (Nat.ble k 16) cX1_letterAt cX2_init) (cond (Nat.ble k 18) cX2_fillBasis cX2_fillWordsOfWeight)) (cond (Nat.ble k 21) (cond (Nat.ble k 20) cX2_fillLeaders cX2_place) (cond (Nat.ble k 22) cX2_rest cX2_wordOf))) (cond (Nat.ble k 27) (cond (Nat.ble k 25) (cond (Nat.ble k 24) cX2_isWord cX2_numberOf) (cond (Nat.ble k 26) cX2_distance cX2_lowestNearest)) (cond (Nat.ble k 29) (cond (Nat.ble k 28) cX2_octadsInside cX2_octadsAround) (cond (Nat.ble k 30) cX2_octadsMeeting cX2_octadsFixedBy))))) (cond (Nat.ble k 47) (cond (Nat.ble k 39) (cond (Nat.ble k 35) (cond (Nat.ble k 33) (cond (Nat.ble k 32) cX2_isPreservedBy cX2_octadWith) (cond (Nat.ble k 34) cX2_tetradWith cX2_tetrad)) (cond (Nat.ble k 37) (cond (Nat.ble k 36) cX2_isUnionOfTetrads cX2_sharedOctads) (cond (Nat.ble k 38) cX3_init cX3_keep))) (cond (Nat.ble k 43) (cond (Nat.ble k 41) (cond (Nat.ble k 40) cX3_forgetOldest cX3_takeBack) (cond (Nat.ble k 42) cX3_become cX4_fillNamed)) (cond (Nat.ble k 45) (cond (Nat.ble k 44) cX4_to cX4_makeSame) (cond (Nat.ble k 46) cX4_assign cX4_follow)))) (cond (Nat.ble k 55) (cond (Nat.ble k 51) (cond (Nat.ble k 49) (cond (Nat.ble k 48) cX4_combine cX4_invert) (cond (Nat.ble k 50) cX4_sourceOf cX4_imageOf)) (cond (Nat.ble k 53) (cond (Nat.ble k 52) cX4_differences cX4_fixedPoints) (cond (Nat.ble k 54) cX4_cycleLength cX4_isLowestInCycle))) (cond (Nat.ble k 59) (cond (Nat.ble k 57) (cond (Nat.ble k 56) cX4_cycleCount cX4_order) (cond (Nat.ble k 58) cX4_commonMultiple cX5_init)) (cond (Nat.ble k 61) (cond (Nat.ble k 60) cX5_begin cX5_joinBy) (cond (Nat.ble k 62) cX5_fillGoals cX5_goalOf)))))) (cond (Nat.ble k 95) (cond (Nat.ble k 79) (cond (Nat.ble k 71) (cond (Nat.ble k 67) (cond (Nat.ble k 65) (cond (Nat.ble k 64) cX5_join cX5_root) (cond (Nat.ble k 66) cX5_number cX5_numberOfWeight)) (cond (Nat.ble k 69) (cond (Nat.ble k 68) cX5_sizeOf cX6_init) (cond (Nat.ble k 70) cX6_create cX6_remove))) (cond (Nat.ble k 75) (cond (Nat.ble k 73) (cond (Nat.ble k 72) cX6_fault cX6_isInside) (cond (Nat.ble k 74) cX6_put cX6_holdPoints)) (cond (Nat.ble k 77) (cond (Nat.ble k 76) cX6_pointAt cX6_transfer) (cond (Nat.ble k 78) cX7_init cX7_become)))) (cond (Nat.ble k 87) (cond (Nat.ble k 83) (cond (Nat.ble k 81) (cond (Nat.ble k 80) cX8_init cX8_append) (cond (Nat.ble k 82) cX8_clear cX8_faultPosition)) (cond (Nat.ble k 85) (cond (Nat.ble k 84) cX8_value cX8_evaluate) (cond (Nat.ble k 86) cX8_isProduct cX8_isFactor))) (cond (Nat.ble k 91) (cond (Nat.ble k 89) (cond (Nat.ble k 88) cX8_isPlainFactor cX8_isBracket) (cond (Nat.ble k 90) cX8_isCycle cX8_isName)) (cond (Nat.ble k 93) (cond (Nat.ble k 92) cX8_nameUpTo cX8_nameOf) (cond (Nat.ble k 94) cX8_isWritten cX8_acceptPoint))))) (cond (Nat.ble k 111) (cond (Nat.ble k 103) (cond (Nat.ble k 99) (cond (Nat.ble k 97) (cond (Nat.ble k 96) cX8_acceptPower cX8_numberUpTo) (cond (Nat.ble k 98) cX8_raise cX8_accept)) (cond (Nat.ble k 101) (cond (Nat.ble k 100) cX8_isNext cX8_isAtEnd) (cond (Nat.ble k 102) cX8_endOfRun cX9_init))) (cond (Nat.ble k 107) (cond (Nat.ble k 105) (cond (Nat.ble k 104) cX9_word cX9_block) (cond (Nat.ble k 106) cX9_complete cX9_sextet)) (cond (Nat.ble k 109) (cond (Nat.ble k 108) cX9_both cX9_met) (cond (Nat.ble k 110) cX9_move cX9_told)))) (cond (Nat.ble k 119) (cond (Nat.ble k 115) (cond (Nat.ble k 113) (cond (Nat.ble k 112) cX9_letter cX9_sent) (cond (Nat.ble k 114) cX9_type cX9_read)) (cond (Nat.ble k 117) (cond (Nat.ble k 116) cX9_group cX9_held) (cond (Nat.ble k 118) cX9_holds cX9_choose))) (cond (Nat.ble k 123) (cond (Nat.ble k 121) (cond (Nat.ble k 120) cX9_hexad cX9_turn) (cond (Nat.ble k 122) cX9_pair cX9_drift)) (cond (Nat.ble k 125) (cond (Nat.ble k 124) cX9_undo cX9_seed) (cond (Nat.ble k 126) cX9_count (cond (Nat.ble k 127) cX9_image cX9_restore)))))))) (cond (Nat.ble k 193) (cond (Nat.ble k 160) (cond (Nat.ble k 144) (cond (Nat.ble k 136) (cond (Nat.ble k 132) (cond (Nat.ble k 130) (cond (Nat.ble k 129) cX9_retrace cX9_film) (cond (Nat.ble k 131) cX9_sheet cX9_drop)) (cond (Nat.ble k 134) (cond (Nat.ble k 133) cX9_item cX9_copy) (cond (Nat.ble k 135) cX9_isOutside cX9_isNoSet))) (cond (Nat.ble k 140) (cond (Nat.ble k 138) (cond (Nat.ble k 137) cX9_isNoLane cX9_whereChosenGoes) (cond (Nat.ble k 139) cX9_preservingMoves cX9_preserveCode)) (cond (Nat.ble k 142) (cond (Nat.ble k 141) cX9_buildChain cX9_findOrbits) (cond (Nat.ble k 143) cX9_reachedFrom cX9_turnAtRandom)))) (cond (Nat.ble k 152) (cond (Nat.ble k 148) (cond (Nat.ble k 146) (cond (Nat.ble k 145) cX10_in cX10_init) (cond (Nat.ble k 147) cX10_has cX10_bits)) (cond (Nat.ble k 150) (cond (Nat.ble k 149) cX10_lowest cX10_isSet) (cond (Nat.ble k 151) cX10_isPlace cX10_named))) (cond (Nat.ble k 156) (cond (Nat.ble k 154) (cond (Nat.ble k 153) cX10_overOf cX10_basic) (cond (Nat.ble k 155) cX10_highest cX10_comes)) (cond (Nat.ble k 158) (cond (Nat.ble k 157) cX10_numberOf cX10_wordOf) (cond (Nat.ble k 159) cX10_closest cX10_octadsIn))))) (cond (Nat.ble k 176) (cond (Nat.ble k 168) (cond (Nat.ble k 164) (cond (Nat.ble k 162) (cond (Nat.ble k 161) cX10_octadsWith cX10_word) (cond (Nat.ble k 163) cX10_dodecad cX10_block)) (cond (Nat.ble k 166) (cond (Nat.ble k 165) cX10_octadOf cX10_complete) (cond (Nat.ble k 167) cX10_tetradAt cX10_sextet))) (cond (Nat.ble k 172) (cond (Nat.ble k 170) (cond (Nat.ble k 169) cX10_isOfTwo cX10_both) (cond (Nat.ble k 171) cX10_met cX10_isMove)) (cond (Nat.ble k 174) (cond (Nat.ble k 173) cX10_to cX10_move) (cond (Nat.ble k 175) cX10_goes cX10_sent)))) (cond (Nat.ble k 184) (cond (Nat.ble k 180) (cond (Nat.ble k 178) (cond (Nat.ble k 177) cX10_keeps cX10_ring) (cond (Nat.ble k 179) cX10_isLeast cX10_rings)) (cond (Nat.ble k 182) (cond (Nat.ble k 181) cX10_orderOf cX10_stays) (cond (Nat.ble k 183) cX10_octadsKept cX10_puts))) (cond (Nat.ble k 188) (cond (Nat.ble k 186) (cond (Nat.ble k 185) cX10_putsRing cX10_texts) (cond (Nat.ble k 187) cX10_told cX10_letter)) (cond (Nat.ble k 190) (cond (Nat.ble k 189) cX10_type cX10_here) (cond (Nat.ble k 191) cX10_isFigure (cond (Nat.ble k 192) cX10_isLow cX10_row))))))) (cond (Nat.ble k 225) (cond (Nat.ble k 209) (cond (Nat.ble k 201) (cond (Nat.ble k 197) (cond (Nat.ble k 195) (cond (Nat.ble k 194) cX10_number cX10_isName) (cond (Nat.ble k 196) cX10_nameOf cX10_readsName)) (cond (Nat.ble k 199) (cond (Nat.ble k 198) cX10_readsRing cX10_turnsBack) (cond (Nat.ble k 200) cX10_readsOften cX10_begins))) (cond (Nat.ble k 205) (cond (Nat.ble k 203) (cond (Nat.ble k 202) cX10_closes cX10_readsFactor) (cond (Nat.ble k 204) cX10_isText cX10_read)) (cond (Nat.ble k 207) (cond (Nat.ble k 206) cX10_takesBack cX10_sifts) (cond (Nat.ble k 208) cX10_adds cX10_tries)))) (cond (Nat.ble k 217) (cond (Nat.ble k 213) (cond (Nat.ble k 211) (cond (Nat.ble k 210) cX10_bases cX10_stands) (cond (Nat.ble k 212) cX10_builds cX10_manyFrom)) (cond (Nat.ble k 215) (cond (Nat.ble k 214) cX10_isGroup cX10_allKeep) (cond (Nat.ble k 216) cX10_reaches cX10_orbitsOfPlaces))) (cond (Nat.ble k 221) (cond (Nat.ble k 219) (cond (Nat.ble k 218) cX10_imagesOf cX10_imageOf) (cond (Nat.ble k 220) cX10_spreads cX10_unmarks)) (cond (Nat.ble k 223) (cond (Nat.ble k 222) cX10_orbitsOfWords cX10_rankOf) (cond (Nat.ble k 224) cX10_fourBy cX10_spreadsFours))))) (cond (Nat.ble k 241) (cond (Nat.ble k 233) (cond (Nat.ble k 229) (cond (Nat.ble k 227) (cond (Nat.ble k 226) cX10_orbitsOfSextets cX10_group) (cond (Nat.ble k 228) cX10_held cX10_holds)) (cond (Nat.ble k 231) (cond (Nat.ble k 230) cX10_choose cX10_hexad) (cond (Nat.ble k 232) cX10_turn cX10_pair))) (cond (Nat.ble k 237) (cond (Nat.ble k 235) (cond (Nat.ble k 234) cX10_notes cX10_undo) (cond (Nat.ble k 236) cX10_doubles cX10_drift)) (cond (Nat.ble k 239) (cond (Nat.ble k 238) cX10_seed cX10_count) (cond (Nat.ble k 240) cX10_image cX10_restore)))) (cond (Nat.ble k 249) (cond (Nat.ble k 245) (cond (Nat.ble k 243) (cond (Nat.ble k 242) cX10_isSheet cX10_cut) (cond (Nat.ble k 244) cX10_sheet cX10_drop)) (cond (Nat.ble k 247) (cond (Nat.ble k 246) cX10_why cX10_item) (cond (Nat.ble k 248) cX10_copy cX10_film))) (cond (Nat.ble k 253) (cond (Nat.ble k 251) (cond (Nat.ble k 250) cX10_wants cX10_sends) (cond (Nat.ble k 252) cX10_finds cX10_retrace)) (cond (Nat.ble k 255) (cond (Nat.ble k 254) cJ6_bitCount_0f7a4 cJ9_floorMod_7cf53) (cond (Nat.ble k 256) cJ7_fill_d0a16 (cond (Nat.ble k 257) cJ7_fill_53178 code)))))))))
def ml_r (k : Nat) : Option FieldType := (cond (Nat.ble k 128) (cond (Nat.ble k 63) (cond (Nat.ble k 31) (cond (Nat.ble k 15) (cond (Nat.ble k 7) (cond (Nat.ble k 3) (cond (Nat.ble k 1) (cond (Nat.ble k 0) none none) (cond (Nat.ble k 2) none (some .boolean))) (cond (Nat.ble k 5) (cond (Nat.ble k 4) (some .int) (some .boolean)) (cond (Nat.ble k 6) (some .int) (some .boolean)))) (cond (Nat.ble k 11) (cond (Nat.ble k 9) (cond (Nat.ble k 8) (some (.array .int)) none) (cond (Nat.ble k 10) none none)) (cond (Nat.ble k 13) (cond (Nat.ble k 12) none (some .int)) (cond (Nat.ble k 14) none none)))) (cond (Nat.ble k 23) (cond (Nat.ble k 19) (cond (Nat.ble k 17) (cond (Nat.ble k 16) (some .int) none) (cond (Nat.ble k 18) none none)) (cond (Nat.ble k 21) (cond (Nat.ble k 20) none (some .int)) (cond (Nat.ble k 22) (some .int) (some .int)))) (cond (Nat.ble k 27) (cond (Nat.ble k 25) (cond (Nat.ble k 24) (some .boolean) (some .int)) (cond (Nat.ble k 26) (some .int) (some .int))) (cond (Nat.ble k 29) (cond (Nat.ble k 28) (some .int) (some .int)) (cond (Nat.ble k 30) (some .int) (some .int)))))) (cond (Nat.ble k 47) (cond (Nat.ble k 39) (cond (Nat.ble k 35) (cond (Nat.ble k 33) (cond (Nat.ble k 32) (some .boolean) (some .int)) (cond (Nat.ble k 34) (some .int) (some .int))) (cond (Nat.ble k 37) (cond (Nat.ble k 36) (some .boolean) (some .int)) (cond (Nat.ble k 38) none none))) (cond (Nat.ble k 43) (cond (Nat.ble k 41) (cond (Nat.ble k 40) none (some .int)) (cond (Nat.ble k 42) none none)) (cond (Nat.ble k 45) (cond (Nat.ble k 44) (some .int) none) (cond (Nat.ble k 46) none none)))) (cond (Nat.ble k 55) (cond (Nat.ble k 51) (cond (Nat.ble k 49) (cond (Nat.ble k 48) none none) (cond (Nat.ble k 50) (some .int) (some .int))) (cond (Nat.ble k 53) (cond (Nat.ble k 52) (some .int) (some .int)) (cond (Nat.ble k 54) (some .int) (some .boolean)))) (cond (Nat.ble k 59) (cond (Nat.ble k 57) (cond (Nat.ble k 56) (some .int) (some .int)) (cond (Nat.ble k 58) (some .int) none)) (cond (Nat.ble k 61) (cond (Nat.ble k 60) none none) (cond (Nat.ble k 62) none (some .int))))))) (cond (Nat.ble k 95) (cond (Nat.ble k 79) (cond (Nat.ble k 71) (cond (Nat.ble k 67) (cond (Nat.ble k 65) (cond (Nat.ble k 64) none (some .int)) (cond (Nat.ble k 66) (some .int) (some .int))) (cond (Nat.ble k 69) (cond (Nat.ble k 68) (some .int) none) (cond (Nat.ble k 70) none (some .int)))) (cond (Nat.ble k 75) (cond (Nat.ble k 73) (cond (Nat.ble k 72) (some .int) (some .boolean)) (cond (Nat.ble k 74) none (some .boolean))) (cond (Nat.ble k 77) (cond (Nat.ble k 76) (some .int) (some .int)) (cond (Nat.ble k 78) none none)))) (cond (Nat.ble k 87) (cond (Nat.ble k 83) (cond (Nat.ble k 81) (cond (Nat.ble k 80) none (some .int)) (cond (Nat.ble k 82) none (some .int))) (cond (Nat.ble k 85) (cond (Nat.ble k 84) (some (.array .int)) (some .boolean)) (cond (Nat.ble k 86) (some .boolean) (some .boolean)))) (cond (Nat.ble k 91) (cond (Nat.ble k 89) (cond (Nat.ble k 88) (some .boolean) (some .boolean)) (cond (Nat.ble k 90) (some .boolean) (some .boolean))) (cond (Nat.ble k 93) (cond (Nat.ble k 92) (some .int) (some (.object "java/lang/String"))) (cond (Nat.ble k 94) (some .boolean) (some .int)))))) (cond (Nat.ble k 111) (cond (Nat.ble k 103) (cond (Nat.ble k 99) (cond (Nat.ble k 97) (cond (Nat.ble k 96) (some .int) (some .int)) (cond (Nat.ble k 98) none (some .boolean))) (cond (Nat.ble k 101) (cond (Nat.ble k 100) (some .boolean) (some .boolean)) (cond (Nat.ble k 102) (some .int) none))) (cond (Nat.ble k 107) (cond (Nat.ble k 105) (cond (Nat.ble k 104) (some .int) (some .int)) (cond (Nat.ble k 106) (some .int) (some .int))) (cond (Nat.ble k 109) (cond (Nat.ble k 108) (some .int) (some .int)) (cond (Nat.ble k 110) (some .int) (some .int))))) (cond (Nat.ble k 119) (cond (Nat.ble k 115) (cond (Nat.ble k 113) (cond (Nat.ble k 112) (some .int) (some .int)) (cond (Nat.ble k 114) (some .int) (some .int))) (cond (Nat.ble k 117) (cond (Nat.ble k 116) (some .int) (some .int)) (cond (Nat.ble k 118) (some .int) (some .int)))) (cond (Nat.ble k 123) (cond (Nat.ble k 121) (cond (Nat.ble k 120) (some .int) (some .int)) (cond (Nat.ble k 122) (some .int) (some .int))) (cond (Nat.ble k 125) (cond (Nat.ble k 124) (some .int) (some .int)) (cond (Nat.ble k 126) (some .int) (cond (Nat.ble k 127) (some .int) (some .int))))))))) (cond (Nat.ble k 193) (cond (Nat.ble k 160) (cond (Nat.ble k 144) (cond (Nat.ble k 136) (cond (Nat.ble k 132) (cond (Nat.ble k 130) (cond (Nat.ble k 129) (some .int) (some .int)) (cond (Nat.ble k 131) (some .int) (some .int))) (cond (Nat.ble k 134) (cond (Nat.ble k 133) (some .int) (some .int)) (cond (Nat.ble k 135) (some .boolean) (some .boolean)))) (cond (Nat.ble k 140) (cond (Nat.ble k 138) (cond (Nat.ble k 137) (some .boolean) (some .int)) (cond (Nat.ble k 139) (some .int) (some .boolean))) (cond (Nat.ble k 142) (cond (Nat.ble k 141) none none) (cond (Nat.ble k 143) (some .int) none)))) (cond (Nat.ble k 152) (cond (Nat.ble k 148) (cond (Nat.ble k 146) (cond (Nat.ble k 145) (some .boolean) none) (cond (Nat.ble k 147) (some .boolean) (some .int))) (cond (Nat.ble k 150) (cond (Nat.ble k 149) (some .int) (some .boolean)) (cond (Nat.ble k 151) (some .boolean) (some .int)))) (cond (Nat.ble k 156) (cond (Nat.ble k 154) (cond (Nat.ble k 153) (some .int) (some .int)) (cond (Nat.ble k 155) (some .int) none)) (cond (Nat.ble k 158) (cond (Nat.ble k 157) (some .int) (some .int)) (cond (Nat.ble k 159) (some .int) (some .int)))))) (cond (Nat.ble k 176) (cond (Nat.ble k 168) (cond (Nat.ble k 164) (cond (Nat.ble k 162) (cond (Nat.ble k 161) (some .int) (some .int)) (cond (Nat.ble k 163) (some .int) (some .int))) (cond (Nat.ble k 166) (cond (Nat.ble k 165) (some .int) (some .int)) (cond (Nat.ble k 167) (some .int) (some .int)))) (cond (Nat.ble k 172) (cond (Nat.ble k 170) (cond (Nat.ble k 169) (some .boolean) (some .int)) (cond (Nat.ble k 171) (some .int) (some .boolean))) (cond (Nat.ble k 174) (cond (Nat.ble k 173) (some .int) (some .int)) (cond (Nat.ble k 175) (some .int) (some .int))))) (cond (Nat.ble k 184) (cond (Nat.ble k 180) (cond (Nat.ble k 178) (cond (Nat.ble k 177) (some .boolean) (some .int)) (cond (Nat.ble k 179) (some .boolean) (some .int))) (cond (Nat.ble k 182) (cond (Nat.ble k 181) (some .int) (some .int)) (cond (Nat.ble k 183) (some .int) none))) (cond (Nat.ble k 188) (cond (Nat.ble k 186) (cond (Nat.ble k 185) none (some .int)) (cond (Nat.ble k 187) (some .int) (some .int))) (cond (Nat.ble k 190) (cond (Nat.ble k 189) (some .int) (some .int)) (cond (Nat.ble k 191) (some .boolean) (cond (Nat.ble k 192) (some .boolean) (some .int)))))))) (cond (Nat.ble k 225) (cond (Nat.ble k 209) (cond (Nat.ble k 201) (cond (Nat.ble k 197) (cond (Nat.ble k 195) (cond (Nat.ble k 194) (some .int) (some .boolean)) (cond (Nat.ble k 196) (some .int) (some .boolean))) (cond (Nat.ble k 199) (cond (Nat.ble k 198) (some .boolean) none) (cond (Nat.ble k 200) (some .boolean) none))) (cond (Nat.ble k 205) (cond (Nat.ble k 203) (cond (Nat.ble k 202) none (some .boolean)) (cond (Nat.ble k 204) (some .boolean) (some .int))) (cond (Nat.ble k 207) (cond (Nat.ble k 206) none (some .int)) (cond (Nat.ble k 208) none none)))) (cond (Nat.ble k 217) (cond (Nat.ble k 213) (cond (Nat.ble k 211) (cond (Nat.ble k 210) none (some .boolean)) (cond (Nat.ble k 212) none (some .int))) (cond (Nat.ble k 215) (cond (Nat.ble k 214) (some .boolean) (some .boolean)) (cond (Nat.ble k 216) (some .int) (some .int)))) (cond (Nat.ble k 221) (cond (Nat.ble k 219) (cond (Nat.ble k 218) none (some .int)) (cond (Nat.ble k 220) (some .int) none)) (cond (Nat.ble k 223) (cond (Nat.ble k 222) (some .int) (some .int)) (cond (Nat.ble k 224) (some .int) (some .int)))))) (cond (Nat.ble k 241) (cond (Nat.ble k 233) (cond (Nat.ble k 229) (cond (Nat.ble k 227) (cond (Nat.ble k 226) (some .int) (some .int)) (cond (Nat.ble k 228) (some .int) (some .int))) (cond (Nat.ble k 231) (cond (Nat.ble k 230) (some .int) (some .int)) (cond (Nat.ble k 232) (some .int) (some .int)))) (cond (Nat.ble k 237) (cond (Nat.ble k 235) (cond (Nat.ble k 234) none (some .int)) (cond (Nat.ble k 236) none (some .int))) (cond (Nat.ble k 239) (cond (Nat.ble k 238) (some .int) (some .int)) (cond (Nat.ble k 240) (some .int) (some .int))))) (cond (Nat.ble k 249) (cond (Nat.ble k 245) (cond (Nat.ble k 243) (cond (Nat.ble k 242) (some .boolean) (some .long)) (cond (Nat.ble k 244) (some .int) (some .int))) (cond (Nat.ble k 247) (cond (Nat.ble k 246) (some .int) (some .int)) (cond (Nat.ble k 248) (some .int) (some .int)))) (cond (Nat.ble k 253) (cond (Nat.ble k 251) (cond (Nat.ble k 250) (some .int) (some .int)) (cond (Nat.ble k 252) (some .boolean) (some .int))) (cond (Nat.ble k 255) (cond (Nat.ble k 254) (some .int) (some .int)) (cond (Nat.ble k 256) none (cond (Nat.ble k 257) none (some .boolean))))))))))
def ml_s (k : Nat) : Bool := (cond (Nat.ble k 128) (cond (Nat.ble k 63) (cond (Nat.ble k 31) (cond (Nat.ble k 15) (cond (Nat.ble k 7) (cond (Nat.ble k 3) (cond (Nat.ble k 1) (cond (Nat.ble k 0) false false) (cond (Nat.ble k 2) false false)) (cond (Nat.ble k 5) (cond (Nat.ble k 4) false false) (cond (Nat.ble k 6) false false))) (cond (Nat.ble k 11) (cond (Nat.ble k 9) (cond (Nat.ble k 8) false false) (cond (Nat.ble k 10) false false)) (cond (Nat.ble k 13) (cond (Nat.ble k 12) false false) (cond (Nat.ble k 14) false false)))) (cond (Nat.ble k 23) (cond (Nat.ble k 19) (cond (Nat.ble k 17) (cond (Nat.ble k 16) false false) (cond (Nat.ble k 18) false false)) (cond (Nat.ble k 21) (cond (Nat.ble k 20) false true) (cond (Nat.ble k 22) false false))) (cond (Nat.ble k 27) (cond (Nat.ble k 25) (cond (Nat.ble k 24) false false) (cond (Nat.ble k 26) false false)) (cond (Nat.ble k 29) (cond (Nat.ble k 28) false false) (cond (Nat.ble k 30) false false))))) (cond (Nat.ble k 47) (cond (Nat.ble k 39) (cond (Nat.ble k 35) (cond (Nat.ble k 33) (cond (Nat.ble k 32) false false) (cond (Nat.ble k 34) false false)) (cond (Nat.ble k 37) (cond (Nat.ble k 36) false false) (cond (Nat.ble k 38) false false))) (cond (Nat.ble k 43) (cond (Nat.ble k 41) (cond (Nat.ble k 40) false false) (cond (Nat.ble k 42) false true)) (cond (Nat.ble k 45) (cond (Nat.ble k 44) true true) (cond (Nat.ble k 46) true true)))) (cond (Nat.ble k 55) (cond (Nat.ble k 51) (cond (Nat.ble k 49) (cond (Nat.ble k 48) true true) (cond (Nat.ble k 50) true true)) (cond (Nat.ble k 53) (cond (Nat.ble k 52) true true) (cond (Nat.ble k 54) true true))) (cond (Nat.ble k 59) (cond (Nat.ble k 57) (cond (Nat.ble k 56) true true) (cond (Nat.ble k 58) true false)) (cond (Nat.ble k 61) (cond (Nat.ble k 60) false false) (cond (Nat.ble k 62) false false)))))) (cond (Nat.ble k 95) (cond (Nat.ble k 79) (cond (Nat.ble k 71) (cond (Nat.ble k 67) (cond (Nat.ble k 65) (cond (Nat.ble k 64) false false) (cond (Nat.ble k 66) false false)) (cond (Nat.ble k 69) (cond (Nat.ble k 68) false false) (cond (Nat.ble k 70) false false))) (cond (Nat.ble k 75) (cond (Nat.ble k 73) (cond (Nat.ble k 72) false false) (cond (Nat.ble k 74) false false)) (cond (Nat.ble k 77) (cond (Nat.ble k 76) false false) (cond (Nat.ble k 78) false false)))) (cond (Nat.ble k 87) (cond (Nat.ble k 83) (cond (Nat.ble k 81) (cond (Nat.ble k 80) false false) (cond (Nat.ble k 82) false false)) (cond (Nat.ble k 85) (cond (Nat.ble k 84) false false) (cond (Nat.ble k 86) false false))) (cond (Nat.ble k 91) (cond (Nat.ble k 89) (cond (Nat.ble k 88) false false) (cond (Nat.ble k 90) false false)) (cond (Nat.ble k 93) (cond (Nat.ble k 92) false true) (cond (Nat.ble k 94) false false))))) (cond (Nat.ble k 111) (cond (Nat.ble k 103) (cond (Nat.ble k 99) (cond (Nat.ble k 97) (cond (Nat.ble k 96) false false) (cond (Nat.ble k 98) false false)) (cond (Nat.ble k 101) (cond (Nat.ble k 100) false false) (cond (Nat.ble k 102) false false))) (cond (Nat.ble k 107) (cond (Nat.ble k 105) (cond (Nat.ble k 104) false false) (cond (Nat.ble k 106) false false)) (cond (Nat.ble k 109) (cond (Nat.ble k 108) false false) (cond (Nat.ble k 110) false false)))) (cond (Nat.ble k 119) (cond (Nat.ble k 115) (cond (Nat.ble k 113) (cond (Nat.ble k 112) false false) (cond (Nat.ble k 114) false false)) (cond (Nat.ble k 117) (cond (Nat.ble k 116) false false) (cond (Nat.ble k 118) false false))) (cond (Nat.ble k 123) (cond (Nat.ble k 121) (cond (Nat.ble k 120) false false) (cond (Nat.ble k 122) false false)) (cond (Nat.ble k 125) (cond (Nat.ble k 124) false false) (cond (Nat.ble k 126) false (cond (Nat.ble k 127) false false)))))))) (cond (Nat.ble k 193) (cond (Nat.ble k 160) (cond (Nat.ble k 144) (cond (Nat.ble k 136) (cond (Nat.ble k 132) (cond (Nat.ble k 130) (cond (Nat.ble k 129) false false) (cond (Nat.ble k 131) false false)) (cond (Nat.ble k 134) (cond (Nat.ble k 133) false false) (cond (Nat.ble k 135) true true))) (cond (Nat.ble k 140) (cond (Nat.ble k 138) (cond (Nat.ble k 137) true false) (cond (Nat.ble k 139) false false)) (cond (Nat.ble k 142) (cond (Nat.ble k 141) false false) (cond (Nat.ble k 143) false false)))) (cond (Nat.ble k 152) (cond (Nat.ble k 148) (cond (Nat.ble k 146) (cond (Nat.ble k 145) true false) (cond (Nat.ble k 147) true true)) (cond (Nat.ble k 150) (cond (Nat.ble k 149) true true) (cond (Nat.ble k 151) true true))) (cond (Nat.ble k 156) (cond (Nat.ble k 154) (cond (Nat.ble k 153) true true) (cond (Nat.ble k 155) true false)) (cond (Nat.ble k 158) (cond (Nat.ble k 157) false true) (cond (Nat.ble k 159) false false))))) (cond (Nat.ble k 176) (cond (Nat.ble k 168) (cond (Nat.ble k 164) (cond (Nat.ble k 162) (cond (Nat.ble k 161) false false) (cond (Nat.ble k 163) false false)) (cond (Nat.ble k 166) (cond (Nat.ble k 165) false false) (cond (Nat.ble k 167) false false))) (cond (Nat.ble k 172) (cond (Nat.ble k 170) (cond (Nat.ble k 169) false false) (cond (Nat.ble k 171) false true)) (cond (Nat.ble k 174) (cond (Nat.ble k 173) false false) (cond (Nat.ble k 175) false false)))) (cond (Nat.ble k 184) (cond (Nat.ble k 180) (cond (Nat.ble k 178) (cond (Nat.ble k 177) false false) (cond (Nat.ble k 179) false false)) (cond (Nat.ble k 182) (cond (Nat.ble k 181) false false) (cond (Nat.ble k 183) false false))) (cond (Nat.ble k 188) (cond (Nat.ble k 186) (cond (Nat.ble k 185) false false) (cond (Nat.ble k 187) false false)) (cond (Nat.ble k 190) (cond (Nat.ble k 189) false false) (cond (Nat.ble k 191) true (cond (Nat.ble k 192) true false))))))) (cond (Nat.ble k 225) (cond (Nat.ble k 209) (cond (Nat.ble k 201) (cond (Nat.ble k 197) (cond (Nat.ble k 195) (cond (Nat.ble k 194) false false) (cond (Nat.ble k 196) false false)) (cond (Nat.ble k 199) (cond (Nat.ble k 198) false false) (cond (Nat.ble k 200) false false))) (cond (Nat.ble k 205) (cond (Nat.ble k 203) (cond (Nat.ble k 202) false false) (cond (Nat.ble k 204) false false)) (cond (Nat.ble k 207) (cond (Nat.ble k 206) false false) (cond (Nat.ble k 208) false false)))) (cond (Nat.ble k 217) (cond (Nat.ble k 213) (cond (Nat.ble k 211) (cond (Nat.ble k 210) false false) (cond (Nat.ble k 212) false false)) (cond (Nat.ble k 215) (cond (Nat.ble k 214) true false) (cond (Nat.ble k 216) false false))) (cond (Nat.ble k 221) (cond (Nat.ble k 219) (cond (Nat.ble k 218) false false) (cond (Nat.ble k 220) false false)) (cond (Nat.ble k 223) (cond (Nat.ble k 222) false true) (cond (Nat.ble k 224) false false))))) (cond (Nat.ble k 241) (cond (Nat.ble k 233) (cond (Nat.ble k 229) (cond (Nat.ble k 227) (cond (Nat.ble k 226) false false) (cond (Nat.ble k 228) false false)) (cond (Nat.ble k 231) (cond (Nat.ble k 230) false false) (cond (Nat.ble k 232) false false))) (cond (Nat.ble k 237) (cond (Nat.ble k 235) (cond (Nat.ble k 234) false false) (cond (Nat.ble k 236) false false)) (cond (Nat.ble k 239) (cond (Nat.ble k 238) false false) (cond (Nat.ble k 240) false false)))) (cond (Nat.ble k 249) (cond (Nat.ble k 245) (cond (Nat.ble k 243) (cond (Nat.ble k 242) true true) (cond (Nat.ble k 244) false false)) (cond (Nat.ble k 247) (cond (Nat.ble k 246) false false) (cond (Nat.ble k 248) false false))) (cond (Nat.ble k 253) (cond (Nat.ble k 251) (cond (Nat.ble k 250) false false) (cond (Nat.ble k 252) false false)) (cond (Nat.ble k 255) (cond (Nat.ble k 254) true true) (cond (Nat.ble k 256) true (cond (Nat.ble k 257) true true)))))))))
def pl_f (o : Nat) : List (Nat × Nat × Nat) := match o with
  | 0 => [(9, 0, 211), (15, 1, 212), (18, 2, 213), (23, 3, 214), (26, 4, 215), (29, 5, 216), (32, 6, 217), (35, 7, 218), (38, 8, 219)]
  | 1 => [(11, 64, 357), (15, 65, 358)]
  | 2 => [(11, 128, 179), (15, 129, 182), (18, 130, 184), (21, 131, 186), (24, 132, 188), (27, 133, 189)]
  | 3 => [(12, 192, 285), (18, 193, 287), (22, 194, 288)]
  | 4 => [(11, 256, 245), (17, 257, 246), (20, 258, 247), (24, 259, 248), (45, 128, 180)]
  | 5 => [(13, 320, 340), (16, 321, 341), (20, 322, 342)]
  | 6 => [(11, 384, 271), (22, 385, 274), (26, 386, 276)]
  | 7 => [(11, 448, 304), (17, 450, 306), (20, 451, 307), (23, 452, 308), (26, 449, 305), (29, 453, 309), (32, 454, 310), (36, 455, 311)]
  | 8 => [(20, 512, 368), (27, 513, 369), (34, 514, 370), (41, 515, 371), (45, 516, 372), (52, 517, 373), (59, 518, 374), (66, 519, 375), (70, 520, 376), (74, 521, 377), (77, 192, 286), (81, 384, 272), (94, 385, 273), (98, 386, 275), (132, 129, 183), (135, 130, 185), (222, 128, 181), (228, 131, 187), (256, 194, 289), (262, 522, 378)]
  | 9 => [(7, 576, 1040), (13, 577, 1041), (16, 578, 1042), (19, 580, 1044), (22, 581, 1045), (25, 582, 1046), (28, 584, 1048), (31, 587, 1051), (34, 588, 1052), (37, 589, 1053), (40, 591, 1055), (43, 592, 1056), (46, 593, 1057), (49, 594, 1058), (52, 596, 1060), (55, 597, 1061), (59, 599, 1063), (62, 600, 1064), (65, 601, 1065), (69, 602, 1066), (72, 603, 1067), (75, 605, 1069), (78, 606, 1070), (81, 607, 1071), (84, 608, 1072), (87, 609, 1073), (90, 610, 1074), (94, 611, 1075), (97, 612, 1076), (138, 579, 1043), (207, 583, 1047), (239, 585, 1049), (242, 586, 1050), (282, 590, 1054), (318, 595, 1059), (324, 598, 1062), (385, 604, 1068)]
  | _ => []
def pl_m (o : Nat) : List (Nat × Nat × Nat × Nat) := match o with
  | 0 => [(41, 8, 760, 0), (45, 45, 764, 0), (51, 3, 769, 0), (55, 9, 781, 0), (59, 46, 773, 0), (63, 44, 774, 0), (67, 7, 775, 0), (71, 47, 780, 0), (74, 6, 953, 0), (78, 50, 957, 0), (81, 48, 785, 0), (85, 135, 779, 1), (88, 10, 788, 0), (91, 11, 792, 0), (95, 49, 796, 0)]
  | 1 => [(19, 44, 538, 0), (25, 55, 539, 0), (29, 14, 540, 0), (33, 54, 544, 0), (36, 15, 545, 0)]
  | 2 => [(30, 18, 144, 0), (33, 23, 154, 0), (37, 21, 158, 0), (40, 19, 161, 0), (44, 20, 171, 0), (51, 255, 151, 0), (57, 254, 165, 0), (62, 22, 175, 0), (65, 35, 430, 0), (71, 51, 500, 0), (77, 24, 503, 0), (81, 33, 439, 0), (85, 34, 435, 0), (88, 36, 476, 0)]
  | 3 => [(11, 78, 266, 1), (26, 40, 723, 0), (29, 79, 727, 0)]
  | 4 => [(27, 46, 813, 0), (33, 62, 814, 0), (37, 64, 825, 0), (41, 63, 818, 0), (48, 51, 822, 0), (52, 21, 823, 0), (56, 22, 824, 0), (59, 65, 829, 0), (62, 135, 833, 1), (75, 254, 846, 0)]
  | 5 => [(23, 257, 337, 0), (29, 256, 976, 0), (32, 73, 934, 0), (36, 76, 942, 0)]
  | 6 => [(16, 46, 731, 0)]
  | 7 => [(39, 86, 577, 0), (43, 101, 594, 0), (47, 45, 581, 0), (53, 87, 582, 0), (56, 47, 708, 0), (60, 99, 602, 0), (63, 88, 586, 0), (66, 96, 697, 0), (70, 98, 701, 0), (74, 100, 590, 0), (77, 89, 598, 0), (80, 90, 607, 0), (84, 91, 624, 0), (87, 46, 606, 0), (90, 95, 611, 0), (94, 135, 623, 1), (98, 102, 615, 0), (102, 92, 628, 0), (105, 93, 632, 0), (109, 94, 645, 0), (141, 97, 619, 0), (144, 49, 705, 0)]
  | 8 => [(11, 43, 131, 0), (19, 17, 140, 0), (26, 0, 206, 1), (33, 59, 241, 1), (40, 38, 260, 0), (50, 80, 299, 0), (58, 69, 331, 0), (65, 12, 353, 1), (86, 46, 364, 0), (90, 23, 367, 0), (101, 136, 406, 0), (105, 135, 410, 0), (109, 254, 413, 0), (114, 24, 414, 0), (117, 25, 418, 0), (120, 26, 422, 0), (123, 27, 426, 0), (126, 28, 446, 0), (129, 29, 450, 0), (138, 33, 462, 0), (141, 35, 467, 0), (145, 37, 472, 0), (148, 30, 484, 0), (151, 32, 496, 0), (155, 53, 504, 0), (159, 56, 507, 0), (162, 57, 516, 0), (165, 31, 525, 0), (168, 138, 529, 0), (171, 13, 534, 0), (174, 16, 553, 0), (177, 51, 533, 0), (181, 81, 565, 0), (184, 85, 573, 0), (188, 82, 711, 0), (191, 83, 715, 0), (195, 39, 719, 0), (198, 84, 732, 0), (202, 52, 736, 0), (206, 140, 744, 0), (209, 141, 752, 0), (213, 4, 797, 0), (216, 142, 801, 0), (219, 66, 838, 0), (225, 67, 842, 0), (231, 143, 851, 0), (234, 21, 855, 0), (237, 68, 856, 0), (245, 3, 865, 0), (249, 144, 886, 0), (253, 41, 899, 0), (259, 139, 748, 0), (266, 42, 915, 0), (270, 137, 927, 0), (273, 72, 930, 0), (277, 75, 938, 0), (281, 257, 947, 0), (287, 76, 948, 0), (290, 5, 949, 0), (294, 74, 964, 0), (298, 70, 972, 0), (302, 71, 983, 0), (305, 77, 995, 0), (310, 1, 756, 0), (314, 2, 765, 0), (318, 60, 805, 0), (319, 61, 809, 0), (330, 47, 894, 0)]
  | 9 => [(100, 152, 1008, 0), (104, 154, 1022, 0), (108, 156, 1027, 0), (112, 149, 1034, 0), (115, 148, 1037, 0), (118, 147, 1019, 0), (124, 145, 1015, 0), (130, 153, 1011, 0), (141, 155, 1031, 0), (144, 150, 1157, 0), (148, 157, 1161, 0), (151, 159, 1165, 0), (154, 160, 1169, 0), (157, 161, 1173, 0), (162, 158, 1182, 0), (169, 163, 1187, 0), (172, 165, 1195, 0), (178, 167, 1205, 0), (181, 169, 1213, 0), (188, 172, 1226, 0), (191, 151, 1230, 0), (195, 173, 1234, 0), (198, 175, 1242, 0), (201, 179, 1262, 0), (204, 178, 1270, 0), (210, 184, 1286, 0), (214, 185, 1282, 0), (217, 177, 1250, 0), (220, 182, 1254, 0), (223, 180, 1258, 0), (226, 181, 1266, 0), (229, 183, 1274, 0), (232, 186, 1278, 0), (253, 190, 1313, 0), (257, 191, 1334, 0), (260, 192, 1321, 0), (263, 193, 1330, 0), (269, 195, 1344, 0), (273, 196, 1339, 0), (276, 194, 1352, 0), (279, 199, 1360, 0), (285, 197, 1326, 0), (289, 198, 1348, 0), (292, 200, 1356, 0), (295, 201, 1309, 0), (298, 203, 1317, 0), (301, 202, 1364, 0), (306, 204, 1305, 0), (309, 234, 1368, 0), (312, 206, 1404, 0), (315, 207, 1400, 0), (321, 208, 1396, 0), (327, 211, 1388, 0), (330, 210, 1392, 0), (333, 209, 1408, 0), (338, 216, 1420, 0), (341, 219, 1455, 0), (344, 218, 1447, 0), (347, 221, 1428, 0), (350, 220, 1451, 0), (353, 223, 1436, 0), (356, 224, 1439, 0), (359, 225, 1432, 0), (362, 214, 1376, 0), (365, 215, 1380, 0), (368, 212, 1384, 0), (371, 213, 1412, 0), (374, 217, 1416, 0), (377, 226, 1424, 0), (380, 222, 1443, 0), (398, 236, 1497, 0), (401, 242, 1521, 0), (404, 246, 1532, 0), (408, 243, 1536, 0), (412, 251, 1559, 0), (415, 250, 1551, 0), (418, 252, 1555, 0)]
  | 10 => [(9, 45, 134, 0), (16, 44, 513, 0), (20, 55, 510, 0), (24, 54, 519, 0), (27, 58, 522, 0)]
  | 11 => [(9, 103, 123, 0), (12, 146, 1004, 0), (13, 104, 402, 0), (17, 162, 1153, 0), (18, 105, 454, 0), (21, 164, 1177, 0), (22, 106, 458, 0), (26, 166, 1191, 0), (27, 107, 463, 0), (30, 168, 1199, 0), (31, 108, 468, 0), (34, 170, 1209, 0), (35, 109, 480, 0), (38, 171, 1217, 0), (39, 110, 488, 0), (42, 174, 1222, 0), (43, 111, 492, 0), (46, 187, 1246, 0), (47, 112, 549, 0), (50, 188, 1290, 0), (51, 113, 557, 0), (54, 176, 1238, 0), (55, 114, 561, 0), (58, 189, 1294, 0), (59, 115, 569, 0), (62, 205, 1300, 0), (63, 116, 740, 0), (66, 227, 1372, 0), (67, 117, 847, 0), (71, 228, 1459, 0), (72, 118, 861, 0), (75, 229, 1464, 0), (76, 119, 866, 0), (79, 230, 1468, 0), (80, 120, 870, 0), (83, 231, 1472, 0), (84, 121, 874, 0), (87, 232, 1476, 0), (88, 122, 878, 0), (91, 233, 1480, 0), (92, 123, 882, 0), (95, 237, 1488, 0), (96, 124, 895, 0), (100, 235, 1484, 0), (101, 125, 903, 0), (104, 238, 1501, 0), (105, 126, 907, 0), (108, 239, 1505, 0), (109, 127, 911, 0), (112, 240, 1509, 0), (113, 128, 919, 0), (116, 241, 1513, 0), (117, 129, 923, 0), (121, 253, 1547, 0), (122, 130, 960, 0), (126, 249, 1543, 0), (127, 131, 968, 0), (130, 244, 1517, 0), (131, 132, 979, 0), (134, 245, 1524, 0), (137, 133, 987, 0), (141, 247, 1528, 0), (142, 134, 991, 0), (145, 248, 1539, 0)]
  | _ => []
def pl_c (o : Nat) : List (Nat × Nat × Nat) := match o with
  | 0 => [(21, 100, 210)]
  | 3 => [(9, 6, 264)]
  | 5 => [(11, 101, 335)]
  | 6 => [(9, 100, 270)]
  | 7 => [(15, 100, 303)]
  | 8 => [(9, 100, 129), (17, 2, 138), (24, 0, 204), (31, 4, 239), (38, 3, 258), (48, 7, 297), (56, 5, 329), (63, 1, 351)]
  | 11 => [(7, 8, 121), (10, 9, 1002)]
  | _ => []
def pl_i (o : Nat) : List (Nat × Int × Nat) := match o with
  | 2 => [(47, 8388608, 148), (84, 16777215, 434)]
  | 8 => [(309, 16777215, 409), (329, 65536, 893)]
  | 9 => [(133, 340830, 1018), (136, 8388608, 1025), (137, 8047776, 1026), (177, 16777215, 1204)]
  | 10 => [(15, 340830, 137)]
  | 12 => [(265, 1431655765, 168), (266, 858993459, 169), (267, 252645135, 170)]
  | _ => []
def pl_l (o : Nat) : List (Nat × Int × Nat) := match o with
  | 5 => [(40, 24, 946)]
  | 8 => [(323, 1103515245, 890), (325, 12345, 891), (327, 2147483647, 892)]
  | 9 => [(122, 16777215, 1160), (128, 23, 1233), (134, 22, 1014), (160, 4095, 1181), (165, 758, 1185), (167, 2575, 1186), (175, 5, 1203), (184, 8, 1221), (186, 4, 1229), (235, 32, 1298), (237, 126, 1299), (245, 48, 1337), (247, 57, 1338), (249, 97, 1324), (251, 122, 1325), (267, 101, 1343), (304, 3, 1304), (336, 15, 1379), (383, 2, 1463), (388, 40, 1492), (390, 1103515245, 1493), (392, 12345, 1494), (394, 2147483648, 1495), (396, 65536, 1496)]
  | 11 => [(135, 4294967295, 1563)]
  | _ => []
def pl_s (o : Nat) : List (Nat × Nat × Nat) := match o with
  | 7 => [(113, 0, 635), (115, 1, 636), (117, 2, 637), (119, 3, 638), (121, 4, 639), (123, 5, 640), (125, 6, 641), (127, 7, 642), (129, 8, 643), (131, 9, 644)]
  | _ => []
def pl_p (o : Nat) : List (Nat × Nat × Nat) := match o with
  | 2 => [(68, 0, 443)]
  | 4 => [(66, 1, 834), (72, 0, 837)]
  | 5 => [(42, 4, 999)]
  | 7 => [(133, 2, 649), (137, 3, 659)]
  | 8 => [(240, 1, 860)]
  | _ => []
def pl_o (o : Nat) : List (Nat × Nat) := match o with
  | 0 => [(3, 209)]
  | 1 => [(3, 356)]
  | 2 => [(3, 143)]
  | 3 => [(3, 263)]
  | 4 => [(3, 244)]
  | 5 => [(3, 334)]
  | 6 => [(3, 269)]
  | 7 => [(3, 302)]
  | 8 => [(1, 126)]
  | 9 => [(1, 1007)]
  | _ => []
def pl_y (p : Nat) : MethodName := match p with
  | 0 => ⟨"java/lang/Math", "min", "(II)I"⟩
  | 1 => ⟨"java/lang/Math", "max", "(II)I"⟩
  | 2 => ⟨"java/lang/String", "length", "()I"⟩
  | 3 => ⟨"java/lang/String", "charAt", "(I)C"⟩
  | 4 => ⟨"java/lang/System", "arraycopy", "(Ljava/lang/Object;ILjava/lang/Object;II)V"⟩
  | _ => ⟨"", "", ""⟩
def pl_t (s : Nat) : String := match s with
  | 0 => "a"
  | 1 => "b"
  | 2 => "c"
  | 3 => "d"
  | 4 => "e"
  | 5 => "step"
  | 6 => "twice"
  | 7 => "over"
  | 8 => "wild"
  | 9 => "same"
  | _ => ""
def ml_w (k : Nat) : Nat × Nat × Nat × Nat := (cond (Nat.ble k 128) (cond (Nat.ble k 63) (cond (Nat.ble k 31) (cond (Nat.ble k 15) (cond (Nat.ble k 7) (cond (Nat.ble k 3) (cond (Nat.ble k 1) (cond (Nat.ble k 0) (208, 207, 9999, 107) (759, 757, 758, 107)) (cond (Nat.ble k 2) (768, 766, 767, 107) (772, 770, 771, 107))) (cond (Nat.ble k 5) (cond (Nat.ble k 4) (800, 798, 799, 107) (952, 950, 951, 107)) (cond (Nat.ble k 6) (956, 955, 41, 107) (778, 777, 29, 107)))) (cond (Nat.ble k 11) (cond (Nat.ble k 9) (cond (Nat.ble k 8) (763, 762, 28, 107) (784, 783, 30, 107)) (cond (Nat.ble k 10) (791, 790, 31, 107) (795, 794, 32, 107))) (cond (Nat.ble k 13) (cond (Nat.ble k 12) (355, 354, 9999, 114) (537, 535, 536, 114)) (cond (Nat.ble k 14) (543, 542, 6, 114) (548, 547, 7, 114))))) (cond (Nat.ble k 23) (cond (Nat.ble k 19) (cond (Nat.ble k 17) (cond (Nat.ble k 16) (556, 554, 555, 114) (142, 141, 9999, 104)) (cond (Nat.ble k 18) (147, 146, 0, 104) (164, 163, 1, 104))) (cond (Nat.ble k 21) (cond (Nat.ble k 20) (174, 173, 2, 104) (160, 159, 9999, 104)) (cond (Nat.ble k 22) (178, 176, 177, 104) (157, 155, 156, 104)))) (cond (Nat.ble k 27) (cond (Nat.ble k 25) (cond (Nat.ble k 24) (417, 415, 416, 104) (421, 419, 420, 104)) (cond (Nat.ble k 26) (425, 423, 424, 104) (429, 427, 428, 104))) (cond (Nat.ble k 29) (cond (Nat.ble k 28) (449, 447, 448, 104) (453, 451, 452, 104)) (cond (Nat.ble k 30) (487, 485, 486, 104) (528, 526, 527, 104)))))) (cond (Nat.ble k 47) (cond (Nat.ble k 39) (cond (Nat.ble k 35) (cond (Nat.ble k 33) (cond (Nat.ble k 32) (499, 497, 498, 104) (442, 440, 441, 104)) (cond (Nat.ble k 34) (438, 437, 3, 104) (433, 431, 432, 104))) (cond (Nat.ble k 37) (cond (Nat.ble k 36) (479, 478, 4, 104) (475, 473, 474, 104)) (cond (Nat.ble k 38) (262, 261, 9999, 109) (722, 720, 721, 109)))) (cond (Nat.ble k 43) (cond (Nat.ble k 41) (cond (Nat.ble k 40) (726, 725, 24, 109) (902, 900, 901, 109)) (cond (Nat.ble k 42) (918, 916, 917, 109) (133, 132, 9999, 103))) (cond (Nat.ble k 45) (cond (Nat.ble k 44) (515, 514, 9999, 103) (136, 135, 9999, 103)) (cond (Nat.ble k 46) (366, 365, 9999, 103) (710, 709, 9999, 103))))) (cond (Nat.ble k 55) (cond (Nat.ble k 51) (cond (Nat.ble k 49) (cond (Nat.ble k 48) (787, 786, 9999, 103) (707, 706, 9999, 103)) (cond (Nat.ble k 50) (959, 958, 9999, 103) (502, 501, 9999, 103))) (cond (Nat.ble k 53) (cond (Nat.ble k 52) (738, 737, 9999, 103) (506, 505, 9999, 103)) (cond (Nat.ble k 54) (521, 520, 9999, 103) (512, 511, 9999, 103)))) (cond (Nat.ble k 59) (cond (Nat.ble k 57) (cond (Nat.ble k 56) (509, 508, 9999, 103) (518, 517, 9999, 103)) (cond (Nat.ble k 58) (524, 523, 9999, 103) (243, 242, 9999, 108))) (cond (Nat.ble k 61) (cond (Nat.ble k 60) (808, 806, 807, 108) (812, 810, 811, 108)) (cond (Nat.ble k 62) (817, 816, 34, 108) (821, 820, 35, 108))))))) (cond (Nat.ble k 95) (cond (Nat.ble k 79) (cond (Nat.ble k 71) (cond (Nat.ble k 67) (cond (Nat.ble k 65) (cond (Nat.ble k 64) (828, 827, 36, 108) (832, 831, 37, 108)) (cond (Nat.ble k 66) (841, 839, 840, 108) (845, 843, 844, 108))) (cond (Nat.ble k 69) (cond (Nat.ble k 68) (859, 857, 858, 108) (333, 332, 9999, 112)) (cond (Nat.ble k 70) (975, 973, 974, 112) (986, 984, 985, 112)))) (cond (Nat.ble k 75) (cond (Nat.ble k 73) (cond (Nat.ble k 72) (933, 931, 932, 112) (937, 936, 40, 112)) (cond (Nat.ble k 74) (967, 965, 966, 112) (941, 939, 940, 112))) (cond (Nat.ble k 77) (cond (Nat.ble k 76) (945, 943, 944, 112) (998, 996, 997, 112)) (cond (Nat.ble k 78) (268, 267, 9999, 110) (730, 728, 729, 110))))) (cond (Nat.ble k 87) (cond (Nat.ble k 83) (cond (Nat.ble k 81) (cond (Nat.ble k 80) (301, 300, 9999, 111) (568, 566, 567, 111)) (cond (Nat.ble k 82) (714, 712, 713, 111) (718, 716, 717, 111))) (cond (Nat.ble k 85) (cond (Nat.ble k 84) (735, 733, 734, 111) (576, 574, 575, 111)) (cond (Nat.ble k 86) (580, 579, 8, 111) (585, 584, 9, 111)))) (cond (Nat.ble k 91) (cond (Nat.ble k 89) (cond (Nat.ble k 88) (589, 588, 10, 111) (601, 600, 13, 111)) (cond (Nat.ble k 90) (610, 609, 15, 111) (627, 626, 19, 111))) (cond (Nat.ble k 93) (cond (Nat.ble k 92) (631, 630, 20, 111) (634, 633, 9999, 111)) (cond (Nat.ble k 94) (648, 647, 21, 111) (614, 613, 16, 111)))))) (cond (Nat.ble k 111) (cond (Nat.ble k 103) (cond (Nat.ble k 99) (cond (Nat.ble k 97) (cond (Nat.ble k 96) (700, 699, 22, 111) (622, 621, 18, 111)) (cond (Nat.ble k 98) (704, 703, 23, 111) (605, 604, 14, 111))) (cond (Nat.ble k 101) (cond (Nat.ble k 100) (593, 592, 11, 111) (597, 596, 12, 111)) (cond (Nat.ble k 102) (618, 617, 17, 111) (125, 124, 9999, 102)))) (cond (Nat.ble k 107) (cond (Nat.ble k 105) (cond (Nat.ble k 104) (405, 403, 404, 102) (457, 455, 456, 102)) (cond (Nat.ble k 106) (461, 459, 460, 102) (466, 464, 465, 102))) (cond (Nat.ble k 109) (cond (Nat.ble k 108) (471, 469, 470, 102) (483, 481, 482, 102)) (cond (Nat.ble k 110) (491, 489, 490, 102) (495, 493, 494, 102))))) (cond (Nat.ble k 119) (cond (Nat.ble k 115) (cond (Nat.ble k 113) (cond (Nat.ble k 112) (552, 550, 551, 102) (560, 558, 559, 102)) (cond (Nat.ble k 114) (564, 562, 563, 102) (572, 570, 571, 102))) (cond (Nat.ble k 117) (cond (Nat.ble k 116) (743, 741, 742, 102) (850, 848, 849, 102)) (cond (Nat.ble k 118) (864, 862, 863, 102) (869, 867, 868, 102)))) (cond (Nat.ble k 123) (cond (Nat.ble k 121) (cond (Nat.ble k 120) (873, 871, 872, 102) (877, 875, 876, 102)) (cond (Nat.ble k 122) (881, 879, 880, 102) (885, 883, 884, 102))) (cond (Nat.ble k 125) (cond (Nat.ble k 124) (898, 896, 897, 102) (906, 904, 905, 102)) (cond (Nat.ble k 126) (910, 908, 909, 102) (cond (Nat.ble k 127) (914, 912, 913, 102) (922, 920, 921, 102))))))))) (cond (Nat.ble k 192) (cond (Nat.ble k 160) (cond (Nat.ble k 144) (cond (Nat.ble k 136) (cond (Nat.ble k 132) (cond (Nat.ble k 130) (cond (Nat.ble k 129) (926, 924, 925, 102) (963, 961, 962, 102)) (cond (Nat.ble k 131) (971, 969, 970, 102) (982, 980, 981, 102))) (cond (Nat.ble k 134) (cond (Nat.ble k 133) (990, 988, 989, 102) (994, 992, 993, 102)) (cond (Nat.ble k 135) (412, 411, 9999, 102) (408, 407, 9999, 102)))) (cond (Nat.ble k 140) (cond (Nat.ble k 138) (cond (Nat.ble k 137) (929, 928, 9999, 102) (532, 531, 5, 102)) (cond (Nat.ble k 139) (751, 750, 26, 102) (747, 746, 25, 102))) (cond (Nat.ble k 142) (cond (Nat.ble k 141) (755, 754, 27, 102) (804, 803, 33, 102)) (cond (Nat.ble k 143) (854, 853, 38, 102) (889, 888, 39, 102))))) (cond (Nat.ble k 152) (cond (Nat.ble k 148) (cond (Nat.ble k 146) (cond (Nat.ble k 145) (1017, 1016, 9999, 115) (1006, 1005, 9999, 115)) (cond (Nat.ble k 147) (1021, 1020, 9999, 115) (1039, 1038, 9999, 115))) (cond (Nat.ble k 150) (cond (Nat.ble k 149) (1036, 1035, 9999, 115) (1159, 1158, 9999, 115)) (cond (Nat.ble k 151) (1232, 1231, 9999, 115) (1010, 1009, 9999, 115)))) (cond (Nat.ble k 156) (cond (Nat.ble k 154) (cond (Nat.ble k 153) (1013, 1012, 9999, 115) (1024, 1023, 9999, 115)) (cond (Nat.ble k 155) (1033, 1032, 9999, 115) (1030, 1029, 42, 115))) (cond (Nat.ble k 158) (cond (Nat.ble k 157) (1164, 1163, 43, 115) (1184, 1183, 9999, 115)) (cond (Nat.ble k 159) (1168, 1167, 44, 115) (1172, 1171, 45, 115)))))) (cond (Nat.ble k 176) (cond (Nat.ble k 168) (cond (Nat.ble k 164) (cond (Nat.ble k 162) (cond (Nat.ble k 161) (1176, 1175, 46, 115) (1156, 1154, 1155, 115)) (cond (Nat.ble k 163) (1190, 1189, 47, 115) (1180, 1178, 1179, 115))) (cond (Nat.ble k 166) (cond (Nat.ble k 165) (1198, 1197, 48, 115) (1194, 1192, 1193, 115)) (cond (Nat.ble k 167) (1208, 1207, 49, 115) (1202, 1200, 1201, 115)))) (cond (Nat.ble k 172) (cond (Nat.ble k 170) (cond (Nat.ble k 169) (1216, 1215, 50, 115) (1212, 1210, 1211, 115)) (cond (Nat.ble k 171) (1220, 1218, 1219, 115) (1228, 1227, 9999, 115))) (cond (Nat.ble k 174) (cond (Nat.ble k 173) (1237, 1236, 51, 115) (1225, 1223, 1224, 115)) (cond (Nat.ble k 175) (1245, 1244, 52, 115) (1241, 1239, 1240, 115))))) (cond (Nat.ble k 184) (cond (Nat.ble k 180) (cond (Nat.ble k 178) (cond (Nat.ble k 177) (1253, 1252, 53, 115) (1273, 1272, 58, 115)) (cond (Nat.ble k 179) (1265, 1264, 56, 115) (1261, 1260, 55, 115))) (cond (Nat.ble k 182) (cond (Nat.ble k 181) (1269, 1268, 57, 115) (1257, 1256, 54, 115)) (cond (Nat.ble k 183) (1277, 1276, 59, 115) (1289, 1288, 62, 115)))) (cond (Nat.ble k 188) (cond (Nat.ble k 186) (cond (Nat.ble k 185) (1285, 1284, 61, 115) (1281, 1280, 60, 115)) (cond (Nat.ble k 187) (1249, 1247, 1248, 115) (1293, 1291, 1292, 115))) (cond (Nat.ble k 190) (cond (Nat.ble k 189) (1297, 1295, 1296, 115) (1316, 1315, 65, 115)) (cond (Nat.ble k 191) (1336, 1335, 9999, 115) (1323, 1322, 9999, 115))))))) (cond (Nat.ble k 224) (cond (Nat.ble k 208) (cond (Nat.ble k 200) (cond (Nat.ble k 196) (cond (Nat.ble k 194) (cond (Nat.ble k 193) (1333, 1332, 68, 115) (1355, 1354, 72, 115)) (cond (Nat.ble k 195) (1347, 1346, 70, 115) (1342, 1341, 69, 115))) (cond (Nat.ble k 198) (cond (Nat.ble k 197) (1329, 1328, 67, 115) (1351, 1350, 71, 115)) (cond (Nat.ble k 199) (1363, 1362, 74, 115) (1359, 1358, 73, 115)))) (cond (Nat.ble k 204) (cond (Nat.ble k 202) (cond (Nat.ble k 201) (1312, 1311, 64, 115) (1367, 1366, 75, 115)) (cond (Nat.ble k 203) (1320, 1319, 66, 115) (1308, 1307, 63, 115))) (cond (Nat.ble k 206) (cond (Nat.ble k 205) (1303, 1301, 1302, 115) (1407, 1406, 83, 115)) (cond (Nat.ble k 207) (1403, 1402, 82, 115) (1399, 1398, 81, 115))))) (cond (Nat.ble k 216) (cond (Nat.ble k 212) (cond (Nat.ble k 210) (cond (Nat.ble k 209) (1411, 1410, 84, 115) (1395, 1394, 80, 115)) (cond (Nat.ble k 211) (1391, 1390, 79, 115) (1387, 1386, 78, 115))) (cond (Nat.ble k 214) (cond (Nat.ble k 213) (1415, 1414, 85, 115) (1378, 1377, 9999, 115)) (cond (Nat.ble k 215) (1383, 1382, 77, 115) (1423, 1422, 87, 115)))) (cond (Nat.ble k 220) (cond (Nat.ble k 218) (cond (Nat.ble k 217) (1419, 1418, 86, 115) (1450, 1449, 93, 115)) (cond (Nat.ble k 219) (1458, 1457, 95, 115) (1454, 1453, 94, 115))) (cond (Nat.ble k 222) (cond (Nat.ble k 221) (1431, 1430, 89, 115) (1446, 1445, 92, 115)) (cond (Nat.ble k 223) (1438, 1437, 9999, 115) (1442, 1441, 91, 115)))))) (cond (Nat.ble k 240) (cond (Nat.ble k 232) (cond (Nat.ble k 228) (cond (Nat.ble k 226) (cond (Nat.ble k 225) (1435, 1434, 90, 115) (1427, 1426, 88, 115)) (cond (Nat.ble k 227) (1375, 1373, 1374, 115) (1462, 1460, 1461, 115))) (cond (Nat.ble k 230) (cond (Nat.ble k 229) (1467, 1465, 1466, 115) (1471, 1469, 1470, 115)) (cond (Nat.ble k 231) (1475, 1473, 1474, 115) (1479, 1477, 1478, 115)))) (cond (Nat.ble k 236) (cond (Nat.ble k 234) (cond (Nat.ble k 233) (1483, 1481, 1482, 115) (1371, 1370, 76, 115)) (cond (Nat.ble k 235) (1487, 1485, 1486, 115) (1500, 1499, 96, 115))) (cond (Nat.ble k 238) (cond (Nat.ble k 237) (1491, 1489, 1490, 115) (1504, 1502, 1503, 115)) (cond (Nat.ble k 239) (1508, 1506, 1507, 115) (1512, 1510, 1511, 115))))) (cond (Nat.ble k 248) (cond (Nat.ble k 244) (cond (Nat.ble k 242) (cond (Nat.ble k 241) (1516, 1514, 1515, 115) (1523, 1522, 9999, 115)) (cond (Nat.ble k 243) (1538, 1537, 9999, 115) (1520, 1518, 1519, 115))) (cond (Nat.ble k 246) (cond (Nat.ble k 245) (1527, 1525, 1526, 115) (1535, 1534, 97, 115)) (cond (Nat.ble k 247) (1531, 1529, 1530, 115) (1542, 1540, 1541, 115)))) (cond (Nat.ble k 252) (cond (Nat.ble k 250) (cond (Nat.ble k 249) (1546, 1544, 1545, 115) (1554, 1553, 98, 115)) (cond (Nat.ble k 251) (1562, 1561, 100, 115) (1558, 1557, 99, 115))) (cond (Nat.ble k 254) (cond (Nat.ble k 253) (1550, 1548, 1549, 115) (167, 166, 9999, 106)) (cond (Nat.ble k 255) (153, 152, 9999, 105) (cond (Nat.ble k 256) (978, 977, 9999, 113) (339, 338, 9999, 113))))))))))
def lkT (pc : Nat) (off t : Int) : Bool := decide ((pc : Int) + off = t) && decide (0 ≤ t)
def lkB (o : Nat) (nm : String) (rt : Option FieldType) (pc : Nat) (am : Instr) (ln : Nat) (orig : Instr) : Bool := match am with
  | .ireturn => decide (orig = .ireturn) && Nat.beq ln 1 && (decide (rt = some .int) || decide (rt = some .boolean))
  | .lreturn => decide (orig = .lreturn) && Nat.beq ln 1 && decide (rt = some .long)
  | .areturn => decide (orig = .areturn) && Nat.beq ln 1 && (match rt with | some (.object _) => true | some (.array _) => true | _ => false)
  | .return_ => decide (orig = .return_) && Nat.beq ln 1 && decide (rt = none)
  | .sipush v => match orig with
    | .iconst n => Nat.beq ln 1 && decide (n = v)
    | .bipush n => Nat.beq ln 2 && decide (n = v) && decide (-128 ≤ v) && decide (v < 128)
    | .sipush n => Nat.beq ln 3 && decide (n = v) && decide (-32768 ≤ v) && decide (v < 32768)
    | .ldc i => Nat.beq ln 2 && (pl_i o).any (fun e => Nat.beq e.1 i && decide (e.2.1 = v))
    | .ldc_w i => Nat.beq ln 3 && (pl_i o).any (fun e => Nat.beq e.1 i && decide (e.2.1 = v))
    | _ => false
  | .jsr_w v => match orig with
    | .lconst n => Nat.beq ln 1 && decide ((n.val : Int) = v)
    | .ldc2_w i => Nat.beq ln 3 && (pl_l o).any (fun e => Nat.beq e.1 i && decide (e.2.1 = v))
    | _ => false
  | .iload i => match orig with
    | .iload j => Nat.beq ln 2 && Nat.beq j i
    | .iload_n j => Nat.beq ln 1 && Nat.beq j.val i
    | _ => false
  | .lload i => match orig with
    | .lload j => Nat.beq ln 2 && Nat.beq j i
    | .lload_n j => Nat.beq ln 1 && Nat.beq j.val i
    | _ => false
  | .aload i => match orig with
    | .aload j => Nat.beq ln 2 && Nat.beq j i
    | .aload_n j => Nat.beq ln 1 && Nat.beq j.val i
    | _ => false
  | .istore i => match orig with
    | .istore j => Nat.beq ln 2 && Nat.beq j i
    | .istore_n j => Nat.beq ln 1 && Nat.beq j.val i
    | _ => false
  | .lstore i => match orig with
    | .lstore j => Nat.beq ln 2 && Nat.beq j i
    | .lstore_n j => Nat.beq ln 1 && Nat.beq j.val i
    | _ => false
  | .astore i => match orig with
    | .astore j => Nat.beq ln 2 && Nat.beq j i
    | .astore_n j => Nat.beq ln 1 && Nat.beq j.val i
    | _ => false
  | .iinc i n => decide (orig = .iinc i n) && Nat.beq ln 3
  | .getfield q => match orig with
    | .getfield i => Nat.beq ln 3 && (pl_f o).any (fun e => Nat.beq e.1 i && Nat.beq e.2.1 q)
    | _ => false
  | .putfield q => match orig with
    | .putfield i => Nat.beq ln 3 && (pl_f o).any (fun e => Nat.beq e.1 i && Nat.beq e.2.1 q) && (!((cl_T (q / 64)) (q % 64)).2.2.2 || (decide (nm = "<init>") && Nat.beq o (q / 64)))
    | _ => false
  | .getstatic _ => match orig with
    | .getstatic i => Nat.beq ln 3 && Nat.beq o 2 && Nat.beq i 48
    | _ => false
  | .ldc s => match orig with
    | .ldc i => Nat.beq ln 2 && (pl_s o).any (fun e => Nat.beq e.1 i && Nat.beq e.2.1 s)
    | _ => false
  | .monitorexit => match orig with
    | .invokespecial i => Nat.beq ln 3 && (pl_o o).any (fun e => Nat.beq e.1 i)
    | _ => false
  | .goto t => match orig with
    | .goto u => Nat.beq ln 3 && lkT pc u t
    | _ => false
  | .ifCond c t => match orig with
    | .ifCond c' u => Nat.beq ln 3 && decide (c' = c) && lkT pc u t
    | _ => false
  | .if_icmp c t => match orig with
    | .if_icmp c' u => Nat.beq ln 3 && decide (c' = c) && lkT pc u t
    | _ => false
  | .tableswitch d lo hi ts => match orig with
    | .tableswitch d' lo' hi' ts' => decide (lo' = lo) && decide (hi' = hi) && lkT pc d' d && decide (ts'.toList.map (fun t => (pc : Int) + t) = ts.toList) && ts.toList.all (fun t => decide (0 ≤ t)) && decide (hi - lo + 1 = (ts.toList.length : Int)) && decide (-1000 ≤ lo) && decide (hi ≤ 1000)
    | _ => false
  | .lookupswitch d ps => match orig with
    | .lookupswitch d' ps' => lkT pc d' d && decide (ps'.toList.map (fun t => (t.1, (pc : Int) + t.2)) = ps.toList) && ps.toList.all (fun t => decide (0 ≤ t.2) && decide (-1000 ≤ t.1) && decide (t.1 ≤ 1000)) && (ps'.toList.zip (ps'.toList.drop 1)).all (fun (a, next) => decide (a.1 < next.1))
    | _ => false
  | .invokestatic k => match orig with
    | .invokestatic i => Nat.beq ln 3 && (pl_m o).any (fun e => Nat.beq e.1 i && Nat.beq e.2.1 k) && ml_s k && Nat.beq (am_mt k).2.2.2.1 0
    | _ => false
  | .invokevirtual k => match orig with
    | .invokevirtual i => Nat.beq ln 3 && (pl_m o).any (fun e => Nat.beq e.1 i && Nat.beq e.2.1 k && Nat.beq e.2.2.2 0) && !ml_s k && Nat.beq (am_mt k).2.2.2.1 0 && Nat.ble 1 (am_mt k).2.2.1
    | _ => false
  | .invokespecial k => match orig with
    | .invokespecial i => Nat.beq ln 3 && (pl_m o).any (fun e => Nat.beq e.1 i && Nat.beq e.2.1 k) && !ml_s k && Nat.beq (am_mt k).2.1 0 && decide ((ml_y k).name = "<init>")
    | _ => false
  | .invokeinterface p _ => match orig with
    | .invokestatic i => Nat.beq ln 3 && (pl_p o).any (fun e => Nat.beq e.1 i && Nat.beq e.2.1 p) && (Nat.ble p 1 || Nat.beq p 4)
    | .invokevirtual i => Nat.beq ln 3 && (pl_p o).any (fun e => Nat.beq e.1 i && Nat.beq e.2.1 p) && (Nat.beq p 2 || Nat.beq p 3)
    | _ => false
  | .new c => match orig with
    | .new i => Nat.beq ln 3 && (pl_c o).any (fun e => Nat.beq e.1 i && Nat.beq e.2.1 c)
    | _ => false
  | .newarray t => decide (orig = .newarray t) && Nat.beq ln 2 && (decide (t = .int) || decide (t = .boolean) || decide (t = .long))
  | .anewarray _ => match orig with
    | .anewarray i => Nat.beq ln 3 && (pl_c o).any (fun e => Nat.beq e.1 i && Nat.beq e.2.1 6)
    | _ => false
  | .multianewarray t _ => match orig with
    | .multianewarray i d => Nat.beq d 2 && Nat.beq ln 4 && (pl_c o).any (fun e => Nat.beq e.1 i && Nat.beq e.2.1 (97 + t))
    | _ => false
  | _ => decide (orig = am) && Nat.beq ln 1
def lk_all (o : Nat) (nm : String) (rt : Option FieldType) (bytes : ByteArray) (T : am_T) : Bool := T.all fun q => q.2.all fun e => match decode bytes e.1 with
  | .ok (orig, n) => Nat.beq n e.2.2 && lkB o nm rt e.1 e.2.1 n orig
  | .error _ => false
def lw_tbg : List Jvm.Cond := lw_tbl.filter goodWord
def lw_is (p : Nat) (w : Jvm.Cond) : Bool := decide (lw_tbl[p]? = some w) && goodWord w
theorem lw_is_in {p : Nat} {w : Jvm.Cond} (h : lw_is p w = true) : w ∈ lw_tbg := by
  unfold lw_is at h
  rw [Bool.and_eq_true] at h
  exact List.mem_filter.mpr ⟨List.mem_of_getElem? (of_decide_eq_true h.1), h.2⟩
theorem lw_tbg_good : ∀ w ∈ lw_tbg, w ∈ lw_tbg ∧ ((w.onTables && w.keeps) = true ∨ ∃ ty, w = .arrayClass ty) := fun w h => ⟨h, good_of_word (List.mem_filter.mp h).2⟩
def lw_nw (p : Nat) (w : Jvm.Cond) : Bool := decide (lw_tbl[p]? = some w)
/-- the links between nest mates -/
def lw_nest : List (Nat × Jvm.Cond) := [(779, .methodLinkNest (cl_R 0) 85 (ml_y 135) "EightBlocks"), (266, .methodLinkNest (cl_R 3) 11 (ml_y 78) "EightBlocks"), (833, .methodLinkNest (cl_R 4) 62 (ml_y 135) "EightBlocks"), (623, .methodLinkNest (cl_R 7) 94 (ml_y 135) "EightBlocks"), (206, .methodLinkNest (cl_R 8) 26 (ml_y 0) "EightBlocks"), (241, .methodLinkNest (cl_R 8) 33 (ml_y 59) "EightBlocks"), (353, .methodLinkNest (cl_R 8) 65 (ml_y 12) "EightBlocks")]
theorem lw_nest_in : lw_nest.all (fun q => lw_nw q.1 q.2) = true := by decide +kernel
theorem pf_ok : (List.range 15).all (fun o => (pl_f o).all fun e => lw_is e.2.2 (.fieldLink (cl_R o) e.1 (cl_R (e.2.1 / 64)) ((cl_T (e.2.1 / 64)) (e.2.1 % 64)).2.1 ((cl_T (e.2.1 / 64)) (e.2.1 % 64)).2.2.1) && Nat.ble (e.2.1 / 64 + 1) 10 && Nat.ble (e.2.1 % 64 + 1) (cl_N (e.2.1 / 64))) = true := by decide +kernel
theorem pm_ok : (List.range 15).all (fun o => (pl_m o).all fun e => Nat.ble (e.2.1 + 1) 258 && (cond (Nat.beq e.2.2.2 0) (lw_is e.2.2.1 (.methodLink (cl_R o) e.1 (ml_y e.2.1))) (lw_nest.any fun q => decide (q.2 = .methodLinkNest (cl_R o) e.1 (ml_y e.2.1) "EightBlocks")))) = true := by decide +kernel
theorem pc_ok : (List.range 15).all (fun o => (pl_c o).all fun e => lw_is e.2.2 (.classLink (cl_R o) e.1 (cond (Nat.beq e.2.1 100) "[[I" (cond (Nat.beq e.2.1 101) "[[J" (cl_R e.2.1)))) && (Nat.beq e.2.1 100 || Nat.beq e.2.1 101 || Nat.ble (e.2.1 + 1) 10)) = true := by decide +kernel
theorem pi_ok : (List.range 15).all (fun o => (pl_i o).all fun e => lw_is e.2.2 (.constant (cl_R o) e.1 (Int32.ofInt e.2.1))) = true := by decide +kernel
theorem pll_ok : (List.range 15).all (fun o => (pl_l o).all fun e => lw_is e.2.2 (.constantLong (cl_R o) e.1 (Int64.ofInt e.2.1))) = true := by decide +kernel
theorem ps_ok : (List.range 15).all (fun o => (pl_s o).all fun e => lw_nw e.2.2 (.stringRef (cl_R o) e.1 (pl_t e.2.1)) && Nat.beq o 7 && Nat.ble (e.2.1 + 1) 10) = true := by decide +kernel
theorem pp_ok : (List.range 15).all (fun o => (pl_p o).all fun e => lw_is e.2.2 (.methodLink (cl_R o) e.1 (pl_y e.2.1))) = true := by decide +kernel
theorem po_ok : (List.range 15).all (fun o => (pl_o o).all fun e => lw_is e.2 (.methodLink (cl_R o) e.1 ⟨"java/lang/Object", "<init>", "()V"⟩)) = true := by decide +kernel
def ml_ok (k : Nat) : Bool := lw_is (ml_w k).1 (.code (ml_y k) (ml_b k) (am_mL k) (ml_r k)) && lw_is (ml_w k).2.1 (cond (ml_s k) (.static (ml_y k)) (.instanceMethod (ml_y k))) && (ml_s k || decide ((ml_y k).name = "<init>") || lw_is (ml_w k).2.2.1 (.selects (ml_y k).cls (ml_y k) (ml_y k))) && lw_is (ml_w k).2.2.2 (.initialized (ml_y k).cls) && decide ((ml_y k).cls ≠ "java/lang/invoke/MethodHandle") && decide ((ml_y k).cls ≠ "java/lang/invoke/VarHandle") && plainFor (ml_y k) && decide (((parseMethodDescriptor (ml_y k).desc).map fun d => d.parameters.length + cond (ml_s k) 0 1) = some (am_mt k).1) && decide ((ml_y k).cls = cl_R (ml_o k)) && Nat.ble (am_mL k) 21 && decide ((am_mt k).2.1 = match ml_r k with | none => 0 | some .long => 2 | some .int => 1 | some .boolean => 1 | _ => 3) && (ml_s k || Nat.beq (am_mt k).2.2.1 (ml_o k + 1)) && decide (am_bz k = decide (ml_r k = some .boolean)) && (ml_s k || Nat.ble (ml_o k + 1) 10) && (decide (ml_r k ≠ some .boolean) || true)
end
section
/-! the methods' facts, ten at a time, and their tables against their bytes -/
theorem ml_ok_0 : (List.range 10).all (fun i => ml_ok (0 + i)) = true := by decide +kernel
theorem ml_ok_1 : (List.range 10).all (fun i => ml_ok (10 + i)) = true := by decide +kernel
theorem ml_ok_2 : (List.range 10).all (fun i => ml_ok (20 + i)) = true := by decide +kernel
theorem ml_ok_3 : (List.range 10).all (fun i => ml_ok (30 + i)) = true := by decide +kernel
theorem ml_ok_4 : (List.range 10).all (fun i => ml_ok (40 + i)) = true := by decide +kernel
theorem ml_ok_5 : (List.range 10).all (fun i => ml_ok (50 + i)) = true := by decide +kernel
theorem ml_ok_6 : (List.range 10).all (fun i => ml_ok (60 + i)) = true := by decide +kernel
theorem ml_ok_7 : (List.range 10).all (fun i => ml_ok (70 + i)) = true := by decide +kernel
theorem ml_ok_8 : (List.range 10).all (fun i => ml_ok (80 + i)) = true := by decide +kernel
theorem ml_ok_9 : (List.range 10).all (fun i => ml_ok (90 + i)) = true := by decide +kernel
theorem ml_ok_10 : (List.range 10).all (fun i => ml_ok (100 + i)) = true := by decide +kernel
theorem ml_ok_11 : (List.range 10).all (fun i => ml_ok (110 + i)) = true := by decide +kernel
theorem ml_ok_12 : (List.range 10).all (fun i => ml_ok (120 + i)) = true := by decide +kernel
theorem ml_ok_13 : (List.range 10).all (fun i => ml_ok (130 + i)) = true := by decide +kernel
theorem ml_ok_14 : (List.range 10).all (fun i => ml_ok (140 + i)) = true := by decide +kernel
theorem ml_ok_15 : (List.range 10).all (fun i => ml_ok (150 + i)) = true := by decide +kernel
theorem ml_ok_16 : (List.range 10).all (fun i => ml_ok (160 + i)) = true := by decide +kernel
theorem ml_ok_17 : (List.range 10).all (fun i => ml_ok (170 + i)) = true := by decide +kernel
theorem ml_ok_18 : (List.range 10).all (fun i => ml_ok (180 + i)) = true := by decide +kernel
theorem ml_ok_19 : (List.range 10).all (fun i => ml_ok (190 + i)) = true := by decide +kernel
theorem ml_ok_20 : (List.range 10).all (fun i => ml_ok (200 + i)) = true := by decide +kernel
theorem ml_ok_21 : (List.range 10).all (fun i => ml_ok (210 + i)) = true := by decide +kernel
theorem ml_ok_22 : (List.range 10).all (fun i => ml_ok (220 + i)) = true := by decide +kernel
theorem ml_ok_23 : (List.range 10).all (fun i => ml_ok (230 + i)) = true := by decide +kernel
theorem ml_ok_24 : (List.range 10).all (fun i => ml_ok (240 + i)) = true := by decide +kernel
theorem ml_ok_25 : (List.range 8).all (fun i => ml_ok (250 + i)) = true := by decide +kernel
theorem ml_ok_all {k : Nat} (h : k < 258) : ml_ok k = true := by
  have g : ∀ (a m : Nat), (List.range m).all (fun i => ml_ok (a + i)) = true → a ≤ k → k < a + m → ml_ok k = true := fun a m q h1 h2 => by
    have := List.all_eq_true.mp q (k - a) (List.mem_range.mpr (by omega))
    rwa [show a + (k - a) = k by omega] at this
  rcases Nat.lt_or_ge k 10 with h0 | h0
  · exact g 0 10 ml_ok_0 (by omega) (by omega)
  rcases Nat.lt_or_ge k 20 with h1 | h1
  · exact g 10 10 ml_ok_1 (by omega) (by omega)
  rcases Nat.lt_or_ge k 30 with h2 | h2
  · exact g 20 10 ml_ok_2 (by omega) (by omega)
  rcases Nat.lt_or_ge k 40 with h3 | h3
  · exact g 30 10 ml_ok_3 (by omega) (by omega)
  rcases Nat.lt_or_ge k 50 with h4 | h4
  · exact g 40 10 ml_ok_4 (by omega) (by omega)
  rcases Nat.lt_or_ge k 60 with h5 | h5
  · exact g 50 10 ml_ok_5 (by omega) (by omega)
  rcases Nat.lt_or_ge k 70 with h6 | h6
  · exact g 60 10 ml_ok_6 (by omega) (by omega)
  rcases Nat.lt_or_ge k 80 with h7 | h7
  · exact g 70 10 ml_ok_7 (by omega) (by omega)
  rcases Nat.lt_or_ge k 90 with h8 | h8
  · exact g 80 10 ml_ok_8 (by omega) (by omega)
  rcases Nat.lt_or_ge k 100 with h9 | h9
  · exact g 90 10 ml_ok_9 (by omega) (by omega)
  rcases Nat.lt_or_ge k 110 with h10 | h10
  · exact g 100 10 ml_ok_10 (by omega) (by omega)
  rcases Nat.lt_or_ge k 120 with h11 | h11
  · exact g 110 10 ml_ok_11 (by omega) (by omega)
  rcases Nat.lt_or_ge k 130 with h12 | h12
  · exact g 120 10 ml_ok_12 (by omega) (by omega)
  rcases Nat.lt_or_ge k 140 with h13 | h13
  · exact g 130 10 ml_ok_13 (by omega) (by omega)
  rcases Nat.lt_or_ge k 150 with h14 | h14
  · exact g 140 10 ml_ok_14 (by omega) (by omega)
  rcases Nat.lt_or_ge k 160 with h15 | h15
  · exact g 150 10 ml_ok_15 (by omega) (by omega)
  rcases Nat.lt_or_ge k 170 with h16 | h16
  · exact g 160 10 ml_ok_16 (by omega) (by omega)
  rcases Nat.lt_or_ge k 180 with h17 | h17
  · exact g 170 10 ml_ok_17 (by omega) (by omega)
  rcases Nat.lt_or_ge k 190 with h18 | h18
  · exact g 180 10 ml_ok_18 (by omega) (by omega)
  rcases Nat.lt_or_ge k 200 with h19 | h19
  · exact g 190 10 ml_ok_19 (by omega) (by omega)
  rcases Nat.lt_or_ge k 210 with h20 | h20
  · exact g 200 10 ml_ok_20 (by omega) (by omega)
  rcases Nat.lt_or_ge k 220 with h21 | h21
  · exact g 210 10 ml_ok_21 (by omega) (by omega)
  rcases Nat.lt_or_ge k 230 with h22 | h22
  · exact g 220 10 ml_ok_22 (by omega) (by omega)
  rcases Nat.lt_or_ge k 240 with h23 | h23
  · exact g 230 10 ml_ok_23 (by omega) (by omega)
  rcases Nat.lt_or_ge k 250 with h24 | h24
  · exact g 240 10 ml_ok_24 (by omega) (by omega)
  rcases Nat.lt_or_ge k 258 with h25 | h25
  · exact g 250 8 ml_ok_25 (by omega) (by omega)
  omega
end
section
theorem lk_0 : lk_all (ml_o 0) (ml_y 0).name (ml_r 0) (ml_b 0) tb_0 = true := by decide +kernel
theorem lk_1 : lk_all (ml_o 1) (ml_y 1).name (ml_r 1) (ml_b 1) tb_1 = true := by decide +kernel
theorem lk_2 : lk_all (ml_o 2) (ml_y 2).name (ml_r 2) (ml_b 2) tb_2 = true := by decide +kernel
theorem lk_3 : lk_all (ml_o 3) (ml_y 3).name (ml_r 3) (ml_b 3) tb_3 = true := by decide +kernel
theorem lk_4 : lk_all (ml_o 4) (ml_y 4).name (ml_r 4) (ml_b 4) tb_4 = true := by decide +kernel
theorem lk_5 : lk_all (ml_o 5) (ml_y 5).name (ml_r 5) (ml_b 5) tb_5 = true := by decide +kernel
theorem lk_6 : lk_all (ml_o 6) (ml_y 6).name (ml_r 6) (ml_b 6) tb_6 = true := by decide +kernel
theorem lk_7 : lk_all (ml_o 7) (ml_y 7).name (ml_r 7) (ml_b 7) tb_7 = true := by decide +kernel
theorem lk_8 : lk_all (ml_o 8) (ml_y 8).name (ml_r 8) (ml_b 8) tb_8 = true := by decide +kernel
theorem lk_9 : lk_all (ml_o 9) (ml_y 9).name (ml_r 9) (ml_b 9) tb_9 = true := by decide +kernel
theorem lk_10 : lk_all (ml_o 10) (ml_y 10).name (ml_r 10) (ml_b 10) tb_10 = true := by decide +kernel
theorem lk_11 : lk_all (ml_o 11) (ml_y 11).name (ml_r 11) (ml_b 11) tb_11 = true := by decide +kernel
theorem lk_12 : lk_all (ml_o 12) (ml_y 12).name (ml_r 12) (ml_b 12) tb_12 = true := by decide +kernel
theorem lk_13 : lk_all (ml_o 13) (ml_y 13).name (ml_r 13) (ml_b 13) tb_13 = true := by decide +kernel
theorem lk_14 : lk_all (ml_o 14) (ml_y 14).name (ml_r 14) (ml_b 14) tb_14 = true := by decide +kernel
theorem lk_15 : lk_all (ml_o 15) (ml_y 15).name (ml_r 15) (ml_b 15) tb_15 = true := by decide +kernel
theorem lk_16 : lk_all (ml_o 16) (ml_y 16).name (ml_r 16) (ml_b 16) tb_16 = true := by decide +kernel
theorem lk_17 : lk_all (ml_o 17) (ml_y 17).name (ml_r 17) (ml_b 17) tb_17 = true := by decide +kernel
theorem lk_18 : lk_all (ml_o 18) (ml_y 18).name (ml_r 18) (ml_b 18) tb_18 = true := by decide +kernel
theorem lk_19 : lk_all (ml_o 19) (ml_y 19).name (ml_r 19) (ml_b 19) tb_19 = true := by decide +kernel
theorem lk_20 : lk_all (ml_o 20) (ml_y 20).name (ml_r 20) (ml_b 20) tb_20 = true := by decide +kernel
theorem lk_21 : lk_all (ml_o 21) (ml_y 21).name (ml_r 21) (ml_b 21) tb_21 = true := by decide +kernel
theorem lk_22 : lk_all (ml_o 22) (ml_y 22).name (ml_r 22) (ml_b 22) tb_22 = true := by decide +kernel
theorem lk_23 : lk_all (ml_o 23) (ml_y 23).name (ml_r 23) (ml_b 23) tb_23 = true := by decide +kernel
theorem lk_24 : lk_all (ml_o 24) (ml_y 24).name (ml_r 24) (ml_b 24) tb_24 = true := by decide +kernel
theorem lk_25 : lk_all (ml_o 25) (ml_y 25).name (ml_r 25) (ml_b 25) tb_25 = true := by decide +kernel
theorem lk_26 : lk_all (ml_o 26) (ml_y 26).name (ml_r 26) (ml_b 26) tb_26 = true := by decide +kernel
theorem lk_27 : lk_all (ml_o 27) (ml_y 27).name (ml_r 27) (ml_b 27) tb_27 = true := by decide +kernel
theorem lk_28 : lk_all (ml_o 28) (ml_y 28).name (ml_r 28) (ml_b 28) tb_28 = true := by decide +kernel
theorem lk_29 : lk_all (ml_o 29) (ml_y 29).name (ml_r 29) (ml_b 29) tb_29 = true := by decide +kernel
theorem lk_30 : lk_all (ml_o 30) (ml_y 30).name (ml_r 30) (ml_b 30) tb_30 = true := by decide +kernel
theorem lk_31 : lk_all (ml_o 31) (ml_y 31).name (ml_r 31) (ml_b 31) tb_31 = true := by decide +kernel
theorem lk_32 : lk_all (ml_o 32) (ml_y 32).name (ml_r 32) (ml_b 32) tb_32 = true := by decide +kernel
theorem lk_33 : lk_all (ml_o 33) (ml_y 33).name (ml_r 33) (ml_b 33) tb_33 = true := by decide +kernel
theorem lk_34 : lk_all (ml_o 34) (ml_y 34).name (ml_r 34) (ml_b 34) tb_34 = true := by decide +kernel
theorem lk_35 : lk_all (ml_o 35) (ml_y 35).name (ml_r 35) (ml_b 35) tb_35 = true := by decide +kernel
theorem lk_36 : lk_all (ml_o 36) (ml_y 36).name (ml_r 36) (ml_b 36) tb_36 = true := by decide +kernel
theorem lk_37 : lk_all (ml_o 37) (ml_y 37).name (ml_r 37) (ml_b 37) tb_37 = true := by decide +kernel
theorem lk_38 : lk_all (ml_o 38) (ml_y 38).name (ml_r 38) (ml_b 38) tb_38 = true := by decide +kernel
theorem lk_39 : lk_all (ml_o 39) (ml_y 39).name (ml_r 39) (ml_b 39) tb_39 = true := by decide +kernel
theorem lk_40 : lk_all (ml_o 40) (ml_y 40).name (ml_r 40) (ml_b 40) tb_40 = true := by decide +kernel
theorem lk_41 : lk_all (ml_o 41) (ml_y 41).name (ml_r 41) (ml_b 41) tb_41 = true := by decide +kernel
theorem lk_42 : lk_all (ml_o 42) (ml_y 42).name (ml_r 42) (ml_b 42) tb_42 = true := by decide +kernel
theorem lk_43 : lk_all (ml_o 43) (ml_y 43).name (ml_r 43) (ml_b 43) tb_43 = true := by decide +kernel
theorem lk_44 : lk_all (ml_o 44) (ml_y 44).name (ml_r 44) (ml_b 44) tb_44 = true := by decide +kernel
theorem lk_45 : lk_all (ml_o 45) (ml_y 45).name (ml_r 45) (ml_b 45) tb_45 = true := by decide +kernel
theorem lk_46 : lk_all (ml_o 46) (ml_y 46).name (ml_r 46) (ml_b 46) tb_46 = true := by decide +kernel
theorem lk_47 : lk_all (ml_o 47) (ml_y 47).name (ml_r 47) (ml_b 47) tb_47 = true := by decide +kernel
theorem lk_48 : lk_all (ml_o 48) (ml_y 48).name (ml_r 48) (ml_b 48) tb_48 = true := by decide +kernel
theorem lk_49 : lk_all (ml_o 49) (ml_y 49).name (ml_r 49) (ml_b 49) tb_49 = true := by decide +kernel
theorem lk_50 : lk_all (ml_o 50) (ml_y 50).name (ml_r 50) (ml_b 50) tb_50 = true := by decide +kernel
theorem lk_51 : lk_all (ml_o 51) (ml_y 51).name (ml_r 51) (ml_b 51) tb_51 = true := by decide +kernel
theorem lk_52 : lk_all (ml_o 52) (ml_y 52).name (ml_r 52) (ml_b 52) tb_52 = true := by decide +kernel
theorem lk_53 : lk_all (ml_o 53) (ml_y 53).name (ml_r 53) (ml_b 53) tb_53 = true := by decide +kernel
theorem lk_54 : lk_all (ml_o 54) (ml_y 54).name (ml_r 54) (ml_b 54) tb_54 = true := by decide +kernel
theorem lk_55 : lk_all (ml_o 55) (ml_y 55).name (ml_r 55) (ml_b 55) tb_55 = true := by decide +kernel
theorem lk_56 : lk_all (ml_o 56) (ml_y 56).name (ml_r 56) (ml_b 56) tb_56 = true := by decide +kernel
theorem lk_57 : lk_all (ml_o 57) (ml_y 57).name (ml_r 57) (ml_b 57) tb_57 = true := by decide +kernel
theorem lk_58 : lk_all (ml_o 58) (ml_y 58).name (ml_r 58) (ml_b 58) tb_58 = true := by decide +kernel
theorem lk_59 : lk_all (ml_o 59) (ml_y 59).name (ml_r 59) (ml_b 59) tb_59 = true := by decide +kernel
theorem lk_60 : lk_all (ml_o 60) (ml_y 60).name (ml_r 60) (ml_b 60) tb_60 = true := by decide +kernel
theorem lk_61 : lk_all (ml_o 61) (ml_y 61).name (ml_r 61) (ml_b 61) tb_61 = true := by decide +kernel
theorem lk_62 : lk_all (ml_o 62) (ml_y 62).name (ml_r 62) (ml_b 62) tb_62 = true := by decide +kernel
theorem lk_63 : lk_all (ml_o 63) (ml_y 63).name (ml_r 63) (ml_b 63) tb_63 = true := by decide +kernel
theorem lk_64 : lk_all (ml_o 64) (ml_y 64).name (ml_r 64) (ml_b 64) tb_64 = true := by decide +kernel
theorem lk_65 : lk_all (ml_o 65) (ml_y 65).name (ml_r 65) (ml_b 65) tb_65 = true := by decide +kernel
theorem lk_66 : lk_all (ml_o 66) (ml_y 66).name (ml_r 66) (ml_b 66) tb_66 = true := by decide +kernel
theorem lk_67 : lk_all (ml_o 67) (ml_y 67).name (ml_r 67) (ml_b 67) tb_67 = true := by decide +kernel
theorem lk_68 : lk_all (ml_o 68) (ml_y 68).name (ml_r 68) (ml_b 68) tb_68 = true := by decide +kernel
theorem lk_69 : lk_all (ml_o 69) (ml_y 69).name (ml_r 69) (ml_b 69) tb_69 = true := by decide +kernel
theorem lk_70 : lk_all (ml_o 70) (ml_y 70).name (ml_r 70) (ml_b 70) tb_70 = true := by decide +kernel
theorem lk_71 : lk_all (ml_o 71) (ml_y 71).name (ml_r 71) (ml_b 71) tb_71 = true := by decide +kernel
theorem lk_72 : lk_all (ml_o 72) (ml_y 72).name (ml_r 72) (ml_b 72) tb_72 = true := by decide +kernel
theorem lk_73 : lk_all (ml_o 73) (ml_y 73).name (ml_r 73) (ml_b 73) tb_73 = true := by decide +kernel
theorem lk_74 : lk_all (ml_o 74) (ml_y 74).name (ml_r 74) (ml_b 74) tb_74 = true := by decide +kernel
theorem lk_75 : lk_all (ml_o 75) (ml_y 75).name (ml_r 75) (ml_b 75) tb_75 = true := by decide +kernel
theorem lk_76 : lk_all (ml_o 76) (ml_y 76).name (ml_r 76) (ml_b 76) tb_76 = true := by decide +kernel
theorem lk_77 : lk_all (ml_o 77) (ml_y 77).name (ml_r 77) (ml_b 77) tb_77 = true := by decide +kernel
theorem lk_78 : lk_all (ml_o 78) (ml_y 78).name (ml_r 78) (ml_b 78) tb_78 = true := by decide +kernel
theorem lk_79 : lk_all (ml_o 79) (ml_y 79).name (ml_r 79) (ml_b 79) tb_79 = true := by decide +kernel
theorem lk_80 : lk_all (ml_o 80) (ml_y 80).name (ml_r 80) (ml_b 80) tb_80 = true := by decide +kernel
theorem lk_81 : lk_all (ml_o 81) (ml_y 81).name (ml_r 81) (ml_b 81) tb_81 = true := by decide +kernel
theorem lk_82 : lk_all (ml_o 82) (ml_y 82).name (ml_r 82) (ml_b 82) tb_82 = true := by decide +kernel
theorem lk_83 : lk_all (ml_o 83) (ml_y 83).name (ml_r 83) (ml_b 83) tb_83 = true := by decide +kernel
theorem lk_84 : lk_all (ml_o 84) (ml_y 84).name (ml_r 84) (ml_b 84) tb_84 = true := by decide +kernel
theorem lk_85 : lk_all (ml_o 85) (ml_y 85).name (ml_r 85) (ml_b 85) tb_85 = true := by decide +kernel
end
section
theorem lk_86 : lk_all (ml_o 86) (ml_y 86).name (ml_r 86) (ml_b 86) tb_86 = true := by decide +kernel
theorem lk_87 : lk_all (ml_o 87) (ml_y 87).name (ml_r 87) (ml_b 87) tb_87 = true := by decide +kernel
theorem lk_88 : lk_all (ml_o 88) (ml_y 88).name (ml_r 88) (ml_b 88) tb_88 = true := by decide +kernel
theorem lk_89 : lk_all (ml_o 89) (ml_y 89).name (ml_r 89) (ml_b 89) tb_89 = true := by decide +kernel
theorem lk_90 : lk_all (ml_o 90) (ml_y 90).name (ml_r 90) (ml_b 90) tb_90 = true := by decide +kernel
theorem lk_91 : lk_all (ml_o 91) (ml_y 91).name (ml_r 91) (ml_b 91) tb_91 = true := by decide +kernel
theorem lk_92 : lk_all (ml_o 92) (ml_y 92).name (ml_r 92) (ml_b 92) tb_92 = true := by decide +kernel
theorem lk_93 : lk_all (ml_o 93) (ml_y 93).name (ml_r 93) (ml_b 93) tb_93 = true := by decide +kernel
theorem lk_94 : lk_all (ml_o 94) (ml_y 94).name (ml_r 94) (ml_b 94) tb_94 = true := by decide +kernel
theorem lk_95 : lk_all (ml_o 95) (ml_y 95).name (ml_r 95) (ml_b 95) tb_95 = true := by decide +kernel
theorem lk_96 : lk_all (ml_o 96) (ml_y 96).name (ml_r 96) (ml_b 96) tb_96 = true := by decide +kernel
theorem lk_97 : lk_all (ml_o 97) (ml_y 97).name (ml_r 97) (ml_b 97) tb_97 = true := by decide +kernel
theorem lk_98 : lk_all (ml_o 98) (ml_y 98).name (ml_r 98) (ml_b 98) tb_98 = true := by decide +kernel
theorem lk_99 : lk_all (ml_o 99) (ml_y 99).name (ml_r 99) (ml_b 99) tb_99 = true := by decide +kernel
theorem lk_100 : lk_all (ml_o 100) (ml_y 100).name (ml_r 100) (ml_b 100) tb_100 = true := by decide +kernel
theorem lk_101 : lk_all (ml_o 101) (ml_y 101).name (ml_r 101) (ml_b 101) tb_101 = true := by decide +kernel
theorem lk_102 : lk_all (ml_o 102) (ml_y 102).name (ml_r 102) (ml_b 102) tb_102 = true := by decide +kernel
theorem lk_103 : lk_all (ml_o 103) (ml_y 103).name (ml_r 103) (ml_b 103) tb_103 = true := by decide +kernel
theorem lk_104 : lk_all (ml_o 104) (ml_y 104).name (ml_r 104) (ml_b 104) tb_104 = true := by decide +kernel
theorem lk_105 : lk_all (ml_o 105) (ml_y 105).name (ml_r 105) (ml_b 105) tb_105 = true := by decide +kernel
theorem lk_106 : lk_all (ml_o 106) (ml_y 106).name (ml_r 106) (ml_b 106) tb_106 = true := by decide +kernel
theorem lk_107 : lk_all (ml_o 107) (ml_y 107).name (ml_r 107) (ml_b 107) tb_107 = true := by decide +kernel
theorem lk_108 : lk_all (ml_o 108) (ml_y 108).name (ml_r 108) (ml_b 108) tb_108 = true := by decide +kernel
theorem lk_109 : lk_all (ml_o 109) (ml_y 109).name (ml_r 109) (ml_b 109) tb_109 = true := by decide +kernel
theorem lk_110 : lk_all (ml_o 110) (ml_y 110).name (ml_r 110) (ml_b 110) tb_110 = true := by decide +kernel
theorem lk_111 : lk_all (ml_o 111) (ml_y 111).name (ml_r 111) (ml_b 111) tb_111 = true := by decide +kernel
theorem lk_112 : lk_all (ml_o 112) (ml_y 112).name (ml_r 112) (ml_b 112) tb_112 = true := by decide +kernel
theorem lk_113 : lk_all (ml_o 113) (ml_y 113).name (ml_r 113) (ml_b 113) tb_113 = true := by decide +kernel
theorem lk_114 : lk_all (ml_o 114) (ml_y 114).name (ml_r 114) (ml_b 114) tb_114 = true := by decide +kernel
theorem lk_115 : lk_all (ml_o 115) (ml_y 115).name (ml_r 115) (ml_b 115) tb_115 = true := by decide +kernel
theorem lk_116 : lk_all (ml_o 116) (ml_y 116).name (ml_r 116) (ml_b 116) tb_116 = true := by decide +kernel
theorem lk_117 : lk_all (ml_o 117) (ml_y 117).name (ml_r 117) (ml_b 117) tb_117 = true := by decide +kernel
theorem lk_118 : lk_all (ml_o 118) (ml_y 118).name (ml_r 118) (ml_b 118) tb_118 = true := by decide +kernel
theorem lk_119 : lk_all (ml_o 119) (ml_y 119).name (ml_r 119) (ml_b 119) tb_119 = true := by decide +kernel
theorem lk_120 : lk_all (ml_o 120) (ml_y 120).name (ml_r 120) (ml_b 120) tb_120 = true := by decide +kernel
theorem lk_121 : lk_all (ml_o 121) (ml_y 121).name (ml_r 121) (ml_b 121) tb_121 = true := by decide +kernel
theorem lk_122 : lk_all (ml_o 122) (ml_y 122).name (ml_r 122) (ml_b 122) tb_122 = true := by decide +kernel
theorem lk_123 : lk_all (ml_o 123) (ml_y 123).name (ml_r 123) (ml_b 123) tb_123 = true := by decide +kernel
theorem lk_124 : lk_all (ml_o 124) (ml_y 124).name (ml_r 124) (ml_b 124) tb_124 = true := by decide +kernel
theorem lk_125 : lk_all (ml_o 125) (ml_y 125).name (ml_r 125) (ml_b 125) tb_125 = true := by decide +kernel
theorem lk_126 : lk_all (ml_o 126) (ml_y 126).name (ml_r 126) (ml_b 126) tb_126 = true := by decide +kernel
theorem lk_127 : lk_all (ml_o 127) (ml_y 127).name (ml_r 127) (ml_b 127) tb_127 = true := by decide +kernel
theorem lk_128 : lk_all (ml_o 128) (ml_y 128).name (ml_r 128) (ml_b 128) tb_128 = true := by decide +kernel
theorem lk_129 : lk_all (ml_o 129) (ml_y 129).name (ml_r 129) (ml_b 129) tb_129 = true := by decide +kernel
theorem lk_130 : lk_all (ml_o 130) (ml_y 130).name (ml_r 130) (ml_b 130) tb_130 = true := by decide +kernel
theorem lk_131 : lk_all (ml_o 131) (ml_y 131).name (ml_r 131) (ml_b 131) tb_131 = true := by decide +kernel
theorem lk_132 : lk_all (ml_o 132) (ml_y 132).name (ml_r 132) (ml_b 132) tb_132 = true := by decide +kernel
theorem lk_133 : lk_all (ml_o 133) (ml_y 133).name (ml_r 133) (ml_b 133) tb_133 = true := by decide +kernel
theorem lk_134 : lk_all (ml_o 134) (ml_y 134).name (ml_r 134) (ml_b 134) tb_134 = true := by decide +kernel
theorem lk_135 : lk_all (ml_o 135) (ml_y 135).name (ml_r 135) (ml_b 135) tb_135 = true := by decide +kernel
theorem lk_136 : lk_all (ml_o 136) (ml_y 136).name (ml_r 136) (ml_b 136) tb_136 = true := by decide +kernel
theorem lk_137 : lk_all (ml_o 137) (ml_y 137).name (ml_r 137) (ml_b 137) tb_137 = true := by decide +kernel
theorem lk_138 : lk_all (ml_o 138) (ml_y 138).name (ml_r 138) (ml_b 138) tb_138 = true := by decide +kernel
theorem lk_139 : lk_all (ml_o 139) (ml_y 139).name (ml_r 139) (ml_b 139) tb_139 = true := by decide +kernel
theorem lk_140 : lk_all (ml_o 140) (ml_y 140).name (ml_r 140) (ml_b 140) tb_140 = true := by decide +kernel
theorem lk_141 : lk_all (ml_o 141) (ml_y 141).name (ml_r 141) (ml_b 141) tb_141 = true := by decide +kernel
theorem lk_142 : lk_all (ml_o 142) (ml_y 142).name (ml_r 142) (ml_b 142) tb_142 = true := by decide +kernel
theorem lk_143 : lk_all (ml_o 143) (ml_y 143).name (ml_r 143) (ml_b 143) tb_143 = true := by decide +kernel
theorem lk_144 : lk_all (ml_o 144) (ml_y 144).name (ml_r 144) (ml_b 144) tb_144 = true := by decide +kernel
theorem lk_145 : lk_all (ml_o 145) (ml_y 145).name (ml_r 145) (ml_b 145) tb_145 = true := by decide +kernel
theorem lk_146 : lk_all (ml_o 146) (ml_y 146).name (ml_r 146) (ml_b 146) tb_146 = true := by decide +kernel
theorem lk_147 : lk_all (ml_o 147) (ml_y 147).name (ml_r 147) (ml_b 147) tb_147 = true := by decide +kernel
theorem lk_148 : lk_all (ml_o 148) (ml_y 148).name (ml_r 148) (ml_b 148) tb_148 = true := by decide +kernel
theorem lk_149 : lk_all (ml_o 149) (ml_y 149).name (ml_r 149) (ml_b 149) tb_149 = true := by decide +kernel
theorem lk_150 : lk_all (ml_o 150) (ml_y 150).name (ml_r 150) (ml_b 150) tb_150 = true := by decide +kernel
theorem lk_151 : lk_all (ml_o 151) (ml_y 151).name (ml_r 151) (ml_b 151) tb_151 = true := by decide +kernel
theorem lk_152 : lk_all (ml_o 152) (ml_y 152).name (ml_r 152) (ml_b 152) tb_152 = true := by decide +kernel
theorem lk_153 : lk_all (ml_o 153) (ml_y 153).name (ml_r 153) (ml_b 153) tb_153 = true := by decide +kernel
theorem lk_154 : lk_all (ml_o 154) (ml_y 154).name (ml_r 154) (ml_b 154) tb_154 = true := by decide +kernel
theorem lk_155 : lk_all (ml_o 155) (ml_y 155).name (ml_r 155) (ml_b 155) tb_155 = true := by decide +kernel
theorem lk_156 : lk_all (ml_o 156) (ml_y 156).name (ml_r 156) (ml_b 156) tb_156 = true := by decide +kernel
theorem lk_157 : lk_all (ml_o 157) (ml_y 157).name (ml_r 157) (ml_b 157) tb_157 = true := by decide +kernel
theorem lk_158 : lk_all (ml_o 158) (ml_y 158).name (ml_r 158) (ml_b 158) tb_158 = true := by decide +kernel
theorem lk_159 : lk_all (ml_o 159) (ml_y 159).name (ml_r 159) (ml_b 159) tb_159 = true := by decide +kernel
theorem lk_160 : lk_all (ml_o 160) (ml_y 160).name (ml_r 160) (ml_b 160) tb_160 = true := by decide +kernel
theorem lk_161 : lk_all (ml_o 161) (ml_y 161).name (ml_r 161) (ml_b 161) tb_161 = true := by decide +kernel
theorem lk_162 : lk_all (ml_o 162) (ml_y 162).name (ml_r 162) (ml_b 162) tb_162 = true := by decide +kernel
theorem lk_163 : lk_all (ml_o 163) (ml_y 163).name (ml_r 163) (ml_b 163) tb_163 = true := by decide +kernel
theorem lk_164 : lk_all (ml_o 164) (ml_y 164).name (ml_r 164) (ml_b 164) tb_164 = true := by decide +kernel
theorem lk_165 : lk_all (ml_o 165) (ml_y 165).name (ml_r 165) (ml_b 165) tb_165 = true := by decide +kernel
theorem lk_166 : lk_all (ml_o 166) (ml_y 166).name (ml_r 166) (ml_b 166) tb_166 = true := by decide +kernel
theorem lk_167 : lk_all (ml_o 167) (ml_y 167).name (ml_r 167) (ml_b 167) tb_167 = true := by decide +kernel
theorem lk_168 : lk_all (ml_o 168) (ml_y 168).name (ml_r 168) (ml_b 168) tb_168 = true := by decide +kernel
theorem lk_169 : lk_all (ml_o 169) (ml_y 169).name (ml_r 169) (ml_b 169) tb_169 = true := by decide +kernel
theorem lk_170 : lk_all (ml_o 170) (ml_y 170).name (ml_r 170) (ml_b 170) tb_170 = true := by decide +kernel
theorem lk_171 : lk_all (ml_o 171) (ml_y 171).name (ml_r 171) (ml_b 171) tb_171 = true := by decide +kernel
end
section
theorem lk_172 : lk_all (ml_o 172) (ml_y 172).name (ml_r 172) (ml_b 172) tb_172 = true := by decide +kernel
theorem lk_173 : lk_all (ml_o 173) (ml_y 173).name (ml_r 173) (ml_b 173) tb_173 = true := by decide +kernel
theorem lk_174 : lk_all (ml_o 174) (ml_y 174).name (ml_r 174) (ml_b 174) tb_174 = true := by decide +kernel
theorem lk_175 : lk_all (ml_o 175) (ml_y 175).name (ml_r 175) (ml_b 175) tb_175 = true := by decide +kernel
theorem lk_176 : lk_all (ml_o 176) (ml_y 176).name (ml_r 176) (ml_b 176) tb_176 = true := by decide +kernel
theorem lk_177 : lk_all (ml_o 177) (ml_y 177).name (ml_r 177) (ml_b 177) tb_177 = true := by decide +kernel
theorem lk_178 : lk_all (ml_o 178) (ml_y 178).name (ml_r 178) (ml_b 178) tb_178 = true := by decide +kernel
theorem lk_179 : lk_all (ml_o 179) (ml_y 179).name (ml_r 179) (ml_b 179) tb_179 = true := by decide +kernel
theorem lk_180 : lk_all (ml_o 180) (ml_y 180).name (ml_r 180) (ml_b 180) tb_180 = true := by decide +kernel
theorem lk_181 : lk_all (ml_o 181) (ml_y 181).name (ml_r 181) (ml_b 181) tb_181 = true := by decide +kernel
theorem lk_182 : lk_all (ml_o 182) (ml_y 182).name (ml_r 182) (ml_b 182) tb_182 = true := by decide +kernel
theorem lk_183 : lk_all (ml_o 183) (ml_y 183).name (ml_r 183) (ml_b 183) tb_183 = true := by decide +kernel
theorem lk_184 : lk_all (ml_o 184) (ml_y 184).name (ml_r 184) (ml_b 184) tb_184 = true := by decide +kernel
theorem lk_185 : lk_all (ml_o 185) (ml_y 185).name (ml_r 185) (ml_b 185) tb_185 = true := by decide +kernel
theorem lk_186 : lk_all (ml_o 186) (ml_y 186).name (ml_r 186) (ml_b 186) tb_186 = true := by decide +kernel
theorem lk_187 : lk_all (ml_o 187) (ml_y 187).name (ml_r 187) (ml_b 187) tb_187 = true := by decide +kernel
theorem lk_188 : lk_all (ml_o 188) (ml_y 188).name (ml_r 188) (ml_b 188) tb_188 = true := by decide +kernel
theorem lk_189 : lk_all (ml_o 189) (ml_y 189).name (ml_r 189) (ml_b 189) tb_189 = true := by decide +kernel
theorem lk_190 : lk_all (ml_o 190) (ml_y 190).name (ml_r 190) (ml_b 190) tb_190 = true := by decide +kernel
theorem lk_191 : lk_all (ml_o 191) (ml_y 191).name (ml_r 191) (ml_b 191) tb_191 = true := by decide +kernel
theorem lk_192 : lk_all (ml_o 192) (ml_y 192).name (ml_r 192) (ml_b 192) tb_192 = true := by decide +kernel
theorem lk_193 : lk_all (ml_o 193) (ml_y 193).name (ml_r 193) (ml_b 193) tb_193 = true := by decide +kernel
theorem lk_194 : lk_all (ml_o 194) (ml_y 194).name (ml_r 194) (ml_b 194) tb_194 = true := by decide +kernel
theorem lk_195 : lk_all (ml_o 195) (ml_y 195).name (ml_r 195) (ml_b 195) tb_195 = true := by decide +kernel
theorem lk_196 : lk_all (ml_o 196) (ml_y 196).name (ml_r 196) (ml_b 196) tb_196 = true := by decide +kernel
theorem lk_197 : lk_all (ml_o 197) (ml_y 197).name (ml_r 197) (ml_b 197) tb_197 = true := by decide +kernel
theorem lk_198 : lk_all (ml_o 198) (ml_y 198).name (ml_r 198) (ml_b 198) tb_198 = true := by decide +kernel
theorem lk_199 : lk_all (ml_o 199) (ml_y 199).name (ml_r 199) (ml_b 199) tb_199 = true := by decide +kernel
theorem lk_200 : lk_all (ml_o 200) (ml_y 200).name (ml_r 200) (ml_b 200) tb_200 = true := by decide +kernel
theorem lk_201 : lk_all (ml_o 201) (ml_y 201).name (ml_r 201) (ml_b 201) tb_201 = true := by decide +kernel
theorem lk_202 : lk_all (ml_o 202) (ml_y 202).name (ml_r 202) (ml_b 202) tb_202 = true := by decide +kernel
theorem lk_203 : lk_all (ml_o 203) (ml_y 203).name (ml_r 203) (ml_b 203) tb_203 = true := by decide +kernel
theorem lk_204 : lk_all (ml_o 204) (ml_y 204).name (ml_r 204) (ml_b 204) tb_204 = true := by decide +kernel
theorem lk_205 : lk_all (ml_o 205) (ml_y 205).name (ml_r 205) (ml_b 205) tb_205 = true := by decide +kernel
theorem lk_206 : lk_all (ml_o 206) (ml_y 206).name (ml_r 206) (ml_b 206) tb_206 = true := by decide +kernel
theorem lk_207 : lk_all (ml_o 207) (ml_y 207).name (ml_r 207) (ml_b 207) tb_207 = true := by decide +kernel
theorem lk_208 : lk_all (ml_o 208) (ml_y 208).name (ml_r 208) (ml_b 208) tb_208 = true := by decide +kernel
theorem lk_209 : lk_all (ml_o 209) (ml_y 209).name (ml_r 209) (ml_b 209) tb_209 = true := by decide +kernel
theorem lk_210 : lk_all (ml_o 210) (ml_y 210).name (ml_r 210) (ml_b 210) tb_210 = true := by decide +kernel
theorem lk_211 : lk_all (ml_o 211) (ml_y 211).name (ml_r 211) (ml_b 211) tb_211 = true := by decide +kernel
theorem lk_212 : lk_all (ml_o 212) (ml_y 212).name (ml_r 212) (ml_b 212) tb_212 = true := by decide +kernel
theorem lk_213 : lk_all (ml_o 213) (ml_y 213).name (ml_r 213) (ml_b 213) tb_213 = true := by decide +kernel
theorem lk_214 : lk_all (ml_o 214) (ml_y 214).name (ml_r 214) (ml_b 214) tb_214 = true := by decide +kernel
theorem lk_215 : lk_all (ml_o 215) (ml_y 215).name (ml_r 215) (ml_b 215) tb_215 = true := by decide +kernel
theorem lk_216 : lk_all (ml_o 216) (ml_y 216).name (ml_r 216) (ml_b 216) tb_216 = true := by decide +kernel
theorem lk_217 : lk_all (ml_o 217) (ml_y 217).name (ml_r 217) (ml_b 217) tb_217 = true := by decide +kernel
theorem lk_218 : lk_all (ml_o 218) (ml_y 218).name (ml_r 218) (ml_b 218) tb_218 = true := by decide +kernel
theorem lk_219 : lk_all (ml_o 219) (ml_y 219).name (ml_r 219) (ml_b 219) tb_219 = true := by decide +kernel
theorem lk_220 : lk_all (ml_o 220) (ml_y 220).name (ml_r 220) (ml_b 220) tb_220 = true := by decide +kernel
theorem lk_221 : lk_all (ml_o 221) (ml_y 221).name (ml_r 221) (ml_b 221) tb_221 = true := by decide +kernel
theorem lk_222 : lk_all (ml_o 222) (ml_y 222).name (ml_r 222) (ml_b 222) tb_222 = true := by decide +kernel
theorem lk_223 : lk_all (ml_o 223) (ml_y 223).name (ml_r 223) (ml_b 223) tb_223 = true := by decide +kernel
theorem lk_224 : lk_all (ml_o 224) (ml_y 224).name (ml_r 224) (ml_b 224) tb_224 = true := by decide +kernel
theorem lk_225 : lk_all (ml_o 225) (ml_y 225).name (ml_r 225) (ml_b 225) tb_225 = true := by decide +kernel
theorem lk_226 : lk_all (ml_o 226) (ml_y 226).name (ml_r 226) (ml_b 226) tb_226 = true := by decide +kernel
theorem lk_227 : lk_all (ml_o 227) (ml_y 227).name (ml_r 227) (ml_b 227) tb_227 = true := by decide +kernel
theorem lk_228 : lk_all (ml_o 228) (ml_y 228).name (ml_r 228) (ml_b 228) tb_228 = true := by decide +kernel
theorem lk_229 : lk_all (ml_o 229) (ml_y 229).name (ml_r 229) (ml_b 229) tb_229 = true := by decide +kernel
theorem lk_230 : lk_all (ml_o 230) (ml_y 230).name (ml_r 230) (ml_b 230) tb_230 = true := by decide +kernel
theorem lk_231 : lk_all (ml_o 231) (ml_y 231).name (ml_r 231) (ml_b 231) tb_231 = true := by decide +kernel
theorem lk_232 : lk_all (ml_o 232) (ml_y 232).name (ml_r 232) (ml_b 232) tb_232 = true := by decide +kernel
theorem lk_233 : lk_all (ml_o 233) (ml_y 233).name (ml_r 233) (ml_b 233) tb_233 = true := by decide +kernel
theorem lk_234 : lk_all (ml_o 234) (ml_y 234).name (ml_r 234) (ml_b 234) tb_234 = true := by decide +kernel
theorem lk_235 : lk_all (ml_o 235) (ml_y 235).name (ml_r 235) (ml_b 235) tb_235 = true := by decide +kernel
theorem lk_236 : lk_all (ml_o 236) (ml_y 236).name (ml_r 236) (ml_b 236) tb_236 = true := by decide +kernel
theorem lk_237 : lk_all (ml_o 237) (ml_y 237).name (ml_r 237) (ml_b 237) tb_237 = true := by decide +kernel
theorem lk_238 : lk_all (ml_o 238) (ml_y 238).name (ml_r 238) (ml_b 238) tb_238 = true := by decide +kernel
theorem lk_239 : lk_all (ml_o 239) (ml_y 239).name (ml_r 239) (ml_b 239) tb_239 = true := by decide +kernel
theorem lk_240 : lk_all (ml_o 240) (ml_y 240).name (ml_r 240) (ml_b 240) tb_240 = true := by decide +kernel
theorem lk_241 : lk_all (ml_o 241) (ml_y 241).name (ml_r 241) (ml_b 241) tb_241 = true := by decide +kernel
theorem lk_242 : lk_all (ml_o 242) (ml_y 242).name (ml_r 242) (ml_b 242) tb_242 = true := by decide +kernel
theorem lk_243 : lk_all (ml_o 243) (ml_y 243).name (ml_r 243) (ml_b 243) tb_243 = true := by decide +kernel
theorem lk_244 : lk_all (ml_o 244) (ml_y 244).name (ml_r 244) (ml_b 244) tb_244 = true := by decide +kernel
theorem lk_245 : lk_all (ml_o 245) (ml_y 245).name (ml_r 245) (ml_b 245) tb_245 = true := by decide +kernel
theorem lk_246 : lk_all (ml_o 246) (ml_y 246).name (ml_r 246) (ml_b 246) tb_246 = true := by decide +kernel
theorem lk_247 : lk_all (ml_o 247) (ml_y 247).name (ml_r 247) (ml_b 247) tb_247 = true := by decide +kernel
theorem lk_248 : lk_all (ml_o 248) (ml_y 248).name (ml_r 248) (ml_b 248) tb_248 = true := by decide +kernel
theorem lk_249 : lk_all (ml_o 249) (ml_y 249).name (ml_r 249) (ml_b 249) tb_249 = true := by decide +kernel
theorem lk_250 : lk_all (ml_o 250) (ml_y 250).name (ml_r 250) (ml_b 250) tb_250 = true := by decide +kernel
theorem lk_251 : lk_all (ml_o 251) (ml_y 251).name (ml_r 251) (ml_b 251) tb_251 = true := by decide +kernel
theorem lk_252 : lk_all (ml_o 252) (ml_y 252).name (ml_r 252) (ml_b 252) tb_252 = true := by decide +kernel
theorem lk_253 : lk_all (ml_o 253) (ml_y 253).name (ml_r 253) (ml_b 253) tb_253 = true := by decide +kernel
theorem lk_254 : lk_all (ml_o 254) (ml_y 254).name (ml_r 254) (ml_b 254) tb_254 = true := by decide +kernel
theorem lk_255 : lk_all (ml_o 255) (ml_y 255).name (ml_r 255) (ml_b 255) tb_255 = true := by decide +kernel
theorem lk_256 : lk_all (ml_o 256) (ml_y 256).name (ml_r 256) (ml_b 256) tb_256 = true := by decide +kernel
theorem lk_257 : lk_all (ml_o 257) (ml_y 257).name (ml_r 257) (ml_b 257) tb_257 = true := by decide +kernel
end
section
/-! SOUNDNESS, I: what of the machine's heap the abstract memory says -/
/-- base, the cells outside, classes and slots, array classes by kind, the heap at the law's start -/
abbrev so_G : Type := Nat × (Nat → Nat) × va_G × (Nat → ClassId) × Heap
def so_ad (G : so_G) (r : Nat) : Nat := if r < 12 then G.2.1 r else G.1 + (r - 12)
def so_v (G : so_G) (v : Value) : Value := match v with
  | .ref r => .ref (so_ad G r)
  | w => w
def so_ty (t : Nat) : FieldType := match t with
  | 0 => .int
  | 1 => .boolean
  | 2 => .long
  | 3 => .array .int
  | 4 => .array .long
  | _ => .object "EightBlocks$State"
def so_q (G : so_G) (o : Option Nat) : Option Nat := o.map (so_ad G)
def so_f (G : so_G) (M : am_M) (r c j : Nat) : Value := cond (Nat.beq (sh_f c j) 1) (va_rf (so_q G (M.2.2.1 r j))) (.int (M.1 r j))
def so_e (G : so_G) (M : am_M) (r : Nat) : va_E := match sh_t r with
  | 0 => .inl (G.2.2.2.1 0, sh_n r, .inl (M.1 r))
  | 1 => .inl (G.2.2.2.1 1, sh_n r, .inl (M.1 r))
  | 2 => .inl (G.2.2.2.1 2, sh_n r, .inr (.inl (M.2.1 r)))
  | 3 => .inl (G.2.2.2.1 3, sh_n r, .inr (.inr (.inr (.inr fun j => so_q G (M.2.2.1 r j)))))
  | 4 => .inl (G.2.2.2.1 4, sh_n r, .inr (.inr (.inr (.inr fun j => so_q G (M.2.2.1 r j)))))
  | 5 => .inl (G.2.2.2.1 5, sh_n r, .inr (.inr (.inr (.inr fun j => so_q G (M.2.2.1 r j)))))
  | t => .inr (t - 10, (List.range (cl_N (t - 10))).map (so_f G M r (t - 10)))
def so_H (G : so_G) (U : State) (M : am_M) (H : Heap) : Prop :=
  H.size = G.1 + (M.2.2.2.1 - 12) ∧ 12 ≤ M.2.2.2.1 ∧ (∀ r, 12 ≤ r → r < M.2.2.2.1 → va_at G.2.2.1 vwCl (so_ad G r, so_e G M r) H) ∧ (∀ q : Nat, q < G.1 → H[q]? = G.2.2.2.2[q]?) ∧ (∀ r, r < 12 → G.2.1 r < G.1) ∧
  (∀ r, r < 2 → ∃ cell : Cell, G.2.2.2.2[G.2.1 r]? = some cell ∧ U.isArrayOf cell .int ∧ cell.vm ≠ .unknown ∧ cell.slots.size = am_len M r ∧ am_len M r < 2 ^ 31 ∧ ∀ j, j < am_len M r → cell.slots[j]? = some (.int (M.1 r j)))
def so_len : List Nat := (List.range 10).map fun i => sh_n (2 + i)
def so_byt : List (List Int32) := (List.range 10).map fun i => (List.range (sh_n (2 + i))).map fun j => nI (sh_c (2 + i) j)
/-- the texts, and the JDK's statics -/
def so_T (G : so_G) (U : State) : Prop := (∃ adV : Nat → Nat, vk_S 10 so_len so_byt (fun i => G.2.1 (2 + i)) adV (fun q => G.1 ≤ q) U G.2.2.2.2) ∧ va_Z "java/lang/String" "COMPACT_STRINGS" "Z" (.int 1) (fun q => G.1 ≤ q) U G.2.2.2.2 ∧ va_Zq "jdk/internal/util/Preconditions" "SIOOBE_FORMATTER" "Ljava/util/function/BiFunction;" (fun q => G.1 ≤ q) U G.2.2.2.2
theorem so_T.moved {G : so_G} {u U : State} (ha : u.vm.Alike U.vm) (h : so_T G u) : so_T G U := by
  obtain ⟨⟨adV, h1⟩, h2, h3⟩ := h
  refine ⟨⟨adV, vk_S.moved ha h1⟩, va_Z.moved ha h2, ?_⟩
  rcases h3 with h3 | ⟨t, h3⟩
  · exact Or.inl (va_Z.moved ha h3)
  · exact Or.inr ⟨t, va_Z.moved ha h3⟩
/-- what the tables say that no word says -/
def so_K (G : so_G) (U : State) : Prop :=
  va_K G.2.2.1 vwCl ((List.range 6).map fun t => (G.2.2.2.1 t, so_ty t)) U ∧ va_Z "EightBlocks$Golay" "STARTS" "[I" (.ref (G.2.1 1)) (fun q => G.1 ≤ q) U G.2.2.2.2 ∧
  (∀ C, C = "EightBlocks$State" → va_AO C U) ∧ (∀ ty, ty = FieldType.int ∨ ty = FieldType.long → (Jvm.Cond.arrayOver (.array ty)).before #[] U = true) ∧
  (∀ q ∈ lw_nest, va_Nw q.2 U) ∧ (∀ q ∈ pl_s 7, vk_R "EightBlocks$Tape" q.1 (pl_t q.2.1) (G.2.1 (2 + q.2.1)) U) ∧ so_T G U
theorem so_ad_hi (G : so_G) {r : Nat} (h : 12 ≤ r) : so_ad G r = G.1 + (r - 12) := if_neg (Nat.not_lt.mpr h)
theorem so_ad_lo (G : so_G) {r : Nat} (h : r < 12) : so_ad G r = G.2.1 r := if_pos h
theorem so_ad_inj (G : so_G) {a b : Nat} (ha : 12 ≤ a) (hb : 12 ≤ b) (h : so_ad G a = so_ad G b) : a = b := by
  rw [so_ad_hi G ha, so_ad_hi G hb] at h
  omega
theorem so_len_le : ∀ a : Nat, sh_n a ≤ 4096 := by
  have c : ∀ (b : Bool) (x y : Nat), x ≤ 4096 → y ≤ 4096 → cond b x y ≤ 4096 := fun b x y h1 h2 => by cases b <;> assumption
  intro a
  unfold sh_n
  repeat (first | exact Nat.le_of_ble_eq_true rfl | apply c)
theorem am_len_hi (M : am_M) {a : Nat} (h : 0 < a) : am_len M a = sh_n a := by
  unfold am_len
  cases a with
  | zero => omega
  | succ a => rfl
theorem so_rf (G : so_G) (o : Option Nat) : va_rf (so_q G o) = (match o with | some b => Value.ref (so_ad G b) | none => .null) := by
  cases o <;> rfl
theorem so_AOA {ty : FieldType} {u U : State} (hvm : u.vm.Alike U.vm) (h : (Jvm.Cond.arrayOver (.array ty)).before #[] u = true) : (Jvm.Cond.arrayOver (.array ty)).before #[] U = true := by
  obtain ⟨comp, c, k, h1, h2, h3, h4, h5⟩ := arrayOverA_spec (t := ty) h
  obtain ⟨k', hk', he⟩ := hvm.2.2 _ _ h3
  have hi : (U.vm.classes.findIdx? fun (x : Class) => match x.kind with | .array component _ => component == comp | _ => false) = some c := by
    refine (va_idx_bare U.vm comp).symm.trans ?_
    first | rw [hvm.bare_eq] | rw [← hvm.bare_eq]
    exact (va_idx_bare u.vm comp).trans h2
  have hkind : k'.kind = .array comp (.array ty) := by rw [he]; exact h4
  have f1 : U.vm.findClass (FieldType.array ty).toString = some comp := by rw [hvm.findClass]; exact h1
  have f2 : U.vm.findClass ("[" ++ (FieldType.array ty).toString) = some c := by rw [hvm.findClass]; exact h5
  unfold Jvm.Cond.before Jvm.Cond.holds
  simp only [Jvm.Cond.value]
  rw [f1, Option.bind_some]
  refine (congrArg (fun o : Option Nat => (o.bind (fun c => (U.vm.classes[c]?).map fun (k : Class) => match k.kind with | .array _ ty' => decide (ty' = FieldType.array ty) && decide (U.vm.findClass ("[" ++ (FieldType.array ty).toString) = some c) | _ => false) == some true)) hi).trans ?_
  simp [hk', hkind, f2]
theorem so_K.same {G : so_G} {u U : State} (hv : u.vm = U.vm) (h : so_K G u) : so_K G U := by
  have ha : u.vm.Alike U.vm := by rw [hv]; exact Vm.Alike.refl _
  obtain ⟨h1, h2, h3, h4, h5, h6, h7⟩ := h
  refine ⟨va_K.moved ha h1, va_Z.moved ha h2, fun C hC => va_AO.moved ha (h3 C hC), fun ty ht => ?_, fun q hq => ?_, fun q hq => vk_R.same hv.symm (h6 q hq), h7.moved ha⟩
  · have h9 := h4 ty ht
    simp only [Jvm.Cond.before, Jvm.Cond.holds, Jvm.Cond.value, hv] at h9 ⊢
    exact h9
  · have hm := List.all_eq_true.mp lw_nest_in q hq
    have h8 : q.2.onTables = true := by
      have h7 : ∀ q ∈ lw_nest, q.2.onTables = true := by decide +kernel
      exact h7 q hq
    exact va_Nw.same h8 hv (h5 q hq)
theorem so_K.warm {G : so_G} {s U : State} (hW : s.WarmedH U.vm) (h : so_K G s) : so_K G U := by
  have ha := hW.alike
  obtain ⟨h1, h2, h3, h4, h5, h6, h0⟩ := h
  refine ⟨va_K.moved ha h1, va_Z.moved ha h2, fun C hC => va_AO.moved ha (h3 C hC), fun ty ht => so_AOA ha (h4 ty ht), fun q hq => ?_, fun q hq => vk_R.warm hW (h6 q hq), h0.moved ha⟩
  have h7 : ∀ q ∈ lw_nest, ∃ a i x h, q.2 = Jvm.Cond.methodLinkNest a i x h := by
    have h8 : lw_nest.all (fun q => match q.2 with | .methodLinkNest .. => true | _ => false) = true := by decide +kernel
    intro q hq
    have h9 := List.all_eq_true.mp h8 q hq
    obtain ⟨n, w⟩ := q
    cases w <;> first | exact ⟨_, _, _, _, rfl⟩ | cases h9
  obtain ⟨a, i, x, h, e⟩ := h7 q hq
  have h9 := h5 q hq
  rw [e] at h9 ⊢
  exact va_Nw.warmM hW h9
theorem so_H.moved {G : so_G} {u U : State} {M : am_M} {H : Heap} (hvm : u.vm.Alike U.vm) (h : so_H G u M H) : so_H G U M H := by
  obtain ⟨h1, h2, h3, h4, h5, h6⟩ := h
  refine ⟨h1, h2, h3, h4, h5, fun r hr => ?_⟩
  obtain ⟨cell, g1, g2, g3⟩ := h6 r hr
  exact ⟨cell, g1, State.isArrayOf_alike hvm g2, g3⟩
theorem so_e_congr {G : so_G} {M M' : am_M} {r : Nat} (h1 : M'.1 r = M.1 r) (h2 : M'.2.1 r = M.2.1 r) (h3 : M'.2.2.1 r = M.2.2.1 r) : so_e G M' r = so_e G M r := by
  have hf : so_f G M' r = so_f G M r := by
    funext c j
    unfold so_f
    rw [h1, h3]
  unfold so_e
  rw [h1, h2, h3, hf]
/-- one cell changes -/
theorem so_H.upd {G : so_G} {U : State} {M M' : am_M} {H H' : Heap} {a : Nat} (h : so_H G U M H) (ha : 12 ≤ a) (hz : a < M.2.2.2.1) (hI : ∀ r, r ≠ a → M'.1 r = M.1 r) (hL : ∀ r, r ≠ a → M'.2.1 r = M.2.1 r) (hR : ∀ r, r ≠ a → M'.2.2.1 r = M.2.2.1 r) (hM : M'.2.2.2 = M.2.2.2)
    (hs : H'.size = H.size) (oq : ∀ q, q ≠ so_ad G a → H'[q]? = H[q]?) (hat : va_at G.2.2.1 vwCl (so_ad G a, so_e G M' a) H') : so_H G U M' H' := by
  obtain ⟨h1, h2, h3, h4, h5, h6⟩ := h
  refine ⟨by rw [hs, h1, hM], by rw [hM]; exact h2, fun r hr hrz => ?_, fun q hq => ?_, h5, fun r hr => ?_⟩
  · rw [hM] at hrz
    by_cases e : r = a
    · subst e; exact hat
    · rw [so_e_congr (hI r e) (hL r e) (hR r e)]
      exact (h3 r hr hrz).kept (oq _ (fun q => e (so_ad_inj G hr ha q)))
  · rw [oq q (by rw [so_ad_hi G ha]; omega)]
    exact h4 q hq
  · obtain ⟨cell, g1, g2, g3, g4, g5, g6⟩ := h6 r hr
    have e : r ≠ a := by omega
    have el : am_len M' r = am_len M r := by unfold am_len; rw [hM]
    exact ⟨cell, g1, g2, g3, by rw [el]; exact g4, by rw [el]; exact g5, fun j hj => by rw [hI r e]; exact g6 j (by rw [el] at hj; exact hj)⟩
/-- a cell more -/
theorem so_H.push {G : so_G} {U : State} {M M' : am_M} {H H' : Heap} (h : so_H G U M H) (hI : ∀ r, r < M.2.2.2.1 → M'.1 r = M.1 r) (hL : ∀ r, r < M.2.2.2.1 → M'.2.1 r = M.2.1 r) (hR : ∀ r, r < M.2.2.2.1 → M'.2.2.1 r = M.2.2.1 r) {k : Nat} (hz : M'.2.2.2.1 = M.2.2.2.1 + k) (hn : M'.2.2.2.2.2 = M.2.2.2.2.2)
    (hs : H'.size = H.size + k) (oq : ∀ q, q < H.size → H'[q]? = H[q]?) (hat : ∀ r, M.2.2.2.1 ≤ r → r < M.2.2.2.1 + k → va_at G.2.2.1 vwCl (so_ad G r, so_e G M' r) H') : so_H G U M' H' := by
  obtain ⟨h1, h2, h3, h4, h5, h6⟩ := h
  refine ⟨by rw [hs, h1, hz]; omega, by rw [hz]; omega, fun r hr hrz => ?_, fun q hq => ?_, h5, fun r hr => ?_⟩
  · by_cases e : r < M.2.2.2.1
    · rw [so_e_congr (hI r e) (hL r e) (hR r e)]
      exact (h3 r hr e).kept (oq _ ((h3 r hr e).lt))
    · exact hat r (Nat.not_lt.mp e) (by rw [hz] at hrz; exact hrz)
  · rw [oq q (by rw [h1]; omega)]
    exact h4 q hq
  · obtain ⟨cell, g1, g2, g3, g4, g5, g6⟩ := h6 r hr
    have el : am_len M' r = am_len M r := by unfold am_len; rw [hn]
    exact ⟨cell, g1, g2, g3, by rw [el]; exact g4, by rw [el]; exact g5, fun j hj => by rw [hI r (by omega)]; exact g6 j (by rw [el] at hj; exact hj)⟩
/-! indices -/
theorem so_in {i : Int32} {n : Nat} (h : am_un i < n) (hn : n ≤ 2 ^ 31) : ¬ (i < 0 ∨ n ≤ i.toNatClampNeg) ∧ i.toNatClampNeg = am_un i := by
  have h31 : i.toBitVec.toNat < 2 ^ 31 := Nat.lt_of_lt_of_le h hn
  have hI : i.toInt = (i.toBitVec.toNat : Int) := by
    show i.toBitVec.toInt = _
    rw [BitVec.toInt_eq_toNat_cond, if_pos (by omega)]
  have hc : i.toNatClampNeg = am_un i := by
    show i.toInt.toNat = _
    rw [hI]
    rfl
  refine ⟨fun q => ?_, hc⟩
  rcases q with q | q
  · have h0 : i.toInt < (0 : Int32).toInt := Int32.lt_iff_toInt_lt.mp q
    rw [hI] at h0
    simp at h0
    omega
  · rw [hc] at q
    omega
/-! locals -/
def so_L (G : so_G) (ls : Array Slot) (nL : Nat) (L : am_L) : Prop := ls.size = nL ∧ lv_wf ls ∧ L.length = nL ∧ ∀ (i : Nat) (v : Value), am_nth L i = some v → ls[i]? = some (.val (so_v G v))
theorem am_nth_lt : ∀ {L : am_L} {i : Nat} {v : Value}, am_nth L i = some v → i < L.length
  | [], _, _, h => by cases h
  | _ :: _, 0, _, _ => Nat.succ_pos _
  | _ :: l, i + 1, _, h => Nat.succ_lt_succ (am_nth_lt (L := l) h)
theorem am_set_length : ∀ (L : am_L) (i : Nat) (w : Option Value), (am_set L i w).length = L.length
  | [], _, _ => rfl
  | _ :: _, 0, _ => rfl
  | _ :: l, i + 1, w => congrArg Nat.succ (am_set_length l i w)
theorem am_nth_set : ∀ (L : am_L) (i j : Nat) (w : Option Value), am_nth (am_set L i w) j = if j = i ∧ i < L.length then w else am_nth L j
  | [], i, j, w => by simp [am_set, am_nth]
  | _ :: _, 0, 0, w => by simp [am_set, am_nth]
  | _ :: _, 0, j + 1, w => by simp [am_set, am_nth]
  | _ :: _, i + 1, 0, w => by simp [am_set, am_nth]
  | _ :: l, i + 1, j + 1, w => by simp [am_set, am_nth, am_nth_set l i j w]
def so_pairs (G : so_G) (L : am_L) : List (Nat × Value) := (List.range L.length).filterMap fun i => (am_nth L i).map fun v => (i, so_v G v)
theorem so_pairs_mem {G : so_G} {L : am_L} {q : Nat × Value} : q ∈ so_pairs G L ↔ ∃ v, am_nth L q.1 = some v ∧ q.2 = so_v G v := by
  unfold so_pairs
  rw [List.mem_filterMap]
  constructor
  · rintro ⟨i, -, h⟩
    cases hv : am_nth L i with
    | none => rw [hv] at h; cases h
    | some v => rw [hv] at h; cases h; exact ⟨v, hv, rfl⟩
  · rintro ⟨v, h1, h2⟩
    refine ⟨q.1, List.mem_range.mpr (am_nth_lt h1), ?_⟩
    rw [h1]
    show some (q.1, so_v G v) = some q
    rw [← h2]
theorem so_L.has {G : so_G} {ls : Array Slot} {nL : Nat} {L : am_L} (h : so_L G ls nL L) : lv_has ls nL (so_pairs G L) := by
  obtain ⟨h1, h2, h3, h4⟩ := h
  refine ⟨h1, h2, fun q hq => ?_⟩
  obtain ⟨v, g1, g2⟩ := so_pairs_mem.mp hq
  rw [g2]
  exact h4 _ _ g1
theorem so_v_cat (G : so_G) (v : Value) : (so_v G v).category = v.category := by cases v <;> rfl
theorem am_nl_cat {L : am_L} {j : Nat} {w : Value} (h : am_nl L (j + 1) = true) (hw : am_nth L j = some w) : ¬ w.category = 2 := by
  have h2 : (match am_nth L j with
    | some (.long _) => false
    | some (.double _) => false
    | _ => true) = true := h
  rw [hw] at h2
  cases w <;> first | (cases h2; done) | (intro q; cases q)
theorem so_L.set1 {G : so_G} {ls ls' : Array Slot} {nL : Nat} {L : am_L} {i : Nat} {v : Value} (h : so_L G ls nL L) (hn : am_nl L i = true) (hi : i < nL) (hh : lv_has ls' nL ((i, so_v G v) :: (so_pairs G L).filter (fun q => !(q.1 == i) && !(q.1 + 1 == i && q.2.category == 2)))) : so_L G ls' nL (am_set L i (some v)) := by
  obtain ⟨h1, h2, h3, h4⟩ := h
  refine ⟨hh.1, hh.2.1, by rw [am_set_length]; exact h3, fun j w hw => ?_⟩
  rw [am_nth_set] at hw
  by_cases e : j = i
  · subst e
    rw [if_pos ⟨rfl, by rw [h3]; exact hi⟩] at hw
    cases hw
    exact hh.2.2 (j, _) List.mem_cons_self
  · rw [if_neg (fun q => e q.1)] at hw
    refine hh.2.2 (j, so_v G w) (List.mem_cons_of_mem _ (List.mem_filter.mpr ⟨so_pairs_mem.mpr ⟨w, hw, rfl⟩, ?_⟩))
    simp only [Bool.and_eq_true, Bool.not_eq_true', beq_eq_false_iff_ne, ne_eq, Bool.and_eq_false_iff]
    refine ⟨e, ?_⟩
    by_cases e2 : j + 1 = i
    · right
      subst e2
      rw [so_v_cat]
      exact am_nl_cat hn hw
    · exact Or.inl e2
theorem so_L.set2 {G : so_G} {ls ls' : Array Slot} {nL : Nat} {L : am_L} {i : Nat} {v : Value} (h : so_L G ls nL L) (hn : am_nl L i = true) (hi : i + 1 < nL) (hh : lv_has ls' nL ((i, so_v G v) :: (so_pairs G L).filter (fun q => !(q.1 == i) && (!(q.1 == i + 1) && !(q.1 + 1 == i && q.2.category == 2))))) : so_L G ls' nL (am_set (am_set L i (some v)) (i + 1) none) := by
  obtain ⟨h1, h2, h3, h4⟩ := h
  refine ⟨hh.1, hh.2.1, by rw [am_set_length, am_set_length]; exact h3, fun j w hw => ?_⟩
  rw [am_nth_set, am_nth_set, am_set_length] at hw
  by_cases e1 : j = i + 1
  · rw [if_pos ⟨e1, by omega⟩] at hw
    cases hw
  rw [if_neg (fun q => e1 q.1)] at hw
  by_cases e : j = i
  · subst e
    rw [if_pos ⟨rfl, by omega⟩] at hw
    cases hw
    exact hh.2.2 (j, _) List.mem_cons_self
  · rw [if_neg (fun q => e q.1)] at hw
    refine hh.2.2 (j, so_v G w) (List.mem_cons_of_mem _ (List.mem_filter.mpr ⟨so_pairs_mem.mpr ⟨w, hw, rfl⟩, ?_⟩))
    simp only [Bool.and_eq_true, Bool.not_eq_true', beq_eq_false_iff_ne, ne_eq, Bool.and_eq_false_iff]
    refine ⟨e, e1, ?_⟩
    by_cases e2 : j + 1 = i
    · right
      subst e2
      rw [so_v_cat]
      exact am_nl_cat hn hw
    · exact Or.inl e2
/-! inversions -/
theorem am_pi_inv {st : List Value} {f : Int32 → List Value → Prop} (h : am_pi st f) : ∃ x r, st = .int x :: r ∧ f x r := by
  unfold am_pi at h
  split at h
  · exact ⟨_, _, rfl, h⟩
  · exact h.elim
theorem am_pl_inv {st : List Value} {f : Int64 → List Value → Prop} (h : am_pl st f) : ∃ x r, st = .long x :: r ∧ f x r := by
  unfold am_pl at h
  split at h
  · exact ⟨_, _, rfl, h⟩
  · exact h.elim
theorem am_pr_inv {st : List Value} {f : Nat → List Value → Prop} (h : am_pr st f) : ∃ x r, st = .ref x :: r ∧ f x r := by
  unfold am_pr at h
  split at h
  · exact ⟨_, _, rfl, h⟩
  · exact h.elim
theorem am_g_inv {b : Bool} {p : Prop} (h : am_g b p) : b = true ∧ p := by
  cases b
  · exact h.elim
  · exact ⟨rfl, h⟩
theorem am_p1_inv {st : List Value} {f : Value → List Value → Prop} (h : am_p1 st f) : ∃ v r, st = v :: r ∧ v.category = 1 ∧ f v r := by
  unfold am_p1 at h
  split at h
  · obtain ⟨h1, h2⟩ := am_g_inv h
    exact ⟨_, _, rfl, Nat.eq_of_beq_eq_true h1, h2⟩
  · exact h.elim
theorem am_ob_inv {o : Option Nat} {f : Nat → Prop} (h : am_ob o f) : ∃ b, o = some b ∧ f b := by
  cases o
  · exact h.elim
  · exact ⟨_, rfl, h⟩
theorem am_li_inv {L : am_L} {i : Nat} {f : Int32 → Prop} (h : am_li L i f) : ∃ x, am_nth L i = some (.int x) ∧ f x := by
  unfold am_li at h
  split at h
  · exact ⟨_, by assumption, h⟩
  · exact h.elim
theorem am_ll_inv {L : am_L} {i : Nat} {f : Int64 → Prop} (h : am_ll L i f) : ∃ x, am_nth L i = some (.long x) ∧ f x := by
  unfold am_ll at h
  split at h
  · exact ⟨_, by assumption, h⟩
  · exact h.elim
theorem am_lr_inv {L : am_L} {i : Nat} {f : Nat → Prop} (h : am_lr L i f) : ∃ x, am_nth L i = some (.ref x) ∧ f x := by
  unfold am_lr at h
  split at h
  · exact ⟨_, by assumption, h⟩
  · exact h.elim
theorem am_pop_inv {f : List Value → List Value → Prop} : ∀ (n : Nat) {st acc : List Value}, am_pop n st acc f → ∃ as r, st = as.reverse ++ r ∧ as.length = n ∧ f (as ++ acc) r
  | 0, st, acc, h => ⟨[], st, rfl, rfl, h⟩
  | n + 1, v :: st, acc, h => by
    obtain ⟨as, r, e, hl, hf⟩ := am_pop_inv n (st := st) (acc := v :: acc) h
    refine ⟨as ++ [v], r, ?_, by simp [hl], by simpa using hf⟩
    rw [e]
    simp
  | _ + 1, [], _, h => h.elim
theorem am_bb {a b : Bool} (h : (a && b) = true) : a = true ∧ b = true := (Bool.and_eq_true _ _).mp h
theorem am_cs_eq (G : so_G) : ∀ r : List Value, ((r.map (so_v G)).map fun v => v.category).sum = am_cs r
  | [] => rfl
  | v :: r => by
    rw [List.map_cons, List.map_cons, List.sum_cons, am_cs_eq G r, so_v_cat]
    rfl
end
section
/-! places of words for the soundness -/
def pl_u (c : Nat) : List Nat := match c with
  | 0 => [220, 222, 224, 226, 228, 230, 232, 234, 236]
  | 1 => [359, 361]
  | 2 => [190, 192, 194, 196, 198, 200]
  | 3 => [290, 292, 294]
  | 4 => [249, 251, 253, 255]
  | 5 => [343, 345, 347]
  | 6 => [277, 279, 281]
  | 7 => [312, 314, 316, 318, 320, 322, 324, 326]
  | 8 => [379, 381, 383, 385, 387, 389, 391, 393, 395, 397, 399]
  | 9 => [1077, 1079, 1081, 1083, 1085, 1087, 1089, 1091, 1093, 1095, 1097, 1099, 1101, 1103, 1105, 1107, 1109, 1111, 1113, 1115, 1117, 1119, 1121, 1123, 1125, 1127, 1129, 1131, 1133, 1135, 1137, 1139, 1141, 1143, 1145, 1147, 1149]
  | _ => []
theorem pl_u_ok : (List.range 10).all (fun c => (List.range (cl_N c)).all fun j => lw_is ((pl_u c).getD j 0) (u_lay (cl_R c) (cl_T c) j)) = true := by decide +kernel
def pl_n (c : Nat) : Nat × Nat := match c with
  | 0 => (205, 107)
  | 1 => (352, 114)
  | 2 => (139, 104)
  | 3 => (259, 109)
  | 4 => (240, 108)
  | 5 => (330, 112)
  | 6 => (265, 110)
  | 7 => (298, 111)
  | 8 => (122, 102)
  | 9 => (1003, 115)
  | _ => (0, 0)
theorem pl_n_ok : (List.range 10).all (fun c => lw_is (pl_n c).1 (.instantiable (cl_R c) (cl_N c)) && lw_is (pl_n c).2 (.initialized (cl_R c))) = true := by decide +kernel
theorem cl_ok : (List.range 10).all (fun c => decide (vwCl[c]?.map (fun q => (q.1, q.2.2)) = some (cl_R c, cl_N c)) && (List.range (cl_N c)).all (fun j => decide ((cl_T c j).1 = cl_R c) && decide (parseFieldDescriptor (cl_T c j).2.2.1 = some (cl_Y c j)) && (cond (Nat.beq (sh_f c j) 1) (match cl_Y c j with | .object _ => true | .array _ => true | _ => false) (cond (Nat.beq (sh_f c j) 0) (decide (cl_Y c j = .int)) (decide (cl_Y c j = .boolean) && Nat.beq (sh_f c j) 3)))) && (List.range (cl_N c)).all (fun a => (List.range (cl_N c)).all fun b => Nat.beq a b || decide ((cl_T c a).2.1 ≠ (cl_T c b).2.1))) = true := by decide +kernel
theorem cl_vw : ∀ c, c < 10 → vwCl[c]? = some (cl_R c, cl_T c, cl_N c)
  | 0, _ => rfl
  | 1, _ => rfl
  | 2, _ => rfl
  | 3, _ => rfl
  | 4, _ => rfl
  | 5, _ => rfl
  | 6, _ => rfl
  | 7, _ => rfl
  | 8, _ => rfl
  | 9, _ => rfl
  | _ + 10, h => by omega
theorem nb_hi {a k : Nat} (h : k < a) : Nat.ble a k = false := by
  cases e : Nat.ble a k with
  | false => rfl
  | true => exact absurd (Nat.le_of_ble_eq_true e) (by omega)
theorem sh_hi {a : Nat} (h : 1496 ≤ a) : sh_t a = 99 ∧ sh_n a = 0 := by
  unfold sh_t sh_n
  simp only [nb_hi (show 1394 < a by omega), nb_hi (show 1463 < a by omega), nb_hi (show 1481 < a by omega), nb_hi (show 1488 < a by omega), nb_hi (show 1492 < a by omega), nb_hi (show 1494 < a by omega), nb_hi (show 1495 < a by omega), cond_false, and_self]
theorem sh_obj_lo : (List.range 1496).all (fun a => cond (Nat.ble 10 (sh_t a)) (Nat.beq (sh_n a) (cl_N (sh_t a - 10)) && Nat.ble (sh_t a) 19) (Nat.ble (sh_t a) 6)) = true := by decide +kernel
theorem sh_obj {a c : Nat} (h : sh_t a = 10 + c) : sh_n a = cl_N c := by
  rcases Nat.lt_or_ge a 1496 with h1 | h1
  · have h2 := List.all_eq_true.mp sh_obj_lo a (List.mem_range.mpr h1)
    rw [h, show Nat.ble 10 (10 + c) = true from Nat.ble_eq_true_of_le (by omega), show 10 + c - 10 = c by omega] at h2
    exact Nat.eq_of_beq_eq_true ((Bool.and_eq_true _ _).mp h2).1
  · obtain ⟨h2, h3⟩ := sh_hi h1
    rw [h2] at h
    have : c = 89 := by omega
    subst this
    rw [h3]
    rfl
theorem lw_objI : (.instanceMethod Lib.objectInit : Jvm.Cond) ∈ lw_tbg := lw_is_in (p := 127) (by decide +kernel)
theorem lw_objC : (.code Lib.objectInit ⟨#[0xb1]⟩ 1 none : Jvm.Cond) ∈ lw_tbg := lw_is_in (p := 128) (by decide +kernel)
theorem lw_minS : (.static Lib.Math.min.name : Jvm.Cond) ∈ lw_tbg := lw_is_in (p := 444) (by decide +kernel)
theorem lw_minC : (.code Lib.Math.min.name Lib.Math.min.code 2 (some .int) : Jvm.Cond) ∈ lw_tbg := lw_is_in (p := 445) (by decide +kernel)
theorem lw_maxS : (.static Lib.Math.max.name : Jvm.Cond) ∈ lw_tbg := lw_is_in (p := 835) (by decide +kernel)
theorem lw_maxC : (.code Lib.Math.max.name Lib.Math.max.code 2 (some .int) : Jvm.Cond) ∈ lw_tbg := lw_is_in (p := 836) (by decide +kernel)
theorem lw_mathI : (.initialized "java/lang/Math" : Jvm.Cond) ∈ lw_tbg := lw_is_in (p := 105) (by decide +kernel)
theorem lw_cpyN : (.native arraycopyName : Jvm.Cond) ∈ lw_tbg := lw_is_in (p := 1001) (by decide +kernel)
theorem lw_cpyS : (.static arraycopyName : Jvm.Cond) ∈ lw_tbg := lw_is_in (p := 1000) (by decide +kernel)
theorem lw_sysI : (.initialized "java/lang/System" : Jvm.Cond) ∈ lw_tbg := lw_is_in (p := 120) (by decide +kernel)
theorem lw_arI : (.arrayClass .int : Jvm.Cond) ∈ lw_tbg := lw_is_in (p := 203) (by decide +kernel)
theorem lw_arZ : (.arrayClass .boolean : Jvm.Cond) ∈ lw_tbg := lw_is_in (p := 1152) (by decide +kernel)
theorem lw_arJ : (.arrayClass .long : Jvm.Cond) ∈ lw_tbg := lw_is_in (p := 350) (by decide +kernel)
theorem lw_starts : (.fieldLink (cl_R 2) 48 "EightBlocks$Golay" "STARTS" "[I" : Jvm.Cond) ∈ lw_tbg := lw_is_in (p := 149) (by decide +kernel)
theorem lw_lenC : (.code ⟨"java/lang/String", "length", "()I"⟩ cJ0_length_8abf5 1 (some .int) : Jvm.Cond) ∈ lw_tbg := lw_is_in (p := 652) (by decide +kernel)
theorem lw_chrC : (.code ⟨"java/lang/String", "charAt", "(I)C"⟩ cJ0_charAt_5068e 2 (some .char) : Jvm.Cond) ∈ lw_tbg := lw_is_in (p := 662) (by decide +kernel)
theorem lw_lenI : (.instanceMethod ⟨"java/lang/String", "length", "()I"⟩ : Jvm.Cond) ∈ lw_tbg := lw_is_in (p := 650) (by decide +kernel)
theorem lw_chrI : (.instanceMethod ⟨"java/lang/String", "charAt", "(I)C"⟩ : Jvm.Cond) ∈ lw_tbg := lw_is_in (p := 660) (by decide +kernel)
theorem lw_lenS : (.selects "java/lang/String" ⟨"java/lang/String", "length", "()I"⟩ ⟨"java/lang/String", "length", "()I"⟩ : Jvm.Cond) ∈ lw_tbg := lw_is_in (p := 651) (by decide +kernel)
theorem lw_chrS : (.selects "java/lang/String" ⟨"java/lang/String", "charAt", "(I)C"⟩ ⟨"java/lang/String", "charAt", "(I)C"⟩ : Jvm.Cond) ∈ lw_tbg := lw_is_in (p := 661) (by decide +kernel)
theorem lw_strI : (.initialized "java/lang/String" : Jvm.Cond) ∈ lw_tbg := lw_is_in (p := 116) (by decide +kernel)
theorem sh_str {a : Nat} (h : sh_t a = 6) : 2 ≤ a ∧ a < 12 := by
  rcases Nat.lt_or_ge a 1496 with h1 | h1
  · have h2 : (List.range 1496).all (fun a => cond (Nat.beq (sh_t a) 6) (Nat.ble 2 a && Nat.ble (a + 1) 12) true) = true := by decide +kernel
    have h3 := List.all_eq_true.mp h2 a (List.mem_range.mpr h1)
    rw [h] at h3
    have h4 := (Bool.and_eq_true _ _).mp h3
    exact ⟨Nat.le_of_ble_eq_true h4.1, Nat.le_of_ble_eq_true h4.2⟩
  · rw [(sh_hi h1).1] at h; cases h
end
section
/-! SOUNDNESS, II: each instruction -/
def so_S (G : so_G) (nL z0 s0 zm sm : Nat) (s : State) (L : am_L) (M : am_M) (H : Heap) (ls : Array Slot) (locs : List Loc) (cells slots : Nat) : Prop :=
  so_L G ls nL L ∧ so_H G s M H ∧ z0 + cells = M.2.2.2.1 ∧ s0 + slots = M.2.2.2.2.1 ∧ M.2.2.2.1 ≤ zm ∧ M.2.2.2.2.1 ≤ sm ∧ ∀ q ∈ locs, G.1 ≤ q.base
def so_X (p : Program) (l : Launch) (e : Env) (R : Room) (s : State) (m : MethodId) (args : Array Value) (below : List Frame) (meth : Method) (c : Code) (Q : State → Prop) (G : so_G) (nL z0 s0 zm sm : Nat) : am_K := fun pc L st M => ∀ (H : Heap) (ls : Array Slot) (locs : List Loc) (cells slots : Nat), so_S G nL z0 s0 zm sm s L M H ls locs cells slots → W p l e R s m args below meth c H locs cells slots Q (F0 m pc ls (st.map (so_v G)))
def so_Fx (p : Program) (s : State) (m : MethodId) (args : Array Value) (meth : Method) (c : Code) (cc : ByteArray) (o nL : Nat) (nm : String) (G : so_G) (R : Room) (z0 s0 zm sm d : Nat) : Prop :=
  p.tables.exec = Jvm.exec ∧ c.code = cc ∧ c.maxLocals = nL ∧ s.vm.findClass (cl_R o) = some m.cls ∧ (∀ w ∈ lw_tbg, w.before args s = true) ∧ so_K G s ∧ meth.name = nm ∧ zm ≤ z0 + R.cells ∧ sm ≤ s0 + R.slots ∧ d + 6 ≤ R.frames ∧ 40 * d + 240 ≤ R.locals ∧ o < 15
theorem lk_d {orig a : Instr} {ln n : Nat} (h : (decide (orig = a) && Nat.beq ln n) = true) : orig = a ∧ ln = n := ⟨of_decide_eq_true (am_bb h).1, Nat.eq_of_beq_eq_true (am_bb h).2⟩
theorem lk_any2 {α : Type} {l : List (Nat × Nat × α)} {i q : Nat} (h : (l.any fun e => Nat.beq e.1 i && Nat.beq e.2.1 q) = true) : ∃ x, (i, q, x) ∈ l := by
  obtain ⟨⟨a, b, x⟩, h1, h2⟩ := List.any_eq_true.mp h
  obtain ⟨h3, h4⟩ := am_bb h2
  cases Nat.eq_of_beq_eq_true h3
  cases Nat.eq_of_beq_eq_true h4
  exact ⟨x, h1⟩
theorem lk_anyI {l : List (Nat × Int × Nat)} {i : Nat} {v : Int} (h : (l.any fun e => Nat.beq e.1 i && decide (e.2.1 = v)) = true) : ∃ x, (i, v, x) ∈ l := by
  obtain ⟨⟨a, b, x⟩, h1, h2⟩ := List.any_eq_true.mp h
  obtain ⟨h3, h4⟩ := am_bb h2
  cases Nat.eq_of_beq_eq_true h3
  cases of_decide_eq_true h4
  exact ⟨x, h1⟩
theorem lk_all15 {f : Nat → Bool} (h : (List.range 15).all f = true) {o : Nat} (ho : o < 15) : f o = true := List.all_eq_true.mp h o (List.mem_range.mpr ho)
theorem lk_all10 {f : Nat → Bool} (h : (List.range 10).all f = true) {o : Nat} (ho : o < 10) : f o = true := List.all_eq_true.mp h o (List.mem_range.mpr ho)
theorem lkT_to {pc : Nat} {off t : Int} (h : lkT pc off t = true) : (pc : Int) + off = ((t.toNat : Nat) : Int) := by
  obtain ⟨h1, h2⟩ := am_bb h
  rw [of_decide_eq_true h1, Int.toNat_of_nonneg (of_decide_eq_true h2)]
theorem so_b8 {v : Int} (h1 : -128 ≤ v) (h2 : v < 128) : (Int8.ofInt v).toInt32 = Int32.ofInt v := by
  apply Int32.toInt_inj.mp
  rw [Int8.toInt_toInt32, Int8.toInt_ofInt_of_le (by simpa using h1) (by simpa using h2), Int32.toInt_ofInt_of_le (by omega) (by omega)]
theorem so_b16 {v : Int} (h1 : -32768 ≤ v) (h2 : v < 32768) : (Int16.ofInt v).toInt32 = Int32.ofInt v := by
  apply Int32.toInt_inj.mp
  rw [Int16.toInt_toInt32, Int16.toInt_ofInt_of_le (by simpa using h1) (by simpa using h2), Int32.toInt_ofInt_of_le (by omega) (by omega)]
section SO
variable {p : Program} {l : Launch} {e : Env} {R : Room} {s : State} {m : MethodId} {args : Array Value} {below : List Frame} {meth : Method} {c : Code} {Q : State → Prop}
variable {cc : ByteArray} {G : so_G} {o nL z0 s0 zm sm d : Nat} {nm : String} {pc : Nat} {L : am_L} {st : List Value} {M : am_M}
theorem so_const (F : so_Fx p s m args meth c cc o nL nm G R z0 s0 zm sm d) {v : Int} {ln : Nat} {orig : Instr} {rt : Option FieldType} (hk : lkB o nm rt pc (.sipush v) ln orig = true) (hd : decode cc pc = .ok (orig, ln)) (h : so_X p l e R s m args below meth c Q G nL z0 s0 zm sm (pc + ln) L (.int (am_k v) :: st) M) : so_X p l e R s m args below meth c Q G nL z0 s0 zm sm pc L st M := by
  intro H ls locs cells slots S
  have k := h H ls locs cells slots S
  rw [am_k_eq] at k
  dsimp only [lkB] at hk
  split at hk
  · obtain ⟨h1, h2⟩ := am_bb hk
    cases Nat.eq_of_beq_eq_true h1
    cases of_decide_eq_true h2
    exact lv_iconst F.1 F.2.1 hd rfl k
  · obtain ⟨h1, h4⟩ := am_bb hk
    obtain ⟨h1, h3⟩ := am_bb h1
    obtain ⟨h1, h2⟩ := am_bb h1
    cases Nat.eq_of_beq_eq_true h1
    cases of_decide_eq_true h2
    exact lv_bipush F.1 F.2.1 hd (so_b8 (of_decide_eq_true h3) (of_decide_eq_true h4)) k
  · obtain ⟨h1, h4⟩ := am_bb hk
    obtain ⟨h1, h3⟩ := am_bb h1
    obtain ⟨h1, h2⟩ := am_bb h1
    cases Nat.eq_of_beq_eq_true h1
    cases of_decide_eq_true h2
    exact lv_sipush F.1 F.2.1 hd (so_b16 (of_decide_eq_true h3) (of_decide_eq_true h4)) k
  · obtain ⟨h1, h2⟩ := am_bb hk
    cases Nat.eq_of_beq_eq_true h1
    obtain ⟨x, hx⟩ := lk_anyI h2
    exact lv_ldc F.1 F.2.1 F.2.2.2.1 (F.2.2.2.2.1 _ (lw_is_in (List.all_eq_true.mp (lk_all15 pi_ok F.2.2.2.2.2.2.2.2.2.2.2) _ hx))) hd k
  · obtain ⟨h1, h2⟩ := am_bb hk
    cases Nat.eq_of_beq_eq_true h1
    obtain ⟨x, hx⟩ := lk_anyI h2
    exact lv_ldcw F.1 F.2.1 F.2.2.2.1 (F.2.2.2.2.1 _ (lw_is_in (List.all_eq_true.mp (lk_all15 pi_ok F.2.2.2.2.2.2.2.2.2.2.2) _ hx))) hd k
  · cases hk
theorem so_constL (F : so_Fx p s m args meth c cc o nL nm G R z0 s0 zm sm d) {v : Int} {ln : Nat} {orig : Instr} {rt : Option FieldType} (hk : lkB o nm rt pc (.jsr_w v) ln orig = true) (hd : decode cc pc = .ok (orig, ln)) (h : so_X p l e R s m args below meth c Q G nL z0 s0 zm sm (pc + ln) L (.long (am_kl v) :: st) M) : so_X p l e R s m args below meth c Q G nL z0 s0 zm sm pc L st M := by
  intro H ls locs cells slots S
  have k := h H ls locs cells slots S
  rw [am_kl_eq] at k
  dsimp only [lkB] at hk
  split at hk
  · rename_i n
    obtain ⟨h1, h2⟩ := am_bb hk
    cases Nat.eq_of_beq_eq_true h1
    have h3 := of_decide_eq_true h2
    subst h3
    exact lv_lconst F.1 F.2.1 hd (by rcases n with ⟨n, hn⟩; match n, hn with | 0, _ => rfl | 1, _ => rfl) k
  · obtain ⟨h1, h2⟩ := am_bb hk
    cases Nat.eq_of_beq_eq_true h1
    obtain ⟨x, hx⟩ := lk_anyI h2
    exact lv_ldc2 F.1 F.2.1 F.2.2.2.1 (F.2.2.2.2.1 _ (lw_is_in (List.all_eq_true.mp (lk_all15 pll_ok F.2.2.2.2.2.2.2.2.2.2.2) _ hx))) hd k
  · cases hk
theorem so_iload (F : so_Fx p s m args meth c cc o nL nm G R z0 s0 zm sm d) {i : Nat} {ln : Nat} {orig : Instr} {rt : Option FieldType} (hk : lkB o nm rt pc (.iload i) ln orig = true) (hd : decode cc pc = .ok (orig, ln)) (h : am_li L i fun x => so_X p l e R s m args below meth c Q G nL z0 s0 zm sm (pc + ln) L (.int x :: st) M) : so_X p l e R s m args below meth c Q G nL z0 s0 zm sm pc L st M := by
  intro H ls locs cells slots S
  obtain ⟨x, hx, h⟩ := am_li_inv h
  have k := h H ls locs cells slots S
  have hl := S.1.2.2.2 _ _ hx
  dsimp only [lkB] at hk
  split at hk
  · obtain ⟨h1, h2⟩ := am_bb hk
    cases Nat.eq_of_beq_eq_true h1
    cases Nat.eq_of_beq_eq_true h2
    exact lv_iload F.1 F.2.1 hd hl k
  · obtain ⟨h1, h2⟩ := am_bb hk
    cases Nat.eq_of_beq_eq_true h1
    exact lv_iload_n F.1 F.2.1 hd (Nat.eq_of_beq_eq_true h2) hl k
  · cases hk
theorem so_lload (F : so_Fx p s m args meth c cc o nL nm G R z0 s0 zm sm d) {i : Nat} {ln : Nat} {orig : Instr} {rt : Option FieldType} (hk : lkB o nm rt pc (.lload i) ln orig = true) (hd : decode cc pc = .ok (orig, ln)) (h : am_ll L i fun x => so_X p l e R s m args below meth c Q G nL z0 s0 zm sm (pc + ln) L (.long x :: st) M) : so_X p l e R s m args below meth c Q G nL z0 s0 zm sm pc L st M := by
  intro H ls locs cells slots S
  obtain ⟨x, hx, h⟩ := am_ll_inv h
  have k := h H ls locs cells slots S
  have hl := S.1.2.2.2 _ _ hx
  dsimp only [lkB] at hk
  split at hk
  · obtain ⟨h1, h2⟩ := am_bb hk
    cases Nat.eq_of_beq_eq_true h1
    cases Nat.eq_of_beq_eq_true h2
    exact lv_lload F.1 F.2.1 hd hl k
  · obtain ⟨h1, h2⟩ := am_bb hk
    cases Nat.eq_of_beq_eq_true h1
    exact lv_lload_n F.1 F.2.1 hd (Nat.eq_of_beq_eq_true h2) hl k
  · cases hk
theorem so_aload (F : so_Fx p s m args meth c cc o nL nm G R z0 s0 zm sm d) {i : Nat} {ln : Nat} {orig : Instr} {rt : Option FieldType} (hk : lkB o nm rt pc (.aload i) ln orig = true) (hd : decode cc pc = .ok (orig, ln)) (h : am_lr L i fun x => so_X p l e R s m args below meth c Q G nL z0 s0 zm sm (pc + ln) L (.ref x :: st) M) : so_X p l e R s m args below meth c Q G nL z0 s0 zm sm pc L st M := by
  intro H ls locs cells slots S
  obtain ⟨x, hx, h⟩ := am_lr_inv h
  have k := h H ls locs cells slots S
  have hl := S.1.2.2.2 _ _ hx
  dsimp only [lkB] at hk
  split at hk
  · obtain ⟨h1, h2⟩ := am_bb hk
    cases Nat.eq_of_beq_eq_true h1
    cases Nat.eq_of_beq_eq_true h2
    exact lv_aload F.1 F.2.1 hd hl k
  · obtain ⟨h1, h2⟩ := am_bb hk
    cases Nat.eq_of_beq_eq_true h1
    exact lv_aload_n F.1 F.2.1 hd (Nat.eq_of_beq_eq_true h2) hl k
  · cases hk
theorem so_istore (F : so_Fx p s m args meth c cc o nL nm G R z0 s0 zm sm d) {i : Nat} {ln : Nat} {orig : Instr} {rt : Option FieldType} (hk : lkB o nm rt pc (.istore i) ln orig = true) (hd : decode cc pc = .ok (orig, ln)) (h : am_pi st fun x r => am_g (am_nl L i && Nat.ble (i + 1) L.length) (so_X p l e R s m args below meth c Q G nL z0 s0 zm sm (pc + ln) (am_set L i (some (.int x))) r M)) : so_X p l e R s m args below meth c Q G nL z0 s0 zm sm pc L st M := by
  obtain ⟨x, r, rfl, h⟩ := am_pi_inv h
  obtain ⟨hg, h⟩ := am_g_inv h
  obtain ⟨g1, g2⟩ := am_bb hg
  intro H ls locs cells slots S
  obtain ⟨S1, S2⟩ := S
  have hi : i < nL := by have := Nat.le_of_ble_eq_true g2; rw [S1.2.2.1] at this; exact this
  have k : ∀ ls' : Array Slot, lv_has ls' nL ((i, Value.int x) :: (so_pairs G L).filter (fun q => !(q.1 == i) && !(q.1 + 1 == i && q.2.category == 2))) → W p l e R s m args below meth c H locs cells slots Q (F0 m (pc + ln) ls' (r.map (so_v G))) := fun ls' hh => h H ls' locs cells slots ⟨S1.set1 (v := .int x) g1 hi hh, S2⟩
  dsimp only [lkB] at hk
  split at hk
  · obtain ⟨h1, h2⟩ := am_bb hk
    cases Nat.eq_of_beq_eq_true h1
    cases Nat.eq_of_beq_eq_true h2
    exact lv_istore F.1 F.2.1 hd S1.has hi rfl k
  · obtain ⟨h1, h2⟩ := am_bb hk
    cases Nat.eq_of_beq_eq_true h1
    exact lv_istore_n F.1 F.2.1 hd (Nat.eq_of_beq_eq_true h2) S1.has hi rfl k
  · cases hk
theorem so_astore (F : so_Fx p s m args meth c cc o nL nm G R z0 s0 zm sm d) {i : Nat} {ln : Nat} {orig : Instr} {rt : Option FieldType} (hk : lkB o nm rt pc (.astore i) ln orig = true) (hd : decode cc pc = .ok (orig, ln)) (h : am_pr st fun x r => am_g (am_nl L i && Nat.ble (i + 1) L.length) (so_X p l e R s m args below meth c Q G nL z0 s0 zm sm (pc + ln) (am_set L i (some (.ref x))) r M)) : so_X p l e R s m args below meth c Q G nL z0 s0 zm sm pc L st M := by
  obtain ⟨x, r, rfl, h⟩ := am_pr_inv h
  obtain ⟨hg, h⟩ := am_g_inv h
  obtain ⟨g1, g2⟩ := am_bb hg
  intro H ls locs cells slots S
  obtain ⟨S1, S2⟩ := S
  have hi : i < nL := by have := Nat.le_of_ble_eq_true g2; rw [S1.2.2.1] at this; exact this
  have k : ∀ ls' : Array Slot, lv_has ls' nL ((i, Value.ref (so_ad G x)) :: (so_pairs G L).filter (fun q => !(q.1 == i) && !(q.1 + 1 == i && q.2.category == 2))) → W p l e R s m args below meth c H locs cells slots Q (F0 m (pc + ln) ls' (r.map (so_v G))) := fun ls' hh => h H ls' locs cells slots ⟨S1.set1 (v := .ref x) g1 hi hh, S2⟩
  dsimp only [lkB] at hk
  split at hk
  · obtain ⟨h1, h2⟩ := am_bb hk
    cases Nat.eq_of_beq_eq_true h1
    cases Nat.eq_of_beq_eq_true h2
    exact lv_astore F.1 F.2.1 hd S1.has hi rfl k
  · obtain ⟨h1, h2⟩ := am_bb hk
    cases Nat.eq_of_beq_eq_true h1
    exact lv_astore_n F.1 F.2.1 hd (Nat.eq_of_beq_eq_true h2) S1.has hi rfl k
  · cases hk
theorem so_lstore (F : so_Fx p s m args meth c cc o nL nm G R z0 s0 zm sm d) {i : Nat} {ln : Nat} {orig : Instr} {rt : Option FieldType} (hk : lkB o nm rt pc (.lstore i) ln orig = true) (hd : decode cc pc = .ok (orig, ln)) (h : am_pl st fun x r => am_g (am_nl L i && Nat.ble (i + 2) L.length) (so_X p l e R s m args below meth c Q G nL z0 s0 zm sm (pc + ln) (am_set (am_set L i (some (.long x))) (i + 1) none) r M)) : so_X p l e R s m args below meth c Q G nL z0 s0 zm sm pc L st M := by
  obtain ⟨x, r, rfl, h⟩ := am_pl_inv h
  obtain ⟨hg, h⟩ := am_g_inv h
  obtain ⟨g1, g2⟩ := am_bb hg
  intro H ls locs cells slots S
  obtain ⟨S1, S2⟩ := S
  have hi : i + 1 < nL := by have := Nat.le_of_ble_eq_true g2; rw [S1.2.2.1] at this; exact this
  have k : ∀ ls' : Array Slot, lv_has ls' nL ((i, Value.long x) :: (so_pairs G L).filter (fun q => !(q.1 == i) && (!(q.1 == i + 1) && !(q.1 + 1 == i && q.2.category == 2)))) → W p l e R s m args below meth c H locs cells slots Q (F0 m (pc + ln) ls' (r.map (so_v G))) := fun ls' hh => h H ls' locs cells slots ⟨S1.set2 (v := .long x) g1 hi hh, S2⟩
  dsimp only [lkB] at hk
  split at hk
  · obtain ⟨h1, h2⟩ := am_bb hk
    cases Nat.eq_of_beq_eq_true h1
    cases Nat.eq_of_beq_eq_true h2
    exact lv_lstore F.1 F.2.1 hd S1.has hi rfl k
  · obtain ⟨h1, h2⟩ := am_bb hk
    cases Nat.eq_of_beq_eq_true h1
    exact lv_lstore_n F.1 F.2.1 hd (Nat.eq_of_beq_eq_true h2) S1.has hi rfl k
  · cases hk
theorem so_iinc (F : so_Fx p s m args meth c cc o nL nm G R z0 s0 zm sm d) {i : Nat} {n : Int} (hd : decode cc pc = .ok (.iinc i n, 3)) (h : am_li L i fun x => am_g (am_nl L i && Nat.ble (i + 1) L.length) (so_X p l e R s m args below meth c Q G nL z0 s0 zm sm (pc + 3) (am_set L i (some (.int (x + am_k n)))) st M)) : so_X p l e R s m args below meth c Q G nL z0 s0 zm sm pc L st M := by
  obtain ⟨x, hx, h⟩ := am_li_inv h
  obtain ⟨hg, h⟩ := am_g_inv h
  obtain ⟨g1, g2⟩ := am_bb hg
  intro H ls locs cells slots S
  obtain ⟨S1, S2⟩ := S
  have hi : i < nL := by have := Nat.le_of_ble_eq_true g2; rw [S1.2.2.1] at this; exact this
  have hm : (i, Value.int x) ∈ so_pairs G L := so_pairs_mem.mpr ⟨.int x, hx, rfl⟩
  obtain ⟨k, hk⟩ := List.getElem?_of_mem hm
  rw [am_k_eq] at h
  exact lv_iinc F.1 F.2.1 hd S1.has hk rfl hi rfl fun ls' hh => h H ls' locs cells slots ⟨S1.set1 (v := .int (x + Int32.ofInt n)) g1 hi hh, S2⟩
end SO
end
section
/-! SOUNDNESS, III: arrays and fields -/
theorem am_beq_ne {a b : Nat} (h : a ≠ b) : Nat.beq a b = false := by
  cases e : Nat.beq a b with
  | false => rfl
  | true => exact absurd (Nat.eq_of_beq_eq_true e) h
theorem am_beq_rf (a : Nat) : Nat.beq a a = true := Nat.beq_refl a
theorem am_sr_eq {α : Type} (I : Nat → Nat → α) (a : Nat) (g : Nat → α) : am_sr I a g a = g := by
  unfold am_sr
  rw [am_beq_rf]
  rfl
theorem am_sr_ne {α : Type} (I : Nat → Nat → α) {a b : Nat} (g : Nat → α) (h : b ≠ a) : am_sr I a g b = I b := by
  unfold am_sr
  rw [am_beq_ne h]
  rfl
theorem am_u1_eq {α : Type} (f : Nat → α) (k : Nat) (x : α) : am_u1 f k x k = x := by
  unfold am_u1
  rw [am_beq_rf]
  rfl
theorem am_u1_ne {α : Type} (f : Nat → α) {k j : Nat} (x : α) (h : j ≠ k) : am_u1 f k x j = f j := by
  unfold am_u1
  rw [am_beq_ne h]
  rfl
theorem so_updV {α : Type} (mk : α → Value) (f : Nat → α) (k : Nat) (x : α) : updV (fun j => mk (f j)) k (mk x) = fun j => mk (am_u1 f k x j) := by
  funext j
  unfold updV
  by_cases h : j = k
  · subst h
    rw [if_pos rfl, am_u1_eq]
  · rw [if_neg h, am_u1_ne _ _ h]
theorem so_ok_t {M : am_M} {a t : Nat} (h : am_ok M a t = true) : sh_t a = t ∧ a < M.2.2.2.1 := ⟨Nat.eq_of_beq_eq_true (am_bb h).1, Nat.le_of_ble_eq_true (am_bb h).2⟩
theorem so_lo12 : ∀ a, a < 12 → sh_t a = 0 ∧ (a < 2) ∨ sh_t a = 6 := by decide +kernel
theorem so_hi12 {a : Nat} (h0 : sh_t a ≠ 0) (h6 : sh_t a ≠ 6) : 12 ≤ a := by
  rcases Nat.lt_or_ge a 12 with h | h
  · rcases so_lo12 a h with q | q
    · exact absurd q.1 h0
    · exact absurd q h6
  · exact h
theorem so_e0 {G : so_G} {M : am_M} {a : Nat} (h : sh_t a = 0) : so_e G M a = .inl (G.2.2.2.1 0, sh_n a, .inl (M.1 a)) := by
  unfold so_e; rw [h]; rfl
theorem so_e1 {G : so_G} {M : am_M} {a : Nat} (h : sh_t a = 1) : so_e G M a = .inl (G.2.2.2.1 1, sh_n a, .inl (M.1 a)) := by
  unfold so_e; rw [h]; rfl
theorem so_e2 {G : so_G} {M : am_M} {a : Nat} (h : sh_t a = 2) : so_e G M a = .inl (G.2.2.2.1 2, sh_n a, .inr (.inl (M.2.1 a))) := by
  unfold so_e; rw [h]; rfl
theorem so_eq {G : so_G} {M : am_M} {a t : Nat} (h : sh_t a = t) (ht : 3 ≤ t) (ht5 : t ≤ 5) : so_e G M a = .inl (G.2.2.2.1 t, sh_n a, .inr (.inr (.inr (.inr fun j => so_q G (M.2.2.1 a j))))) := by
  unfold so_e
  rw [h]
  match t, ht, ht5 with
  | 3, _, _ => rfl
  | 4, _, _ => rfl
  | 5, _, _ => rfl
theorem so_eo {G : so_G} {M : am_M} {a c : Nat} (h : sh_t a = 10 + c) : so_e G M a = .inr (c, (List.range (cl_N c)).map (so_f G M a c)) := by
  unfold so_e
  rw [h]
  have h1 : 10 + c - 10 = c := by omega
  split
  all_goals first
    | omega
    | (rw [h1])
theorem so_tys (G : so_G) : ∀ t, t < 6 → ((List.range 6).map fun t => (G.2.2.2.1 t, so_ty t))[t]? = some (G.2.2.2.1 t, so_ty t)
  | 0, _ => rfl
  | 1, _ => rfl
  | 2, _ => rfl
  | 3, _ => rfl
  | 4, _ => rfl
  | 5, _ => rfl
  | _ + 6, h => by omega
section SO
variable {p : Program} {l : Launch} {e : Env} {R : Room} {s : State} {m : MethodId} {args : Array Value} {below : List Frame} {meth : Method} {c : Code} {Q : State → Prop}
variable {cc : ByteArray} {G : so_G} {o nL z0 s0 zm sm d : Nat} {nm : String} {pc : Nat} {L : am_L} {st : List Value} {M : am_M}
theorem so_arr {H : Heap} {a : Nat} (hK : so_K G s) (hH : so_H G s M H) (h : am_ok M a 0 = true) : ∃ cell : Cell, H[so_ad G a]? = some cell ∧ s.isArrayOf cell .int ∧ cell.vm ≠ .unknown ∧ cell.slots.size = am_len M a ∧ am_len M a < 2 ^ 31 ∧ ∀ j, j < am_len M a → cell.slots[j]? = some (.int (M.1 a j)) := by
  obtain ⟨ht, hz⟩ := so_ok_t h
  obtain ⟨h1, h2, h3, h4, h5, h6⟩ := hH
  rcases Nat.lt_or_ge a 12 with ha | ha
  · rcases so_lo12 a ha with q | q
    · obtain ⟨cell, g1, g2⟩ := h6 a q.2
      refine ⟨cell, ?_, g2⟩
      rw [so_ad_lo G ha, h4 _ (h5 a ha)]
      exact g1
    · rw [ht] at q; cases q
  · have hat := h3 a ha hz
    rw [so_e0 ht] at hat
    have hc : H[so_ad G a]? = some (arrV (G.2.2.2.1 0) (sh_n a) (fun j => .int (M.1 a j))) := hat
    have hl := am_len_hi M (Nat.lt_of_lt_of_le (Nat.succ_pos 11) ha)
    have hl2 := so_len_le a
    refine ⟨_, hc, ((hK.1.2 0 _ (so_tys G 0 (by omega))).1 _ _), (fun q => by cases q), by rw [arrV_size, hl], by rw [hl]; omega, fun j hj => arrV_read _ _ (by rw [hl] at hj; exact hj)⟩
theorem so_iaload (F : so_Fx p s m args meth c cc o nL nm G R z0 s0 zm sm d) (hd : decode cc pc = .ok (.iaload, 1)) (h : am_pi st fun i st => am_pr st fun a r => am_g (am_ok M a 0) (am_un i < am_len M a ∧ so_X p l e R s m args below meth c Q G nL z0 s0 zm sm (pc + 1) L (.int (M.1 a (am_un i)) :: r) M)) : so_X p l e R s m args below meth c Q G nL z0 s0 zm sm pc L st M := by
  obtain ⟨i, st1, rfl, h_1⟩ := am_pi_inv h
  obtain ⟨a, r, rfl, h_2⟩ := am_pr_inv h_1
  obtain ⟨hok, hi, h_3⟩ := am_g_inv h_2
  intro H ls locs cells slots S
  obtain ⟨cell, g1, g2, g3, g4, g5, g6⟩ := so_arr F.2.2.2.2.2.1 S.2.1 hok
  obtain ⟨hin, hc⟩ := so_in hi (Nat.le_of_lt g5)
  exact W.iald F.1 F.2.1 g1 g2 g3 (by rw [g4]; exact hin) (v := .int (M.1 a (am_un i))) (by rw [hc]; exact g6 _ hi) rfl rfl hd (h_3 H ls locs cells slots S)
theorem so_baload (F : so_Fx p s m args meth c cc o nL nm G R z0 s0 zm sm d) (hd : decode cc pc = .ok (.baload, 1)) (h : am_pi st fun i st => am_pr st fun a r => am_g (am_ok M a 1) (am_un i < am_len M a ∧ so_X p l e R s m args below meth c Q G nL z0 s0 zm sm (pc + 1) L (.int (M.1 a (am_un i)) :: r) M)) : so_X p l e R s m args below meth c Q G nL z0 s0 zm sm pc L st M := by
  obtain ⟨i, st1, rfl, h_1⟩ := am_pi_inv h
  obtain ⟨a, r, rfl, h_2⟩ := am_pr_inv h_1
  obtain ⟨hok, hi, h_3⟩ := am_g_inv h_2
  intro H ls locs cells slots S
  obtain ⟨ht, hz⟩ := so_ok_t hok
  have ha : 12 ≤ a := so_hi12 (by rw [ht]; decide) (by rw [ht]; decide)
  have hat := S.2.1.2.2.1 a ha hz
  rw [so_e1 ht] at hat
  have hc : H[so_ad G a]? = some (arrV (G.2.2.2.1 1) (sh_n a) (fun j => .int (M.1 a j))) := hat
  rw [am_len_hi M (Nat.lt_of_lt_of_le (Nat.succ_pos 11) ha)] at hi
  have hl2 := so_len_le a
  obtain ⟨hin, hcl⟩ := so_in hi (by omega)
  exact W.zald F.1 F.2.1 hc ((F.2.2.2.2.2.1.1.2 1 _ (so_tys G 1 (by omega))).1 _ _) (fun q => by cases q) (by rw [arrV_size]; exact hin) (v := .int (M.1 a (am_un i))) (by rw [hcl, arrV_read _ _ hi]) rfl rfl hd (h_3 H ls locs cells slots S)
theorem so_laload (F : so_Fx p s m args meth c cc o nL nm G R z0 s0 zm sm d) (hd : decode cc pc = .ok (.laload, 1)) (h : am_pi st fun i st => am_pr st fun a r => am_g (am_ok M a 2) (am_un i < am_len M a ∧ so_X p l e R s m args below meth c Q G nL z0 s0 zm sm (pc + 1) L (.long (M.2.1 a (am_un i)) :: r) M)) : so_X p l e R s m args below meth c Q G nL z0 s0 zm sm pc L st M := by
  obtain ⟨i, st1, rfl, h_1⟩ := am_pi_inv h
  obtain ⟨a, r, rfl, h_2⟩ := am_pr_inv h_1
  obtain ⟨hok, hi, h_3⟩ := am_g_inv h_2
  intro H ls locs cells slots S
  obtain ⟨ht, hz⟩ := so_ok_t hok
  have ha : 12 ≤ a := so_hi12 (by rw [ht]; decide) (by rw [ht]; decide)
  have hat := S.2.1.2.2.1 a ha hz
  rw [so_e2 ht] at hat
  have hc : H[so_ad G a]? = some (arrV (G.2.2.2.1 2) (sh_n a) (fun j => .long (M.2.1 a j))) := hat
  rw [am_len_hi M (Nat.lt_of_lt_of_le (Nat.succ_pos 11) ha)] at hi
  have hl2 := so_len_le a
  obtain ⟨hin, hcl⟩ := so_in hi (by omega)
  exact W.lald F.1 F.2.1 hc ((F.2.2.2.2.2.1.1.2 2 _ (so_tys G 2 (by omega))).1 _ _) (fun q => by cases q) (by rw [arrV_size]; exact hin) (v := .long (M.2.1 a (am_un i))) (by rw [hcl, arrV_read _ _ hi]) rfl rfl hd (h_3 H ls locs cells slots S)
theorem so_aaload (F : so_Fx p s m args meth c cc o nL nm G R z0 s0 zm sm d) (hd : decode cc pc = .ok (.aaload, 1)) (h : am_pi st fun i st => am_pr st fun a r => am_g (am_ok M a 3 || am_ok M a 4 || am_ok M a 5) (am_un i < am_len M a ∧ am_ob (M.2.2.1 a (am_un i)) fun b => so_X p l e R s m args below meth c Q G nL z0 s0 zm sm (pc + 1) L (.ref b :: r) M)) : so_X p l e R s m args below meth c Q G nL z0 s0 zm sm pc L st M := by
  obtain ⟨i, st1, rfl, h_1⟩ := am_pi_inv h
  obtain ⟨a, r, rfl, h_2⟩ := am_pr_inv h_1
  obtain ⟨hok, hi, h_3⟩ := am_g_inv h_2
  obtain ⟨b, hb, h_4⟩ := am_ob_inv h_3
  intro H ls locs cells slots S
  have ht : ∃ t, sh_t a = t ∧ a < M.2.2.2.1 ∧ 3 ≤ t ∧ t ≤ 5 ∧ (so_ty t).isReference = true := by
    rcases (Bool.or_eq_true _ _).mp hok with q | q
    · rcases (Bool.or_eq_true _ _).mp q with q | q
      · exact ⟨3, (so_ok_t q).1, (so_ok_t q).2, by omega, by omega, rfl⟩
      · exact ⟨4, (so_ok_t q).1, (so_ok_t q).2, by omega, by omega, rfl⟩
    · exact ⟨5, (so_ok_t q).1, (so_ok_t q).2, by omega, by omega, rfl⟩
  obtain ⟨t, ht, hz, h3, h5, href⟩ := ht
  have ha : 12 ≤ a := so_hi12 (by omega) (by omega)
  have hat := S.2.1.2.2.1 a ha hz
  rw [so_eq ht h3 h5] at hat
  have hc : H[so_ad G a]? = some (arrV (G.2.2.2.1 t) (sh_n a) (fun j => va_rf (so_q G (M.2.2.1 a j)))) := hat
  rw [am_len_hi M (Nat.lt_of_lt_of_le (Nat.succ_pos 11) ha)] at hi
  have hl2 := so_len_le a
  obtain ⟨hin, hcl⟩ := so_in hi (by omega)
  exact W.aald F.1 F.2.1 hc ((F.2.2.2.2.2.1.1.2 t _ (so_tys G t (by omega))).1 _ _) href (fun q => by cases q) (by rw [arrV_size]; exact hin) (v := .ref (so_ad G b)) (by rw [hcl, arrV_read _ _ hi, hb]; rfl) rfl rfl hd (h_4 H ls locs cells slots S)
theorem so_alen (F : so_Fx p s m args meth c cc o nL nm G R z0 s0 zm sm d) (hd : decode cc pc = .ok (.arraylength, 1)) (h : am_pr st fun a r => am_g (Nat.ble (sh_t a) 5 && Nat.ble (a + 1) M.2.2.2.1) (so_X p l e R s m args below meth c Q G nL z0 s0 zm sm (pc + 1) L (.int (nI (am_len M a)) :: r) M)) : so_X p l e R s m args below meth c Q G nL z0 s0 zm sm pc L st M := by
  obtain ⟨a, r, rfl, h_1⟩ := am_pr_inv h
  obtain ⟨hg, h_2⟩ := am_g_inv h_1
  obtain ⟨g1, g2⟩ := am_bb hg
  have h5 : sh_t a ≤ 5 := Nat.le_of_ble_eq_true g1
  have hz : a < M.2.2.2.1 := Nat.le_of_ble_eq_true g2
  intro H ls locs cells slots S
  have k := h_2 H ls locs cells slots S
  by_cases h0 : sh_t a = 0
  · obtain ⟨cell, q1, q2, q3, q4, q5, q6⟩ := so_arr (M := M) F.2.2.2.2.2.1 S.2.1 (a := a) (by unfold am_ok; rw [h0, g2]; rfl)
    exact W.alen F.1 F.2.1 q1 q2 (n := nI (am_len M a)) (by rw [q4]; rfl) rfl rfl hd k
  · have ha : 12 ≤ a := so_hi12 h0 (by omega)
    have hat := S.2.1.2.2.1 a ha hz
    rw [am_len_hi M (Nat.lt_of_lt_of_le (Nat.succ_pos 11) ha)] at k
    by_cases h1 : sh_t a = 1
    · rw [so_e1 h1] at hat
      have hc : H[so_ad G a]? = some (arrV (G.2.2.2.1 1) (sh_n a) (fun j => .int (M.1 a j))) := hat
      exact W.alen F.1 F.2.1 hc ((F.2.2.2.2.2.1.1.2 1 _ (so_tys G 1 (by omega))).1 _ _) (n := nI (sh_n a)) (by rw [arrV_size]; rfl) rfl rfl hd k
    by_cases h2 : sh_t a = 2
    · rw [so_e2 h2] at hat
      have hc : H[so_ad G a]? = some (arrV (G.2.2.2.1 2) (sh_n a) (fun j => .long (M.2.1 a j))) := hat
      exact W.alen F.1 F.2.1 hc ((F.2.2.2.2.2.1.1.2 2 _ (so_tys G 2 (by omega))).1 _ _) (n := nI (sh_n a)) (by rw [arrV_size]; rfl) rfl rfl hd k
    · rw [so_eq (t := sh_t a) rfl (by omega) h5] at hat
      have hc : H[so_ad G a]? = some (arrV (G.2.2.2.1 (sh_t a)) (sh_n a) (fun j => va_rf (so_q G (M.2.2.1 a j)))) := hat
      exact W.alen F.1 F.2.1 hc ((F.2.2.2.2.2.1.1.2 _ _ (so_tys G (sh_t a) (by omega))).1 _ _) (n := nI (sh_n a)) (by rw [arrV_size]; rfl) rfl rfl hd k
theorem so_locs {locs : List Loc} (h : ∀ q ∈ locs, G.1 ≤ q.base) {a j : Nat} (ha : 12 ≤ a) : ∀ q ∈ locs ++ [⟨so_ad G a, j⟩], G.1 ≤ q.base := by
  intro q hq
  rcases List.mem_append.mp hq with q1 | q1
  · exact h q q1
  · rw [List.mem_singleton] at q1
    subst q1
    show G.1 ≤ so_ad G a
    rw [so_ad_hi G ha]
    omega
theorem so_iastore (F : so_Fx p s m args meth c cc o nL nm G R z0 s0 zm sm d) (hd : decode cc pc = .ok (.iastore, 1)) (h : am_pi st fun x st => am_pi st fun i st => am_pr st fun a r => am_g (am_ok M a 0 && Nat.ble 12 a) (am_un i < am_len M a ∧ so_X p l e R s m args below meth c Q G nL z0 s0 zm sm (pc + 1) L r (am_sI M (am_sr M.1 a (am_u1 (M.1 a) (am_un i) x))))) : so_X p l e R s m args below meth c Q G nL z0 s0 zm sm pc L st M := by
  obtain ⟨x, st1, rfl, h_1⟩ := am_pi_inv h
  obtain ⟨i, st2, rfl, h_2⟩ := am_pi_inv h_1
  obtain ⟨a, r, rfl, h_3⟩ := am_pr_inv h_2
  obtain ⟨hg, hi, h_4⟩ := am_g_inv h_3
  obtain ⟨hok, h12⟩ := am_bb hg
  have ha : 12 ≤ a := Nat.le_of_ble_eq_true h12
  intro H ls locs cells slots S
  obtain ⟨S1, S2, S3, S4, S5, S6, S7⟩ := S
  obtain ⟨ht, hz⟩ := so_ok_t hok
  have hat := S2.2.2.1 a ha hz
  rw [so_e0 ht] at hat
  have hc : H[so_ad G a]? = some (arrV (G.2.2.2.1 0) (sh_n a) (fun j => .int (M.1 a j))) := hat
  rw [am_len_hi M (Nat.lt_of_lt_of_le (Nat.succ_pos 11) ha)] at hi
  have hl2 := so_len_le a
  obtain ⟨hin, hcl⟩ := so_in hi (by omega)
  refine W.iast F.1 F.2.1 hc ((F.2.2.2.2.2.1.1.2 0 _ (so_tys G 0 (by omega))).1 _ _) (fun q => by cases q) (by rw [arrV_size]; exact hin) rfl rfl hd fun H1 e1 e2 e3 => ?_
  rw [hcl] at e1 ⊢
  refine h_4 H1 ls _ cells slots ⟨S1, S2.upd ha hz (fun r hr => am_sr_ne _ _ hr) (fun _ _ => rfl) (fun _ _ => rfl) rfl e2 e3 ?_, S3, S4, S5, S6, so_locs S7 ha⟩
  rw [so_e0 ht]
  show H1[so_ad G a]? = some (arrV (G.2.2.2.1 0) (sh_n a) (fun j => .int (am_sr M.1 a (am_u1 (M.1 a) (am_un i) x) a j)))
  rw [e1, arrV_store, am_sr_eq, so_updV]
theorem so_bastore (F : so_Fx p s m args meth c cc o nL nm G R z0 s0 zm sm d) (hd : decode cc pc = .ok (.bastore, 1)) (h : am_pi st fun x st => am_pi st fun i st => am_pr st fun a r => am_g (am_ok M a 1 && Nat.ble 12 a && (decide (x = 0) || decide (x = 1))) (am_un i < am_len M a ∧ so_X p l e R s m args below meth c Q G nL z0 s0 zm sm (pc + 1) L r (am_sI M (am_sr M.1 a (am_u1 (M.1 a) (am_un i) x))))) : so_X p l e R s m args below meth c Q G nL z0 s0 zm sm pc L st M := by
  obtain ⟨x, st1, rfl, h_1⟩ := am_pi_inv h
  obtain ⟨i, st2, rfl, h_2⟩ := am_pi_inv h_1
  obtain ⟨a, r, rfl, h_3⟩ := am_pr_inv h_2
  obtain ⟨hg, hi, h_4⟩ := am_g_inv h_3
  obtain ⟨hg, hx⟩ := am_bb hg
  obtain ⟨hok, h12⟩ := am_bb hg
  have ha : 12 ≤ a := Nat.le_of_ble_eq_true h12
  have hn : narrow .boolean (.int x) = .int x := by
    rcases (Bool.or_eq_true _ _).mp hx with q | q
    · rw [of_decide_eq_true q]; rfl
    · rw [of_decide_eq_true q]; rfl
  intro H ls locs cells slots S
  obtain ⟨S1, S2, S3, S4, S5, S6, S7⟩ := S
  obtain ⟨ht, hz⟩ := so_ok_t hok
  have hat := S2.2.2.1 a ha hz
  rw [so_e1 ht] at hat
  have hc : H[so_ad G a]? = some (arrV (G.2.2.2.1 1) (sh_n a) (fun j => .int (M.1 a j))) := hat
  rw [am_len_hi M (Nat.lt_of_lt_of_le (Nat.succ_pos 11) ha)] at hi
  have hl2 := so_len_le a
  obtain ⟨hin, hcl⟩ := so_in hi (by omega)
  refine W.zast F.1 F.2.1 hc ((F.2.2.2.2.2.1.1.2 1 _ (so_tys G 1 (by omega))).1 _ _) (fun q => by cases q) (by rw [arrV_size]; exact hin) rfl rfl hd fun H1 e1 e2 e3 => ?_
  rw [hcl, hn] at e1
  rw [hcl]
  refine h_4 H1 ls _ cells slots ⟨S1, S2.upd ha hz (fun r hr => am_sr_ne _ _ hr) (fun _ _ => rfl) (fun _ _ => rfl) rfl e2 e3 ?_, S3, S4, S5, S6, so_locs S7 ha⟩
  rw [so_e1 ht]
  show H1[so_ad G a]? = some (arrV (G.2.2.2.1 1) (sh_n a) (fun j => .int (am_sr M.1 a (am_u1 (M.1 a) (am_un i) x) a j)))
  rw [e1, arrV_store, am_sr_eq, so_updV]
theorem so_lastore (F : so_Fx p s m args meth c cc o nL nm G R z0 s0 zm sm d) (hd : decode cc pc = .ok (.lastore, 1)) (h : am_pl st fun x st => am_pi st fun i st => am_pr st fun a r => am_g (am_ok M a 2 && Nat.ble 12 a) (am_un i < am_len M a ∧ so_X p l e R s m args below meth c Q G nL z0 s0 zm sm (pc + 1) L r (am_sL M (am_sr M.2.1 a (am_u1 (M.2.1 a) (am_un i) x))))) : so_X p l e R s m args below meth c Q G nL z0 s0 zm sm pc L st M := by
  obtain ⟨x, st1, rfl, h_1⟩ := am_pl_inv h
  obtain ⟨i, st2, rfl, h_2⟩ := am_pi_inv h_1
  obtain ⟨a, r, rfl, h_3⟩ := am_pr_inv h_2
  obtain ⟨hg, hi, h_4⟩ := am_g_inv h_3
  obtain ⟨hok, h12⟩ := am_bb hg
  have ha : 12 ≤ a := Nat.le_of_ble_eq_true h12
  intro H ls locs cells slots S
  obtain ⟨S1, S2, S3, S4, S5, S6, S7⟩ := S
  obtain ⟨ht, hz⟩ := so_ok_t hok
  have hat := S2.2.2.1 a ha hz
  rw [so_e2 ht] at hat
  have hc : H[so_ad G a]? = some (arrV (G.2.2.2.1 2) (sh_n a) (fun j => .long (M.2.1 a j))) := hat
  rw [am_len_hi M (Nat.lt_of_lt_of_le (Nat.succ_pos 11) ha)] at hi
  have hl2 := so_len_le a
  obtain ⟨hin, hcl⟩ := so_in hi (by omega)
  refine W.last F.1 F.2.1 hc ((F.2.2.2.2.2.1.1.2 2 _ (so_tys G 2 (by omega))).1 _ _) (fun q => by cases q) (by rw [arrV_size]; exact hin) rfl rfl hd fun H1 e1 e2 e3 => ?_
  rw [hcl] at e1 ⊢
  refine h_4 H1 ls _ cells slots ⟨S1, S2.upd ha hz (fun _ _ => rfl) (fun r hr => am_sr_ne _ _ hr) (fun _ _ => rfl) rfl e2 e3 ?_, S3, S4, S5, S6, so_locs S7 ha⟩
  rw [so_e2 ht]
  show H1[so_ad G a]? = some (arrV (G.2.2.2.1 2) (sh_n a) (fun j => .long (am_sr M.2.1 a (am_u1 (M.2.1 a) (am_un i) x) a j)))
  rw [e1, arrV_store, am_sr_eq, so_updV]
theorem so_aastore (F : so_Fx p s m args meth c cc o nL nm G R z0 s0 zm sm d) (hd : decode cc pc = .ok (.aastore, 1)) (h : am_pr st fun b st => am_pi st fun i st => am_pr st fun a r => am_g (am_ok M a 5 && Nat.ble 12 a && am_ok M b 16 && Nat.ble 12 b) (am_un i < am_len M a ∧ so_X p l e R s m args below meth c Q G nL z0 s0 zm sm (pc + 1) L r (am_sR M (am_sr M.2.2.1 a (am_u1 (M.2.2.1 a) (am_un i) (some b)))))) : so_X p l e R s m args below meth c Q G nL z0 s0 zm sm pc L st M := by
  obtain ⟨b, st1, rfl, h_1⟩ := am_pr_inv h
  obtain ⟨i, st2, rfl, h_2⟩ := am_pi_inv h_1
  obtain ⟨a, r, rfl, h_3⟩ := am_pr_inv h_2
  obtain ⟨hg, hi, h_4⟩ := am_g_inv h_3
  obtain ⟨hg, hb12⟩ := am_bb hg
  obtain ⟨hg, hbk⟩ := am_bb hg
  obtain ⟨hok, h12⟩ := am_bb hg
  have ha : 12 ≤ a := Nat.le_of_ble_eq_true h12
  have hb : 12 ≤ b := Nat.le_of_ble_eq_true hb12
  intro H ls locs cells slots S
  obtain ⟨S1, S2, S3, S4, S5, S6, S7⟩ := S
  obtain ⟨ht, hz⟩ := so_ok_t hok
  obtain ⟨htb, hzb⟩ := so_ok_t hbk
  have hat := S2.2.2.1 a ha hz
  rw [so_eq ht (by omega) (by omega)] at hat
  have hc : H[so_ad G a]? = some (arrV (G.2.2.2.1 5) (sh_n a) (fun j => va_rf (so_q G (M.2.2.1 a j)))) := hat
  have hatb := S2.2.2.1 b hb hzb
  rw [so_eo (c := 6) htb] at hatb
  obtain ⟨r', hr', cellV, g1, g2, g3, -⟩ := hatb
  cases Option.some.inj (hr'.symm.trans (show vwCl[6]? = some (RX7, TX7, 3) from rfl))
  rw [am_len_hi M (Nat.lt_of_lt_of_le (Nat.succ_pos 11) ha)] at hi
  have hl2 := so_len_le a
  obtain ⟨hin, hcl⟩ := so_in hi (by omega)
  have hcls := (F.2.2.2.2.2.1.1.1 6 _ (show vwCl[6]? = some (RX7, TX7, 3) from rfl)).2
  obtain ⟨kA, comp, k1, k2, k3, -⟩ := (F.2.2.2.2.2.1.1.2 5 _ (so_tys G 5 (by omega))).2
  have hcomp : comp = G.2.2.1.1 6 := Option.some.inj (k3.symm.trans hcls.1)
  subst hcomp
  obtain ⟨kC, hkC, -⟩ := id hcls.2
  refine W.aast F.1 F.2.1 hc (fun q h => by cases h) (fun h => by cases h) k1 k2 rfl hkC ⟨fun q => hin (Or.inl q), by rw [arrV_size, hcl]; exact hi⟩ g1 (fun q h => by rw [g3] at h; cases h) (by rw [g2]; exact hkC) (by rw [g2]; exact va_assign hcls) rfl rfl hd fun H1 e1 e2 e3 => ?_
  rw [hcl] at e1 ⊢
  refine h_4 H1 ls _ cells slots ⟨S1, S2.upd ha hz (fun _ _ => rfl) (fun _ _ => rfl) (fun r hr => am_sr_ne _ _ hr) rfl e2 e3 ?_, S3, S4, S5, S6, so_locs S7 ha⟩
  rw [so_eq ht (by omega) (by omega)]
  show H1[so_ad G a]? = some (arrV (G.2.2.2.1 5) (sh_n a) (fun j => va_rf (so_q G (am_sr M.2.2.1 a (am_u1 (M.2.2.1 a) (am_un i) (some b)) a j))))
  rw [e1, arrV_store, am_sr_eq]
  exact congrArg (fun f => some (arrV (G.2.2.2.1 5) (sh_n a) f)) (so_updV (fun q => va_rf (so_q G q)) (M.2.2.1 a) (am_un i) (some b))
end SO
end
section
/-! SOUNDNESS, IV: fields, constants that are texts, cells made -/
theorem so_clok {c : Nat} (hc : c < 10) : (vwCl[c]? = some (cl_R c, cl_T c, cl_N c)) ∧ (∀ j, j < cl_N c → (cl_T c j).1 = cl_R c ∧ parseFieldDescriptor (cl_T c j).2.2.1 = some (cl_Y c j) ∧ (cond (Nat.beq (sh_f c j) 1) (match cl_Y c j with | .object _ => true | .array _ => true | _ => false) (cond (Nat.beq (sh_f c j) 0) (decide (cl_Y c j = .int)) (decide (cl_Y c j = .boolean) && Nat.beq (sh_f c j) 3))) = true) ∧ (∀ a, a < cl_N c → ∀ b, b < cl_N c → a ≠ b → (cl_T c a).2.1 ≠ (cl_T c b).2.1) := by
  have h := lk_all10 cl_ok hc
  obtain ⟨h1, h3⟩ := am_bb h
  obtain ⟨h1, h2⟩ := am_bb h1
  refine ⟨cl_vw c hc, fun j hj => ?_, fun a ha b hb hab => ?_⟩
  · have q := List.all_eq_true.mp h2 j (List.mem_range.mpr hj)
    obtain ⟨q1, q3⟩ := am_bb q
    obtain ⟨q1, q2⟩ := am_bb q1
    exact ⟨of_decide_eq_true q1, of_decide_eq_true q2, q3⟩
  · have q := List.all_eq_true.mp (List.all_eq_true.mp h3 a (List.mem_range.mpr ha)) b (List.mem_range.mpr hb)
    rcases (Bool.or_eq_true _ _).mp q with q | q
    · exact absurd (Nat.eq_of_beq_eq_true q) hab
    · exact of_decide_eq_true q
theorem so_uws {c : Nat} (hc : c < 10) : ∀ w ∈ u_ws (cl_R c) (cl_T c) (cl_N c), w ∈ lw_tbg := by
  intro w hw
  obtain ⟨j, hj, rfl⟩ := List.mem_map.mp hw
  exact lw_is_in (List.all_eq_true.mp (lk_all10 pl_u_ok hc) j hj)
theorem so_vV (G : so_G) (M : am_M) (a c : Nat) {j : Nat} (hj : j < cl_N c) : vp_V ((List.range (cl_N c)).map (so_f G M a c)) j = so_f G M a c j := by
  unfold vp_V
  rw [List.getD_eq_getElem?_getD, List.getElem?_map, List.getElem?_range hj]
  rfl
section SO
variable {p : Program} {l : Launch} {e : Env} {R : Room} {s : State} {m : MethodId} {args : Array Value} {below : List Frame} {meth : Method} {c : Code} {Q : State → Prop}
variable {cc : ByteArray} {G : so_G} {o nL z0 s0 zm sm d : Nat} {nm : String} {pc : Nat} {L : am_L} {st : List Value} {M : am_M}
/-- what the tables say of a field's link -/
theorem so_pf (ho : o < 15) {i q : Nat} (h : ((pl_f o).any fun e => Nat.beq e.1 i && Nat.beq e.2.1 q) = true) : (.fieldLink (cl_R o) i (cl_R (q / 64)) ((cl_T (q / 64)) (q % 64)).2.1 ((cl_T (q / 64)) (q % 64)).2.2.1 : Jvm.Cond) ∈ lw_tbg ∧ q / 64 < 10 ∧ q % 64 < cl_N (q / 64) := by
  obtain ⟨x, hx⟩ := lk_any2 h
  have h1 := List.all_eq_true.mp (lk_all15 pf_ok ho) _ hx
  obtain ⟨h1, h3⟩ := am_bb h1
  obtain ⟨h1, h2⟩ := am_bb h1
  exact ⟨lw_is_in h1, Nat.le_of_ble_eq_true h2, Nat.le_of_ble_eq_true h3⟩
theorem so_getfield (F : so_Fx p s m args meth c cc o nL nm G R z0 s0 zm sm d) {q ln : Nat} {orig : Instr} {rt : Option FieldType} (hk : lkB o nm rt pc (.getfield q) ln orig = true) (hd : decode cc pc = .ok (orig, ln))
    (h : am_pr st fun a r => am_g (am_ok M a (10 + q / 64)) (cond (Nat.beq (sh_f (q / 64) (q % 64)) 1) (am_ob (M.2.2.1 a (q % 64)) fun b => so_X p l e R s m args below meth c Q G nL z0 s0 zm sm (pc + ln) L (.ref b :: r) M) (so_X p l e R s m args below meth c Q G nL z0 s0 zm sm (pc + ln) L (.int (M.1 a (q % 64)) :: r) M))) : so_X p l e R s m args below meth c Q G nL z0 s0 zm sm pc L st M := by
  obtain ⟨a, r, rfl, h_1⟩ := am_pr_inv h
  obtain ⟨hok, h_2⟩ := am_g_inv h_1
  dsimp only [lkB] at hk
  split at hk
  · obtain ⟨k1, k2⟩ := am_bb hk
    cases Nat.eq_of_beq_eq_true k1
    obtain ⟨hw, hc10, hj⟩ := so_pf F.2.2.2.2.2.2.2.2.2.2.2 k2
    obtain ⟨hvw, hfs, hnm⟩ := so_clok hc10
    intro H ls locs cells slots S
    obtain ⟨ht, hz⟩ := so_ok_t hok
    have ha : 12 ≤ a := so_hi12 (by omega) (by omega)
    have hat := S.2.1.2.2.1 a ha hz
    rw [so_eo ht] at hat
    have hP : va_P G.2.2.1 vwCl [(so_ad G a, .inr (q / 64, (List.range (cl_N (q / 64))).map (so_f G M a (q / 64))))] H := fun k x hx => by
      match k, hx with
      | 0, hx => cases hx; exact hat
      | k + 1, hx => cases hx
    refine va_get (C := cl_R (q / 64)) (T := cl_T (q / 64)) (N := cl_N (q / 64)) (ci := q / 64) (Ts := lw_tbg) (own := cl_R o) (ref := cl_R (q / 64)) F.1 F.2.1 F.2.2.2.2.1 (so_uws hc10) F.2.2.2.1 F.2.2.2.2.2.1.1 hP 0 rfl hvw (q % 64) hj (F.2.2.2.2.1 _ hw) (fun x hx => by rw [← (hfs _ hj).1]; exact hx) (v := so_f G M a (q / 64) (q % 64)) (by rw [List.getElem?_map, List.getElem?_range hj]; rfl) hd ?_
    unfold so_f
    cases hb : Nat.beq (sh_f (q / 64) (q % 64)) 1 with
    | true =>
      rw [hb] at h_2
      obtain ⟨b, hb2, h_3⟩ := am_ob_inv h_2
      rw [hb2]
      exact h_3 H ls locs cells slots S
    | false =>
      rw [hb] at h_2
      exact h_2 H ls locs cells slots S
  · cases hk
/-- one field of one object changes -/
theorem so_field {H H1 : Heap} {a ci j : Nat} {v : Value} {M' : am_M} {cell : Cell} (hci : ci < 10) (hK : so_K G s) (own : String) (hts : ∀ w ∈ lw_tbg, w.before args s = true) (S2 : so_H G s M H) (ha : 12 ≤ a) (hz : a < M.2.2.2.1) (ht : sh_t a = 10 + ci) (hj : j < cl_N ci)
    (hI : ∀ r, r ≠ a → M'.1 r = M.1 r) (hL : ∀ r, r ≠ a → M'.2.1 r = M.2.1 r) (hR : ∀ r, r ≠ a → M'.2.2.1 r = M.2.2.1 r) (hM : M'.2.2.2 = M.2.2.2) (hv : so_f G M' a ci j = v) (ho : ∀ k, k < cl_N ci → k ≠ j → so_f G M' a ci k = so_f G M a ci k)
    (q2 : cell.cls = G.2.2.1.1 ci) (q3 : cell.vm = .none) (q4 : ∀ k, k < cl_N ci → cell.slots[G.2.2.1.2 ci k]? = some (vp_V ((List.range (cl_N ci)).map (so_f G M a ci)) k)) (e1 : H1[so_ad G a]? = some (cell.setSlot (G.2.2.1.2 ci j) v)) (e2 : H1.size = H.size) (e3 : ∀ q, q ≠ so_ad G a → H1[q]? = H[q]?) : so_H G s M' H1 := by
  obtain ⟨hvw, hfs, hnm⟩ := so_clok hci
  have hap := va_apart (own := own) hts (so_uws hci) (cl_Y ci) (fun k hk => (hfs k hk).2.1) hnm hK.1 hvw
  refine S2.upd ha hz hI hL hR hM e2 e3 ?_
  rw [so_eo ht]
  refine ⟨_, hvw, t_OB.to (V := updV (vp_V ((List.range (cl_N ci)).map (so_f G M a ci))) j v) ⟨_, e1, q2, q3, t_set q4 hap hj v⟩ (fun k hk => ?_)⟩
  have hk2 : k < cl_N ci := hk
  rw [so_vV G M' a ci hk2]
  unfold updV
  by_cases e : k = j
  · subst e
    rw [if_pos rfl, hv]
  · rw [if_neg e, so_vV G M a ci hk2, ho k hk2 e]
/-- the store itself -/
theorem so_put (F : so_Fx p s m args meth c cc o nL nm G R z0 s0 zm sm d) {q i : Nat} {v : Value} {r : List Value} {H : Heap} {ls : Array Slot} {locs : List Loc} {cells slots a : Nat} (hd : decode cc pc = .ok (.putfield i, 3)) (k2 : ((pl_f o).any fun e => Nat.beq e.1 i && Nat.beq e.2.1 q) = true) (k3 : (!((cl_T (q / 64)) (q % 64)).2.2.2 || (decide (nm = "<init>") && Nat.beq o (q / 64))) = true) (S2 : so_H G s M H) (ha : 12 ≤ a) (hz : a < M.2.2.2.1) (ht : sh_t a = 10 + q / 64)
    (hn : narrow (cl_Y (q / 64) (q % 64)) v = v) (hfit : fits (cl_Y (q / 64) (q % 64)) v = true)
    (kk : ∀ (H1 : Heap) (cell : Cell), cell.cls = G.2.2.1.1 (q / 64) → cell.vm = .none → (∀ k, k < cl_N (q / 64) → cell.slots[G.2.2.1.2 (q / 64) k]? = some (vp_V ((List.range (cl_N (q / 64))).map (so_f G M a (q / 64))) k)) → H1[so_ad G a]? = some (cell.setSlot (G.2.2.1.2 (q / 64) (q % 64)) v) → H1.size = H.size → (∀ q, q ≠ so_ad G a → H1[q]? = H[q]?) →
      W p l e R s m args below meth c H1 (locs ++ [⟨so_ad G a, G.2.2.1.2 (q / 64) (q % 64)⟩]) cells slots Q (F0 m (pc + 3) ls r)) : W p l e R s m args below meth c H locs cells slots Q (F0 m pc ls (v :: .ref (so_ad G a) :: r)) := by
  obtain ⟨hw, hc10, hj⟩ := so_pf F.2.2.2.2.2.2.2.2.2.2.2 k2
  obtain ⟨hvw, hfs, hnm⟩ := so_clok hc10
  have hat := S2.2.2.1 a ha hz
  rw [so_eo ht] at hat
  obtain ⟨r0, h1, cell, q1, q2, q3, q4⟩ := hat
  have hr : r0 = (cl_R (q / 64), cl_T (q / 64), cl_N (q / 64)) := Option.some.inj (h1.symm.trans hvw)
  subst hr
  obtain ⟨hS, hfc, kC, hkC, hkind⟩ := F.2.2.2.2.2.1.1.1 (q / 64) _ hvw
  obtain ⟨cf, kf, fi, f, hi, hsl⟩ := hS (q % 64) hj
  have hlink := F.2.2.2.2.1 _ hw
  have hsame : ∀ x, s.fieldFound? (cl_T (q / 64) (q % 64)).1 (cl_T (q / 64) (q % 64)).2.1 (cl_T (q / 64) (q % 64)).2.2.1 = some x → s.fieldFound? (cl_R (q / 64)) (cl_T (q / 64) (q % 64)).2.1 (cl_T (q / 64) (q % 64)).2.2.1 = some x := fun x hx => by rw [← (hfs _ hj).1]; exact hx
  have hst := (u_facts hfc hkC (u_lays F.2.2.2.2.1 (so_uws hc10) hj) hi).1
  have hlay := F.2.2.2.2.1 _ (so_uws hc10 _ (u_in_lay hj))
  unfold u_lay at hlay
  cases hfin : (cl_T (q / 64) (q % 64)).2.2.2 with
  | false =>
    rw [if_neg (by rw [hfin]; decide)] at hlay
    have h6 := u_store hfc hkC hkind hlay hi (hfs _ hj).2.1 hn hfit
    refine W.putK F.1 F.2.1 (f := f) ⟨F.2.2.2.1, hlink, ⟨_, _, _, hsame _ hi⟩, hst⟩ (by rw [q2]; exact h6) q1 q3 (by rw [hsl]; exact k2_hasslot (q4 _ hj)) rfl rfl hd fun H' e1 e2 e3 => ?_
    rw [hsl] at e1 ⊢
    exact kk H' cell q2 q3 q4 e1 e2 e3
  | true =>
    rw [if_pos hfin] at hlay
    rw [hfin] at k3
    obtain ⟨k4, k5⟩ := am_bb k3
    have hoc := Nat.eq_of_beq_eq_true k5
    have hcf : m.cls = cf := by
      obtain ⟨_, _, c', _, _, _, -, -, hf', -, -, -, hown2, -⟩ := Cond.laysFinal_spec hlay
      have e1 : c' = cf := by have := hi.symm.trans hf'; simp at this; exact this.1.symm
      rw [(hfs _ hj).1, ← hoc] at hown2
      rw [← e1]; exact Option.some.inj (F.2.2.2.1.symm.trans hown2)
    have h6 := u_fits hfc hkC hkind (Or.inr hlay) hi (hfs _ hj).2.1 hn hfit
    refine W.putFinK F.1 F.2.1 F.2.2.2.1 hlink (hsame _ hi) hst hcf (by rw [F.2.2.2.2.2.2.1]; exact of_decide_eq_true k4) (by rw [q2]; exact h6) q1 q3 (by rw [hsl]; exact k2_hasslot (q4 _ hj)) rfl rfl hd fun H' e1 e2 e3 => ?_
    rw [hsl] at e1 ⊢
    exact kk H' cell q2 q3 q4 e1 e2 e3
theorem so_putfield (F : so_Fx p s m args meth c cc o nL nm G R z0 s0 zm sm d) {q ln : Nat} {orig : Instr} {rt : Option FieldType} (hk : lkB o nm rt pc (.putfield q) ln orig = true) (hd : decode cc pc = .ok (orig, ln))
    (h : cond (Nat.beq (sh_f (q / 64) (q % 64)) 1)
      (am_pr st fun b st => am_pr st fun a r => am_g (am_ok M a (10 + q / 64) && Nat.ble 12 a) (so_X p l e R s m args below meth c Q G nL z0 s0 zm sm (pc + ln) L r (am_sR M (am_sr M.2.2.1 a (am_u1 (M.2.2.1 a) (q % 64) (some b))))))
      (am_pi st fun x st => am_pr st fun a r => am_g (am_ok M a (10 + q / 64) && Nat.ble 12 a && (Nat.beq (sh_f (q / 64) (q % 64)) 0 || decide (x = 0) || decide (x = 1))) (so_X p l e R s m args below meth c Q G nL z0 s0 zm sm (pc + ln) L r (am_sI M (am_sr M.1 a (am_u1 (M.1 a) (q % 64) x)))))) : so_X p l e R s m args below meth c Q G nL z0 s0 zm sm pc L st M := by
  dsimp only [lkB] at hk
  split at hk
  · obtain ⟨k1, k3⟩ := am_bb hk
    obtain ⟨k1, k2⟩ := am_bb k1
    cases Nat.eq_of_beq_eq_true k1
    obtain ⟨hw, hc10, hj⟩ := so_pf F.2.2.2.2.2.2.2.2.2.2.2 k2
    have hty := ((so_clok hc10).2.1 _ hj).2.2
    cases hb : Nat.beq (sh_f (q / 64) (q % 64)) 1 with
    | true =>
      rw [hb] at h hty
      obtain ⟨b, st1, rfl, h_1⟩ := am_pr_inv h
      obtain ⟨a, r, rfl, h_2⟩ := am_pr_inv h_1
      obtain ⟨hg, h_3⟩ := am_g_inv h_2
      obtain ⟨hok, h12⟩ := am_bb hg
      have ha : 12 ≤ a := Nat.le_of_ble_eq_true h12
      obtain ⟨ht, hz⟩ := so_ok_t hok
      intro H ls locs cells slots S
      obtain ⟨S1, S2, S3, S4, S5, S6, S7⟩ := S
      have hnf : narrow (cl_Y (q / 64) (q % 64)) (.ref (so_ad G b)) = .ref (so_ad G b) ∧ fits (cl_Y (q / 64) (q % 64)) (.ref (so_ad G b)) = true := by
        dsimp only [cond] at hty
        split at hty
        · rename_i n e; rw [e]; exact ⟨rfl, rfl⟩
        · rename_i n e; rw [e]; exact ⟨rfl, rfl⟩
        · cases hty
      refine so_put F hd k2 k3 S2 ha hz ht hnf.1 hnf.2 fun H1 cell q2 q3 q4 e1 e2 e3 => ?_
      refine h_3 H1 ls _ cells slots ⟨S1, so_field hc10 F.2.2.2.2.2.1 (cl_R o) F.2.2.2.2.1 S2 ha hz ht hj (fun _ _ => rfl) (fun _ _ => rfl) (fun r hr => am_sr_ne _ _ hr) rfl ?_ (fun k hk hkj => ?_) q2 q3 q4 e1 e2 e3, S3, S4, S5, S6, so_locs S7 ha⟩
      · unfold so_f
        rw [hb]
        show va_rf (so_q G (am_sr M.2.2.1 a (am_u1 (M.2.2.1 a) (q % 64) (some b)) a (q % 64))) = _
        rw [am_sr_eq, am_u1_eq]
        rfl
      · unfold so_f
        show cond _ (va_rf (so_q G (am_sr M.2.2.1 a (am_u1 (M.2.2.1 a) (q % 64) (some b)) a k))) _ = _
        rw [am_sr_eq, am_u1_ne _ _ hkj]
        rfl
    | false =>
      rw [hb] at h hty
      obtain ⟨x, st1, rfl, h_1⟩ := am_pi_inv h
      obtain ⟨a, r, rfl, h_2⟩ := am_pr_inv h_1
      obtain ⟨hg, h_3⟩ := am_g_inv h_2
      obtain ⟨hg, hx⟩ := am_bb hg
      obtain ⟨hok, h12⟩ := am_bb hg
      have ha : 12 ≤ a := Nat.le_of_ble_eq_true h12
      obtain ⟨ht, hz⟩ := so_ok_t hok
      intro H ls locs cells slots S
      obtain ⟨S1, S2, S3, S4, S5, S6, S7⟩ := S
      have hnf : narrow (cl_Y (q / 64) (q % 64)) (.int x) = .int x ∧ fits (cl_Y (q / 64) (q % 64)) (.int x) = true := by
        cases h0 : Nat.beq (sh_f (q / 64) (q % 64)) 0 with
        | true =>
          rw [h0] at hty
          rw [of_decide_eq_true hty]
          exact ⟨rfl, rfl⟩
        | false =>
          rw [h0] at hty hx
          rw [of_decide_eq_true (am_bb hty).1]
          rcases (Bool.or_eq_true _ _).mp hx with hx | hx
          · rw [of_decide_eq_true ((Bool.or_eq_true _ _).mp hx |>.resolve_left (by decide))]; exact ⟨rfl, rfl⟩
          · rw [of_decide_eq_true hx]; exact ⟨rfl, rfl⟩
      refine so_put F hd k2 k3 S2 ha hz ht hnf.1 hnf.2 fun H1 cell q2 q3 q4 e1 e2 e3 => ?_
      refine h_3 H1 ls _ cells slots ⟨S1, so_field hc10 F.2.2.2.2.2.1 (cl_R o) F.2.2.2.2.1 S2 ha hz ht hj (fun r hr => am_sr_ne _ _ hr) (fun _ _ => rfl) (fun _ _ => rfl) rfl ?_ (fun k hk hkj => ?_) q2 q3 q4 e1 e2 e3, S3, S4, S5, S6, so_locs S7 ha⟩
      · unfold so_f
        rw [hb]
        show Value.int (am_sr M.1 a (am_u1 (M.1 a) (q % 64) x) a (q % 64)) = _
        rw [am_sr_eq, am_u1_eq]
        rfl
      · unfold so_f
        show cond _ _ (Value.int (am_sr M.1 a (am_u1 (M.1 a) (q % 64) x) a k)) = _
        rw [am_sr_eq, am_u1_ne _ _ hkj]
        rfl
  · cases hk
theorem so_getstatic (F : so_Fx p s m args meth c cc o nL nm G R z0 s0 zm sm d) {z ln : Nat} {orig : Instr} {rt : Option FieldType} (hk : lkB o nm rt pc (.getstatic z) ln orig = true) (hd : decode cc pc = .ok (orig, ln)) (h : so_X p l e R s m args below meth c Q G nL z0 s0 zm sm (pc + ln) L (.ref 1 :: st) M) : so_X p l e R s m args below meth c Q G nL z0 s0 zm sm pc L st M := by
  dsimp only [lkB] at hk
  split at hk
  · obtain ⟨k1, k3⟩ := am_bb hk
    obtain ⟨k1, k2⟩ := am_bb k1
    cases Nat.eq_of_beq_eq_true k1
    cases Nat.eq_of_beq_eq_true k2
    cases Nat.eq_of_beq_eq_true k3
    intro H ls locs cells slots S
    have hZ := F.2.2.2.2.2.1.2.1
    obtain ⟨cf, kf, fi, f, a, cell, h1, h2, h3, h4, h5, h6, h7, h8⟩ := hZ
    exact W.gets F.1 F.2.1 F.2.2.2.1 (F.2.2.2.2.1 _ lw_starts) h1 h2 h3 h4 (by rw [S.2.1.2.2.2.1 a (Nat.not_le.mp h8)]; exact h5) (fun e => by rw [e] at h6; cases h6) h7 rfl hd (h H ls locs cells slots S)
  · cases hk
theorem so_ldcS (F : so_Fx p s m args meth c cc o nL nm G R z0 s0 zm sm d) {k ln : Nat} {orig : Instr} {rt : Option FieldType} (hk : lkB o nm rt pc (.ldc k) ln orig = true) (hd : decode cc pc = .ok (orig, ln)) (h : so_X p l e R s m args below meth c Q G nL z0 s0 zm sm (pc + ln) L (.ref (2 + k) :: st) M) : so_X p l e R s m args below meth c Q G nL z0 s0 zm sm pc L st M := by
  dsimp only [lkB] at hk
  split at hk
  · obtain ⟨k1, k2⟩ := am_bb hk
    cases Nat.eq_of_beq_eq_true k1
    obtain ⟨x, hx⟩ := lk_any2 k2
    have h1 := List.all_eq_true.mp (lk_all15 ps_ok F.2.2.2.2.2.2.2.2.2.2.2) _ hx
    obtain ⟨h1, h3⟩ := am_bb h1
    obtain ⟨h1, h2⟩ := am_bb h1
    have ho := Nat.eq_of_beq_eq_true h2
    have h10 : k < 10 := Nat.le_of_ble_eq_true h3
    subst ho
    intro H ls locs cells slots S
    have e : so_ad G (2 + k) = G.2.1 (2 + k) := so_ad_lo G (by omega)
    have hq := h H ls locs cells slots S
    rw [List.map_cons, show so_v G (.ref (2 + k)) = .ref (so_ad G (2 + k)) from rfl, e] at hq
    exact va_ldcS F.1 F.2.1 (own := "EightBlocks$Tape") F.2.2.2.1 (F.2.2.2.2.2.1.2.2.2.2.2.1 _ hx) hd hq
  · cases hk
end SO
end
section
/-! SOUNDNESS, V: numbers, branches (laid by a program) -/
theorem am_br_t {A p q : Prop} (h : am_br A p q) (a : A) : p := h.1 a
theorem am_br_f {A p q : Prop} (h : am_br A p q) (a : ¬ A) : q := h.2 a
section SO
variable {p : Program} {l : Launch} {e : Env} {R : Room} {s : State} {m : MethodId} {args : Array Value} {below : List Frame} {meth : Method} {c : Code} {Q : State → Prop}
variable {cc : ByteArray} {G : so_G} {o nL z0 s0 zm sm d : Nat} {nm : String} {pc : Nat} {L : am_L} {st : List Value} {M : am_M}
theorem so_iadd (F : so_Fx p s m args meth c cc o nL nm G R z0 s0 zm sm d) (hd : decode cc pc = .ok (.iadd, 1)) (h : am_pi st fun y st => am_pi st fun x r => so_X p l e R s m args below meth c Q G nL z0 s0 zm sm (pc + 1) L (.int (x + y) :: r) M) : so_X p l e R s m args below meth c Q G nL z0 s0 zm sm pc L st M := by
  obtain ⟨y, st1, rfl, h_1⟩ := am_pi_inv h
  obtain ⟨x, r, rfl, h_2⟩ := am_pi_inv h_1
  intro H ls locs cells slots S
  exact lv_iadd F.1 F.2.1 hd (h_2 H ls locs cells slots S)
theorem so_isub (F : so_Fx p s m args meth c cc o nL nm G R z0 s0 zm sm d) (hd : decode cc pc = .ok (.isub, 1)) (h : am_pi st fun y st => am_pi st fun x r => so_X p l e R s m args below meth c Q G nL z0 s0 zm sm (pc + 1) L (.int (x - y) :: r) M) : so_X p l e R s m args below meth c Q G nL z0 s0 zm sm pc L st M := by
  obtain ⟨y, st1, rfl, h_1⟩ := am_pi_inv h
  obtain ⟨x, r, rfl, h_2⟩ := am_pi_inv h_1
  intro H ls locs cells slots S
  exact lv_isub F.1 F.2.1 hd (h_2 H ls locs cells slots S)
theorem so_imul (F : so_Fx p s m args meth c cc o nL nm G R z0 s0 zm sm d) (hd : decode cc pc = .ok (.imul, 1)) (h : am_pi st fun y st => am_pi st fun x r => so_X p l e R s m args below meth c Q G nL z0 s0 zm sm (pc + 1) L (.int (x * y) :: r) M) : so_X p l e R s m args below meth c Q G nL z0 s0 zm sm pc L st M := by
  obtain ⟨y, st1, rfl, h_1⟩ := am_pi_inv h
  obtain ⟨x, r, rfl, h_2⟩ := am_pi_inv h_1
  intro H ls locs cells slots S
  exact lv_imul F.1 F.2.1 hd (h_2 H ls locs cells slots S)
theorem so_iand (F : so_Fx p s m args meth c cc o nL nm G R z0 s0 zm sm d) (hd : decode cc pc = .ok (.iand, 1)) (h : am_pi st fun y st => am_pi st fun x r => so_X p l e R s m args below meth c Q G nL z0 s0 zm sm (pc + 1) L (.int (x &&& y) :: r) M) : so_X p l e R s m args below meth c Q G nL z0 s0 zm sm pc L st M := by
  obtain ⟨y, st1, rfl, h_1⟩ := am_pi_inv h
  obtain ⟨x, r, rfl, h_2⟩ := am_pi_inv h_1
  intro H ls locs cells slots S
  exact lv_iand F.1 F.2.1 hd (h_2 H ls locs cells slots S)
theorem so_ior (F : so_Fx p s m args meth c cc o nL nm G R z0 s0 zm sm d) (hd : decode cc pc = .ok (.ior, 1)) (h : am_pi st fun y st => am_pi st fun x r => so_X p l e R s m args below meth c Q G nL z0 s0 zm sm (pc + 1) L (.int (x ||| y) :: r) M) : so_X p l e R s m args below meth c Q G nL z0 s0 zm sm pc L st M := by
  obtain ⟨y, st1, rfl, h_1⟩ := am_pi_inv h
  obtain ⟨x, r, rfl, h_2⟩ := am_pi_inv h_1
  intro H ls locs cells slots S
  exact lv_ior F.1 F.2.1 hd (h_2 H ls locs cells slots S)
theorem so_ixor (F : so_Fx p s m args meth c cc o nL nm G R z0 s0 zm sm d) (hd : decode cc pc = .ok (.ixor, 1)) (h : am_pi st fun y st => am_pi st fun x r => so_X p l e R s m args below meth c Q G nL z0 s0 zm sm (pc + 1) L (.int (x ^^^ y) :: r) M) : so_X p l e R s m args below meth c Q G nL z0 s0 zm sm pc L st M := by
  obtain ⟨y, st1, rfl, h_1⟩ := am_pi_inv h
  obtain ⟨x, r, rfl, h_2⟩ := am_pi_inv h_1
  intro H ls locs cells slots S
  exact lv_ixor F.1 F.2.1 hd (h_2 H ls locs cells slots S)
theorem so_ishl (F : so_Fx p s m args meth c cc o nL nm G R z0 s0 zm sm d) (hd : decode cc pc = .ok (.ishl, 1)) (h : am_pi st fun y st => am_pi st fun x r => so_X p l e R s m args below meth c Q G nL z0 s0 zm sm (pc + 1) L (.int (x <<< (y &&& 31)) :: r) M) : so_X p l e R s m args below meth c Q G nL z0 s0 zm sm pc L st M := by
  obtain ⟨y, st1, rfl, h_1⟩ := am_pi_inv h
  obtain ⟨x, r, rfl, h_2⟩ := am_pi_inv h_1
  intro H ls locs cells slots S
  exact lv_ishl F.1 F.2.1 hd (h_2 H ls locs cells slots S)
theorem so_ishr (F : so_Fx p s m args meth c cc o nL nm G R z0 s0 zm sm d) (hd : decode cc pc = .ok (.ishr, 1)) (h : am_pi st fun y st => am_pi st fun x r => so_X p l e R s m args below meth c Q G nL z0 s0 zm sm (pc + 1) L (.int (x >>> (y &&& 31)) :: r) M) : so_X p l e R s m args below meth c Q G nL z0 s0 zm sm pc L st M := by
  obtain ⟨y, st1, rfl, h_1⟩ := am_pi_inv h
  obtain ⟨x, r, rfl, h_2⟩ := am_pi_inv h_1
  intro H ls locs cells slots S
  exact lv_ishr F.1 F.2.1 hd (h_2 H ls locs cells slots S)
theorem so_iushr (F : so_Fx p s m args meth c cc o nL nm G R z0 s0 zm sm d) (hd : decode cc pc = .ok (.iushr, 1)) (h : am_pi st fun y st => am_pi st fun x r => so_X p l e R s m args below meth c Q G nL z0 s0 zm sm (pc + 1) L (.int (x.toUInt32 >>> (y.toUInt32 &&& Int32.toUInt32 31)).toInt32 :: r) M) : so_X p l e R s m args below meth c Q G nL z0 s0 zm sm pc L st M := by
  obtain ⟨y, st1, rfl, h_1⟩ := am_pi_inv h
  obtain ⟨x, r, rfl, h_2⟩ := am_pi_inv h_1
  intro H ls locs cells slots S
  exact lv_iushr F.1 F.2.1 hd rfl (h_2 H ls locs cells slots S)
theorem so_idiv (F : so_Fx p s m args meth c cc o nL nm G R z0 s0 zm sm d) (hd : decode cc pc = .ok (.idiv, 1)) (h : am_pi st fun y st => am_pi st fun x r => am_g (!decide (y = 0)) (so_X p l e R s m args below meth c Q G nL z0 s0 zm sm (pc + 1) L (.int (x / y) :: r) M)) : so_X p l e R s m args below meth c Q G nL z0 s0 zm sm pc L st M := by
  obtain ⟨y, st1, rfl, h_1⟩ := am_pi_inv h
  obtain ⟨x, r, rfl, h_2⟩ := am_pi_inv h_1
  obtain ⟨hg, h_3⟩ := am_g_inv h_2
  have hne : ¬ y = 0 := fun q => by rw [q] at hg; cases hg
  intro H ls locs cells slots S
  exact lv_idiv F.1 F.2.1 hd hne (h_3 H ls locs cells slots S)
theorem so_irem (F : so_Fx p s m args meth c cc o nL nm G R z0 s0 zm sm d) (hd : decode cc pc = .ok (.irem, 1)) (h : am_pi st fun y st => am_pi st fun x r => am_g (!decide (y = 0)) (so_X p l e R s m args below meth c Q G nL z0 s0 zm sm (pc + 1) L (.int (x - x / y * y) :: r) M)) : so_X p l e R s m args below meth c Q G nL z0 s0 zm sm pc L st M := by
  obtain ⟨y, st1, rfl, h_1⟩ := am_pi_inv h
  obtain ⟨x, r, rfl, h_2⟩ := am_pi_inv h_1
  obtain ⟨hg, h_3⟩ := am_g_inv h_2
  have hne : ¬ y = 0 := fun q => by rw [q] at hg; cases hg
  intro H ls locs cells slots S
  exact lv_irem F.1 F.2.1 hd hne (h_3 H ls locs cells slots S)
theorem so_ladd (F : so_Fx p s m args meth c cc o nL nm G R z0 s0 zm sm d) (hd : decode cc pc = .ok (.ladd, 1)) (h : am_pl st fun y st => am_pl st fun x r => so_X p l e R s m args below meth c Q G nL z0 s0 zm sm (pc + 1) L (.long (x + y) :: r) M) : so_X p l e R s m args below meth c Q G nL z0 s0 zm sm pc L st M := by
  obtain ⟨y, st1, rfl, h_1⟩ := am_pl_inv h
  obtain ⟨x, r, rfl, h_2⟩ := am_pl_inv h_1
  intro H ls locs cells slots S
  exact lv_ladd F.1 F.2.1 hd (h_2 H ls locs cells slots S)
theorem so_lmul (F : so_Fx p s m args meth c cc o nL nm G R z0 s0 zm sm d) (hd : decode cc pc = .ok (.lmul, 1)) (h : am_pl st fun y st => am_pl st fun x r => so_X p l e R s m args below meth c Q G nL z0 s0 zm sm (pc + 1) L (.long (x * y) :: r) M) : so_X p l e R s m args below meth c Q G nL z0 s0 zm sm pc L st M := by
  obtain ⟨y, st1, rfl, h_1⟩ := am_pl_inv h
  obtain ⟨x, r, rfl, h_2⟩ := am_pl_inv h_1
  intro H ls locs cells slots S
  exact lv_lmul F.1 F.2.1 hd (h_2 H ls locs cells slots S)
theorem so_land (F : so_Fx p s m args meth c cc o nL nm G R z0 s0 zm sm d) (hd : decode cc pc = .ok (.land, 1)) (h : am_pl st fun y st => am_pl st fun x r => so_X p l e R s m args below meth c Q G nL z0 s0 zm sm (pc + 1) L (.long (x &&& y) :: r) M) : so_X p l e R s m args below meth c Q G nL z0 s0 zm sm pc L st M := by
  obtain ⟨y, st1, rfl, h_1⟩ := am_pl_inv h
  obtain ⟨x, r, rfl, h_2⟩ := am_pl_inv h_1
  intro H ls locs cells slots S
  exact lv_land F.1 F.2.1 hd (h_2 H ls locs cells slots S)
theorem so_lor (F : so_Fx p s m args meth c cc o nL nm G R z0 s0 zm sm d) (hd : decode cc pc = .ok (.lor, 1)) (h : am_pl st fun y st => am_pl st fun x r => so_X p l e R s m args below meth c Q G nL z0 s0 zm sm (pc + 1) L (.long (x ||| y) :: r) M) : so_X p l e R s m args below meth c Q G nL z0 s0 zm sm pc L st M := by
  obtain ⟨y, st1, rfl, h_1⟩ := am_pl_inv h
  obtain ⟨x, r, rfl, h_2⟩ := am_pl_inv h_1
  intro H ls locs cells slots S
  exact lv_lor F.1 F.2.1 hd (h_2 H ls locs cells slots S)
theorem so_ldiv (F : so_Fx p s m args meth c cc o nL nm G R z0 s0 zm sm d) (hd : decode cc pc = .ok (.ldiv, 1)) (h : am_pl st fun y st => am_pl st fun x r => am_g (!decide (y = 0)) (so_X p l e R s m args below meth c Q G nL z0 s0 zm sm (pc + 1) L (.long (x / y) :: r) M)) : so_X p l e R s m args below meth c Q G nL z0 s0 zm sm pc L st M := by
  obtain ⟨y, st1, rfl, h_1⟩ := am_pl_inv h
  obtain ⟨x, r, rfl, h_2⟩ := am_pl_inv h_1
  obtain ⟨hg, h_3⟩ := am_g_inv h_2
  have hne : ¬ y = 0 := fun q => by rw [q] at hg; cases hg
  intro H ls locs cells slots S
  exact lv_ldiv F.1 F.2.1 hd hne (h_3 H ls locs cells slots S)
theorem so_lrem (F : so_Fx p s m args meth c cc o nL nm G R z0 s0 zm sm d) (hd : decode cc pc = .ok (.lrem, 1)) (h : am_pl st fun y st => am_pl st fun x r => am_g (!decide (y = 0)) (so_X p l e R s m args below meth c Q G nL z0 s0 zm sm (pc + 1) L (.long (x - x / y * y) :: r) M)) : so_X p l e R s m args below meth c Q G nL z0 s0 zm sm pc L st M := by
  obtain ⟨y, st1, rfl, h_1⟩ := am_pl_inv h
  obtain ⟨x, r, rfl, h_2⟩ := am_pl_inv h_1
  obtain ⟨hg, h_3⟩ := am_g_inv h_2
  have hne : ¬ y = 0 := fun q => by rw [q] at hg; cases hg
  intro H ls locs cells slots S
  exact lv_lrem F.1 F.2.1 hd hne (h_3 H ls locs cells slots S)
theorem so_lshl (F : so_Fx p s m args meth c cc o nL nm G R z0 s0 zm sm d) (hd : decode cc pc = .ok (.lshl, 1)) (h : am_pi st fun y st => am_pl st fun x r => so_X p l e R s m args below meth c Q G nL z0 s0 zm sm (pc + 1) L (.long (x <<< (y.toInt64 &&& 63)) :: r) M) : so_X p l e R s m args below meth c Q G nL z0 s0 zm sm pc L st M := by
  obtain ⟨y, st1, rfl, h_1⟩ := am_pi_inv h
  obtain ⟨x, r, rfl, h_2⟩ := am_pl_inv h_1
  intro H ls locs cells slots S
  exact lv_lshl F.1 F.2.1 hd rfl (h_2 H ls locs cells slots S)
theorem so_lcmp (F : so_Fx p s m args meth c cc o nL nm G R z0 s0 zm sm d) (hd : decode cc pc = .ok (.lcmp, 1)) (h : am_pl st fun y st => am_pl st fun x r => so_X p l e R s m args below meth c Q G nL z0 s0 zm sm (pc + 1) L (.int (lg_cmp x y) :: r) M) : so_X p l e R s m args below meth c Q G nL z0 s0 zm sm pc L st M := by
  obtain ⟨y, st1, rfl, h_1⟩ := am_pl_inv h
  obtain ⟨x, r, rfl, h_2⟩ := am_pl_inv h_1
  intro H ls locs cells slots S
  exact W.lcmp F.1 F.2.1 hd (h_2 H ls locs cells slots S)
theorem so_i2l (F : so_Fx p s m args meth c cc o nL nm G R z0 s0 zm sm d) (hd : decode cc pc = .ok (.i2l, 1)) (h : am_pi st fun x r => so_X p l e R s m args below meth c Q G nL z0 s0 zm sm (pc + 1) L (.long x.toInt64 :: r) M) : so_X p l e R s m args below meth c Q G nL z0 s0 zm sm pc L st M := by
  obtain ⟨x, r, rfl, h_1⟩ := am_pi_inv h
  intro H ls locs cells slots S
  exact lv_i2l F.1 F.2.1 hd rfl (h_1 H ls locs cells slots S)
theorem so_l2i (F : so_Fx p s m args meth c cc o nL nm G R z0 s0 zm sm d) (hd : decode cc pc = .ok (.l2i, 1)) (h : am_pl st fun x r => so_X p l e R s m args below meth c Q G nL z0 s0 zm sm (pc + 1) L (.int x.toInt32 :: r) M) : so_X p l e R s m args below meth c Q G nL z0 s0 zm sm pc L st M := by
  obtain ⟨x, r, rfl, h_1⟩ := am_pl_inv h
  intro H ls locs cells slots S
  exact lv_l2i F.1 F.2.1 hd rfl (h_1 H ls locs cells slots S)
theorem so_i2b (F : so_Fx p s m args meth c cc o nL nm G R z0 s0 zm sm d) (hd : decode cc pc = .ok (.i2b, 1)) (h : am_pi st fun x r => so_X p l e R s m args below meth c Q G nL z0 s0 zm sm (pc + 1) L (.int x.toInt8.toInt32 :: r) M) : so_X p l e R s m args below meth c Q G nL z0 s0 zm sm pc L st M := by
  obtain ⟨x, r, rfl, h_1⟩ := am_pi_inv h
  intro H ls locs cells slots S
  exact lv_i2b F.1 F.2.1 hd rfl (h_1 H ls locs cells slots S)
theorem so_i2s (F : so_Fx p s m args meth c cc o nL nm G R z0 s0 zm sm d) (hd : decode cc pc = .ok (.i2s, 1)) (h : am_pi st fun x r => so_X p l e R s m args below meth c Q G nL z0 s0 zm sm (pc + 1) L (.int x.toInt16.toInt32 :: r) M) : so_X p l e R s m args below meth c Q G nL z0 s0 zm sm pc L st M := by
  obtain ⟨x, r, rfl, h_1⟩ := am_pi_inv h
  intro H ls locs cells slots S
  exact lv_i2s F.1 F.2.1 hd rfl (h_1 H ls locs cells slots S)
theorem so_ineg (F : so_Fx p s m args meth c cc o nL nm G R z0 s0 zm sm d) (hd : decode cc pc = .ok (.ineg, 1)) (h : am_pi st fun x r => so_X p l e R s m args below meth c Q G nL z0 s0 zm sm (pc + 1) L (.int (0 - x) :: r) M) : so_X p l e R s m args below meth c Q G nL z0 s0 zm sm pc L st M := by
  obtain ⟨x, r, rfl, h_1⟩ := am_pi_inv h
  intro H ls locs cells slots S
  have k := h_1 H ls locs cells slots S
  rw [Int32.zero_sub] at k
  exact lv_ineg F.1 F.2.1 hd k
theorem so_dup (F : so_Fx p s m args meth c cc o nL nm G R z0 s0 zm sm d) (hd : decode cc pc = .ok (.dup, 1)) (h : am_p1 st fun v r => so_X p l e R s m args below meth c Q G nL z0 s0 zm sm (pc + 1) L (v :: v :: r) M) : so_X p l e R s m args below meth c Q G nL z0 s0 zm sm pc L st M := by
  obtain ⟨v, r, rfl, hc, h_1⟩ := am_p1_inv h
  intro H ls locs cells slots S
  exact lv_dup F.1 F.2.1 hd (by rw [so_v_cat]; exact hc) (h_1 H ls locs cells slots S)
theorem so_dup2 (F : so_Fx p s m args meth c cc o nL nm G R z0 s0 zm sm d) (hd : decode cc pc = .ok (.dup2, 1)) (h : am_p1 st fun v st => am_p1 st fun w r => so_X p l e R s m args below meth c Q G nL z0 s0 zm sm (pc + 1) L (v :: w :: v :: w :: r) M) : so_X p l e R s m args below meth c Q G nL z0 s0 zm sm pc L st M := by
  obtain ⟨v, st1, rfl, hc, h_1⟩ := am_p1_inv h
  obtain ⟨w, r, rfl, hc2, h_2⟩ := am_p1_inv h_1
  intro H ls locs cells slots S
  exact lv_dup2_11 F.1 F.2.1 hd (by rw [so_v_cat]; exact hc) (by rw [so_v_cat]; exact hc2) (h_2 H ls locs cells slots S)
theorem so_pop (F : so_Fx p s m args meth c cc o nL nm G R z0 s0 zm sm d) (hd : decode cc pc = .ok (.pop, 1)) (h : am_p1 st fun _ r => so_X p l e R s m args below meth c Q G nL z0 s0 zm sm (pc + 1) L r M) : so_X p l e R s m args below meth c Q G nL z0 s0 zm sm pc L st M := by
  obtain ⟨v, r, rfl, hc, h_1⟩ := am_p1_inv h
  intro H ls locs cells slots S
  exact lv_pop F.1 F.2.1 hd (by rw [so_v_cat]; exact hc) (h_1 H ls locs cells slots S)
theorem so_goto (F : so_Fx p s m args meth c cc o nL nm G R z0 s0 zm sm d) {off t : Int} (hk : lkT pc off t = true) (hd : decode cc pc = .ok (.goto off, 3)) (h : so_X p l e R s m args below meth c Q G nL z0 s0 zm sm t.toNat L st M) : so_X p l e R s m args below meth c Q G nL z0 s0 zm sm pc L st M := by
  intro H ls locs cells slots S
  exact lv_goto F.1 F.2.1 hd (lkT_to hk) (h H ls locs cells slots S)
theorem so_if_eq (F : so_Fx p s m args meth c cc o nL nm G R z0 s0 zm sm d) {off t : Int} (hk : lkT pc off t = true) (hd : decode cc pc = .ok (.ifCond .eq off, 3)) (h : am_pi st fun x r => am_br (x = 0) (so_X p l e R s m args below meth c Q G nL z0 s0 zm sm t.toNat L r M) (so_X p l e R s m args below meth c Q G nL z0 s0 zm sm (pc + 3) L r M)) : so_X p l e R s m args below meth c Q G nL z0 s0 zm sm pc L st M := by
  obtain ⟨x, r, rfl, h_2⟩ := am_pi_inv h
  intro H ls locs cells slots S
  exact lv_if_eq F.1 F.2.1 hd (lkT_to hk) (fun q => h_2.1 q H ls locs cells slots S) (fun q => h_2.2 q H ls locs cells slots S)
theorem so_if_ne (F : so_Fx p s m args meth c cc o nL nm G R z0 s0 zm sm d) {off t : Int} (hk : lkT pc off t = true) (hd : decode cc pc = .ok (.ifCond .ne off, 3)) (h : am_pi st fun x r => am_br (x = 0) (so_X p l e R s m args below meth c Q G nL z0 s0 zm sm (pc + 3) L r M) (so_X p l e R s m args below meth c Q G nL z0 s0 zm sm t.toNat L r M)) : so_X p l e R s m args below meth c Q G nL z0 s0 zm sm pc L st M := by
  obtain ⟨x, r, rfl, h_2⟩ := am_pi_inv h
  intro H ls locs cells slots S
  exact lv_if_ne F.1 F.2.1 hd (lkT_to hk) (fun q => h_2.2 q H ls locs cells slots S) (fun q => h_2.1 q H ls locs cells slots S)
theorem so_if_lt (F : so_Fx p s m args meth c cc o nL nm G R z0 s0 zm sm d) {off t : Int} (hk : lkT pc off t = true) (hd : decode cc pc = .ok (.ifCond .lt off, 3)) (h : am_pi st fun x r => am_br (x < 0) (so_X p l e R s m args below meth c Q G nL z0 s0 zm sm t.toNat L r M) (so_X p l e R s m args below meth c Q G nL z0 s0 zm sm (pc + 3) L r M)) : so_X p l e R s m args below meth c Q G nL z0 s0 zm sm pc L st M := by
  obtain ⟨x, r, rfl, h_2⟩ := am_pi_inv h
  intro H ls locs cells slots S
  exact lv_if_lt F.1 F.2.1 hd (lkT_to hk) (fun q => h_2.1 q H ls locs cells slots S) (fun q => h_2.2 q H ls locs cells slots S)
theorem so_if_ge (F : so_Fx p s m args meth c cc o nL nm G R z0 s0 zm sm d) {off t : Int} (hk : lkT pc off t = true) (hd : decode cc pc = .ok (.ifCond .ge off, 3)) (h : am_pi st fun x r => am_br (x < 0) (so_X p l e R s m args below meth c Q G nL z0 s0 zm sm (pc + 3) L r M) (so_X p l e R s m args below meth c Q G nL z0 s0 zm sm t.toNat L r M)) : so_X p l e R s m args below meth c Q G nL z0 s0 zm sm pc L st M := by
  obtain ⟨x, r, rfl, h_2⟩ := am_pi_inv h
  intro H ls locs cells slots S
  exact lv_if_ge F.1 F.2.1 hd (lkT_to hk) (fun q => h_2.2 (Int32.not_lt.mpr q) H ls locs cells slots S) (fun q => h_2.1 (Int32.not_le.mp q) H ls locs cells slots S)
theorem so_if_gt (F : so_Fx p s m args meth c cc o nL nm G R z0 s0 zm sm d) {off t : Int} (hk : lkT pc off t = true) (hd : decode cc pc = .ok (.ifCond .gt off, 3)) (h : am_pi st fun x r => am_br (0 < x) (so_X p l e R s m args below meth c Q G nL z0 s0 zm sm t.toNat L r M) (so_X p l e R s m args below meth c Q G nL z0 s0 zm sm (pc + 3) L r M)) : so_X p l e R s m args below meth c Q G nL z0 s0 zm sm pc L st M := by
  obtain ⟨x, r, rfl, h_2⟩ := am_pi_inv h
  intro H ls locs cells slots S
  exact lv_if_gt F.1 F.2.1 hd (lkT_to hk) (fun q => h_2.1 q H ls locs cells slots S) (fun q => h_2.2 q H ls locs cells slots S)
theorem so_if_le (F : so_Fx p s m args meth c cc o nL nm G R z0 s0 zm sm d) {off t : Int} (hk : lkT pc off t = true) (hd : decode cc pc = .ok (.ifCond .le off, 3)) (h : am_pi st fun x r => am_br (0 < x) (so_X p l e R s m args below meth c Q G nL z0 s0 zm sm (pc + 3) L r M) (so_X p l e R s m args below meth c Q G nL z0 s0 zm sm t.toNat L r M)) : so_X p l e R s m args below meth c Q G nL z0 s0 zm sm pc L st M := by
  obtain ⟨x, r, rfl, h_2⟩ := am_pi_inv h
  intro H ls locs cells slots S
  exact lv_if_le F.1 F.2.1 hd (lkT_to hk) (fun q => h_2.2 (Int32.not_lt.mpr q) H ls locs cells slots S) (fun q => h_2.1 (Int32.not_le.mp q) H ls locs cells slots S)
theorem so_icmp_eq (F : so_Fx p s m args meth c cc o nL nm G R z0 s0 zm sm d) {off t : Int} (hk : lkT pc off t = true) (hd : decode cc pc = .ok (.if_icmp .eq off, 3)) (h : am_pi st fun y st => am_pi st fun x r => am_br (x = y) (so_X p l e R s m args below meth c Q G nL z0 s0 zm sm t.toNat L r M) (so_X p l e R s m args below meth c Q G nL z0 s0 zm sm (pc + 3) L r M)) : so_X p l e R s m args below meth c Q G nL z0 s0 zm sm pc L st M := by
  obtain ⟨y, st1, rfl, h_1⟩ := am_pi_inv h
  obtain ⟨x, r, rfl, h_2⟩ := am_pi_inv h_1
  intro H ls locs cells slots S
  exact lv_icmp_eq F.1 F.2.1 hd (lkT_to hk) (fun q => h_2.1 q H ls locs cells slots S) (fun q => h_2.2 q H ls locs cells slots S)
theorem so_icmp_ne (F : so_Fx p s m args meth c cc o nL nm G R z0 s0 zm sm d) {off t : Int} (hk : lkT pc off t = true) (hd : decode cc pc = .ok (.if_icmp .ne off, 3)) (h : am_pi st fun y st => am_pi st fun x r => am_br (x = y) (so_X p l e R s m args below meth c Q G nL z0 s0 zm sm (pc + 3) L r M) (so_X p l e R s m args below meth c Q G nL z0 s0 zm sm t.toNat L r M)) : so_X p l e R s m args below meth c Q G nL z0 s0 zm sm pc L st M := by
  obtain ⟨y, st1, rfl, h_1⟩ := am_pi_inv h
  obtain ⟨x, r, rfl, h_2⟩ := am_pi_inv h_1
  intro H ls locs cells slots S
  exact lv_icmp_ne F.1 F.2.1 hd (lkT_to hk) (fun q => h_2.2 q H ls locs cells slots S) (fun q => h_2.1 q H ls locs cells slots S)
theorem so_icmp_lt (F : so_Fx p s m args meth c cc o nL nm G R z0 s0 zm sm d) {off t : Int} (hk : lkT pc off t = true) (hd : decode cc pc = .ok (.if_icmp .lt off, 3)) (h : am_pi st fun y st => am_pi st fun x r => am_br (x < y) (so_X p l e R s m args below meth c Q G nL z0 s0 zm sm t.toNat L r M) (so_X p l e R s m args below meth c Q G nL z0 s0 zm sm (pc + 3) L r M)) : so_X p l e R s m args below meth c Q G nL z0 s0 zm sm pc L st M := by
  obtain ⟨y, st1, rfl, h_1⟩ := am_pi_inv h
  obtain ⟨x, r, rfl, h_2⟩ := am_pi_inv h_1
  intro H ls locs cells slots S
  exact lv_icmp_lt F.1 F.2.1 hd (lkT_to hk) (fun q => h_2.1 q H ls locs cells slots S) (fun q => h_2.2 q H ls locs cells slots S)
theorem so_icmp_ge (F : so_Fx p s m args meth c cc o nL nm G R z0 s0 zm sm d) {off t : Int} (hk : lkT pc off t = true) (hd : decode cc pc = .ok (.if_icmp .ge off, 3)) (h : am_pi st fun y st => am_pi st fun x r => am_br (x < y) (so_X p l e R s m args below meth c Q G nL z0 s0 zm sm (pc + 3) L r M) (so_X p l e R s m args below meth c Q G nL z0 s0 zm sm t.toNat L r M)) : so_X p l e R s m args below meth c Q G nL z0 s0 zm sm pc L st M := by
  obtain ⟨y, st1, rfl, h_1⟩ := am_pi_inv h
  obtain ⟨x, r, rfl, h_2⟩ := am_pi_inv h_1
  intro H ls locs cells slots S
  exact lv_icmp_ge F.1 F.2.1 hd (lkT_to hk) (fun q => h_2.2 (Int32.not_lt.mpr q) H ls locs cells slots S) (fun q => h_2.1 (Int32.not_le.mp q) H ls locs cells slots S)
theorem so_icmp_gt (F : so_Fx p s m args meth c cc o nL nm G R z0 s0 zm sm d) {off t : Int} (hk : lkT pc off t = true) (hd : decode cc pc = .ok (.if_icmp .gt off, 3)) (h : am_pi st fun y st => am_pi st fun x r => am_br (y < x) (so_X p l e R s m args below meth c Q G nL z0 s0 zm sm t.toNat L r M) (so_X p l e R s m args below meth c Q G nL z0 s0 zm sm (pc + 3) L r M)) : so_X p l e R s m args below meth c Q G nL z0 s0 zm sm pc L st M := by
  obtain ⟨y, st1, rfl, h_1⟩ := am_pi_inv h
  obtain ⟨x, r, rfl, h_2⟩ := am_pi_inv h_1
  intro H ls locs cells slots S
  exact lv_icmp_gt F.1 F.2.1 hd (lkT_to hk) (fun q => h_2.1 q H ls locs cells slots S) (fun q => h_2.2 q H ls locs cells slots S)
theorem so_icmp_le (F : so_Fx p s m args meth c cc o nL nm G R z0 s0 zm sm d) {off t : Int} (hk : lkT pc off t = true) (hd : decode cc pc = .ok (.if_icmp .le off, 3)) (h : am_pi st fun y st => am_pi st fun x r => am_br (y < x) (so_X p l e R s m args below meth c Q G nL z0 s0 zm sm (pc + 3) L r M) (so_X p l e R s m args below meth c Q G nL z0 s0 zm sm t.toNat L r M)) : so_X p l e R s m args below meth c Q G nL z0 s0 zm sm pc L st M := by
  obtain ⟨y, st1, rfl, h_1⟩ := am_pi_inv h
  obtain ⟨x, r, rfl, h_2⟩ := am_pi_inv h_1
  intro H ls locs cells slots S
  exact lv_icmp_le F.1 F.2.1 hd (lkT_to hk) (fun q => h_2.2 (Int32.not_lt.mpr q) H ls locs cells slots S) (fun q => h_2.1 (Int32.not_le.mp q) H ls locs cells slots S)
theorem am_ofI {v : Int} (h1 : -2000 ≤ v) (h2 : v ≤ 2000) : (am_k v).toInt = v := by
  rw [am_k_eq]
  exact Int32.toInt_ofInt_of_le (by omega) (by omega)
theorem am_sw_out {x : Int32} {f : Nat → Prop} {dt : Nat} : ∀ (ts : List Int) (k : Int), -1000 ≤ k → k + ts.length ≤ 1001 → (x.toInt < k ∨ k + ts.length ≤ x.toInt) → am_sw x k ts f dt → f dt
  | [], _, _, _, _, h => h
  | t :: ts, k, h1, h2, h3, h => by
    rw [List.length_cons] at h2 h3
    have hne : ¬ x = am_k k := fun q => by
      have := congrArg Int32.toInt q
      rw [am_ofI (by omega) (by omega)] at this
      omega
    exact am_sw_out ts (k + 1) (by omega) (by omega) (by omega) (h.2 hne)
theorem am_sw_in {x : Int32} {f : Nat → Prop} {dt : Nat} : ∀ (ts : List Int) (k : Int), -1000 ≤ k → k + ts.length ≤ 1001 → k ≤ x.toInt → x.toInt < k + ts.length → am_sw x k ts f dt → ∃ t, ts[(x.toInt - k).toNat]? = some t ∧ f t.toNat
  | [], k, _, _, h3, h4, _ => by simp at h4; omega
  | t :: ts, k, h1, h2, h3, h4, h => by
    rw [List.length_cons] at h2 h4
    by_cases e : x.toInt = k
    · refine ⟨t, by rw [e]; simp, h.1 ?_⟩
      rw [← e, am_k_eq, Int32.ofInt_toInt]
    · have hne : ¬ x = am_k k := fun q => by
        have := congrArg Int32.toInt q
        rw [am_ofI (by omega) (by omega)] at this
        omega
      obtain ⟨t2, g1, g2⟩ := am_sw_in ts (k + 1) (by omega) (by omega) (by omega) (by omega) (h.2 hne)
      refine ⟨t2, ?_, g2⟩
      rw [show (x.toInt - k).toNat = (x.toInt - (k + 1)).toNat + 1 by omega]
      exact g1
theorem so_tableswitch (F : so_Fx p s m args meth c cc o nL nm G R z0 s0 zm sm d) {dd lo hi : Int} {ts : Array Int} {ln : Nat} {orig : Instr} {rt : Option FieldType} (hk : lkB o nm rt pc (.tableswitch dd lo hi ts) ln orig = true) (hd : decode cc pc = .ok (orig, ln)) (h : am_pi st fun x r => am_sw x lo ts.toList (fun t => so_X p l e R s m args below meth c Q G nL z0 s0 zm sm t L r M) dd.toNat) : so_X p l e R s m args below meth c Q G nL z0 s0 zm sm pc L st M := by
  obtain ⟨x, r, rfl, h_1⟩ := am_pi_inv h
  dsimp only [lkB] at hk
  split at hk
  · rename_i d' lo' hi' ts'
    obtain ⟨hk, k8⟩ := am_bb hk
    obtain ⟨hk, k7⟩ := am_bb hk
    obtain ⟨hk, k6⟩ := am_bb hk
    obtain ⟨hk, k5⟩ := am_bb hk
    obtain ⟨hk, k4⟩ := am_bb hk
    obtain ⟨hk, k3⟩ := am_bb hk
    obtain ⟨k1, k2⟩ := am_bb hk
    have k1 := of_decide_eq_true k1
    have k2 := of_decide_eq_true k2
    subst k1
    subst k2
    have k4 := of_decide_eq_true k4
    have k6 := of_decide_eq_true k6
    have k7 := of_decide_eq_true k7
    have k8 := of_decide_eq_true k8
    intro H ls locs cells slots S
    by_cases hin : lo' ≤ x.toInt ∧ x.toInt ≤ hi'
    · obtain ⟨t, g1, g2⟩ := am_sw_in ts.toList lo' k7 (by omega) hin.1 (by omega) h_1
      rw [← k4, List.getElem?_map] at g1
      cases g3 : ts'.toList[(x.toInt - lo').toNat]? with
      | none => rw [g3] at g1; cases g1
      | some u =>
        rw [g3] at g1
        have g4 : (pc : Int) + u = t := Option.some.inj g1
        have g5 : 0 ≤ t := of_decide_eq_true (List.all_eq_true.mp k5 t (by rw [← k4, ← g4]; exact List.mem_map.mpr ⟨u, List.mem_of_getElem? g3, rfl⟩))
        exact lv_tableIn F.1 F.2.1 hd (by omega) (by omega) (by rw [← Array.getElem?_toList]; exact g3) (by rw [g4, Int.toNat_of_nonneg g5]) (g2 H ls locs cells slots S)
    · exact lv_tableOut F.1 F.2.1 hd (by omega) (lkT_to k3) (am_sw_out ts.toList lo' k7 (by omega) (by omega) h_1 H ls locs cells slots S)
  · cases hk
theorem am_lw_in {x : Int32} {f : Nat → Prop} {pc : Nat} {d' dd : Int} (hdd : (pc : Int) + d' = ((dd.toNat : Nat) : Int)) : ∀ (ps : List (Int × Int)), (∀ q ∈ ps, 0 ≤ (pc : Int) + q.2 ∧ -1000 ≤ q.1 ∧ q.1 ≤ 1000) → am_lw x (ps.map fun t => (t.1, (pc : Int) + t.2)) f dd.toNat → ∃ tgt : Nat, (pc : Int) + Op.lookupswitch.offset ps d' x.toInt = (tgt : Int) ∧ f tgt
  | [], _, h => ⟨dd.toNat, hdd, h⟩
  | (a, b) :: ps, hq, h => by
    obtain ⟨q1, q2, q3⟩ := hq (a, b) List.mem_cons_self
    by_cases e : x = am_k a
    · refine ⟨((pc : Int) + b).toNat, ?_, h.1 e⟩
      rw [Int.toNat_of_nonneg q1]
      have e2 : x.toInt = a := by rw [e]; exact am_ofI (by omega) (by omega)
      simp [Op.lookupswitch.offset, e2]
    · rw [lv_osw (k := am_k a) e (am_ofI (by omega) (by omega))]
      exact am_lw_in hdd ps (fun q hq2 => hq q (List.mem_cons_of_mem _ hq2)) (h.2 e)
theorem so_lookupswitch (F : so_Fx p s m args meth c cc o nL nm G R z0 s0 zm sm d) {dd : Int} {ps : Array (Int × Int)} {ln : Nat} {orig : Instr} {rt : Option FieldType} (hk : lkB o nm rt pc (.lookupswitch dd ps) ln orig = true) (hd : decode cc pc = .ok (orig, ln)) (h : am_pi st fun x r => am_lw x ps.toList (fun t => so_X p l e R s m args below meth c Q G nL z0 s0 zm sm t L r M) dd.toNat) : so_X p l e R s m args below meth c Q G nL z0 s0 zm sm pc L st M := by
  obtain ⟨x, r, rfl, h_1⟩ := am_pi_inv h
  dsimp only [lkB] at hk
  split at hk
  · rename_i d' ps'
    obtain ⟨hk, k4⟩ := am_bb hk
    obtain ⟨hk, k3⟩ := am_bb hk
    obtain ⟨k1, k2⟩ := am_bb hk
    have k2 := of_decide_eq_true k2
    rw [← k2] at h_1 k3
    intro H ls locs cells slots S
    obtain ⟨tgt, g1, g2⟩ := am_lw_in (lkT_to k1) ps'.toList (fun q hq => by
      have h9 := List.all_eq_true.mp k3 (q.1, (pc : Int) + q.2) (List.mem_map.mpr ⟨q, hq, rfl⟩)
      obtain ⟨h9, h8⟩ := am_bb h9
      obtain ⟨h9, h7⟩ := am_bb h9
      exact ⟨of_decide_eq_true h9, of_decide_eq_true h7, of_decide_eq_true h8⟩) h_1
    exact lv_lookup F.1 F.2.1 hd k4 rfl g1 (g2 H ls locs cells slots S)
  · cases hk
end SO
end
section
/-! SOUNDNESS, VI: cells made; what the kit has as one row -/
theorem so_int {i : Int32} {n : Nat} (h : n = am_un i) (hn : n < 2 ^ 31) : ¬ i < 0 ∧ i.toNatClampNeg = n := by
  obtain ⟨h1, h2⟩ := so_in (i := i) (n := n + 1) (by omega) (by omega)
  exact ⟨fun q => h1 (Or.inl q), by rw [h2, h]⟩
theorem so_addr {G : so_G} {U : State} {M : am_M} {H : Heap} (S2 : so_H G U M H) : so_ad G M.2.2.2.1 = H.size := by
  rw [so_ad_hi G S2.2.1, S2.1]
theorem so_vRf (G : so_G) (r : Nat) : so_v G (.ref r) = .ref (so_ad G r) := rfl
theorem so_outer (c : ClassId) (N h0 : Nat) : ∀ i : Nat, Jvm.Free.Multi.outerC c N h0 i = arrV c N (fun j => va_rf (if j < i then some (h0 + 1 + j) else none))
  | 0 => by
    show ({ cls := c, slots := Array.replicate N .null, vm := .none } : Cell) = _
    rw [arrV_new]
    refine congrArg (arrV c N) (funext fun j => ?_)
    simp [va_rf]
  | i + 1 => by
    show (Jvm.Free.Multi.outerC c N h0 i).setSlot i (.ref (h0 + 1 + i)) = _
    rw [so_outer c N h0 i, arrV_store]
    refine congrArg (arrV c N) (funext fun j => ?_)
    by_cases e : j = i
    · subst e
      simp [updV, va_rf]
    · by_cases h : j < i
      · simp [updV, e, h, Nat.lt_succ_of_lt h]
      · simp [updV, e, h, show ¬ j < i + 1 by omega]
section SO
variable {p : Program} {l : Launch} {e : Env} {R : Room} {s : State} {m : MethodId} {args : Array Value} {below : List Frame} {meth : Method} {c : Code} {Q : State → Prop}
variable {cc : ByteArray} {G : so_G} {o nL z0 s0 zm sm d : Nat} {nm : String} {pc : Nat} {L : am_L} {st : List Value} {M : am_M}
theorem so_pc (ho : o < 15) {i q : Nat} (h : ((pl_c o).any fun e => Nat.beq e.1 i && Nat.beq e.2.1 q) = true) : (.classLink (cl_R o) i (cond (Nat.beq q 100) "[[I" (cond (Nat.beq q 101) "[[J" (cl_R q))) : Jvm.Cond) ∈ lw_tbg ∧ (q = 100 ∨ q = 101 ∨ q < 10) := by
  obtain ⟨x, hx⟩ := lk_any2 h
  have h1 := List.all_eq_true.mp (lk_all15 pc_ok ho) _ hx
  obtain ⟨h1, h3⟩ := am_bb h1
  refine ⟨lw_is_in h1, ?_⟩
  rcases (Bool.or_eq_true _ _).mp h3 with h3 | h3
  · rcases (Bool.or_eq_true _ _).mp h3 with h3 | h3
    · exact Or.inl (Nat.eq_of_beq_eq_true h3)
    · exact Or.inr (Or.inl (Nat.eq_of_beq_eq_true h3))
  · exact Or.inr (Or.inr (Nat.le_of_ble_eq_true h3))
/-- one cell is made -/
theorem so_made {H H1 : Heap} (S2 : so_H G s M H) (hs : H1.size = H.size + 1) (oq : ∀ q : Nat, q < H.size → H1[q]? = H[q]?) (hat : va_at G.2.2.1 vwCl (so_ad G M.2.2.2.1, so_e G (am_new M) M.2.2.2.1) H1) : so_H G s (am_new M) H1 := by
  refine S2.push (k := 1) (fun r hr => am_sr_ne _ _ (by omega)) (fun r hr => am_sr_ne _ _ (by omega)) (fun r hr => am_sr_ne _ _ (by omega)) rfl rfl hs oq fun r h1 h2 => ?_
  have : r = M.2.2.2.1 := by omega
  subst this
  exact hat
theorem so_new (F : so_Fx p s m args meth c cc o nL nm G R z0 s0 zm sm d) {ci ln : Nat} {orig : Instr} {rt : Option FieldType} (hk : lkB o nm rt pc (.new ci) ln orig = true) (hd : decode cc pc = .ok (orig, ln))
    (h : am_g (Nat.beq (sh_t M.2.2.2.1) (10 + ci)) ((M.2.2.2.1 + 1 ≤ zm ∧ M.2.2.2.2.1 + sh_n M.2.2.2.1 ≤ sm) ∧ so_X p l e R s m args below meth c Q G nL z0 s0 zm sm (pc + ln) L (.ref M.2.2.2.1 :: st) (am_new M))) : so_X p l e R s m args below meth c Q G nL z0 s0 zm sm pc L st M := by
  obtain ⟨hg, ⟨hz1, hs1⟩, h_1⟩ := am_g_inv h
  have ht := Nat.eq_of_beq_eq_true hg
  dsimp only [lkB] at hk
  split at hk
  · obtain ⟨k1, k2⟩ := am_bb hk
    cases Nat.eq_of_beq_eq_true k1
    obtain ⟨hw, hq⟩ := so_pc F.2.2.2.2.2.2.2.2.2.2.2 k2
    have hci : ci < 10 := by
      rcases hq with hq | hq | hq
      · subst hq
        rcases Nat.lt_or_ge M.2.2.2.1 1496 with h9 | h9
        · have h8 := List.all_eq_true.mp sh_obj_lo _ (List.mem_range.mpr h9)
          rw [ht] at h8
          cases (am_bb h8).2
        · rw [(sh_hi h9).1] at ht; omega
      · subst hq
        rcases Nat.lt_or_ge M.2.2.2.1 1496 with h9 | h9
        · have h8 := List.all_eq_true.mp sh_obj_lo _ (List.mem_range.mpr h9)
          rw [ht] at h8
          cases (am_bb h8).2
        · rw [(sh_hi h9).1] at ht; omega
      · exact hq
    rw [show cond (Nat.beq ci 100) "[[I" (cond (Nat.beq ci 101) "[[J" (cl_R ci)) = cl_R ci by rw [am_beq_ne (by omega), am_beq_ne (by omega)]; rfl] at hw
    obtain ⟨n1, n2⟩ := am_bb (lk_all10 pl_n_ok hci)
    obtain ⟨hvw, hfs, hnm⟩ := so_clok hci
    have hsn := sh_obj ht
    intro H ls locs cells slots S
    obtain ⟨S1, S2, S3, S4, S5, S6, S7⟩ := S
    have hKn := F.2.2.2.2.2.1.1.1 ci _ hvw
    have hc1 : cells + 1 ≤ R.cells := by have := F.2.2.2.2.2.2.2.1; omega
    have hc2 : slots + cl_N ci ≤ R.slots := by have := F.2.2.2.2.2.2.2.2.1; omega
    refine W.newcK F.1 F.2.1 F.2.2.2.1 (F.2.2.2.2.1 _ hw) (F.2.2.2.2.1 _ (lw_is_in n1)) (F.2.2.2.2.1 _ (lw_is_in n2)) rfl hd hc1 hc2 hKn.2.1 rfl fun H1 kC hkC e1 e2 e3 => ?_
    have k := h_1 H1 ls locs (cells + 1) (slots + cl_N ci) ⟨S1, so_made S2 e2 e3 ?_, by show _ = M.2.2.2.1 + 1; omega, by show _ = M.2.2.2.2.1 + sh_n M.2.2.2.1; omega, hz1, hs1, S7⟩
    · rw [List.map_cons, so_vRf, so_addr S2] at k
      exact k
    · rw [so_eo ht, so_addr S2]
      refine ⟨_, hvw, (u_born (cl_Y ci) F.2.2.2.2.1 (so_uws hci) hKn hkC e1 (fun k hk => (hfs k hk).2.1)).to fun k hk => ?_⟩
      have hk2 : k < cl_N ci := hk
      rw [so_vV G _ _ ci hk2]
      have hty := (hfs k hk2).2.2
      unfold so_f
      show _ = cond _ (va_rf (so_q G (am_sr M.2.2.1 M.2.2.2.1 (fun _ => none) M.2.2.2.1 k))) (.int (am_sr M.1 M.2.2.2.1 (fun _ => 0) M.2.2.2.1 k))
      rw [am_sr_eq, am_sr_eq]
      cases hb : Nat.beq (sh_f ci k) 1 with
      | true =>
        rw [hb] at hty
        dsimp only [cond] at hty
        split at hty
        · rename_i n q; rw [q]; rfl
        · rename_i n q; rw [q]; rfl
        · cases hty
      | false =>
        rw [hb] at hty
        cases h0 : Nat.beq (sh_f ci k) 0 with
        | true =>
          rw [h0] at hty
          rw [of_decide_eq_true hty]
          rfl
        | false =>
          rw [h0] at hty
          rw [of_decide_eq_true (am_bb hty).1]
          rfl
  · cases hk
theorem so_newarr (F : so_Fx p s m args meth c cc o nL nm G R z0 s0 zm sm d) {at' : ArrayType} {t : Nat} (hty : newarray.typeOf at' = so_ty t) (ht3 : t < 3) (hw : (.arrayClass (newarray.typeOf at') : Jvm.Cond) ∈ lw_tbg) (hcb : componentBytes (newarray.typeOf at') ≤ 8) (hd : decode cc pc = .ok (.newarray at', 2)) {x : Int32} {r : List Value} (ht : sh_t M.2.2.2.1 = t) (hx : sh_n M.2.2.2.1 = am_un x)
    (h : (M.2.2.2.1 + 1 ≤ zm ∧ M.2.2.2.2.1 + sh_n M.2.2.2.1 ≤ sm) ∧ so_X p l e R s m args below meth c Q G nL z0 s0 zm sm (pc + 2) L (.ref M.2.2.2.1 :: r) (am_new M)) : so_X p l e R s m args below meth c Q G nL z0 s0 zm sm pc L (.int x :: r) M := by
  obtain ⟨⟨hz1, hs1⟩, h_1⟩ := h
  have hl2 := so_len_le M.2.2.2.1
  obtain ⟨hx1, hx2⟩ := so_int hx (by omega)
  intro H ls locs cells slots S
  obtain ⟨S1, S2, S3, S4, S5, S6, S7⟩ := S
  have hc1 : cells + 1 ≤ R.cells := by have := F.2.2.2.2.2.2.2.1; omega
  have hc2 : slots + sh_n M.2.2.2.1 ≤ R.slots := by have := F.2.2.2.2.2.2.2.2.1; omega
  refine va_newaK F.1 F.2.1 (F.2.2.2.2.1 _ hw) rfl hd rfl hx1 hx2 (by have := Nat.mul_le_mul hl2 hcb; omega) hc1 hc2 rfl fun H1 cA e1 e2 e3 e4 e5 => ?_
  have hA : cA = G.2.2.2.1 t := by
    have q := (F.2.2.2.2.2.1.1.2 t _ (so_tys G t (by omega))).2
    rw [hty] at e5
    match t, ht3 with
    | 0, _ => exact Option.some.inj (e5.symm.trans q)
    | 1, _ => exact Option.some.inj (e5.symm.trans q)
    | 2, _ => exact Option.some.inj (e5.symm.trans q)
  subst hA
  have k := h_1 H1 ls locs (cells + 1) (slots + sh_n M.2.2.2.1) ⟨S1, so_made S2 e2 e3 ?_, by show _ = M.2.2.2.1 + 1; omega, by show _ = M.2.2.2.2.1 + sh_n M.2.2.2.1; omega, hz1, hs1, S7⟩
  · rw [List.map_cons, so_vRf, so_addr S2] at k
    exact k
  · rw [so_addr S2]
    rw [hty] at e1
    match t, ht3 with
    | 0, _ =>
      rw [so_e0 ht]
      show H1[H.size]? = some (arrV _ _ fun j => .int (am_sr M.1 M.2.2.2.1 (fun _ => 0) M.2.2.2.1 j))
      rw [am_sr_eq]
      exact e1
    | 1, _ =>
      rw [so_e1 ht]
      show H1[H.size]? = some (arrV _ _ fun j => .int (am_sr M.1 M.2.2.2.1 (fun _ => 0) M.2.2.2.1 j))
      rw [am_sr_eq]
      exact e1
    | 2, _ =>
      rw [so_e2 ht]
      show H1[H.size]? = some (arrV _ _ fun j => .long (am_sr M.2.1 M.2.2.2.1 (fun _ => 0) M.2.2.2.1 j))
      rw [am_sr_eq]
      exact e1
theorem so_newarray (F : so_Fx p s m args meth c cc o nL nm G R z0 s0 zm sm d) {at' : ArrayType} {ln : Nat} {orig : Instr} {rt : Option FieldType} (hk : lkB o nm rt pc (.newarray at') ln orig = true) (hd : decode cc pc = .ok (orig, ln))
    (h : am_pi st fun x r => am_g (Nat.beq (sh_t M.2.2.2.1) (match (generalizing := false) at' with | .int => 0 | .boolean => 1 | .long => 2 | _ => 9) && Nat.beq (sh_n M.2.2.2.1) (am_un x)) ((M.2.2.2.1 + 1 ≤ zm ∧ M.2.2.2.2.1 + sh_n M.2.2.2.1 ≤ sm) ∧ so_X p l e R s m args below meth c Q G nL z0 s0 zm sm (pc + ln) L (.ref M.2.2.2.1 :: r) (am_new M))) : so_X p l e R s m args below meth c Q G nL z0 s0 zm sm pc L st M := by
  obtain ⟨x, r, rfl, h_1⟩ := am_pi_inv h
  obtain ⟨hg, h_2⟩ := am_g_inv h_1
  obtain ⟨g1, g2⟩ := am_bb hg
  have g1 := Nat.eq_of_beq_eq_true g1
  have g2 := Nat.eq_of_beq_eq_true g2
  dsimp only [lkB] at hk
  obtain ⟨hk, k3⟩ := am_bb hk
  obtain ⟨k1, k2⟩ := am_bb hk
  cases Nat.eq_of_beq_eq_true k2
  rw [of_decide_eq_true k1] at hd
  rcases (Bool.or_eq_true _ _).mp k3 with k3 | k3
  · rcases (Bool.or_eq_true _ _).mp k3 with k3 | k3
    · cases of_decide_eq_true k3
      exact so_newarr F (at' := .int) (t := 0) rfl (by omega) lw_arI (by decide) hd g1 g2 h_2
    · cases of_decide_eq_true k3
      exact so_newarr F (at' := .boolean) (t := 1) rfl (by omega) lw_arZ (by decide) hd g1 g2 h_2
  · cases of_decide_eq_true k3
    exact so_newarr F (at' := .long) (t := 2) rfl (by omega) lw_arJ (by decide) hd g1 g2 h_2
theorem so_anewarray (F : so_Fx p s m args meth c cc o nL nm G R z0 s0 zm sm d) {z ln : Nat} {orig : Instr} {rt : Option FieldType} (hk : lkB o nm rt pc (.anewarray z) ln orig = true) (hd : decode cc pc = .ok (orig, ln))
    (h : am_pi st fun x r => am_g (Nat.beq (sh_t M.2.2.2.1) 5 && Nat.beq (sh_n M.2.2.2.1) (am_un x)) ((M.2.2.2.1 + 1 ≤ zm ∧ M.2.2.2.2.1 + sh_n M.2.2.2.1 ≤ sm) ∧ so_X p l e R s m args below meth c Q G nL z0 s0 zm sm (pc + ln) L (.ref M.2.2.2.1 :: r) (am_new M))) : so_X p l e R s m args below meth c Q G nL z0 s0 zm sm pc L st M := by
  obtain ⟨x, r, rfl, h_1⟩ := am_pi_inv h
  obtain ⟨hg, ⟨hz1, hs1⟩, h_2⟩ := am_g_inv h_1
  obtain ⟨g1, g2⟩ := am_bb hg
  have ht := Nat.eq_of_beq_eq_true g1
  have hx := Nat.eq_of_beq_eq_true g2
  have hl2 := so_len_le M.2.2.2.1
  obtain ⟨hx1, hx2⟩ := so_int hx (by omega)
  dsimp only [lkB] at hk
  split at hk
  · obtain ⟨k1, k2⟩ := am_bb hk
    cases Nat.eq_of_beq_eq_true k1
    obtain ⟨hw, -⟩ := so_pc F.2.2.2.2.2.2.2.2.2.2.2 k2
    intro H ls locs cells slots S
    obtain ⟨S1, S2, S3, S4, S5, S6, S7⟩ := S
    have hc1 : cells + 1 ≤ R.cells := by have := F.2.2.2.2.2.2.2.1; omega
    have hc2 : slots + sh_n M.2.2.2.1 ≤ R.slots := by have := F.2.2.2.2.2.2.2.2.1; omega
    refine W.anew (C := "EightBlocks$State") F.1 F.2.1 F.2.2.2.1 (F.2.2.2.2.1 _ hw) (va_AO.use (F.2.2.2.2.2.1.2.2.1 _ rfl)) rfl hd rfl hx1 (by rw [hx2]; omega) hc1 (by rw [hx2]; exact hc2) fun cA kA comp f1 f2 f3 f4 => ?_
    have hA : cA = G.2.2.2.1 5 := by
      obtain ⟨_, _, -, -, -, q⟩ := (F.2.2.2.2.2.1.1.2 5 _ (so_tys G 5 (by omega))).2
      exact Option.some.inj (f1.symm.trans q)
    subst hA
    rw [hx2]
    generalize hH1 : H.push ({ cls := G.2.2.2.1 5, slots := Array.replicate (sh_n M.2.2.2.1) .null, vm := .none } : Cell) = H1
    have z1 : H1.size = H.size + 1 := by rw [← hH1, Array.size_push]
    have e1 : H1[H.size]? = some (arrV (G.2.2.2.1 5) (sh_n M.2.2.2.1) (fun _ => .null)) := by rw [← hH1, Array.getElem?_push_size, ← arrV_new]
    have o1 : ∀ q : Nat, q < H.size → H1[q]? = H[q]? := fun q hq => by rw [← hH1, Array.getElem?_push, if_neg (Nat.ne_of_lt hq)]
    have k := h_2 H1 ls locs (cells + 1) (slots + sh_n M.2.2.2.1) ⟨S1, so_made S2 z1 o1 ?_, by show _ = M.2.2.2.1 + 1; omega, by show _ = M.2.2.2.2.1 + sh_n M.2.2.2.1; omega, hz1, hs1, S7⟩
    · rw [List.map_cons, so_vRf, so_addr S2] at k
      exact k
    · rw [so_addr S2, so_eq ht (by omega) (by omega)]
      show H1[H.size]? = some (arrV _ _ fun j => va_rf (so_q G (am_sr M.2.2.1 M.2.2.2.1 (fun _ => none) M.2.2.2.1 j)))
      rw [am_sr_eq]
      exact e1
  · cases hk
theorem am_zr_in {α : Type} (I : Nat → Nat → α) {a n b : Nat} (g : Nat → α) (h1 : a ≤ b) (h2 : b < a + n) : am_zr I a n g b = g := by
  unfold am_zr
  rw [Nat.ble_eq_true_of_le h1, Nat.ble_eq_true_of_le (show b + 1 ≤ a + n from h2)]
  rfl
theorem am_zr_lt {α : Type} (I : Nat → Nat → α) {a n b : Nat} (g : Nat → α) (h1 : b < a) : am_zr I a n g b = I b := by
  unfold am_zr
  rw [nb_hi h1]
  rfl
theorem so_multi (F : so_Fx p s m args meth c cc o nL nm G R z0 s0 zm sm d) {t i : Nat} (hd : decode cc pc = .ok (.multianewarray i 2, 4)) {ty : FieldType} {x k : Int32} {r : List Value} (ht : sh_t M.2.2.2.1 = t) (hx : sh_n M.2.2.2.1 = am_un x) (h24 : am_un k ≤ 24000) (ht3 : 3 ≤ t) (ht4 : t ≤ 4) (hty : so_ty t = .array ty) (hty2 : so_ty ((t - 3) * 2) = ty) (hcl : (.classLink (cl_R o) i ("[" ++ (FieldType.array ty).toString) : Jvm.Cond) ∈ lw_tbg) (har : (.arrayClass ty : Jvm.Cond) ∈ lw_tbg) (hov : (Jvm.Cond.arrayOver (.array ty)).before #[] s = true) (hcb : componentBytes ty ≤ 8)
    (h : (∀ j, j < am_un x → sh_t (M.2.2.2.1 + 1 + j) = (t - 3) * 2 ∧ sh_n (M.2.2.2.1 + 1 + j) = am_un k) ∧ (M.2.2.2.1 + 1 + am_un x ≤ zm ∧ M.2.2.2.2.1 + am_un x + am_un x * am_un k ≤ sm) ∧ so_X p l e R s m args below meth c Q G nL z0 s0 zm sm (pc + 4) L (.ref M.2.2.2.1 :: r) (am_mul M (am_un x) (am_un k))) : so_X p l e R s m args below meth c Q G nL z0 s0 zm sm pc L (.int k :: .int x :: r) M := by
  obtain ⟨hrows, ⟨hz1, hs1⟩, h_1⟩ := h
  have hl2 := so_len_le M.2.2.2.1
  obtain ⟨hx1, hx2⟩ := so_int (i := x) rfl (by omega)
  obtain ⟨hk1, hk2⟩ := so_int (i := k) rfl (by omega)
  intro H ls locs cells slots S
  obtain ⟨S1, S2, S3, S4, S5, S6, S7⟩ := S
  have hc1 : cells + (1 + am_un x) ≤ R.cells := by have := F.2.2.2.2.2.2.2.1; omega
  have hc2 : slots + (am_un x + am_un x * am_un k) ≤ R.slots := by have := F.2.2.2.2.2.2.2.2.1; omega
  intro T hT Xs
  have hb := F.2.1
  obtain ⟨vm₁, cA, comp, -, fA, fC, -, -, X', step⟩ := Xs.multianewarray2F F.1 F.2.2.2.1 (F.2.2.2.2.1 _ hcl) hov (F.2.2.2.2.1 _ har) (g := F0 m pc ls (.int k :: .int x :: r.map (so_v G))) rfl (by rw [hb]; exact hd) rfl hx1 hk1 (by rw [hx2]; omega) (by rw [hk2]; have := Nat.mul_le_mul h24 hcb; omega) (by rw [hk2]; omega) (by cases t; omega; rename_i t; match t, ht3, ht4, hty with | 2, _, _, hty => cases hty; rfl | 3, _, _, hty => cases hty; rfl) (by cases t; omega; rename_i t; match t, ht3, ht4, hty with | 2, _, _, hty => cases hty; rfl | 3, _, _, hty => cases hty; rfl) (by rw [hx2]; exact hc1) (by rw [hx2, hk2]; exact hc2)
  rw [hx2, hk2] at X' step
  have hcA : cA = G.2.2.2.1 t := by
    have q := (F.2.2.2.2.2.1.1.2 t _ (so_tys G t (by omega))).2
    rw [hty] at q
    exact Option.some.inj (fA.symm.trans q)
  have hcI : comp = G.2.2.2.1 ((t - 3) * 2) := by
    have q := (F.2.2.2.2.2.1.1.2 ((t - 3) * 2) _ (so_tys G ((t - 3) * 2) (by omega))).2
    rw [hty2] at q
    cases t; omega; rename_i t
    match t, ht3, ht4, hty with
    | 2, _, _, hty => cases hty; exact Option.some.inj (fC.symm.trans q)
    | 3, _, _, hty => cases hty; exact Option.some.inj (fC.symm.trans q)
  subst hcA
  subst hcI
  generalize hF : Jvm.Free.Multi.fill (T.setVm vm₁) (G.2.2.2.1 t) (G.2.2.2.1 ((t - 3) * 2)) (am_un x) (am_un k) (defaultValue ty) (am_un x) = Fs at X' step
  have hTh : (T.setVm vm₁).heap = H := hT
  obtain ⟨f1, f2, -, -⟩ := Jvm.Free.Multi.fill_facts (T.setVm vm₁) (G.2.2.2.1 t) (G.2.2.2.1 ((t - 3) * 2)) (am_un x) (am_un k) (defaultValue ty) (am_un x)
  rw [hF, hTh] at f1 f2
  have hold : ∀ q : Nat, q < H.size → Fs.heap[q]? = H[q]? := fun q hq => by
    have := Jvm.Free.Multi.fill_old (T.setVm vm₁) (G.2.2.2.1 t) (G.2.2.2.1 ((t - 3) * 2)) (am_un x) (am_un k) (defaultValue ty) (a := q) (by rw [hTh]; exact hq) (am_un x)
    rw [hF, hTh] at this
    exact this
  have hrow : ∀ j : Nat, j < am_un x → Fs.heap[H.size + 1 + j]? = some (Jvm.Free.Multi.innerC (G.2.2.2.1 ((t - 3) * 2)) (am_un k) (defaultValue ty)) := fun j hj => by
    have := Jvm.Free.Multi.fill_inner (T.setVm vm₁) (G.2.2.2.1 t) (G.2.2.2.1 ((t - 3) * 2)) (am_un x) (am_un k) (defaultValue ty) (am_un x) j hj
    rw [hF, hTh] at this
    exact this
  rw [so_outer] at f2
  have had : ∀ j, so_ad G (M.2.2.2.1 + 1 + j) = H.size + 1 + j := fun j => by
    have h12 := S2.2.1
    rw [so_ad_hi G (by omega), S2.1]
    omega
  have SH : so_H G s (am_mul M (am_un x) (am_un k)) Fs.heap := by
    refine S2.push (k := 1 + am_un x) (fun q hq => ?_) (fun q hq => ?_) (fun q hq => ?_) (by show M.2.2.2.1 + 1 + am_un x = _; omega) rfl (by rw [f1]; omega) hold fun q h1 h2 => ?_
    · exact (am_zr_lt _ _ (by omega)).trans (am_sr_ne _ _ (by omega))
    · exact (am_zr_lt _ _ (by omega)).trans (am_sr_ne _ _ (by omega))
    · exact (am_sr_ne _ _ (by omega)).trans (am_zr_lt _ _ (by omega))
    · by_cases e : q = M.2.2.2.1
      · subst e
        rw [so_addr S2, so_eq ht ht3 (by omega)]
        show Fs.heap[H.size]? = some (arrV _ _ fun j => va_rf (so_q G (am_sr _ M.2.2.2.1 _ M.2.2.2.1 j)))
        rw [am_sr_eq, f2, hx]
        congr 2
        funext j
        by_cases hj : j < am_un x
        · rw [if_pos hj, show cond (Nat.ble (j + 1) (am_un x)) (some (M.2.2.2.1 + 1 + j)) none = some (M.2.2.2.1 + 1 + j) by rw [Nat.ble_eq_true_of_le (show j + 1 ≤ am_un x from hj)]; rfl]
          show _ = Value.ref (so_ad G (M.2.2.2.1 + 1 + j))
          rw [had]
          rfl
        · rw [if_neg hj, show cond (Nat.ble (j + 1) (am_un x)) (some (M.2.2.2.1 + 1 + j)) none = none by rw [nb_hi (by omega)]; rfl]
          rfl
      · obtain ⟨j, rfl⟩ : ∃ j, q = M.2.2.2.1 + 1 + j := ⟨q - (M.2.2.2.1 + 1), by omega⟩
        have hj : j < am_un x := by omega
        obtain ⟨r1, r2⟩ := hrows j hj
        rw [had]
        have hr := hrow j hj
        cases t; omega; rename_i t
        match t, ht3, ht4, hty with
        | 2, _, _, hty =>
          cases hty
          rw [so_e0 r1, r2]
          show Fs.heap[H.size + 1 + j]? = some (arrV _ _ fun i => .int (am_zr _ (M.2.2.2.1 + 1) (am_un x) _ (M.2.2.2.1 + 1 + j) i))
          rw [am_zr_in _ _ (by omega) (by omega), hr]
          exact congrArg some (arrV_new _ _ _)
        | 3, _, _, hty =>
          cases hty
          rw [so_e2 r1, r2]
          show Fs.heap[H.size + 1 + j]? = some (arrV _ _ fun i => .long (am_zr _ (M.2.2.2.1 + 1) (am_un x) _ (M.2.2.2.1 + 1 + j) i))
          rw [am_zr_in _ _ (by omega) (by omega), hr]
          exact congrArg some (arrV_new _ _ _)
  have kk := h_1 Fs.heap ls locs (cells + 1 + am_un x) (slots + am_un x + am_un x * am_un k) ⟨S1, SH, by show _ = M.2.2.2.1 + 1 + am_un x; omega, by show _ = M.2.2.2.2.1 + am_un x + am_un x * am_un k; omega, hz1, hs1, S7⟩
  rw [List.map_cons, so_vRf, so_addr S2] at kk
  obtain ⟨t2, a1, b1⟩ := kk Fs rfl X'
  refine ⟨t2, step t2 ?_, b1⟩
  have e9 : T.heap.size = H.size := by rw [hT]
  rw [e9]
  exact a1
theorem so_multianewarray (F : so_Fx p s m args meth c cc o nL nm G R z0 s0 zm sm d) {t z ln : Nat} {orig : Instr} {rt : Option FieldType} (hk : lkB o nm rt pc (.multianewarray t z) ln orig = true) (hd : decode cc pc = .ok (orig, ln))
    (h : am_pi st fun k st => am_pi st fun n r => am_g (Nat.beq (sh_t M.2.2.2.1) t && Nat.beq (sh_n M.2.2.2.1) (am_un n) && Nat.ble 3 t && Nat.ble t 4 && Nat.ble (am_un k) 24000) ((∀ j, j < am_un n → sh_t (M.2.2.2.1 + 1 + j) = (t - 3) * 2 ∧ sh_n (M.2.2.2.1 + 1 + j) = am_un k) ∧ (M.2.2.2.1 + 1 + am_un n ≤ zm ∧ M.2.2.2.2.1 + am_un n + am_un n * am_un k ≤ sm) ∧ so_X p l e R s m args below meth c Q G nL z0 s0 zm sm (pc + ln) L (.ref M.2.2.2.1 :: r) (am_mul M (am_un n) (am_un k)))) : so_X p l e R s m args below meth c Q G nL z0 s0 zm sm pc L st M := by
  obtain ⟨k, st1, rfl, h_1⟩ := am_pi_inv h
  obtain ⟨n, r, rfl, h_2⟩ := am_pi_inv h_1
  obtain ⟨hg, h_3⟩ := am_g_inv h_2
  obtain ⟨hg, g5⟩ := am_bb hg
  obtain ⟨hg, g4⟩ := am_bb hg
  obtain ⟨hg, g3⟩ := am_bb hg
  obtain ⟨g1, g2⟩ := am_bb hg
  have ht := Nat.eq_of_beq_eq_true g1
  have hx := Nat.eq_of_beq_eq_true g2
  have h3 : 3 ≤ t := Nat.le_of_ble_eq_true g3
  have h4 : t ≤ 4 := Nat.le_of_ble_eq_true g4
  dsimp only [lkB] at hk
  split at hk
  · obtain ⟨hk, k3⟩ := am_bb hk
    obtain ⟨k1, k2⟩ := am_bb hk
    cases Nat.eq_of_beq_eq_true k1
    cases Nat.eq_of_beq_eq_true k2
    obtain ⟨hw, -⟩ := so_pc F.2.2.2.2.2.2.2.2.2.2.2 k3
    have hov := F.2.2.2.2.2.1.2.2.2.1
    rcases (show t = 3 ∨ t = 4 by omega) with e | e
    · subst e
      exact so_multi F hd ht hx (Nat.le_of_ble_eq_true g5) h3 h4 (ty := .int) rfl rfl hw lw_arI (hov _ (Or.inl rfl)) (by decide) h_3
    · subst e
      exact so_multi F hd ht hx (Nat.le_of_ble_eq_true g5) h3 h4 (ty := .long) rfl rfl hw lw_arJ (hov _ (Or.inr rfl)) (by decide) h_3
  · cases hk
theorem so_objinit (F : so_Fx p s m args meth c cc o nL nm G R z0 s0 zm sm d) {ln : Nat} {orig : Instr} {rt : Option FieldType} (hk : lkB o nm rt pc .monitorexit ln orig = true) (hd : decode cc pc = .ok (orig, ln)) (h : am_pr st fun _ r => am_g (Nat.ble (am_cs r) 8) (so_X p l e R s m args below meth c Q G nL z0 s0 zm sm (pc + ln) L r M)) : so_X p l e R s m args below meth c Q G nL z0 s0 zm sm pc L st M := by
  obtain ⟨a, r, rfl, h_1⟩ := am_pr_inv h
  obtain ⟨hg, h_2⟩ := am_g_inv h_1
  have h8 : am_cs r ≤ 8 := Nat.le_of_ble_eq_true hg
  dsimp only [lkB] at hk
  split at hk
  · obtain ⟨k1, k2⟩ := am_bb hk
    cases Nat.eq_of_beq_eq_true k1
    obtain ⟨⟨i, x⟩, hx, hi⟩ := List.any_eq_true.mp k2
    cases Nat.eq_of_beq_eq_true hi
    have hw := lw_is_in (List.all_eq_true.mp (lk_all15 po_ok F.2.2.2.2.2.2.2.2.2.2.2) _ hx)
    intro H ls locs cells slots S
    have hr := F.2.2.2.2.2.2.2.2.2
    exact W.objInit F.1 F.2.1 F.2.2.2.1 (F.2.2.2.2.1 _ hw) (F.2.2.2.2.1 _ lw_objI) (F.2.2.2.2.1 _ lw_objC) rfl (S.1.1.trans F.2.2.1.symm) rfl hd (by omega) (by rw [am_cs_eq]; show 2 * 0 + _ + 12 ≤ _; omega) (h_2 H ls locs cells slots S)
  · cases hk
end SO
end
section
/-! SOUNDNESS, VII: calls -/
def so_B (G : so_G) (M : am_M) (U : State) : Prop := so_K G U ∧ so_H G U M U.heap
def so_Q (G : so_G) (mc ms : Nat) (M : am_M) (Q : Option Value → am_M → Prop) : Array Value → State → Outcome → State → Prop := fun _ _ oc t => ∃ (v : Option Value) (M' : am_M), oc = .returned (v.map (so_v G)) ∧ Q v M' ∧ M'.2.2.2.1 = M.2.2.2.1 + mc ∧ M'.2.2.2.2.1 = M.2.2.2.2.1 + ms ∧ so_H G t M' t.heap
def so_ws (k : Nat) : List Jvm.Cond := .code (ml_y k) (ml_b k) (am_mL k) (ml_r k) :: lw_tbg
def so_rm (d k : Nat) : Room := { frames := d + 5, cells := (am_mt k).2.2.2.1, slots := (am_mt k).2.2.2.2, locals := 40 * d + 200 }
/-- a relation of calls is sound: each is a contract of the method -/
def so_C (l : Launch) (G : so_G) (d : Nat) (C : am_C) : Prop := ∀ (k : Nat) (as : List Value) (M : am_M) (Q : Option Value → am_M → Prop), k < 258 → C k as M Q → Met l (ml_y k) (so_ws k) (so_rm d k) (va_Pc (as.map (so_v G)) (so_B G M)) (so_Q G (am_mt k).2.2.2.1 (am_mt k).2.2.2.2 M Q) (am_mt k).2.2.2.1 (am_mt k).2.2.2.2 (fun q => G.1 ≤ q)
theorem so_B.blind {G : so_G} {M : am_M} {as : List Value} : FrameBlind (va_Pc as (so_B G M)) := fun a U g mk h => by
  obtain ⟨h1, h2, h3⟩ := h
  exact ⟨h1, so_K.same (u := U) (U := U.calling g mk a) rfl h2, so_H.moved (u := U) (U := U.calling g mk a) (Vm.Alike.refl U.vm) h3⟩
theorem so_B.pre {G : so_G} {M : am_M} {s U : State} {H : Heap} (hK : so_K G s) (hH : so_H G s M H) (hU : U.heap = H) (hW : s.WarmedH U.vm) : so_B G M U := ⟨so_K.warm hW hK, by rw [hU]; exact hH.moved hW.alike⟩
theorem so_mlok {k : Nat} (h : k < 258) : (.code (ml_y k) (ml_b k) (am_mL k) (ml_r k) : Jvm.Cond) ∈ lw_tbg ∧ ((cond (ml_s k) (.static (ml_y k)) (.instanceMethod (ml_y k))) : Jvm.Cond) ∈ lw_tbg ∧ (ml_s k = true ∨ (ml_y k).name = "<init>" ∨ (.selects (ml_y k).cls (ml_y k) (ml_y k) : Jvm.Cond) ∈ lw_tbg) ∧ (.initialized (ml_y k).cls : Jvm.Cond) ∈ lw_tbg ∧ ((ml_y k).cls ≠ "java/lang/invoke/MethodHandle" ∧ (ml_y k).cls ≠ "java/lang/invoke/VarHandle") ∧ plainFor (ml_y k) = true ∧ ((parseMethodDescriptor (ml_y k).desc).map fun d => d.parameters.length + cond (ml_s k) 0 1) = some (am_mt k).1 ∧ (ml_y k).cls = cl_R (ml_o k) ∧ am_mL k ≤ 21 ∧ ((am_mt k).2.1 = match ml_r k with | none => 0 | some .long => 2 | some .int => 1 | some .boolean => 1 | _ => 3) ∧ (ml_s k = true ∨ (am_mt k).2.2.1 = ml_o k + 1) ∧ (ml_s k = true ∨ ml_o k < 10) ∧ am_bz k = decide (ml_r k = some .boolean) := by
  have h0 := ml_ok_all h
  unfold ml_ok at h0
  simp only [Bool.and_eq_true, Bool.or_eq_true, decide_eq_true_eq] at h0
  obtain ⟨⟨⟨⟨⟨⟨⟨⟨⟨⟨⟨⟨⟨⟨a1, a2⟩, a3⟩, a4⟩, a5⟩, a6⟩, a7⟩, a8⟩, a9⟩, a10⟩, a11⟩, a12⟩, a13⟩, a14⟩, -⟩ := h0
  refine ⟨lw_is_in a1, ?_, ?_, lw_is_in a4, ⟨a5, a6⟩, a7, a8, a9, Nat.le_of_ble_eq_true a10, a11, ?_, ?_, a13⟩
  · exact lw_is_in a2
  · rcases a3 with (a3 | a3) | a3
    · exact Or.inl a3
    · exact Or.inr (Or.inl a3)
    · exact Or.inr (Or.inr (lw_is_in a3))
  · rcases a12 with q | q
    · exact Or.inl q
    · exact Or.inr (Nat.eq_of_beq_eq_true q)
  · rcases a14 with q | q
    · exact Or.inl q
    · exact Or.inr (Nat.le_of_ble_eq_true q)
theorem am_aft_to {rk : Nat} {v : Option Value} {f : List Value → Prop} (h : am_aft rk v f) : f v.toList := by
  unfold am_aft at h
  split at h
  · obtain ⟨h1, h2⟩ := h; subst h1; exact h2
  · obtain ⟨x, h1, h2⟩ := h; subst h1; exact h2
  · obtain ⟨x, h1, h2⟩ := h; subst h1; exact h2
  · obtain ⟨x, h1, h2⟩ := h; subst h1; exact h2
theorem so_goodws {ws : List Jvm.Cond} {k : Nat} (hk : k < 258) (h : ∀ w ∈ ws, w ∈ lw_tbg) : GoodIn lw_tbg (ws ++ so_ws k) := fun w hw => by
  rcases List.mem_append.mp hw with hw | hw
  · exact lw_tbg_good w (h w hw)
  · rcases List.mem_cons.mp hw with hw | hw
    · rw [hw]; exact lw_tbg_good _ (so_mlok hk).1
    · exact lw_tbg_good w hw
theorem so_pm {o : Nat} (ho : o < 15) {i k x nst : Nat} (hx : (i, k, x, nst) ∈ pl_m o) : k < 258 ∧ ((nst = 0 ∧ (.methodLink (cl_R o) i (ml_y k) : Jvm.Cond) ∈ lw_tbg) ∨ (nst ≠ 0 ∧ ∃ q ∈ lw_nest, q.2 = .methodLinkNest (cl_R o) i (ml_y k) "EightBlocks")) := by
  have h1 := List.all_eq_true.mp (lk_all15 pm_ok ho) _ hx
  obtain ⟨h1, h2⟩ := am_bb h1
  refine ⟨Nat.le_of_ble_eq_true h1, ?_⟩
  cases hb : Nat.beq nst 0 with
  | true =>
    have h3 : cond (Nat.beq nst 0) _ _ = true := h2
    rw [hb] at h3
    exact Or.inl ⟨Nat.eq_of_beq_eq_true hb, lw_is_in h3⟩
  | false =>
    have h3 : cond (Nat.beq nst 0) _ _ = true := h2
    rw [hb] at h3
    obtain ⟨q, h4, h5⟩ := List.any_eq_true.mp h3
    exact Or.inr ⟨(fun e => by rw [e] at hb; cases hb), q, h4, of_decide_eq_true h5⟩
theorem am_ms_all : (List.range 258).all (fun k => (!Nat.beq (am_mt k).2.2.2.1 0 || Nat.beq (am_mt k).2.2.2.2 0) && (ml_s k || !decide ((ml_y k).name = "<init>") || !Nat.beq (am_mt k).2.2.2.1 0)) = true := by decide +kernel
theorem am_ms_st : (List.range 258).all (fun k => cond (ml_s k) (Nat.beq (am_mt k).2.2.1 0) true) = true := by decide +kernel
theorem am_ms0 {k : Nat} (hk : k < 258) (h : (am_mt k).2.2.2.1 = 0) : (am_mt k).2.2.2.2 = 0 := by
  have h1 := (am_bb (List.all_eq_true.mp am_ms_all k (List.mem_range.mpr hk))).1
  rw [h] at h1
  exact Nat.eq_of_beq_eq_true h1
theorem so_ninit {k : Nat} (hk : k < 258) (h1 : Nat.ble 1 (am_mt k).2.2.1 = true) (h2 : (ml_y k).name = "<init>") : (am_mt k).2.2.2.1 ≠ 0 := fun h3 => by
  have h4 := (am_bb (List.all_eq_true.mp am_ms_all k (List.mem_range.mpr hk))).2
  rw [h2, h3] at h4
  have h5 : ml_s k = true := by
    cases q : ml_s k with
    | true => rfl
    | false => rw [q] at h4; simp at h4
  have h6 := List.all_eq_true.mp am_ms_st k (List.mem_range.mpr hk)
  rw [h5] at h6
  have h7 : (am_mt k).2.2.1 = 0 := Nat.eq_of_beq_eq_true h6
  rw [h7] at h1
  cases h1
theorem lk_any4 {l : List (Nat × Nat × Nat × Nat)} {i q : Nat} (h : (l.any fun e => Nat.beq e.1 i && Nat.beq e.2.1 q && Nat.beq e.2.2.2 0) = true) : ∃ x, (i, q, x, 0) ∈ l := by
  obtain ⟨⟨a, b, x, y⟩, h1, h2⟩ := List.any_eq_true.mp h
  obtain ⟨h2, h5⟩ := am_bb h2
  obtain ⟨h3, h4⟩ := am_bb h2
  cases Nat.eq_of_beq_eq_true h3
  cases Nat.eq_of_beq_eq_true h4
  cases Nat.eq_of_beq_eq_true h5
  exact ⟨x, h1⟩
theorem lk_any3 {l : List (Nat × Nat × Nat × Nat)} {i q : Nat} (h : (l.any fun e => Nat.beq e.1 i && Nat.beq e.2.1 q) = true) : ∃ x y, (i, q, x, y) ∈ l := by
  obtain ⟨⟨a, b, x, y⟩, h1, h2⟩ := List.any_eq_true.mp h
  obtain ⟨h3, h4⟩ := am_bb h2
  cases Nat.eq_of_beq_eq_true h3
  cases Nat.eq_of_beq_eq_true h4
  exact ⟨x, y, h1⟩
section SO
variable {p : Program} {l : Launch} {e : Env} {R : Room} {s : State} {m : MethodId} {args : Array Value} {below : List Frame} {meth : Method} {c : Code} {Q : State → Prop}
variable {cc : ByteArray} {G : so_G} {o nL z0 s0 zm sm d : Nat} {nm : String} {pc : Nat} {L : am_L} {st : List Value} {M : am_M}
theorem so_run {mc ms : Nat} {H : Heap} {ls : Array Slot} {locs : List Loc} {cells slots rk : Nat} {r st0 : List Value} {a : Array Value} {Q' : Option Value → am_M → Prop} (hrun : va_Run p l e R s m args below meth c H locs cells slots mc ms (F0 m pc ls st0) (r.map (so_v G)) (so_Q G mc ms M Q' a) (fun q => G.1 ≤ q)) (S : so_S G nL z0 s0 zm sm s L M H ls locs cells slots) (hz : M.2.2.2.1 + mc ≤ zm ∧ M.2.2.2.2.1 + ms ≤ sm)
    (hQ : ∀ v M', Q' v M' → am_aft rk v fun w => so_X p l e R s m args below meth c Q G nL z0 s0 zm sm (pc + 3) L (w ++ r) M') : W p l e R s m args below meth c H locs cells slots Q (F0 m pc ls st0) := by
  intro T hT X
  obtain ⟨v, st₀, t, T', Lc, h0, X', hL, e1, e2, ⟨v', M', hv, hQ', hz1, hs1, hH⟩, stp⟩ := hrun T hT X
  cases hv
  obtain ⟨S1, S2, S3, S4, S5, S6, S7⟩ := S
  have hal : t.vm.Alike s.vm := by rw [← e2]; exact X'.warmed.alike.symm
  have k := am_aft_to (hQ v' M' hQ') T'.heap ls (locs ++ Lc) (cells + mc) (slots + ms) ⟨S1, by rw [e1]; exact hH.moved hal, by omega, by omega, by omega, by omega, fun q hq => by
    rcases List.mem_append.mp hq with h | h
    · exact S7 q h
    · exact hL q h⟩
  rw [show (v'.toList ++ r).map (so_v G) = (v'.map (so_v G)).toList ++ r.map (so_v G) by cases v' <;> rfl] at k
  obtain ⟨t2, a1, b1⟩ := k T' rfl X'
  exact ⟨t2, stp t2 a1, b1⟩
theorem so_invstatic (F : so_Fx p s m args meth c cc o nL nm G R z0 s0 zm sm d) {C : am_C} (hC : so_C l G d C) {k ln : Nat} {orig : Instr} {rt : Option FieldType} (hk : lkB o nm rt pc (.invokestatic k) ln orig = true) (hd : decode cc pc = .ok (orig, ln))
    (h : am_pop (am_mt k).1 st [] fun as r => am_g (Nat.ble (am_cs r) 8) (C k as M fun v M' => am_aft (am_mt k).2.1 v fun w => so_X p l e R s m args below meth c Q G nL z0 s0 zm sm (pc + ln) L (w ++ r) M')) : so_X p l e R s m args below meth c Q G nL z0 s0 zm sm pc L st M := by
  obtain ⟨as, r, rfl, hn, h_1⟩ := am_pop_inv _ h
  rw [List.append_nil] at h_1
  obtain ⟨hg, h_2⟩ := am_g_inv h_1
  have h8 : am_cs r ≤ 8 := Nat.le_of_ble_eq_true hg
  dsimp only [lkB] at hk
  split at hk
  · rename_i i
    obtain ⟨hk, k4⟩ := am_bb hk
    obtain ⟨hk, k3⟩ := am_bb hk
    obtain ⟨k1, k2⟩ := am_bb hk
    cases Nat.eq_of_beq_eq_true k1
    have hmc := Nat.eq_of_beq_eq_true k4
    obtain ⟨x, nst, hx⟩ := lk_any3 k2
    obtain ⟨hk258, hlink⟩ := so_pm F.2.2.2.2.2.2.2.2.2.2.2 hx
    obtain ⟨b1, b2, b3, b4, b5, b6, b7, b8, b9, b10, b11, b12, b13⟩ := so_mlok hk258
    rw [k3] at b2 b7
    have hM := hC k as M _ hk258 h_2
    have hr := F.2.2.2.2.2.2.2.2.2
    have hR : (so_rm d k).frames + 1 ≤ R.frames ∧ 8 + (am_mL k + 11) + (so_rm d k).locals ≤ R.locals := ⟨hr.1, by show 8 + (am_mL k + 11) + (40 * d + 200) ≤ _; omega⟩
    have hms : (am_mt k).2.2.2.2 = 0 := am_ms0 hk258 hmc
    intro H ls locs cells slots S
    have hcell : cells + (am_mt k).2.2.2.1 ≤ R.cells ∧ slots + (am_mt k).2.2.2.2 ≤ R.slots := by
      obtain ⟨S1, S2, S3, S4, S5, S6, S7⟩ := S
      have := F.2.2.2.2.2.2.2.1
      have := F.2.2.2.2.2.2.2.2.1
      omega
    have hlen : (as.map (so_v G)).length = (am_mt k).1 := by rw [List.length_map, hn]
    have hst : (as.reverse ++ r).map (so_v G) = (as.map (so_v G)).reverse ++ r.map (so_v G) := by rw [List.map_append, List.map_reverse]
    have hz : M.2.2.2.1 + (am_mt k).2.2.2.1 ≤ zm ∧ M.2.2.2.2.1 + (am_mt k).2.2.2.2 ≤ sm := by rw [hmc, hms]; exact ⟨S.2.2.2.2.1, S.2.2.2.2.2.1⟩
    have hp : PreS s H (va_Pc (as.map (so_v G)) (so_B G M)) (as.map (so_v G)) := ⟨so_B.blind, fun U hU hW => ⟨rfl, so_B.pre F.2.2.2.2.2.1 S.2.1 hU hW⟩⟩
    have hdesc : (parseMethodDescriptor (ml_y k).desc).map (fun d => d.parameters.length) = some (am_mt k).1 := b7
    have hWd : 2 * (F0 m pc ls ((as.reverse ++ r).map (so_v G))).monitorRoom + ((r.map (so_v G)).map fun v => v.category).sum ≤ 8 := by rw [am_cs_eq]; show 2 * 0 + _ ≤ 8; omega
    rcases hlink with ⟨-, hlink⟩ | ⟨hn0, q, hq, hlink⟩
    · refine so_run (va_runS (Ts := lw_tbg) (own := cl_R o) (As := as.map (so_v G)) ⟨F.1, F.2.1, F.2.2.1, F.2.2.2.1, F.2.2.2.2.1⟩ hM (va_cwS (bytes := ml_b k) (maxL := am_mL k) (ret := ml_r k) (am_mt k).1 F.2.2.2.2.1 (so_goodws hk258 (ws := [.methodLink (cl_R o) i (ml_y k), .static (ml_y k), .initialized (ml_y k).cls]) (fun w hw => ?_)) rfl rfl rfl ⟨b5.1, b5.2, hdesc⟩ hR) hp rfl hlen S.1.1 hst hWd hd hcell) S hz (fun v M' q => q)
      rcases List.mem_cons.mp hw with hw | hw
      · rw [hw]; exact hlink
      rcases List.mem_cons.mp hw with hw | hw
      · rw [hw]; exact b2
      rcases List.mem_cons.mp hw with hw | hw
      · rw [hw]; exact b4
      cases hw
    · have hnw := F.2.2.2.2.2.1.2.2.2.2.1 q hq
      rw [hlink] at hnw
      exact so_run (va_runSN (Ts := lw_tbg) (own := cl_R o) (As := as.map (so_v G)) ⟨F.1, F.2.1, F.2.2.1, F.2.2.2.1, F.2.2.2.2.1⟩ hM ⟨va_cnB (bytes := ml_b k) (maxL := am_mL k) (ret := ml_r k) (am_mt k).1 F.2.2.2.2.1 (so_goodws (ws := []) hk258 (fun w hw => by cases hw)) rfl rfl rfl hnw (F.2.2.2.2.1 _ b4) ⟨b5.1, b5.2, hdesc⟩ hR, F.2.2.2.2.1 _ b2, trivial⟩ hp rfl hlen S.1.1 hst hWd hd hcell) S hz (fun v M' q => q)
  · cases hk
theorem so_recv {H : Heap} {a ci : Nat} (hci : ci < 10) (hK : so_K G s) (hH : so_H G s M H) (hok : am_ok M a (10 + ci) = true) (ha : 12 ≤ a) : ∃ cellB : Cell, H[so_ad G a]? = some cellB ∧ cellB.vm.isStatics = false ∧ s.vm.findClass (cl_R ci) = some cellB.cls := by
  obtain ⟨ht, hz⟩ := so_ok_t hok
  have hat := hH.2.2.1 a ha hz
  rw [so_eo ht] at hat
  obtain ⟨r0, h1, cell, q1, q2, q3, q4⟩ := hat
  have hvw := cl_vw ci hci
  have hr : r0 = (cl_R ci, cl_T ci, cl_N ci) := Option.some.inj (h1.symm.trans hvw)
  subst hr
  exact ⟨cell, q1, by rw [q3]; rfl, by rw [q2]; exact (hK.1.1 ci _ hvw).2.1⟩
theorem so_invvirtual (F : so_Fx p s m args meth c cc o nL nm G R z0 s0 zm sm d) {C : am_C} (hC : so_C l G d C) {k ln : Nat} {orig : Instr} {rt : Option FieldType} (hk : lkB o nm rt pc (.invokevirtual k) ln orig = true) (hd : decode cc pc = .ok (orig, ln))
    (h : am_pop (am_mt k).1 st [] fun as r => am_pr as fun a _ => am_g (am_ok M a (9 + (am_mt k).2.2.1) && Nat.ble 12 a && Nat.ble (am_cs r) 8) (C k as M fun v M' => am_aft (am_mt k).2.1 v fun w => so_X p l e R s m args below meth c Q G nL z0 s0 zm sm (pc + ln) L (w ++ r) M')) : so_X p l e R s m args below meth c Q G nL z0 s0 zm sm pc L st M := by
  obtain ⟨as, r, rfl, hn, h_1⟩ := am_pop_inv _ h
  rw [List.append_nil] at h_1
  obtain ⟨a, as1, rfl, h_2⟩ := am_pr_inv h_1
  obtain ⟨hg, h_3⟩ := am_g_inv h_2
  obtain ⟨hg, g3⟩ := am_bb hg
  obtain ⟨hok, g2⟩ := am_bb hg
  have h8 : am_cs r ≤ 8 := Nat.le_of_ble_eq_true g3
  have ha : 12 ≤ a := Nat.le_of_ble_eq_true g2
  dsimp only [lkB] at hk
  split at hk
  · rename_i i
    obtain ⟨hk, k5⟩ := am_bb hk
    obtain ⟨hk, k4⟩ := am_bb hk
    obtain ⟨hk, k3⟩ := am_bb hk
    obtain ⟨k1, k2⟩ := am_bb hk
    cases Nat.eq_of_beq_eq_true k1
    have hmc := Nat.eq_of_beq_eq_true k4
    obtain ⟨x, hx⟩ := lk_any4 k2
    obtain ⟨hk258, hlink⟩ := so_pm F.2.2.2.2.2.2.2.2.2.2.2 hx
    obtain ⟨b1, b2, b3, b4, b5, b6, b7, b8, b9, b10, b11, b12, b13⟩ := so_mlok hk258
    have hs0 : ml_s k = false := by cases q : ml_s k; rfl; rw [q] at k3; cases k3
    rw [hs0] at b2 b7 b3 b11 b12
    have b11 := b11.resolve_left (by decide)
    have b12 := b12.resolve_left (by decide)
    rw [b11, show 9 + (ml_o k + 1) = 10 + ml_o k by omega] at hok
    have hM := hC k _ M _ hk258 h_3
    have hr := F.2.2.2.2.2.2.2.2.2
    have hR : (so_rm d k).frames + 1 ≤ R.frames ∧ 8 + (am_mL k + 11) + (so_rm d k).locals ≤ R.locals := ⟨hr.1, by show 8 + (am_mL k + 11) + (40 * d + 200) ≤ _; omega⟩
    have hms : (am_mt k).2.2.2.2 = 0 := am_ms0 hk258 hmc
    intro H ls locs cells slots S
    have hcell : cells + (am_mt k).2.2.2.1 ≤ R.cells ∧ slots + (am_mt k).2.2.2.2 ≤ R.slots := by
      obtain ⟨S1, S2, S3, S4, S5, S6, S7⟩ := S
      have := F.2.2.2.2.2.2.2.1
      have := F.2.2.2.2.2.2.2.2.1
      omega
    have hst : ((Value.ref a :: as1).reverse ++ r).map (so_v G) = (as1.map (so_v G)).reverse ++ .ref (so_ad G a) :: r.map (so_v G) := by
      rw [List.reverse_cons, List.append_assoc, List.map_append, List.map_reverse]
      rfl
    have hz : M.2.2.2.1 + (am_mt k).2.2.2.1 ≤ zm ∧ M.2.2.2.2.1 + (am_mt k).2.2.2.2 ≤ sm := by rw [hmc, hms]; exact ⟨S.2.2.2.2.1, S.2.2.2.2.2.1⟩
    have hp : PreV s H (ml_y k).cls (so_ad G a) (va_Pc ((Value.ref a :: as1).map (so_v G)) (so_B G M)) (as1.map (so_v G)) := ⟨so_B.blind, by rw [b8]; exact so_recv b12 F.2.2.2.2.2.1 S.2.1 hok ha, fun U hU hW => ⟨rfl, so_B.pre F.2.2.2.2.2.1 S.2.1 hU hW⟩⟩
    have hlen2 : as1.length + 1 = (am_mt k).1 := by rw [← hn]; rfl
    have hdesc : (parseMethodDescriptor (ml_y k).desc).map (fun d => d.parameters.length) = some as1.length := by
      cases hq : parseMethodDescriptor (ml_y k).desc with
      | none => rw [hq] at b7; cases b7
      | some dd =>
        rw [hq] at b7
        have h9 : dd.parameters.length + 1 = (am_mt k).1 := Option.some.inj b7
        show some dd.parameters.length = some as1.length
        congr 1
        omega
    have hWd : 2 * (F0 m pc ls (((Value.ref a :: as1).reverse ++ r).map (so_v G))).monitorRoom + ((r.map (so_v G)).map fun v => v.category).sum ≤ 8 := by rw [am_cs_eq]; show 2 * 0 + _ ≤ 8; omega
    rcases hlink with ⟨-, hlink⟩ | ⟨hn0, q, hq, hlink⟩
    · rcases b3 with b3 | b3 | b3
      · cases b3
      · exact absurd (so_ninit hk258 k5 b3) (by rw [hmc]; decide)
      refine so_run (va_runV (Ts := lw_tbg) (own := cl_R o) (As := as1.map (so_v G)) ⟨F.1, F.2.1, F.2.2.1, F.2.2.2.1, F.2.2.2.2.1⟩ hM (cwV (C := (ml_y k).cls) (bytes := ml_b k) (maxL := am_mL k) (ret := ml_r k) as1.length F.2.2.2.2.1 (so_goodws hk258 (ws := [.methodLink (cl_R o) i (ml_y k), .instanceMethod (ml_y k), .selects (ml_y k).cls (ml_y k) (ml_y k), .initialized (ml_y k).cls]) (fun w hw => ?_)) rfl rfl rfl ⟨rfl, b5.1, b5.2, hdesc⟩ hR) hp rfl (List.length_map _) S.1.1 hst hWd hd hcell) S hz (fun v M' q => q)
      rcases List.mem_cons.mp hw with hw | hw
      · rw [hw]; exact hlink
      rcases List.mem_cons.mp hw with hw | hw
      · rw [hw]; exact b2
      rcases List.mem_cons.mp hw with hw | hw
      · rw [hw]; exact b3
      rcases List.mem_cons.mp hw with hw | hw
      · rw [hw]; exact b4
      cases hw
    · exact absurd rfl hn0
  · cases hk
theorem so_invspecial (F : so_Fx p s m args meth c cc o nL nm G R z0 s0 zm sm d) {C : am_C} (hC : so_C l G d C) {k ln : Nat} {orig : Instr} {rt : Option FieldType} (hk : lkB o nm rt pc (.invokespecial k) ln orig = true) (hd : decode cc pc = .ok (orig, ln))
    (h : am_pop (am_mt k).1 st [] fun as r => am_pr as fun _ _ => am_g (Nat.ble (am_cs r) 8) ((M.2.2.2.1 + (am_mt k).2.2.2.1 ≤ zm ∧ M.2.2.2.2.1 + (am_mt k).2.2.2.2 ≤ sm) ∧ C k as M fun v M' => am_aft (am_mt k).2.1 v fun w => so_X p l e R s m args below meth c Q G nL z0 s0 zm sm (pc + ln) L (w ++ r) M')) : so_X p l e R s m args below meth c Q G nL z0 s0 zm sm pc L st M := by
  obtain ⟨as, r, rfl, hn, h_1⟩ := am_pop_inv _ h
  rw [List.append_nil] at h_1
  obtain ⟨a, as1, rfl, h_2⟩ := am_pr_inv h_1
  obtain ⟨g3, hz, h_3⟩ := am_g_inv h_2
  have h8 : am_cs r ≤ 8 := Nat.le_of_ble_eq_true g3
  dsimp only [lkB] at hk
  split at hk
  · rename_i i
    obtain ⟨hk, k5⟩ := am_bb hk
    obtain ⟨hk, k4⟩ := am_bb hk
    obtain ⟨hk, k3⟩ := am_bb hk
    obtain ⟨k1, k2⟩ := am_bb hk
    cases Nat.eq_of_beq_eq_true k1
    have hrk := Nat.eq_of_beq_eq_true k4
    have hnm := of_decide_eq_true k5
    obtain ⟨x, nst, hx⟩ := lk_any3 k2
    obtain ⟨hk258, hlink⟩ := so_pm F.2.2.2.2.2.2.2.2.2.2.2 hx
    obtain ⟨b1, b2, b3, b4, b5, b6, b7, b8, b9, b10, b11, b12, b13⟩ := so_mlok hk258
    have hs0 : ml_s k = false := by cases q : ml_s k; rfl; rw [q] at k3; cases k3
    rw [hs0] at b2 b7
    have hret : ml_r k = none := by
      rw [hrk] at b10
      cases hq : ml_r k with
      | none => rfl
      | some t => rw [hq] at b10; cases t <;> cases b10
    have hM := hC k _ M _ hk258 h_3
    have hr := F.2.2.2.2.2.2.2.2.2
    have hR : (so_rm d k).frames + 1 ≤ R.frames ∧ 8 + (am_mL k + 11) + (so_rm d k).locals ≤ R.locals := ⟨hr.1, by show 8 + (am_mL k + 11) + (40 * d + 200) ≤ _; omega⟩
    intro H ls locs cells slots S
    have hcell : cells + (am_mt k).2.2.2.1 ≤ R.cells ∧ slots + (am_mt k).2.2.2.2 ≤ R.slots := by
      obtain ⟨S1, S2, S3, S4, S5, S6, S7⟩ := S
      have := F.2.2.2.2.2.2.2.1
      have := F.2.2.2.2.2.2.2.2.1
      omega
    have hst : ((Value.ref a :: as1).reverse ++ r).map (so_v G) = (as1.map (so_v G)).reverse ++ .ref (so_ad G a) :: r.map (so_v G) := by
      rw [List.reverse_cons, List.append_assoc, List.map_append, List.map_reverse]
      rfl
    have hp : PreS s H (va_Pc ((Value.ref a :: as1).map (so_v G)) (so_B G M)) (.ref (so_ad G a) :: as1.map (so_v G)) := ⟨so_B.blind, fun U hU hW => ⟨rfl, so_B.pre F.2.2.2.2.2.1 S.2.1 hU hW⟩⟩
    have hlen2 : as1.length + 1 = (am_mt k).1 := by rw [← hn]; rfl
    have hdesc : (parseMethodDescriptor (ml_y k).desc).map (fun d => d.parameters.length) = some as1.length := by
      cases hq : parseMethodDescriptor (ml_y k).desc with
      | none => rw [hq] at b7; cases b7
      | some dd =>
        rw [hq] at b7
        have h9 : dd.parameters.length + 1 = (am_mt k).1 := Option.some.inj b7
        show some dd.parameters.length = some as1.length
        congr 1
        omega
    have hWd : 2 * (F0 m pc ls (((Value.ref a :: as1).reverse ++ r).map (so_v G))).monitorRoom + ((r.map (so_v G)).map fun v => v.category).sum ≤ 8 := by rw [am_cs_eq]; show 2 * 0 + _ ≤ 8; omega
    have hws : so_ws k = Jvm.Cond.code (ml_y k) (ml_b k) (am_mL k) none :: lw_tbg := by unfold so_ws; rw [hret]
    rcases hlink with ⟨-, hlink⟩ | ⟨hn0, q, hq, hlink⟩
    · exact so_run (va_runI (Ts := lw_tbg) (own := cl_R o) (As := as1.map (so_v G)) ⟨F.1, F.2.1, F.2.2.1, F.2.2.2.1, F.2.2.2.2.1⟩ hM (cwI (bytes := ml_b k) (maxL := am_mL k) as1.length F.2.2.2.2.1 (so_goodws (ws := []) hk258 (fun w hw => by cases hw)) hws rfl rfl (F.2.2.2.2.1 _ b4) (F.2.2.2.2.1 _ hlink) (F.2.2.2.2.1 _ b2) hnm ⟨b5.1, b5.2, hdesc⟩ hR) hp rfl (List.length_map _) S.1.1 hst hWd hd hcell) S hz (fun v M' q => q)
    · have hnw := F.2.2.2.2.2.1.2.2.2.2.1 q hq
      rw [hlink] at hnw
      exact so_run (va_runIN (Ts := lw_tbg) (own := cl_R o) (As := as1.map (so_v G)) ⟨F.1, F.2.1, F.2.2.1, F.2.2.2.1, F.2.2.2.2.1⟩ hM ⟨va_cnB (bytes := ml_b k) (maxL := am_mL k) (ret := none) as1.length F.2.2.2.2.1 (so_goodws (ws := []) hk258 (fun w hw => by cases hw)) hws rfl rfl hnw (F.2.2.2.2.1 _ b4) ⟨b5.1, b5.2, hdesc⟩ hR, hnm, F.2.2.2.2.1 _ b2⟩ hp rfl (List.length_map _) S.1.1 hst hWd hd hcell) S hz (fun v M' q => q)
  · cases hk
end SO
end
section
/-! CALLS OF A DEPTH -/
/-- a truth value that is returned is 0 or 1 -/
def am_zq (b : Bool) (v : Option Value) (p : Prop) : Prop := match b with
  | false => p
  | true => match v with
    | some (.int x) => am_g (decide (x = 0) || decide (x = 1)) p
    | _ => False
/-- what a method's return owes -/
def am_R (k : Nat) (M : am_M) (Q : Option Value → am_M → Prop) : Option Value → am_M → Prop := fun v M' => am_zq (am_bz k) v (cond (Nat.beq (am_mt k).2.2.2.1 0) (Q v M') ((M'.2.2.2.1 = M.2.2.2.1 + (am_mt k).2.2.2.1 ∧ M'.2.2.2.2.1 = M.2.2.2.2.1 + (am_mt k).2.2.2.2) ∧ Q v M'))
/-- a place within method k, called with the memory M -/
def am_W (C : am_C) (k : Nat) (M : am_M) (Q : Option Value → am_M → Prop) : am_K := am_WP am_mt C (am_tb k) (M.2.2.2.1 + (am_mt k).2.2.2.1) (M.2.2.2.2.1 + (am_mt k).2.2.2.2) (am_R k M Q)
/-- a call of depth d -/
def am_AC : Nat → am_C
  | 0 => fun _ _ _ _ => False
  | d + 1 => fun k as M Q => am_g (Nat.ble (am_loc as).length (am_mL k)) (am_W (am_AC d) k M Q 0 (am_ent (am_mL k) as) [] M)
/-- a place within method k, whose calls are of depth d -/
abbrev am_St (d k : Nat) (M : am_M) (Q : Option Value → am_M → Prop) : am_K := am_W (am_AC d) k M Q
/-- the memory when all is made -/
abbrev am_st (I : Nat → Nat → Int32) (Lg : Nat → Nat → Int64) (rr : Nat → Nat → Option Nat) (n : Nat) : am_M := (I, Lg, RR rr, sh_Z, sh_S, n)
/-- an answer that is an int, a long, a reference, none -/
abbrev am_qi (K : Int32 → am_M → Prop) : Option Value → am_M → Prop := fun v M => ∃ x : Int32, v = some (.int x) ∧ K x M
abbrev am_ql (K : Int64 → am_M → Prop) : Option Value → am_M → Prop := fun v M => ∃ x : Int64, v = some (.long x) ∧ K x M
abbrev am_qr (K : Nat → am_M → Prop) : Option Value → am_M → Prop := fun v M => ∃ x : Nat, v = some (.ref x) ∧ K x M
abbrev am_qv (K : am_M → Prop) : Option Value → am_M → Prop := fun v M => v = none ∧ K M
theorem am_zq_mono {b : Bool} {v : Option Value} {p q : Prop} (h : p → q) : am_zq b v p → am_zq b v q := by
  unfold am_zq
  split
  · exact h
  · split
    · exact am_g_mono h
    · exact id
theorem am_R_mono {k : Nat} {M : am_M} {Q Q' : Option Value → am_M → Prop} (h : ∀ v M', Q v M' → Q' v M') (v : Option Value) (M' : am_M) : am_R k M Q v M' → am_R k M Q' v M' := am_zq_mono (am_cond_mono (h v M') (And.imp id (h v M')))
theorem am_AC_mono : ∀ d : Nat, am_CM (am_AC d) (am_AC d)
  | 0 => fun _ _ _ _ _ _ h => h
  | d + 1 => fun k as M Q Q' hQ => am_g_mono fun h => am_WP_mono (am_AC_mono d) (am_R_mono hQ) h
theorem am_AC_up : ∀ d : Nat, am_CM (am_AC d) (am_AC (d + 1))
  | 0 => fun _ _ _ _ _ _ h => h.elim
  | d + 1 => fun k as M Q Q' hQ => am_g_mono fun h => am_WP_mono (am_AC_up d) (am_R_mono hQ) h
/-- more depth does no harm -/
theorem am_AC_le {d e : Nat} (h : d ≤ e) {k : Nat} {as : List Value} {M : am_M} {Q : Option Value → am_M → Prop} (q : am_AC d k as M Q) : am_AC e k as M Q := by
  induction e with
  | zero => cases Nat.le_zero.mp h; exact q
  | succ e ih =>
    rcases Nat.lt_or_ge d (e + 1) with h1 | h1
    · exact am_AC_up e _ _ _ _ _ (fun _ _ => id) (ih (Nat.le_of_lt_succ h1))
    · have : d = e + 1 := Nat.le_antisymm h h1
      subst this
      exact q
theorem am_AC_post {d : Nat} {k : Nat} {as : List Value} {M : am_M} {Q Q' : Option Value → am_M → Prop} (h : ∀ v M', Q v M' → Q' v M') (q : am_AC d k as M Q) : am_AC d k as M Q' := am_AC_mono d _ _ _ _ _ h q
/-- stepping within a method -/
theorem am_step (d : Nat) (cuts : List Nat) (n : Nat) {k : Nat} {M0 : am_M} {Q : Option Value → am_M → Prop} {pc : Nat} {L : am_L} {st : List Value} {M : am_M} (h : am_F am_mt (am_AC d) (am_tb k) (M0.2.2.2.1 + (am_mt k).2.2.2.1) (M0.2.2.2.2.1 + (am_mt k).2.2.2.2) (am_R k M0 Q) (am_blk am_mt (am_AC d) (am_tb k) (M0.2.2.2.1 + (am_mt k).2.2.2.1) (M0.2.2.2.2.1 + (am_mt k).2.2.2.2) (am_R k M0 Q) cuts (am_St d k M0 Q) n) pc L st M) : am_St d k M0 Q pc L st M := am_go (am_AC_mono d) cuts n h
/-- entering a method -/
theorem am_in (d k : Nat) (as : List Value) {M : am_M} {Q : Option Value → am_M → Prop} (h : am_g (Nat.ble (am_loc as).length (am_mL k)) (am_St d k M Q 0 (am_ent (am_mL k) as) [] M)) : am_AC (d + 1) k as M Q := h
end
section
/-! SOUNDNESS, VIII: what the kit has as one row; the whole -/
/-- the two methods of String that are called, as contracts -/
def so_yLen : MethodName := ⟨"java/lang/String", "length", "()I"⟩
def so_yChr : MethodName := ⟨"java/lang/String", "charAt", "(I)C"⟩
def so_Str (l : Launch) (G : so_G) : Prop :=
  (∀ (a : Nat) (M : am_M), sh_t a = 6 → Met l so_yLen (.code so_yLen cJ0_length_8abf5 1 (some .int) :: lw_tbg) { frames := 4, cells := 0, slots := 0, locals := 160 } (va_Pc [.ref (so_ad G a)] (so_B G M)) (so_Q G 0 0 M fun v M' => v = some (.int (nI (sh_n a))) ∧ M' = M) 0 0 (fun q => G.1 ≤ q)) ∧
  (∀ (a : Nat) (M : am_M) (i : Int32), sh_t a = 6 → am_un i < sh_n a → Met l so_yChr (.code so_yChr cJ0_charAt_5068e 2 (some .char) :: lw_tbg) { frames := 4, cells := 0, slots := 0, locals := 160 } (va_Pc [.ref (so_ad G a), .int i] (so_B G M)) (so_Q G 0 0 M fun v M' => v = some (.int (nI (sh_c a (am_un i)))) ∧ M' = M) 0 0 (fun q => G.1 ≤ q))
theorem am_at_mem : ∀ {T : am_T} {pc : Nat} {q : Instr × Nat}, am_at T pc = some q → ∃ ch ∈ T, (pc, q) ∈ ch.2
  | [], _, _, h => by cases h
  | ch :: T, pc, q, h => by
    have h : cond (Nat.ble pc ch.1) (am_f1 ch.2 pc) (am_at T pc) = some q := h
    cases hb : Nat.ble pc ch.1 with
    | true =>
      rw [hb] at h
      have g : ∀ l : List (Nat × Instr × Nat), am_f1 l pc = some q → (pc, q) ∈ l := by
        intro l
        induction l with
        | nil => intro h; cases h
        | cons x l ih =>
          intro h
          have h : cond (Nat.beq x.1 pc) (some x.2) (am_f1 l pc) = some q := h
          cases hx : Nat.beq x.1 pc with
          | true =>
            rw [hx] at h
            cases h
            rw [← Nat.eq_of_beq_eq_true hx]
            exact List.mem_cons_self
          | false =>
            rw [hx] at h
            exact List.mem_cons_of_mem _ (ih h)
      exact ⟨ch, List.mem_cons_self, g _ h⟩
    | false =>
      rw [hb] at h
      obtain ⟨c2, h1, h2⟩ := am_at_mem (T := T) h
      exact ⟨c2, List.mem_cons_of_mem _ h1, h2⟩
theorem lk_at {o : Nat} {nm : String} {rt : Option FieldType} {bytes : ByteArray} {T : am_T} (h : lk_all o nm rt bytes T = true) {pc : Nat} {q : Instr × Nat} (hq : am_at T pc = some q) : ∃ orig, decode bytes pc = .ok (orig, q.2) ∧ lkB o nm rt pc q.1 q.2 orig = true := by
  obtain ⟨ch, h1, h2⟩ := am_at_mem hq
  have h3 := List.all_eq_true.mp (List.all_eq_true.mp h ch h1) _ h2
  dsimp only at h3
  split at h3
  · rename_i orig n hdec
    obtain ⟨h4, h5⟩ := am_bb h3
    cases Nat.eq_of_beq_eq_true h4
    exact ⟨orig, hdec, h5⟩
  · cases h3
theorem so_good2 {y : MethodName} {b : ByteArray} {n : Nat} {rt : Option FieldType} {ws : List Jvm.Cond} (hc : (.code y b n rt : Jvm.Cond) ∈ lw_tbg) (h : ∀ w ∈ ws, w ∈ lw_tbg) : GoodIn lw_tbg (ws ++ (.code y b n rt :: lw_tbg)) := fun w hw => by
  rcases List.mem_append.mp hw with hw | hw
  · exact lw_tbg_good w (h w hw)
  · rcases List.mem_cons.mp hw with hw | hw
    · rw [hw]; exact lw_tbg_good _ hc
    · exact lw_tbg_good w hw
section SO
variable {p : Program} {l : Launch} {e : Env} {R : Room} {s : State} {m : MethodId} {args : Array Value} {below : List Frame} {meth : Method} {c : Code} {Q : State → Prop}
variable {cc : ByteArray} {G : so_G} {o nL z0 s0 zm sm d : Nat} {nm : String} {pc : Nat} {L : am_L} {st : List Value} {M : am_M}
theorem so_pp (ho : o < 15) {i q : Nat} (h : ((pl_p o).any fun e => Nat.beq e.1 i && Nat.beq e.2.1 q) = true) : (.methodLink (cl_R o) i (pl_y q) : Jvm.Cond) ∈ lw_tbg := by
  obtain ⟨x, hx⟩ := lk_any2 h
  exact lw_is_in (List.all_eq_true.mp (lk_all15 pp_ok ho) _ hx)
theorem so_cpy {α : Type} (mk : α → Value) (c0 c1 : ClassId) (f g : Nat → α) {n0 n1 : Nat} {sp dp n : Int32} (h4 : sp.toNatClampNeg + n.toNatClampNeg ≤ n0) : copied (arrV c0 n0 (fun j => mk (f j))) (arrV c1 n1 (fun j => mk (g j))) sp dp n = arrV c1 n1 (fun j => mk (va_cpy f g sp.toNatClampNeg dp.toNatClampNeg n.toNatClampNeg j)) := va_copied mk c0 c1 f g h4
theorem so_cpy_eq (f g : Nat → Int64) (sp dp n : Nat) : va_cpy f g sp dp n = am_cpy f g sp dp n := by
  funext k
  unfold va_cpy am_cpy
  by_cases h : dp ≤ k ∧ k < dp + n
  · rw [if_pos h, Nat.ble_eq_true_of_le h.1, Nat.ble_eq_true_of_le (show k + 1 ≤ dp + n from h.2)]
    rfl
  · rw [if_neg h]
    rcases Nat.lt_or_ge k dp with h1 | h1
    · rw [nb_hi h1]
      rfl
    · rw [Nat.ble_eq_true_of_le h1, nb_hi (show dp + n < k + 1 by omega)]
      rfl
theorem so_prim (F : so_Fx p s m args meth c cc o nL nm G R z0 s0 zm sm d) (hS : so_Str l G) {mt : Nat → Nat × Nat × Nat × Nat × Nat} {C : am_C} {Rt : Option Value → am_M → Prop} {k z ln : Nat} {orig : Instr} {rt : Option FieldType} (hk : lkB o nm rt pc (.invokeinterface k z) ln orig = true) (hd : decode cc pc = .ok (orig, ln))
    (h : am_one mt C zm sm Rt (.invokeinterface k z) ln pc L st M (so_X p l e R s m args below meth c Q G nL z0 s0 zm sm)) : so_X p l e R s m args below meth c Q G nL z0 s0 zm sm pc L st M := by
  have hr := F.2.2.2.2.2.2.2.2.2
  have hsl : ∀ {ls : Array Slot}, so_L G ls nL L → c.maxLocals = ls.size := fun S1 => F.2.2.1.trans S1.1.symm
  dsimp only [lkB] at hk
  split at hk
  · rename_i i
    obtain ⟨hk, k3⟩ := am_bb hk
    obtain ⟨k1, k2⟩ := am_bb hk
    cases Nat.eq_of_beq_eq_true k1
    have hw := so_pp F.2.2.2.2.2.2.2.2.2.2.2 k2
    match k, k3, h, hw with
    | 0, _, h, hw =>
      obtain ⟨y, st1, rfl, h_1⟩ := am_pi_inv h
      obtain ⟨x, r, rfl, h_2⟩ := am_pi_inv h_1
      obtain ⟨hg, h_3⟩ := am_g_inv h_2
      have h8 : am_cs r ≤ 8 := Nat.le_of_ble_eq_true hg
      intro H ls locs cells slots S
      have hcell : cells ≤ R.cells ∧ slots ≤ R.slots := by
        obtain ⟨S1, S2, S3, S4, S5, S6, S7⟩ := S
        have := F.2.2.2.2.2.2.2.1
        have := F.2.2.2.2.2.2.2.2.1
        omega
      exact va_mmin F.1 F.2.1 (hsl S.1) F.2.2.2.1 (F.2.2.2.2.1 _ hw) (F.2.2.2.2.1 _ lw_minS) (F.2.2.2.2.1 _ lw_mathI) (F.2.2.2.2.1 _ lw_minC) (by omega) (by rw [am_cs_eq]; omega) hcell.1 hcell.2 hd (h_3 H ls locs cells slots S)
    | 1, _, h, hw =>
      obtain ⟨y, st1, rfl, h_1⟩ := am_pi_inv h
      obtain ⟨x, r, rfl, h_2⟩ := am_pi_inv h_1
      obtain ⟨hg, h_3⟩ := am_g_inv h_2
      have h8 : am_cs r ≤ 8 := Nat.le_of_ble_eq_true hg
      intro H ls locs cells slots S
      have hcell : cells ≤ R.cells ∧ slots ≤ R.slots := by
        obtain ⟨S1, S2, S3, S4, S5, S6, S7⟩ := S
        have := F.2.2.2.2.2.2.2.1
        have := F.2.2.2.2.2.2.2.2.1
        omega
      exact va_mmax F.1 F.2.1 (hsl S.1) F.2.2.2.1 (F.2.2.2.2.1 _ hw) (F.2.2.2.2.1 _ lw_maxS) (F.2.2.2.2.1 _ lw_mathI) (F.2.2.2.2.1 _ lw_maxC) (by omega) (by rw [am_cs_eq]; omega) hcell.1 hcell.2 hd (h_3 H ls locs cells slots S)
    | 4, _, h, hw =>
      obtain ⟨n, st1, rfl, h_1⟩ := am_pi_inv h
      obtain ⟨dp, st2, rfl, h_2⟩ := am_pi_inv h_1
      obtain ⟨b, st3, rfl, h_3⟩ := am_pr_inv h_2
      obtain ⟨sp, st4, rfl, h_4⟩ := am_pi_inv h_3
      obtain ⟨a, r, rfl, h_5⟩ := am_pr_inv h_4
      obtain ⟨hg, ⟨q1, q2⟩, h_6⟩ := am_g_inv h_5
      obtain ⟨hg, g5⟩ := am_bb hg
      obtain ⟨hg, g4⟩ := am_bb hg
      obtain ⟨hg, g3⟩ := am_bb hg
      obtain ⟨g1, g2⟩ := am_bb hg
      have h8 : am_cs r ≤ 8 := Nat.le_of_ble_eq_true g5
      have ha : 12 ≤ a := Nat.le_of_ble_eq_true g3
      have hb : 12 ≤ b := Nat.le_of_ble_eq_true g4
      obtain ⟨hta, hza⟩ := so_ok_t g1
      obtain ⟨htb, hzb⟩ := so_ok_t g2
      have hla := so_len_le a
      have hlb := so_len_le b
      obtain ⟨s1, s2⟩ := so_int (i := sp) rfl (by omega)
      obtain ⟨d1, d2⟩ := so_int (i := dp) rfl (by omega)
      obtain ⟨n1, n2⟩ := so_int (i := n) rfl (by omega)
      intro H ls locs cells slots S
      obtain ⟨S1, S2, S3, S4, S5, S6, S7⟩ := S
      have hata := S2.2.2.1 a ha hza
      rw [so_e2 hta] at hata
      have hca : H[so_ad G a]? = some (arrV (G.2.2.2.1 2) (sh_n a) (fun j => .long (M.2.1 a j))) := hata
      have hatb := S2.2.2.1 b hb hzb
      rw [so_e2 htb] at hatb
      have hcb : H[so_ad G b]? = some (arrV (G.2.2.2.1 2) (sh_n b) (fun j => .long (M.2.1 b j))) := hatb
      have hA : ArrOfT s (G.2.2.2.1 2) .long := (F.2.2.2.2.2.1.1.2 2 _ (so_tys G 2 (by omega))).1
      have hw7 : nativeFrameWords "java/lang/System" "arraycopy" 5 = 7 := by decide +kernel
      obtain ⟨-, k0, hk0, cm0, hkk0⟩ := hA (sh_n a) (fun j => .long (M.2.1 a j))
      obtain ⟨-, k1, hk1, cm1, hkk1⟩ := hA (sh_n b) (fun j => .long (M.2.1 b j))
      have nn : ∀ z : Int32, ¬ z < 0 → z.toInt = (z.toNatClampNeg : Int) := by
        intro z hz
        have hz0 : (0 : Int) ≤ z.toInt := by
          have := Int32.not_lt.mp hz
          simpa using Int32.le_iff_toInt_le.mp this
        show z.toInt = ((z.toInt.toNat : Nat) : Int)
        omega
      intro T hT X
      have hbb := F.2.1
      obtain ⟨vm', X', step⟩ := X.arraycopy F.1 F.2.2.2.1 (F.2.2.2.2.1 _ hw) (F.2.2.2.2.1 _ lw_cpyN) (F.2.2.2.2.1 _ lw_cpyS) (F.2.2.2.2.1 _ lw_sysI) (src := so_ad G a) (dst := so_ad G b) (cs := arrV (G.2.2.2.1 2) (sh_n a) (fun j => .long (M.2.1 a j))) (cd := arrV (G.2.2.2.1 2) (sh_n b) (fun j => .long (M.2.1 b j))) (srcPos := sp) (destPos := dp) (n := n) (by rw [hT]; exact hca) (by rw [hT]; exact hcb)
        (fun _ h => by cases h) (fun _ h => by cases h) (fun h => by cases h) (fun h => by cases h) hk0 hk1 hkk0 hkk1 (by decide) s1 d1 n1
        (by rw [nn sp s1, nn n n1, arrV_size, s2, n2]; omega) (by rw [nn dp d1, nn n n1, arrV_size, d2, n2]; omega)
        (fun vm₁ _ i hi => by
          have e : (arrV (G.2.2.2.1 2) (sh_n a) (fun j => Value.long (M.2.1 a j))).slots.getD (sp.toNatClampNeg + i) .null = .long (M.2.1 a (sp.toNatClampNeg + i)) := by
            rw [Array.getD_eq_getD_getElem?, arrV_read _ _ (by omega)]
            rfl
          refine ⟨?_, ?_⟩
          · rw [e]
            rfl
          · rw [e]
            exact trivial)
        (g := F0 m pc ls (.int n :: .int dp :: .ref (so_ad G b) :: .int sp :: .ref (so_ad G a) :: r.map (so_v G))) rfl (S1.1.trans F.2.2.1.symm) (rest := r.map (so_v G)) rfl (by rw [hbb]; exact hd) (by omega) (by rw [am_cs_eq, hw7]; show 2 * 0 + _ + (7 + 11) ≤ _; omega)
      rw [so_cpy (fun z => Value.long z) _ _ _ _ (by omega), so_cpy_eq, s2, d2, n2] at X' step
      have hl : so_ad G b < H.size := (Array.getElem?_eq_some_iff.mp hcb).1
      generalize hN : arrV (G.2.2.2.1 2) (sh_n b) (fun j => Value.long (am_cpy (M.2.1 a) (M.2.1 b) (am_un sp) (am_un dp) (am_un n) j)) = NC at X' step
      have hheap : ((T.setVm vm').setCell (so_ad G b) NC).heap = H.setIfInBounds (so_ad G b) NC := by rw [← hT]; rfl
      have oq : ∀ q : Nat, q ≠ so_ad G b → (H.setIfInBounds (so_ad G b) NC)[q]? = H[q]? := fun q hq => by simp [Array.getElem?_setIfInBounds, Ne.symm hq]
      have SH : so_H G s (am_sL M (am_sr M.2.1 b (am_cpy (M.2.1 a) (M.2.1 b) (am_un sp) (am_un dp) (am_un n)))) (H.setIfInBounds (so_ad G b) NC) := by
        refine S2.upd hb hzb (fun _ _ => rfl) (fun r hr => am_sr_ne _ _ hr) (fun _ _ => rfl) rfl (by simp) oq ?_
        rw [so_e2 htb]
        show (H.setIfInBounds (so_ad G b) NC)[so_ad G b]? = some (arrV _ _ fun j => .long (am_sr M.2.1 b _ b j))
        rw [am_sr_eq, hN]
        simp [Array.getElem?_setIfInBounds, hl]
      have hlo : ∀ (ls2 : List Loc), (∀ q ∈ ls2, q.base = so_ad G b) → ∀ q ∈ locs ++ ls2, G.1 ≤ q.base := fun ls2 h2 q hq => by
        rcases List.mem_append.mp hq with h | h
        · exact S7 q h
        · rw [h2 q h, so_ad_hi G hb]
          omega
      have kk := fun (ls2 : List Loc) (h2 : ∀ q ∈ ls2, q.base = so_ad G b) => h_6 (H.setIfInBounds (so_ad G b) NC) ls (locs ++ ls2) cells slots ⟨S1, SH, S3, S4, S5, S6, hlo ls2 h2⟩
      obtain ⟨t, a1, b1⟩ := kk _ (fun q hq => by
        obtain ⟨z, -, hz⟩ := List.mem_map.mp hq
        rw [← hz]) _ hheap X'
      exact ⟨t, step t a1, b1⟩
    | 2, k3, _, _ => cases k3
    | 3, k3, _, _ => cases k3
    | _ + 5, _, h, _ => exact h.elim
  · rename_i i
    obtain ⟨hk, k3⟩ := am_bb hk
    obtain ⟨k1, k2⟩ := am_bb hk
    cases Nat.eq_of_beq_eq_true k1
    have hw := so_pp F.2.2.2.2.2.2.2.2.2.2.2 k2
    have hrecv : ∀ {a : Nat} {H : Heap}, so_H G s M H → sh_t a = 6 → ∃ cellB : Cell, H[so_ad G a]? = some cellB ∧ cellB.vm.isStatics = false ∧ s.vm.findClass "java/lang/String" = some cellB.cls := by
      intro a H S2 ht
      have hlo : 2 ≤ a ∧ a < 12 := sh_str ht
      obtain ⟨⟨adV, hv⟩, -⟩ := F.2.2.2.2.2.1.2.2.2.2.2.2
      obtain ⟨⟨cell, g1, g2, g3, g4⟩, -⟩ := hv.1 (a - 2) (by omega)
      have ea : 2 + (a - 2) = a := by omega
      have g1 : G.2.2.2.2[G.2.1 (2 + (a - 2))]? = some cell := g1
      rw [ea] at g1
      exact ⟨cell, by rw [so_ad_lo G hlo.2, S2.2.2.2.1 _ (S2.2.2.2.2.1 a hlo.2)]; exact g1, g2, g3⟩
    match k, k3, h, hw with
    | 2, _, h, hw =>
      obtain ⟨a, r, rfl, h_1⟩ := am_pr_inv h
      obtain ⟨hg, h_2⟩ := am_g_inv h_1
      obtain ⟨hok, g2⟩ := am_bb hg
      have h8 : am_cs r ≤ 8 := Nat.le_of_ble_eq_true g2
      obtain ⟨ht, hz⟩ := so_ok_t hok
      intro H ls locs cells slots S
      have hcell : cells + 0 ≤ R.cells ∧ slots + 0 ≤ R.slots := by
        obtain ⟨S1, S2, S3, S4, S5, S6, S7⟩ := S
        have := F.2.2.2.2.2.2.2.1
        have := F.2.2.2.2.2.2.2.2.1
        omega
      refine so_run (rk := 1) (va_runV (Ts := lw_tbg) (own := cl_R o) (C := "java/lang/String") (As := []) ⟨F.1, F.2.1, F.2.2.1, F.2.2.2.1, F.2.2.2.2.1⟩ (hS.1 a M ht) (cwV (C := "java/lang/String") (bytes := cJ0_length_8abf5) (maxL := 1) (ret := some .int) 0 F.2.2.2.2.1 (so_good2 (y := so_yLen) lw_lenC (ws := [.methodLink (cl_R o) i so_yLen, .instanceMethod so_yLen, .selects "java/lang/String" so_yLen so_yLen, .initialized "java/lang/String"]) (fun w hw2 => ?_)) rfl rfl rfl ⟨rfl, by decide, by decide, by decide +kernel⟩ ⟨by show 4 + 1 ≤ _; omega, by show 8 + (1 + 11) + 160 ≤ _; omega⟩) ⟨so_B.blind, hrecv S.2.1 ht, fun U hU hW => ⟨rfl, so_B.pre F.2.2.2.2.2.1 S.2.1 hU hW⟩⟩ rfl rfl S.1.1 rfl (by rw [am_cs_eq]; show 2 * 0 + _ ≤ 8; omega) hd hcell) S ⟨S.2.2.2.2.1, S.2.2.2.2.2.1⟩ fun v M' q => ?_
      · rcases List.mem_cons.mp hw2 with e | hw2
        · rw [e]; exact hw
        rcases List.mem_cons.mp hw2 with e | hw2
        · rw [e]; exact lw_lenI
        rcases List.mem_cons.mp hw2 with e | hw2
        · rw [e]; exact lw_lenS
        rcases List.mem_cons.mp hw2 with e | hw2
        · rw [e]; exact lw_strI
        cases hw2
      · obtain ⟨q1, q2⟩ := q
        subst q2
        exact ⟨_, q1, h_2⟩
    | 3, _, h, hw =>
      obtain ⟨j, st1, rfl, h_0⟩ := am_pi_inv h
      obtain ⟨a, r, rfl, h_1⟩ := am_pr_inv h_0
      obtain ⟨hg, hj, h_2⟩ := am_g_inv h_1
      obtain ⟨hok, g2⟩ := am_bb hg
      have h8 : am_cs r ≤ 8 := Nat.le_of_ble_eq_true g2
      obtain ⟨ht, hz⟩ := so_ok_t hok
      intro H ls locs cells slots S
      have hcell : cells + 0 ≤ R.cells ∧ slots + 0 ≤ R.slots := by
        obtain ⟨S1, S2, S3, S4, S5, S6, S7⟩ := S
        have := F.2.2.2.2.2.2.2.1
        have := F.2.2.2.2.2.2.2.2.1
        omega
      refine so_run (rk := 1) (va_runV (Ts := lw_tbg) (own := cl_R o) (C := "java/lang/String") (As := [.int j]) ⟨F.1, F.2.1, F.2.2.1, F.2.2.2.1, F.2.2.2.2.1⟩ (hS.2 a M j ht hj) (cwV (C := "java/lang/String") (bytes := cJ0_charAt_5068e) (maxL := 2) (ret := some .char) 1 F.2.2.2.2.1 (so_good2 (y := so_yChr) lw_chrC (ws := [.methodLink (cl_R o) i so_yChr, .instanceMethod so_yChr, .selects "java/lang/String" so_yChr so_yChr, .initialized "java/lang/String"]) (fun w hw2 => ?_)) rfl rfl rfl ⟨rfl, by decide, by decide, by decide +kernel⟩ ⟨by show 4 + 1 ≤ _; omega, by show 8 + (2 + 11) + 160 ≤ _; omega⟩) ⟨so_B.blind, hrecv S.2.1 ht, fun U hU hW => ⟨rfl, so_B.pre F.2.2.2.2.2.1 S.2.1 hU hW⟩⟩ rfl rfl S.1.1 rfl (by rw [am_cs_eq]; show 2 * 0 + _ ≤ 8; omega) hd hcell) S ⟨S.2.2.2.2.1, S.2.2.2.2.2.1⟩ fun v M' q => ?_
      · rcases List.mem_cons.mp hw2 with e | hw2
        · rw [e]; exact hw
        rcases List.mem_cons.mp hw2 with e | hw2
        · rw [e]; exact lw_chrI
        rcases List.mem_cons.mp hw2 with e | hw2
        · rw [e]; exact lw_chrS
        rcases List.mem_cons.mp hw2 with e | hw2
        · rw [e]; exact lw_strI
        cases hw2
      · obtain ⟨q1, q2⟩ := q
        subst q2
        exact ⟨_, q1, h_2⟩
    | 0, k3, _, _ => cases k3
    | 1, k3, _, _ => cases k3
    | 4, k3, _, _ => cases k3
    | _ + 5, _, h, _ => exact h.elim
  · cases hk
end SO
end
section
/-! SOUNDNESS, IX: every instruction; every method -/
theorem lkA_0 : ∀ a, a < 0 → lk_all (ml_o a) (ml_y a).name (ml_r a) (ml_b a) (am_tb a) = true := lt_0 (p := fun a => lk_all (ml_o a) (ml_y a).name (ml_r a) (ml_b a) (am_tb a) = true)
theorem ml_o_all : (List.range 258).all (fun k => Nat.ble (ml_o k + 1) 15) = true := by decide +kernel
theorem ml_o_lt {k : Nat} (h : k < 258) : ml_o k < 15 := Nat.le_of_ble_eq_true (List.all_eq_true.mp ml_o_all k (List.mem_range.mpr h))
theorem lkA_20 : ∀ a, a < 20 → lk_all (ml_o a) (ml_y a).name (ml_r a) (ml_b a) (am_tb a) = true := lt_s (p := fun a => lk_all (ml_o a) (ml_y a).name (ml_r a) (ml_b a) (am_tb a) = true) (lt_s (p := fun a => lk_all (ml_o a) (ml_y a).name (ml_r a) (ml_b a) (am_tb a) = true) (lt_s (p := fun a => lk_all (ml_o a) (ml_y a).name (ml_r a) (ml_b a) (am_tb a) = true) (lt_s (p := fun a => lk_all (ml_o a) (ml_y a).name (ml_r a) (ml_b a) (am_tb a) = true) (lt_s (p := fun a => lk_all (ml_o a) (ml_y a).name (ml_r a) (ml_b a) (am_tb a) = true) (lt_s (p := fun a => lk_all (ml_o a) (ml_y a).name (ml_r a) (ml_b a) (am_tb a) = true) (lt_s (p := fun a => lk_all (ml_o a) (ml_y a).name (ml_r a) (ml_b a) (am_tb a) = true) (lt_s (p := fun a => lk_all (ml_o a) (ml_y a).name (ml_r a) (ml_b a) (am_tb a) = true) (lt_s (p := fun a => lk_all (ml_o a) (ml_y a).name (ml_r a) (ml_b a) (am_tb a) = true) (lt_s (p := fun a => lk_all (ml_o a) (ml_y a).name (ml_r a) (ml_b a) (am_tb a) = true) (lt_s (p := fun a => lk_all (ml_o a) (ml_y a).name (ml_r a) (ml_b a) (am_tb a) = true) (lt_s (p := fun a => lk_all (ml_o a) (ml_y a).name (ml_r a) (ml_b a) (am_tb a) = true) (lt_s (p := fun a => lk_all (ml_o a) (ml_y a).name (ml_r a) (ml_b a) (am_tb a) = true) (lt_s (p := fun a => lk_all (ml_o a) (ml_y a).name (ml_r a) (ml_b a) (am_tb a) = true) (lt_s (p := fun a => lk_all (ml_o a) (ml_y a).name (ml_r a) (ml_b a) (am_tb a) = true) (lt_s (p := fun a => lk_all (ml_o a) (ml_y a).name (ml_r a) (ml_b a) (am_tb a) = true) (lt_s (p := fun a => lk_all (ml_o a) (ml_y a).name (ml_r a) (ml_b a) (am_tb a) = true) (lt_s (p := fun a => lk_all (ml_o a) (ml_y a).name (ml_r a) (ml_b a) (am_tb a) = true) (lt_s (p := fun a => lk_all (ml_o a) (ml_y a).name (ml_r a) (ml_b a) (am_tb a) = true) (lt_s (p := fun a => lk_all (ml_o a) (ml_y a).name (ml_r a) (ml_b a) (am_tb a) = true) (lkA_0) lk_0) lk_1) lk_2) lk_3) lk_4) lk_5) lk_6) lk_7) lk_8) lk_9) lk_10) lk_11) lk_12) lk_13) lk_14) lk_15) lk_16) lk_17) lk_18) lk_19
theorem lkA_40 : ∀ a, a < 40 → lk_all (ml_o a) (ml_y a).name (ml_r a) (ml_b a) (am_tb a) = true := lt_s (p := fun a => lk_all (ml_o a) (ml_y a).name (ml_r a) (ml_b a) (am_tb a) = true) (lt_s (p := fun a => lk_all (ml_o a) (ml_y a).name (ml_r a) (ml_b a) (am_tb a) = true) (lt_s (p := fun a => lk_all (ml_o a) (ml_y a).name (ml_r a) (ml_b a) (am_tb a) = true) (lt_s (p := fun a => lk_all (ml_o a) (ml_y a).name (ml_r a) (ml_b a) (am_tb a) = true) (lt_s (p := fun a => lk_all (ml_o a) (ml_y a).name (ml_r a) (ml_b a) (am_tb a) = true) (lt_s (p := fun a => lk_all (ml_o a) (ml_y a).name (ml_r a) (ml_b a) (am_tb a) = true) (lt_s (p := fun a => lk_all (ml_o a) (ml_y a).name (ml_r a) (ml_b a) (am_tb a) = true) (lt_s (p := fun a => lk_all (ml_o a) (ml_y a).name (ml_r a) (ml_b a) (am_tb a) = true) (lt_s (p := fun a => lk_all (ml_o a) (ml_y a).name (ml_r a) (ml_b a) (am_tb a) = true) (lt_s (p := fun a => lk_all (ml_o a) (ml_y a).name (ml_r a) (ml_b a) (am_tb a) = true) (lt_s (p := fun a => lk_all (ml_o a) (ml_y a).name (ml_r a) (ml_b a) (am_tb a) = true) (lt_s (p := fun a => lk_all (ml_o a) (ml_y a).name (ml_r a) (ml_b a) (am_tb a) = true) (lt_s (p := fun a => lk_all (ml_o a) (ml_y a).name (ml_r a) (ml_b a) (am_tb a) = true) (lt_s (p := fun a => lk_all (ml_o a) (ml_y a).name (ml_r a) (ml_b a) (am_tb a) = true) (lt_s (p := fun a => lk_all (ml_o a) (ml_y a).name (ml_r a) (ml_b a) (am_tb a) = true) (lt_s (p := fun a => lk_all (ml_o a) (ml_y a).name (ml_r a) (ml_b a) (am_tb a) = true) (lt_s (p := fun a => lk_all (ml_o a) (ml_y a).name (ml_r a) (ml_b a) (am_tb a) = true) (lt_s (p := fun a => lk_all (ml_o a) (ml_y a).name (ml_r a) (ml_b a) (am_tb a) = true) (lt_s (p := fun a => lk_all (ml_o a) (ml_y a).name (ml_r a) (ml_b a) (am_tb a) = true) (lt_s (p := fun a => lk_all (ml_o a) (ml_y a).name (ml_r a) (ml_b a) (am_tb a) = true) (lkA_20) lk_20) lk_21) lk_22) lk_23) lk_24) lk_25) lk_26) lk_27) lk_28) lk_29) lk_30) lk_31) lk_32) lk_33) lk_34) lk_35) lk_36) lk_37) lk_38) lk_39
theorem lkA_60 : ∀ a, a < 60 → lk_all (ml_o a) (ml_y a).name (ml_r a) (ml_b a) (am_tb a) = true := lt_s (p := fun a => lk_all (ml_o a) (ml_y a).name (ml_r a) (ml_b a) (am_tb a) = true) (lt_s (p := fun a => lk_all (ml_o a) (ml_y a).name (ml_r a) (ml_b a) (am_tb a) = true) (lt_s (p := fun a => lk_all (ml_o a) (ml_y a).name (ml_r a) (ml_b a) (am_tb a) = true) (lt_s (p := fun a => lk_all (ml_o a) (ml_y a).name (ml_r a) (ml_b a) (am_tb a) = true) (lt_s (p := fun a => lk_all (ml_o a) (ml_y a).name (ml_r a) (ml_b a) (am_tb a) = true) (lt_s (p := fun a => lk_all (ml_o a) (ml_y a).name (ml_r a) (ml_b a) (am_tb a) = true) (lt_s (p := fun a => lk_all (ml_o a) (ml_y a).name (ml_r a) (ml_b a) (am_tb a) = true) (lt_s (p := fun a => lk_all (ml_o a) (ml_y a).name (ml_r a) (ml_b a) (am_tb a) = true) (lt_s (p := fun a => lk_all (ml_o a) (ml_y a).name (ml_r a) (ml_b a) (am_tb a) = true) (lt_s (p := fun a => lk_all (ml_o a) (ml_y a).name (ml_r a) (ml_b a) (am_tb a) = true) (lt_s (p := fun a => lk_all (ml_o a) (ml_y a).name (ml_r a) (ml_b a) (am_tb a) = true) (lt_s (p := fun a => lk_all (ml_o a) (ml_y a).name (ml_r a) (ml_b a) (am_tb a) = true) (lt_s (p := fun a => lk_all (ml_o a) (ml_y a).name (ml_r a) (ml_b a) (am_tb a) = true) (lt_s (p := fun a => lk_all (ml_o a) (ml_y a).name (ml_r a) (ml_b a) (am_tb a) = true) (lt_s (p := fun a => lk_all (ml_o a) (ml_y a).name (ml_r a) (ml_b a) (am_tb a) = true) (lt_s (p := fun a => lk_all (ml_o a) (ml_y a).name (ml_r a) (ml_b a) (am_tb a) = true) (lt_s (p := fun a => lk_all (ml_o a) (ml_y a).name (ml_r a) (ml_b a) (am_tb a) = true) (lt_s (p := fun a => lk_all (ml_o a) (ml_y a).name (ml_r a) (ml_b a) (am_tb a) = true) (lt_s (p := fun a => lk_all (ml_o a) (ml_y a).name (ml_r a) (ml_b a) (am_tb a) = true) (lt_s (p := fun a => lk_all (ml_o a) (ml_y a).name (ml_r a) (ml_b a) (am_tb a) = true) (lkA_40) lk_40) lk_41) lk_42) lk_43) lk_44) lk_45) lk_46) lk_47) lk_48) lk_49) lk_50) lk_51) lk_52) lk_53) lk_54) lk_55) lk_56) lk_57) lk_58) lk_59
theorem lkA_80 : ∀ a, a < 80 → lk_all (ml_o a) (ml_y a).name (ml_r a) (ml_b a) (am_tb a) = true := lt_s (p := fun a => lk_all (ml_o a) (ml_y a).name (ml_r a) (ml_b a) (am_tb a) = true) (lt_s (p := fun a => lk_all (ml_o a) (ml_y a).name (ml_r a) (ml_b a) (am_tb a) = true) (lt_s (p := fun a => lk_all (ml_o a) (ml_y a).name (ml_r a) (ml_b a) (am_tb a) = true) (lt_s (p := fun a => lk_all (ml_o a) (ml_y a).name (ml_r a) (ml_b a) (am_tb a) = true) (lt_s (p := fun a => lk_all (ml_o a) (ml_y a).name (ml_r a) (ml_b a) (am_tb a) = true) (lt_s (p := fun a => lk_all (ml_o a) (ml_y a).name (ml_r a) (ml_b a) (am_tb a) = true) (lt_s (p := fun a => lk_all (ml_o a) (ml_y a).name (ml_r a) (ml_b a) (am_tb a) = true) (lt_s (p := fun a => lk_all (ml_o a) (ml_y a).name (ml_r a) (ml_b a) (am_tb a) = true) (lt_s (p := fun a => lk_all (ml_o a) (ml_y a).name (ml_r a) (ml_b a) (am_tb a) = true) (lt_s (p := fun a => lk_all (ml_o a) (ml_y a).name (ml_r a) (ml_b a) (am_tb a) = true) (lt_s (p := fun a => lk_all (ml_o a) (ml_y a).name (ml_r a) (ml_b a) (am_tb a) = true) (lt_s (p := fun a => lk_all (ml_o a) (ml_y a).name (ml_r a) (ml_b a) (am_tb a) = true) (lt_s (p := fun a => lk_all (ml_o a) (ml_y a).name (ml_r a) (ml_b a) (am_tb a) = true) (lt_s (p := fun a => lk_all (ml_o a) (ml_y a).name (ml_r a) (ml_b a) (am_tb a) = true) (lt_s (p := fun a => lk_all (ml_o a) (ml_y a).name (ml_r a) (ml_b a) (am_tb a) = true) (lt_s (p := fun a => lk_all (ml_o a) (ml_y a).name (ml_r a) (ml_b a) (am_tb a) = true) (lt_s (p := fun a => lk_all (ml_o a) (ml_y a).name (ml_r a) (ml_b a) (am_tb a) = true) (lt_s (p := fun a => lk_all (ml_o a) (ml_y a).name (ml_r a) (ml_b a) (am_tb a) = true) (lt_s (p := fun a => lk_all (ml_o a) (ml_y a).name (ml_r a) (ml_b a) (am_tb a) = true) (lt_s (p := fun a => lk_all (ml_o a) (ml_y a).name (ml_r a) (ml_b a) (am_tb a) = true) (lkA_60) lk_60) lk_61) lk_62) lk_63) lk_64) lk_65) lk_66) lk_67) lk_68) lk_69) lk_70) lk_71) lk_72) lk_73) lk_74) lk_75) lk_76) lk_77) lk_78) lk_79
theorem lkA_100 : ∀ a, a < 100 → lk_all (ml_o a) (ml_y a).name (ml_r a) (ml_b a) (am_tb a) = true := lt_s (p := fun a => lk_all (ml_o a) (ml_y a).name (ml_r a) (ml_b a) (am_tb a) = true) (lt_s (p := fun a => lk_all (ml_o a) (ml_y a).name (ml_r a) (ml_b a) (am_tb a) = true) (lt_s (p := fun a => lk_all (ml_o a) (ml_y a).name (ml_r a) (ml_b a) (am_tb a) = true) (lt_s (p := fun a => lk_all (ml_o a) (ml_y a).name (ml_r a) (ml_b a) (am_tb a) = true) (lt_s (p := fun a => lk_all (ml_o a) (ml_y a).name (ml_r a) (ml_b a) (am_tb a) = true) (lt_s (p := fun a => lk_all (ml_o a) (ml_y a).name (ml_r a) (ml_b a) (am_tb a) = true) (lt_s (p := fun a => lk_all (ml_o a) (ml_y a).name (ml_r a) (ml_b a) (am_tb a) = true) (lt_s (p := fun a => lk_all (ml_o a) (ml_y a).name (ml_r a) (ml_b a) (am_tb a) = true) (lt_s (p := fun a => lk_all (ml_o a) (ml_y a).name (ml_r a) (ml_b a) (am_tb a) = true) (lt_s (p := fun a => lk_all (ml_o a) (ml_y a).name (ml_r a) (ml_b a) (am_tb a) = true) (lt_s (p := fun a => lk_all (ml_o a) (ml_y a).name (ml_r a) (ml_b a) (am_tb a) = true) (lt_s (p := fun a => lk_all (ml_o a) (ml_y a).name (ml_r a) (ml_b a) (am_tb a) = true) (lt_s (p := fun a => lk_all (ml_o a) (ml_y a).name (ml_r a) (ml_b a) (am_tb a) = true) (lt_s (p := fun a => lk_all (ml_o a) (ml_y a).name (ml_r a) (ml_b a) (am_tb a) = true) (lt_s (p := fun a => lk_all (ml_o a) (ml_y a).name (ml_r a) (ml_b a) (am_tb a) = true) (lt_s (p := fun a => lk_all (ml_o a) (ml_y a).name (ml_r a) (ml_b a) (am_tb a) = true) (lt_s (p := fun a => lk_all (ml_o a) (ml_y a).name (ml_r a) (ml_b a) (am_tb a) = true) (lt_s (p := fun a => lk_all (ml_o a) (ml_y a).name (ml_r a) (ml_b a) (am_tb a) = true) (lt_s (p := fun a => lk_all (ml_o a) (ml_y a).name (ml_r a) (ml_b a) (am_tb a) = true) (lt_s (p := fun a => lk_all (ml_o a) (ml_y a).name (ml_r a) (ml_b a) (am_tb a) = true) (lkA_80) lk_80) lk_81) lk_82) lk_83) lk_84) lk_85) lk_86) lk_87) lk_88) lk_89) lk_90) lk_91) lk_92) lk_93) lk_94) lk_95) lk_96) lk_97) lk_98) lk_99
theorem lkA_120 : ∀ a, a < 120 → lk_all (ml_o a) (ml_y a).name (ml_r a) (ml_b a) (am_tb a) = true := lt_s (p := fun a => lk_all (ml_o a) (ml_y a).name (ml_r a) (ml_b a) (am_tb a) = true) (lt_s (p := fun a => lk_all (ml_o a) (ml_y a).name (ml_r a) (ml_b a) (am_tb a) = true) (lt_s (p := fun a => lk_all (ml_o a) (ml_y a).name (ml_r a) (ml_b a) (am_tb a) = true) (lt_s (p := fun a => lk_all (ml_o a) (ml_y a).name (ml_r a) (ml_b a) (am_tb a) = true) (lt_s (p := fun a => lk_all (ml_o a) (ml_y a).name (ml_r a) (ml_b a) (am_tb a) = true) (lt_s (p := fun a => lk_all (ml_o a) (ml_y a).name (ml_r a) (ml_b a) (am_tb a) = true) (lt_s (p := fun a => lk_all (ml_o a) (ml_y a).name (ml_r a) (ml_b a) (am_tb a) = true) (lt_s (p := fun a => lk_all (ml_o a) (ml_y a).name (ml_r a) (ml_b a) (am_tb a) = true) (lt_s (p := fun a => lk_all (ml_o a) (ml_y a).name (ml_r a) (ml_b a) (am_tb a) = true) (lt_s (p := fun a => lk_all (ml_o a) (ml_y a).name (ml_r a) (ml_b a) (am_tb a) = true) (lt_s (p := fun a => lk_all (ml_o a) (ml_y a).name (ml_r a) (ml_b a) (am_tb a) = true) (lt_s (p := fun a => lk_all (ml_o a) (ml_y a).name (ml_r a) (ml_b a) (am_tb a) = true) (lt_s (p := fun a => lk_all (ml_o a) (ml_y a).name (ml_r a) (ml_b a) (am_tb a) = true) (lt_s (p := fun a => lk_all (ml_o a) (ml_y a).name (ml_r a) (ml_b a) (am_tb a) = true) (lt_s (p := fun a => lk_all (ml_o a) (ml_y a).name (ml_r a) (ml_b a) (am_tb a) = true) (lt_s (p := fun a => lk_all (ml_o a) (ml_y a).name (ml_r a) (ml_b a) (am_tb a) = true) (lt_s (p := fun a => lk_all (ml_o a) (ml_y a).name (ml_r a) (ml_b a) (am_tb a) = true) (lt_s (p := fun a => lk_all (ml_o a) (ml_y a).name (ml_r a) (ml_b a) (am_tb a) = true) (lt_s (p := fun a => lk_all (ml_o a) (ml_y a).name (ml_r a) (ml_b a) (am_tb a) = true) (lt_s (p := fun a => lk_all (ml_o a) (ml_y a).name (ml_r a) (ml_b a) (am_tb a) = true) (lkA_100) lk_100) lk_101) lk_102) lk_103) lk_104) lk_105) lk_106) lk_107) lk_108) lk_109) lk_110) lk_111) lk_112) lk_113) lk_114) lk_115) lk_116) lk_117) lk_118) lk_119
theorem lkA_140 : ∀ a, a < 140 → lk_all (ml_o a) (ml_y a).name (ml_r a) (ml_b a) (am_tb a) = true := lt_s (p := fun a => lk_all (ml_o a) (ml_y a).name (ml_r a) (ml_b a) (am_tb a) = true) (lt_s (p := fun a => lk_all (ml_o a) (ml_y a).name (ml_r a) (ml_b a) (am_tb a) = true) (lt_s (p := fun a => lk_all (ml_o a) (ml_y a).name (ml_r a) (ml_b a) (am_tb a) = true) (lt_s (p := fun a => lk_all (ml_o a) (ml_y a).name (ml_r a) (ml_b a) (am_tb a) = true) (lt_s (p := fun a => lk_all (ml_o a) (ml_y a).name (ml_r a) (ml_b a) (am_tb a) = true) (lt_s (p := fun a => lk_all (ml_o a) (ml_y a).name (ml_r a) (ml_b a) (am_tb a) = true) (lt_s (p := fun a => lk_all (ml_o a) (ml_y a).name (ml_r a) (ml_b a) (am_tb a) = true) (lt_s (p := fun a => lk_all (ml_o a) (ml_y a).name (ml_r a) (ml_b a) (am_tb a) = true) (lt_s (p := fun a => lk_all (ml_o a) (ml_y a).name (ml_r a) (ml_b a) (am_tb a) = true) (lt_s (p := fun a => lk_all (ml_o a) (ml_y a).name (ml_r a) (ml_b a) (am_tb a) = true) (lt_s (p := fun a => lk_all (ml_o a) (ml_y a).name (ml_r a) (ml_b a) (am_tb a) = true) (lt_s (p := fun a => lk_all (ml_o a) (ml_y a).name (ml_r a) (ml_b a) (am_tb a) = true) (lt_s (p := fun a => lk_all (ml_o a) (ml_y a).name (ml_r a) (ml_b a) (am_tb a) = true) (lt_s (p := fun a => lk_all (ml_o a) (ml_y a).name (ml_r a) (ml_b a) (am_tb a) = true) (lt_s (p := fun a => lk_all (ml_o a) (ml_y a).name (ml_r a) (ml_b a) (am_tb a) = true) (lt_s (p := fun a => lk_all (ml_o a) (ml_y a).name (ml_r a) (ml_b a) (am_tb a) = true) (lt_s (p := fun a => lk_all (ml_o a) (ml_y a).name (ml_r a) (ml_b a) (am_tb a) = true) (lt_s (p := fun a => lk_all (ml_o a) (ml_y a).name (ml_r a) (ml_b a) (am_tb a) = true) (lt_s (p := fun a => lk_all (ml_o a) (ml_y a).name (ml_r a) (ml_b a) (am_tb a) = true) (lt_s (p := fun a => lk_all (ml_o a) (ml_y a).name (ml_r a) (ml_b a) (am_tb a) = true) (lkA_120) lk_120) lk_121) lk_122) lk_123) lk_124) lk_125) lk_126) lk_127) lk_128) lk_129) lk_130) lk_131) lk_132) lk_133) lk_134) lk_135) lk_136) lk_137) lk_138) lk_139
theorem lkA_160 : ∀ a, a < 160 → lk_all (ml_o a) (ml_y a).name (ml_r a) (ml_b a) (am_tb a) = true := lt_s (p := fun a => lk_all (ml_o a) (ml_y a).name (ml_r a) (ml_b a) (am_tb a) = true) (lt_s (p := fun a => lk_all (ml_o a) (ml_y a).name (ml_r a) (ml_b a) (am_tb a) = true) (lt_s (p := fun a => lk_all (ml_o a) (ml_y a).name (ml_r a) (ml_b a) (am_tb a) = true) (lt_s (p := fun a => lk_all (ml_o a) (ml_y a).name (ml_r a) (ml_b a) (am_tb a) = true) (lt_s (p := fun a => lk_all (ml_o a) (ml_y a).name (ml_r a) (ml_b a) (am_tb a) = true) (lt_s (p := fun a => lk_all (ml_o a) (ml_y a).name (ml_r a) (ml_b a) (am_tb a) = true) (lt_s (p := fun a => lk_all (ml_o a) (ml_y a).name (ml_r a) (ml_b a) (am_tb a) = true) (lt_s (p := fun a => lk_all (ml_o a) (ml_y a).name (ml_r a) (ml_b a) (am_tb a) = true) (lt_s (p := fun a => lk_all (ml_o a) (ml_y a).name (ml_r a) (ml_b a) (am_tb a) = true) (lt_s (p := fun a => lk_all (ml_o a) (ml_y a).name (ml_r a) (ml_b a) (am_tb a) = true) (lt_s (p := fun a => lk_all (ml_o a) (ml_y a).name (ml_r a) (ml_b a) (am_tb a) = true) (lt_s (p := fun a => lk_all (ml_o a) (ml_y a).name (ml_r a) (ml_b a) (am_tb a) = true) (lt_s (p := fun a => lk_all (ml_o a) (ml_y a).name (ml_r a) (ml_b a) (am_tb a) = true) (lt_s (p := fun a => lk_all (ml_o a) (ml_y a).name (ml_r a) (ml_b a) (am_tb a) = true) (lt_s (p := fun a => lk_all (ml_o a) (ml_y a).name (ml_r a) (ml_b a) (am_tb a) = true) (lt_s (p := fun a => lk_all (ml_o a) (ml_y a).name (ml_r a) (ml_b a) (am_tb a) = true) (lt_s (p := fun a => lk_all (ml_o a) (ml_y a).name (ml_r a) (ml_b a) (am_tb a) = true) (lt_s (p := fun a => lk_all (ml_o a) (ml_y a).name (ml_r a) (ml_b a) (am_tb a) = true) (lt_s (p := fun a => lk_all (ml_o a) (ml_y a).name (ml_r a) (ml_b a) (am_tb a) = true) (lt_s (p := fun a => lk_all (ml_o a) (ml_y a).name (ml_r a) (ml_b a) (am_tb a) = true) (lkA_140) lk_140) lk_141) lk_142) lk_143) lk_144) lk_145) lk_146) lk_147) lk_148) lk_149) lk_150) lk_151) lk_152) lk_153) lk_154) lk_155) lk_156) lk_157) lk_158) lk_159
theorem lkA_180 : ∀ a, a < 180 → lk_all (ml_o a) (ml_y a).name (ml_r a) (ml_b a) (am_tb a) = true := lt_s (p := fun a => lk_all (ml_o a) (ml_y a).name (ml_r a) (ml_b a) (am_tb a) = true) (lt_s (p := fun a => lk_all (ml_o a) (ml_y a).name (ml_r a) (ml_b a) (am_tb a) = true) (lt_s (p := fun a => lk_all (ml_o a) (ml_y a).name (ml_r a) (ml_b a) (am_tb a) = true) (lt_s (p := fun a => lk_all (ml_o a) (ml_y a).name (ml_r a) (ml_b a) (am_tb a) = true) (lt_s (p := fun a => lk_all (ml_o a) (ml_y a).name (ml_r a) (ml_b a) (am_tb a) = true) (lt_s (p := fun a => lk_all (ml_o a) (ml_y a).name (ml_r a) (ml_b a) (am_tb a) = true) (lt_s (p := fun a => lk_all (ml_o a) (ml_y a).name (ml_r a) (ml_b a) (am_tb a) = true) (lt_s (p := fun a => lk_all (ml_o a) (ml_y a).name (ml_r a) (ml_b a) (am_tb a) = true) (lt_s (p := fun a => lk_all (ml_o a) (ml_y a).name (ml_r a) (ml_b a) (am_tb a) = true) (lt_s (p := fun a => lk_all (ml_o a) (ml_y a).name (ml_r a) (ml_b a) (am_tb a) = true) (lt_s (p := fun a => lk_all (ml_o a) (ml_y a).name (ml_r a) (ml_b a) (am_tb a) = true) (lt_s (p := fun a => lk_all (ml_o a) (ml_y a).name (ml_r a) (ml_b a) (am_tb a) = true) (lt_s (p := fun a => lk_all (ml_o a) (ml_y a).name (ml_r a) (ml_b a) (am_tb a) = true) (lt_s (p := fun a => lk_all (ml_o a) (ml_y a).name (ml_r a) (ml_b a) (am_tb a) = true) (lt_s (p := fun a => lk_all (ml_o a) (ml_y a).name (ml_r a) (ml_b a) (am_tb a) = true) (lt_s (p := fun a => lk_all (ml_o a) (ml_y a).name (ml_r a) (ml_b a) (am_tb a) = true) (lt_s (p := fun a => lk_all (ml_o a) (ml_y a).name (ml_r a) (ml_b a) (am_tb a) = true) (lt_s (p := fun a => lk_all (ml_o a) (ml_y a).name (ml_r a) (ml_b a) (am_tb a) = true) (lt_s (p := fun a => lk_all (ml_o a) (ml_y a).name (ml_r a) (ml_b a) (am_tb a) = true) (lt_s (p := fun a => lk_all (ml_o a) (ml_y a).name (ml_r a) (ml_b a) (am_tb a) = true) (lkA_160) lk_160) lk_161) lk_162) lk_163) lk_164) lk_165) lk_166) lk_167) lk_168) lk_169) lk_170) lk_171) lk_172) lk_173) lk_174) lk_175) lk_176) lk_177) lk_178) lk_179
theorem lkA_200 : ∀ a, a < 200 → lk_all (ml_o a) (ml_y a).name (ml_r a) (ml_b a) (am_tb a) = true := lt_s (p := fun a => lk_all (ml_o a) (ml_y a).name (ml_r a) (ml_b a) (am_tb a) = true) (lt_s (p := fun a => lk_all (ml_o a) (ml_y a).name (ml_r a) (ml_b a) (am_tb a) = true) (lt_s (p := fun a => lk_all (ml_o a) (ml_y a).name (ml_r a) (ml_b a) (am_tb a) = true) (lt_s (p := fun a => lk_all (ml_o a) (ml_y a).name (ml_r a) (ml_b a) (am_tb a) = true) (lt_s (p := fun a => lk_all (ml_o a) (ml_y a).name (ml_r a) (ml_b a) (am_tb a) = true) (lt_s (p := fun a => lk_all (ml_o a) (ml_y a).name (ml_r a) (ml_b a) (am_tb a) = true) (lt_s (p := fun a => lk_all (ml_o a) (ml_y a).name (ml_r a) (ml_b a) (am_tb a) = true) (lt_s (p := fun a => lk_all (ml_o a) (ml_y a).name (ml_r a) (ml_b a) (am_tb a) = true) (lt_s (p := fun a => lk_all (ml_o a) (ml_y a).name (ml_r a) (ml_b a) (am_tb a) = true) (lt_s (p := fun a => lk_all (ml_o a) (ml_y a).name (ml_r a) (ml_b a) (am_tb a) = true) (lt_s (p := fun a => lk_all (ml_o a) (ml_y a).name (ml_r a) (ml_b a) (am_tb a) = true) (lt_s (p := fun a => lk_all (ml_o a) (ml_y a).name (ml_r a) (ml_b a) (am_tb a) = true) (lt_s (p := fun a => lk_all (ml_o a) (ml_y a).name (ml_r a) (ml_b a) (am_tb a) = true) (lt_s (p := fun a => lk_all (ml_o a) (ml_y a).name (ml_r a) (ml_b a) (am_tb a) = true) (lt_s (p := fun a => lk_all (ml_o a) (ml_y a).name (ml_r a) (ml_b a) (am_tb a) = true) (lt_s (p := fun a => lk_all (ml_o a) (ml_y a).name (ml_r a) (ml_b a) (am_tb a) = true) (lt_s (p := fun a => lk_all (ml_o a) (ml_y a).name (ml_r a) (ml_b a) (am_tb a) = true) (lt_s (p := fun a => lk_all (ml_o a) (ml_y a).name (ml_r a) (ml_b a) (am_tb a) = true) (lt_s (p := fun a => lk_all (ml_o a) (ml_y a).name (ml_r a) (ml_b a) (am_tb a) = true) (lt_s (p := fun a => lk_all (ml_o a) (ml_y a).name (ml_r a) (ml_b a) (am_tb a) = true) (lkA_180) lk_180) lk_181) lk_182) lk_183) lk_184) lk_185) lk_186) lk_187) lk_188) lk_189) lk_190) lk_191) lk_192) lk_193) lk_194) lk_195) lk_196) lk_197) lk_198) lk_199
theorem lkA_220 : ∀ a, a < 220 → lk_all (ml_o a) (ml_y a).name (ml_r a) (ml_b a) (am_tb a) = true := lt_s (p := fun a => lk_all (ml_o a) (ml_y a).name (ml_r a) (ml_b a) (am_tb a) = true) (lt_s (p := fun a => lk_all (ml_o a) (ml_y a).name (ml_r a) (ml_b a) (am_tb a) = true) (lt_s (p := fun a => lk_all (ml_o a) (ml_y a).name (ml_r a) (ml_b a) (am_tb a) = true) (lt_s (p := fun a => lk_all (ml_o a) (ml_y a).name (ml_r a) (ml_b a) (am_tb a) = true) (lt_s (p := fun a => lk_all (ml_o a) (ml_y a).name (ml_r a) (ml_b a) (am_tb a) = true) (lt_s (p := fun a => lk_all (ml_o a) (ml_y a).name (ml_r a) (ml_b a) (am_tb a) = true) (lt_s (p := fun a => lk_all (ml_o a) (ml_y a).name (ml_r a) (ml_b a) (am_tb a) = true) (lt_s (p := fun a => lk_all (ml_o a) (ml_y a).name (ml_r a) (ml_b a) (am_tb a) = true) (lt_s (p := fun a => lk_all (ml_o a) (ml_y a).name (ml_r a) (ml_b a) (am_tb a) = true) (lt_s (p := fun a => lk_all (ml_o a) (ml_y a).name (ml_r a) (ml_b a) (am_tb a) = true) (lt_s (p := fun a => lk_all (ml_o a) (ml_y a).name (ml_r a) (ml_b a) (am_tb a) = true) (lt_s (p := fun a => lk_all (ml_o a) (ml_y a).name (ml_r a) (ml_b a) (am_tb a) = true) (lt_s (p := fun a => lk_all (ml_o a) (ml_y a).name (ml_r a) (ml_b a) (am_tb a) = true) (lt_s (p := fun a => lk_all (ml_o a) (ml_y a).name (ml_r a) (ml_b a) (am_tb a) = true) (lt_s (p := fun a => lk_all (ml_o a) (ml_y a).name (ml_r a) (ml_b a) (am_tb a) = true) (lt_s (p := fun a => lk_all (ml_o a) (ml_y a).name (ml_r a) (ml_b a) (am_tb a) = true) (lt_s (p := fun a => lk_all (ml_o a) (ml_y a).name (ml_r a) (ml_b a) (am_tb a) = true) (lt_s (p := fun a => lk_all (ml_o a) (ml_y a).name (ml_r a) (ml_b a) (am_tb a) = true) (lt_s (p := fun a => lk_all (ml_o a) (ml_y a).name (ml_r a) (ml_b a) (am_tb a) = true) (lt_s (p := fun a => lk_all (ml_o a) (ml_y a).name (ml_r a) (ml_b a) (am_tb a) = true) (lkA_200) lk_200) lk_201) lk_202) lk_203) lk_204) lk_205) lk_206) lk_207) lk_208) lk_209) lk_210) lk_211) lk_212) lk_213) lk_214) lk_215) lk_216) lk_217) lk_218) lk_219
theorem lkA_240 : ∀ a, a < 240 → lk_all (ml_o a) (ml_y a).name (ml_r a) (ml_b a) (am_tb a) = true := lt_s (p := fun a => lk_all (ml_o a) (ml_y a).name (ml_r a) (ml_b a) (am_tb a) = true) (lt_s (p := fun a => lk_all (ml_o a) (ml_y a).name (ml_r a) (ml_b a) (am_tb a) = true) (lt_s (p := fun a => lk_all (ml_o a) (ml_y a).name (ml_r a) (ml_b a) (am_tb a) = true) (lt_s (p := fun a => lk_all (ml_o a) (ml_y a).name (ml_r a) (ml_b a) (am_tb a) = true) (lt_s (p := fun a => lk_all (ml_o a) (ml_y a).name (ml_r a) (ml_b a) (am_tb a) = true) (lt_s (p := fun a => lk_all (ml_o a) (ml_y a).name (ml_r a) (ml_b a) (am_tb a) = true) (lt_s (p := fun a => lk_all (ml_o a) (ml_y a).name (ml_r a) (ml_b a) (am_tb a) = true) (lt_s (p := fun a => lk_all (ml_o a) (ml_y a).name (ml_r a) (ml_b a) (am_tb a) = true) (lt_s (p := fun a => lk_all (ml_o a) (ml_y a).name (ml_r a) (ml_b a) (am_tb a) = true) (lt_s (p := fun a => lk_all (ml_o a) (ml_y a).name (ml_r a) (ml_b a) (am_tb a) = true) (lt_s (p := fun a => lk_all (ml_o a) (ml_y a).name (ml_r a) (ml_b a) (am_tb a) = true) (lt_s (p := fun a => lk_all (ml_o a) (ml_y a).name (ml_r a) (ml_b a) (am_tb a) = true) (lt_s (p := fun a => lk_all (ml_o a) (ml_y a).name (ml_r a) (ml_b a) (am_tb a) = true) (lt_s (p := fun a => lk_all (ml_o a) (ml_y a).name (ml_r a) (ml_b a) (am_tb a) = true) (lt_s (p := fun a => lk_all (ml_o a) (ml_y a).name (ml_r a) (ml_b a) (am_tb a) = true) (lt_s (p := fun a => lk_all (ml_o a) (ml_y a).name (ml_r a) (ml_b a) (am_tb a) = true) (lt_s (p := fun a => lk_all (ml_o a) (ml_y a).name (ml_r a) (ml_b a) (am_tb a) = true) (lt_s (p := fun a => lk_all (ml_o a) (ml_y a).name (ml_r a) (ml_b a) (am_tb a) = true) (lt_s (p := fun a => lk_all (ml_o a) (ml_y a).name (ml_r a) (ml_b a) (am_tb a) = true) (lt_s (p := fun a => lk_all (ml_o a) (ml_y a).name (ml_r a) (ml_b a) (am_tb a) = true) (lkA_220) lk_220) lk_221) lk_222) lk_223) lk_224) lk_225) lk_226) lk_227) lk_228) lk_229) lk_230) lk_231) lk_232) lk_233) lk_234) lk_235) lk_236) lk_237) lk_238) lk_239
theorem lkA_258 : ∀ a, a < 258 → lk_all (ml_o a) (ml_y a).name (ml_r a) (ml_b a) (am_tb a) = true := lt_s (p := fun a => lk_all (ml_o a) (ml_y a).name (ml_r a) (ml_b a) (am_tb a) = true) (lt_s (p := fun a => lk_all (ml_o a) (ml_y a).name (ml_r a) (ml_b a) (am_tb a) = true) (lt_s (p := fun a => lk_all (ml_o a) (ml_y a).name (ml_r a) (ml_b a) (am_tb a) = true) (lt_s (p := fun a => lk_all (ml_o a) (ml_y a).name (ml_r a) (ml_b a) (am_tb a) = true) (lt_s (p := fun a => lk_all (ml_o a) (ml_y a).name (ml_r a) (ml_b a) (am_tb a) = true) (lt_s (p := fun a => lk_all (ml_o a) (ml_y a).name (ml_r a) (ml_b a) (am_tb a) = true) (lt_s (p := fun a => lk_all (ml_o a) (ml_y a).name (ml_r a) (ml_b a) (am_tb a) = true) (lt_s (p := fun a => lk_all (ml_o a) (ml_y a).name (ml_r a) (ml_b a) (am_tb a) = true) (lt_s (p := fun a => lk_all (ml_o a) (ml_y a).name (ml_r a) (ml_b a) (am_tb a) = true) (lt_s (p := fun a => lk_all (ml_o a) (ml_y a).name (ml_r a) (ml_b a) (am_tb a) = true) (lt_s (p := fun a => lk_all (ml_o a) (ml_y a).name (ml_r a) (ml_b a) (am_tb a) = true) (lt_s (p := fun a => lk_all (ml_o a) (ml_y a).name (ml_r a) (ml_b a) (am_tb a) = true) (lt_s (p := fun a => lk_all (ml_o a) (ml_y a).name (ml_r a) (ml_b a) (am_tb a) = true) (lt_s (p := fun a => lk_all (ml_o a) (ml_y a).name (ml_r a) (ml_b a) (am_tb a) = true) (lt_s (p := fun a => lk_all (ml_o a) (ml_y a).name (ml_r a) (ml_b a) (am_tb a) = true) (lt_s (p := fun a => lk_all (ml_o a) (ml_y a).name (ml_r a) (ml_b a) (am_tb a) = true) (lt_s (p := fun a => lk_all (ml_o a) (ml_y a).name (ml_r a) (ml_b a) (am_tb a) = true) (lt_s (p := fun a => lk_all (ml_o a) (ml_y a).name (ml_r a) (ml_b a) (am_tb a) = true) (lkA_240) lk_240) lk_241) lk_242) lk_243) lk_244) lk_245) lk_246) lk_247) lk_248) lk_249) lk_250) lk_251) lk_252) lk_253) lk_254) lk_255) lk_256) lk_257
section SO
variable {p : Program} {l : Launch} {e : Env} {R : Room} {s : State} {m : MethodId} {args : Array Value} {below : List Frame} {meth : Method} {c : Code} {Q : State → Prop}
variable {cc : ByteArray} {G : so_G} {o nL z0 s0 zm sm d : Nat} {nm : String}
set_option maxHeartbeats 4000000 in
theorem so_one (F : so_Fx p s m args meth c cc o nL nm G R z0 s0 zm sm d) {C : am_C} (hC : so_C l G d C) (hS : so_Str l G) {rt : Option FieldType} {Rt : Option Value → am_M → Prop}
    (hI : ∀ (x : Int32) (pc : Nat) (L : am_L) (M : am_M), (rt = some .int ∨ rt = some .boolean) → decode cc pc = .ok (.ireturn, 1) → Rt (some (.int x)) M → so_X p l e R s m args below meth c Q G nL z0 s0 zm sm pc L [.int x] M)
    (hJ : ∀ (x : Int64) (pc : Nat) (L : am_L) (M : am_M), rt = some .long → decode cc pc = .ok (.lreturn, 1) → Rt (some (.long x)) M → so_X p l e R s m args below meth c Q G nL z0 s0 zm sm pc L [.long x] M)
    (hA : ∀ (x : Nat) (pc : Nat) (L : am_L) (M : am_M), (∃ t, rt = some t ∧ ((∃ n, t = .object n) ∨ ∃ u, t = .array u)) → decode cc pc = .ok (.areturn, 1) → Rt (some (.ref x)) M → so_X p l e R s m args below meth c Q G nL z0 s0 zm sm pc L [.ref x] M)
    (hV : ∀ (pc : Nat) (L : am_L) (M : am_M), rt = none → decode cc pc = .ok (.return_, 1) → Rt none M → so_X p l e R s m args below meth c Q G nL z0 s0 zm sm pc L [] M)
    {ins orig : Instr} {ln pc : Nat} {L : am_L} {st : List Value} {M : am_M} (hk : lkB o nm rt pc ins ln orig = true) (hd : decode cc pc = .ok (orig, ln)) (h : am_one am_mt C zm sm Rt ins ln pc L st M (so_X p l e R s m args below meth c Q G nL z0 s0 zm sm)) : so_X p l e R s m args below meth c Q G nL z0 s0 zm sm pc L st M := by
  cases ins
  case iaload => obtain ⟨rfl, rfl⟩ := lk_d hk; exact so_iaload F hd h
  case baload => obtain ⟨rfl, rfl⟩ := lk_d hk; exact so_baload F hd h
  case laload => obtain ⟨rfl, rfl⟩ := lk_d hk; exact so_laload F hd h
  case aaload => obtain ⟨rfl, rfl⟩ := lk_d hk; exact so_aaload F hd h
  case arraylength => obtain ⟨rfl, rfl⟩ := lk_d hk; exact so_alen F hd h
  case iastore => obtain ⟨rfl, rfl⟩ := lk_d hk; exact so_iastore F hd h
  case bastore => obtain ⟨rfl, rfl⟩ := lk_d hk; exact so_bastore F hd h
  case lastore => obtain ⟨rfl, rfl⟩ := lk_d hk; exact so_lastore F hd h
  case aastore => obtain ⟨rfl, rfl⟩ := lk_d hk; exact so_aastore F hd h
  case dup => obtain ⟨rfl, rfl⟩ := lk_d hk; exact so_dup F hd h
  case dup2 => obtain ⟨rfl, rfl⟩ := lk_d hk; exact so_dup2 F hd h
  case pop => obtain ⟨rfl, rfl⟩ := lk_d hk; exact so_pop F hd h
  case iadd => obtain ⟨rfl, rfl⟩ := lk_d hk; exact so_iadd F hd h
  case isub => obtain ⟨rfl, rfl⟩ := lk_d hk; exact so_isub F hd h
  case imul => obtain ⟨rfl, rfl⟩ := lk_d hk; exact so_imul F hd h
  case iand => obtain ⟨rfl, rfl⟩ := lk_d hk; exact so_iand F hd h
  case ior => obtain ⟨rfl, rfl⟩ := lk_d hk; exact so_ior F hd h
  case ixor => obtain ⟨rfl, rfl⟩ := lk_d hk; exact so_ixor F hd h
  case ishl => obtain ⟨rfl, rfl⟩ := lk_d hk; exact so_ishl F hd h
  case ishr => obtain ⟨rfl, rfl⟩ := lk_d hk; exact so_ishr F hd h
  case iushr => obtain ⟨rfl, rfl⟩ := lk_d hk; exact so_iushr F hd h
  case idiv => obtain ⟨rfl, rfl⟩ := lk_d hk; exact so_idiv F hd h
  case irem => obtain ⟨rfl, rfl⟩ := lk_d hk; exact so_irem F hd h
  case ineg => obtain ⟨rfl, rfl⟩ := lk_d hk; exact so_ineg F hd h
  case ladd => obtain ⟨rfl, rfl⟩ := lk_d hk; exact so_ladd F hd h
  case lmul => obtain ⟨rfl, rfl⟩ := lk_d hk; exact so_lmul F hd h
  case land => obtain ⟨rfl, rfl⟩ := lk_d hk; exact so_land F hd h
  case lor => obtain ⟨rfl, rfl⟩ := lk_d hk; exact so_lor F hd h
  case ldiv => obtain ⟨rfl, rfl⟩ := lk_d hk; exact so_ldiv F hd h
  case lrem => obtain ⟨rfl, rfl⟩ := lk_d hk; exact so_lrem F hd h
  case lshl => obtain ⟨rfl, rfl⟩ := lk_d hk; exact so_lshl F hd h
  case lcmp => obtain ⟨rfl, rfl⟩ := lk_d hk; exact so_lcmp F hd h
  case i2l => obtain ⟨rfl, rfl⟩ := lk_d hk; exact so_i2l F hd h
  case l2i => obtain ⟨rfl, rfl⟩ := lk_d hk; exact so_l2i F hd h
  case i2b => obtain ⟨rfl, rfl⟩ := lk_d hk; exact so_i2b F hd h
  case i2s => obtain ⟨rfl, rfl⟩ := lk_d hk; exact so_i2s F hd h
  case sipush v => exact so_const F hk hd h
  case jsr_w v => exact so_constL F hk hd h
  case iload i => exact so_iload F hk hd h
  case lload i => exact so_lload F hk hd h
  case aload i => exact so_aload F hk hd h
  case istore i => exact so_istore F hk hd h
  case astore i => exact so_astore F hk hd h
  case lstore i => exact so_lstore F hk hd h
  case getfield q => exact so_getfield F hk hd h
  case putfield q => exact so_putfield F hk hd h
  case getstatic q => exact so_getstatic F hk hd h
  case ldc q => exact so_ldcS F hk hd h
  case new q => exact so_new F hk hd h
  case newarray q => exact so_newarray F hk hd h
  case anewarray q => exact so_anewarray F hk hd h
  case multianewarray q r => exact so_multianewarray F hk hd h
  case monitorexit => exact so_objinit F hk hd h
  case tableswitch a b c d => exact so_tableswitch F hk hd h
  case lookupswitch a b => exact so_lookupswitch F hk hd h
  case iinc i v => obtain ⟨rfl, rfl⟩ := lk_d hk; exact so_iinc F hd h
  case invokestatic k => exact so_invstatic F hC hk hd h
  case invokevirtual k => exact so_invvirtual F hC hk hd h
  case invokespecial k => exact so_invspecial F hC hk hd h
  case invokeinterface a b => exact so_prim F hS hk hd h
  case goto t => 
    dsimp only [lkB] at hk
    split at hk
    · obtain ⟨k1, k2⟩ := am_bb hk
      cases Nat.eq_of_beq_eq_true k1
      exact so_goto F k2 hd h
    · cases hk
  case ifCond cnd t => 
    dsimp only [lkB] at hk
    split at hk
    · obtain ⟨hk, k3⟩ := am_bb hk
      obtain ⟨k1, k2⟩ := am_bb hk
      cases Nat.eq_of_beq_eq_true k1
      cases of_decide_eq_true k2
      cases cnd
      case eq => exact so_if_eq F k3 hd h
      case ne => exact so_if_ne F k3 hd h
      case lt => exact so_if_lt F k3 hd h
      case ge => exact so_if_ge F k3 hd h
      case gt => exact so_if_gt F k3 hd h
      case le => exact so_if_le F k3 hd h
    · cases hk
  case if_icmp cnd t => 
    dsimp only [lkB] at hk
    split at hk
    · obtain ⟨hk, k3⟩ := am_bb hk
      obtain ⟨k1, k2⟩ := am_bb hk
      cases Nat.eq_of_beq_eq_true k1
      cases of_decide_eq_true k2
      cases cnd
      case eq => exact so_icmp_eq F k3 hd h
      case ne => exact so_icmp_ne F k3 hd h
      case lt => exact so_icmp_lt F k3 hd h
      case ge => exact so_icmp_ge F k3 hd h
      case gt => exact so_icmp_gt F k3 hd h
      case le => exact so_icmp_le F k3 hd h
    · cases hk
  case ireturn => 
    obtain ⟨hk, k2⟩ := am_bb hk
    obtain ⟨rfl, rfl⟩ := lk_d hk
    obtain ⟨x, r, rfl, h_1⟩ := am_pi_inv h
    obtain ⟨hg, h_2⟩ := am_g_inv h_1
    cases List.isEmpty_iff.mp hg
    refine hI _ _ _ _ ?_ hd h_2
    rcases (Bool.or_eq_true _ _).mp k2 with q | q
    · exact Or.inl (of_decide_eq_true q)
    · exact Or.inr (of_decide_eq_true q)
  case lreturn => 
    obtain ⟨hk, k2⟩ := am_bb hk
    obtain ⟨rfl, rfl⟩ := lk_d hk
    obtain ⟨x, r, rfl, h_1⟩ := am_pl_inv h
    obtain ⟨hg, h_2⟩ := am_g_inv h_1
    cases List.isEmpty_iff.mp hg
    exact hJ _ _ _ _ (of_decide_eq_true k2) hd h_2
  case areturn => 
    obtain ⟨hk, k2⟩ := am_bb hk
    obtain ⟨rfl, rfl⟩ := lk_d hk
    obtain ⟨x, r, rfl, h_1⟩ := am_pr_inv h
    obtain ⟨hg, h_2⟩ := am_g_inv h_1
    cases List.isEmpty_iff.mp hg
    refine hA _ _ _ _ ?_ hd h_2
    split at k2
    · exact ⟨_, rfl, Or.inl ⟨_, rfl⟩⟩
    · exact ⟨_, rfl, Or.inr ⟨_, rfl⟩⟩
    · cases k2
  case return_ => 
    obtain ⟨hk, k2⟩ := am_bb hk
    obtain ⟨rfl, rfl⟩ := lk_d hk
    obtain ⟨hg, h_2⟩ := am_g_inv h
    cases List.isEmpty_iff.mp hg
    exact hV _ _ _ (of_decide_eq_true k2) hd h_2
  all_goals exact h.elim
/-- a run of the abstract machine is a run of the machine -/
theorem so_body (F : so_Fx p s m args meth c cc o nL nm G R z0 s0 zm sm d) {C : am_C} (hC : so_C l G d C) (hS : so_Str l G) {T : am_T} {rt : Option FieldType} (hT : lk_all o nm rt cc T = true) {Rt : Option Value → am_M → Prop}
    (hI : ∀ (x : Int32) (pc : Nat) (L : am_L) (M : am_M), (rt = some .int ∨ rt = some .boolean) → decode cc pc = .ok (.ireturn, 1) → Rt (some (.int x)) M → so_X p l e R s m args below meth c Q G nL z0 s0 zm sm pc L [.int x] M)
    (hJ : ∀ (x : Int64) (pc : Nat) (L : am_L) (M : am_M), rt = some .long → decode cc pc = .ok (.lreturn, 1) → Rt (some (.long x)) M → so_X p l e R s m args below meth c Q G nL z0 s0 zm sm pc L [.long x] M)
    (hA : ∀ (x : Nat) (pc : Nat) (L : am_L) (M : am_M), (∃ t, rt = some t ∧ ((∃ n, t = .object n) ∨ ∃ u, t = .array u)) → decode cc pc = .ok (.areturn, 1) → Rt (some (.ref x)) M → so_X p l e R s m args below meth c Q G nL z0 s0 zm sm pc L [.ref x] M)
    (hV : ∀ (pc : Nat) (L : am_L) (M : am_M), rt = none → decode cc pc = .ok (.return_, 1) → Rt none M → so_X p l e R s m args below meth c Q G nL z0 s0 zm sm pc L [] M)
    {pc : Nat} {L : am_L} {st : List Value} {M : am_M} (h : am_WP am_mt C T zm sm Rt pc L st M) : so_X p l e R s m args below meth c Q G nL z0 s0 zm sm pc L st M := by
  refine h _ fun pc L st M h => ?_
  unfold am_F at h
  split at h
  · rename_i q hq
    obtain ⟨orig, h1, h2⟩ := lk_at hT hq
    exact so_one F hC hS hI hJ hA hV h2 h1 h
  · exact h.elim
end SO
/-- a contract out of a walk, for a method that no entry runs instead -/
theorem so_ofW {l : Launch} {y : MethodName} {ws ws' : List Jvm.Cond} {rm : Room} {Pc : Array Value → State → Prop} {Qc : Array Value → State → Outcome → State → Prop} {mc ms : Nat} {free : Addr → Prop} {cc : ByteArray} {maxL : Nat} {ret : Option FieldType}
    (hy : plainFor y = true) (hw : ws = Jvm.Cond.code y cc maxL ret :: ws')
    (body : ∀ p e s m args below meth c s₁, BodyLoose p l y (headSpec ws rm) cc maxL ret e s m args below meth c s₁ → c.maxLocals = maxL → Pc args s →
      W p l e (headSpec ws rm).room s m args below meth c s.heap [] 0 0 (MQ below Qc args s mc ms free) (entryFrame m args maxL)) : Met l y ws rm Pc Qc mc ms free := by
  refine MetFree.of_bodySF (code := cc) (maxLocals := maxL) (ret := ret) hy ?_ ?_
  · intro args s m h hn
    obtain ⟨meth, c, h1, h2, h3, h4, h5, h6, -, -⟩ := Cond.code_spec hn (atoms_spec (ws := ws) h _ (by rw [hw]; exact List.mem_cons_self))
    exact ⟨meth, c, h1, h2, h3, h4, h5, h6⟩
  · intro p e s m args below meth c s₁ B hml hP _
    have hh0 : s₁.heap = s.heap := by rw [B.state]; rfl
    obtain ⟨t, a1, o, b1, b2, b3⟩ := body p e s m args below meth c s₁ B hml hP s₁ hh0 (Stand.of_body B)
    exact ⟨t, o, a1, b1, b2, ⟨b3.1, b3.2⟩⟩
theorem so_loc_len (G : so_G) : ∀ as : List Value, (lg_sl (as.map (so_v G))).length = (am_loc as).length
  | [] => rfl
  | v :: as => by
    have ih := so_loc_len G as
    unfold lg_sl at ih ⊢
    rw [List.map_cons, List.flatMap_cons, List.length_append, ih, so_v_cat]
    cases v <;> simp [am_loc, Value.category] <;> omega
theorem so_loc_at (G : so_G) : ∀ (as : List Value) (i0 j : Nat) (v : Value), am_nth (am_loc as) j = some v → (i0 + j, so_v G v) ∈ lv_args i0 (as.map (so_v G))
  | [], _, _, _, h => by cases h
  | w :: as, i0, 0, v, h => by
    cases h
    exact List.mem_cons_self
  | w :: as, i0, j + 1, v, h => by
    refine List.mem_cons_of_mem _ ?_
    rw [so_v_cat]
    by_cases h2 : w.category = 2
    · rw [if_pos h2]
      have h3 : am_nth (none :: am_loc as) j = some v := by cases w <;> first | exact h | cases h2
      cases j with
      | zero => cases h3
      | succ j =>
        have := so_loc_at G as (i0 + 2) j v h3
        rw [show i0 + (j + 1 + 1) = i0 + 2 + j by omega]
        exact this
    · rw [if_neg h2]
      have h3 : am_nth (am_loc as) j = some v := by cases w <;> first | exact h | exact absurd rfl h2
      have := so_loc_at G as (i0 + 1) j v h3
      rw [show i0 + (j + 1) = i0 + 1 + j by omega]
      exact this
theorem am_nth_app : ∀ (l : am_L) (n j : Nat) (v : Value), am_nth (l ++ List.replicate n none) j = some v → am_nth l j = some v
  | [], 0, _, _, h => h
  | [], n + 1, 0, _, h => by cases h
  | [], n + 1, j + 1, v, h => by
    have := am_nth_app [] n j v h
    cases this
  | _ :: _, _, 0, _, h => h
  | _ :: l, n, j + 1, v, h => am_nth_app l n j v h
theorem so_entry (G : so_G) {as : List Value} {n : Nat} (h : (am_loc as).length ≤ n) : so_L G ((lg_sl (as.map (so_v G)) ++ List.replicate (n - (lg_sl (as.map (so_v G))).length) Slot.unset).toArray) n (am_ent n as) := by
  have hl := lv_entry (as.map (so_v G)) (n := n) (by rw [so_loc_len]; exact h)
  refine ⟨hl.1, hl.2.1, by unfold am_ent; rw [List.length_append, List.length_replicate]; omega, fun i v hv => ?_⟩
  have := so_loc_at G as 0 i v (am_nth_app _ _ _ _ hv)
  rw [Nat.zero_add] at this
  exact hl.2.2 _ this
set_option maxHeartbeats 4000000 in
/-- calls of any depth are sound -/
theorem so_sound {l : Launch} {G : so_G} (hS : so_Str l G) : ∀ d : Nat, so_C l G d (am_AC d)
  | 0 => fun _ _ _ _ _ h => h.elim
  | d + 1 => fun k as M Q hk h => by
    have hC := so_sound hS d
    obtain ⟨b1, b2, b3, b4, b5, b6, b7, b8, b9, b10, b11, b12, b13⟩ := so_mlok hk
    obtain ⟨hlen, h⟩ := am_g_inv h
    have hlen : (am_loc as).length ≤ am_mL k := Nat.le_of_ble_eq_true hlen
    refine so_ofW (cc := ml_b k) (maxL := am_mL k) (ret := ml_r k) (ws' := lw_tbg) b6 rfl ?_
    intro p e s m args below meth c s₁ B hml hv
    obtain ⟨rfl, hK, hH⟩ := hv
    have hts : ∀ w ∈ lw_tbg, w.before (as.map (so_v G)).toArray s = true := fun w hw => atoms_spec (ws := so_ws k) B.pre w (List.mem_cons_of_mem _ hw)
    have hown : s.vm.findClass (cl_R (ml_o k)) = some m.cls := by rw [← b8]; exact findClass_of_methodNamed B.named
    have hname : meth.name = (ml_y k).name := (name_of_methodNamed B.named B.method).1
    have hlocks := B.notSynchronized
    have ho15 : ml_o k < 15 := ml_o_lt hk
    have F : so_Fx p s m (as.map (so_v G)).toArray meth c (ml_b k) (ml_o k) (am_mL k) (ml_y k).name G (headSpec (so_ws k) (so_rm (d + 1) k)).room M.2.2.2.1 M.2.2.2.2.1 (M.2.2.2.1 + (am_mt k).2.2.2.1) (M.2.2.2.2.1 + (am_mt k).2.2.2.2) d := ⟨B.exec, B.bytes, hml, hown, hts, hK, hname, Nat.le_refl _, Nat.le_refl _, by show d + 6 ≤ d + 1 + 5; omega, by show 40 * d + 240 ≤ 40 * (d + 1) + 200; omega, ho15⟩
    rw [lg_entry_eq]
    have hend : ∀ (v : Option Value) (M' : am_M) (H : Heap) (ls : Array Slot) (L : am_L) (locs : List Loc) (cells slots : Nat), am_R k M Q v M' → so_S G (am_mL k) M.2.2.2.1 M.2.2.2.2.1 (M.2.2.2.1 + (am_mt k).2.2.2.1) (M.2.2.2.2.1 + (am_mt k).2.2.2.2) s L M' H ls locs cells slots → Q v M' ∧ M'.2.2.2.1 = M.2.2.2.1 + (am_mt k).2.2.2.1 ∧ M'.2.2.2.2.1 = M.2.2.2.2.1 + (am_mt k).2.2.2.2 ∧ (ml_r k = some .boolean → ∀ x, v = some (.int x) → x = 0 ∨ x = 1) := by
      intro v M' H ls L locs cells slots hR S
      obtain ⟨S1, S2, S3, S4, S5, S6, S7⟩ := S
      have hz : (ml_r k = some .boolean → ∀ x, v = some (.int x) → x = 0 ∨ x = 1) ∧ cond (Nat.beq (am_mt k).2.2.2.1 0) (Q v M') ((M'.2.2.2.1 = M.2.2.2.1 + (am_mt k).2.2.2.1 ∧ M'.2.2.2.2.1 = M.2.2.2.2.1 + (am_mt k).2.2.2.2) ∧ Q v M') := by
        unfold am_R am_zq at hR
        rw [b13] at hR
        split at hR
        · rename_i q
          exact ⟨fun q2 => absurd q2 (of_decide_eq_false q), hR⟩
        · split at hR
          · rename_i y
            obtain ⟨h1, h2⟩ := am_g_inv hR
            refine ⟨fun _ x hx => ?_, h2⟩
            cases hx
            rcases (Bool.or_eq_true _ _).mp h1 with h1 | h1
            · exact Or.inl (of_decide_eq_true h1)
            · exact Or.inr (of_decide_eq_true h1)
          · exact hR.elim
      obtain ⟨hz1, hz2⟩ := hz
      cases hb : Nat.beq (am_mt k).2.2.2.1 0 with
      | true =>
        rw [hb] at hz2
        have h0 := Nat.eq_of_beq_eq_true hb
        have h00 := am_ms0 hk h0
        exact ⟨hz2, by omega, by omega, hz1⟩
      | false =>
        rw [hb] at hz2
        exact ⟨hz2.2, hz2.1.1, hz2.1.2, hz1⟩
    have hcells : ∀ {M' : am_M} {H : Heap} {ls : Array Slot} {L : am_L} {locs : List Loc} {cells slots : Nat}, so_S G (am_mL k) M.2.2.2.1 M.2.2.2.2.1 (M.2.2.2.1 + (am_mt k).2.2.2.1) (M.2.2.2.2.1 + (am_mt k).2.2.2.2) s L M' H ls locs cells slots → M'.2.2.2.1 = M.2.2.2.1 + (am_mt k).2.2.2.1 → M'.2.2.2.2.1 = M.2.2.2.2.1 + (am_mt k).2.2.2.2 → cells = (am_mt k).2.2.2.1 ∧ slots = (am_mt k).2.2.2.2 := by
      intro M' H ls L locs cells slots S q1 q2
      obtain ⟨S1, S2, S3, S4, S5, S6, S7⟩ := S
      omega
    refine so_body F hC hS (lkA_258 k hk) ?_ ?_ ?_ ?_ h s.heap _ [] 0 0 ⟨so_entry G hlen, hH, rfl, rfl, Nat.le_add_right _ _, Nat.le_add_right _ _, fun q hq => by cases hq⟩
    · intro x pc L M' hrt hdc hR H ls locs cells slots S
      obtain ⟨q1, q2, q3, q4⟩ := hend _ _ _ _ _ _ _ _ hR S
      obtain ⟨rfl, rfl⟩ := hcells S q2 q3
      have hfin : ∀ t : State, t.heap = H → s.WarmedH t.vm → so_Q G (am_mt k).2.2.2.1 (am_mt k).2.2.2.2 M Q (as.map (so_v G)).toArray s (.returned (some (.int x))) t := fun t ht hW => ⟨some (.int x), M', rfl, q1, q2, q3, by rw [ht]; exact S.2.1.moved hW.alike⟩
      rcases hrt with hrt | hrt
      · exact W.iret B.exec B.bytes (B.returns.trans hrt) hfin S.2.2.2.2.2.2 hdc hlocks
      · refine W.zret (ty := .boolean) B.exec B.bytes (B.returns.trans hrt) ?_ hfin S.2.2.2.2.2.2 hdc hlocks
        rcases q4 hrt x rfl with e | e <;> rw [e] <;> rfl
    · intro x pc L M' hrt hdc hR H ls locs cells slots S
      obtain ⟨q1, q2, q3, q4⟩ := hend _ _ _ _ _ _ _ _ hR S
      obtain ⟨rfl, rfl⟩ := hcells S q2 q3
      exact W.lret B.exec B.bytes (B.returns.trans hrt) (fun t ht hW => ⟨some (.long x), M', rfl, q1, q2, q3, by rw [ht]; exact S.2.1.moved hW.alike⟩) S.2.2.2.2.2.2 hdc hlocks
    · intro x pc L M' hrt hdc hR H ls locs cells slots S
      obtain ⟨q1, q2, q3, q4⟩ := hend _ _ _ _ _ _ _ _ hR S
      obtain ⟨rfl, rfl⟩ := hcells S q2 q3
      obtain ⟨t, ht, hto⟩ := hrt
      exact W.aret B.exec B.bytes (B.returns.trans ht) hto (Or.inr ⟨_, rfl⟩) (fun t ht hW => ⟨some (.ref x), M', rfl, q1, q2, q3, by rw [ht]; exact S.2.1.moved hW.alike⟩) S.2.2.2.2.2.2 hdc hlocks
    · intro pc L M' hrt hdc hR H ls locs cells slots S
      obtain ⟨q1, q2, q3, q4⟩ := hend _ _ _ _ _ _ _ _ hR S
      obtain ⟨rfl, rfl⟩ := hcells S q2 q3
      exact W.vret B.exec B.bytes (B.returns.trans hrt) (fun t ht hW => ⟨none, M', rfl, q1, q2, q3, by rw [ht]; exact S.2.1.moved hW.alike⟩) S.2.2.2.2.2.2 hdc hlocks
end
