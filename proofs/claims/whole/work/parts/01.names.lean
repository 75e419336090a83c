-- ===== PART A: goes FIRST, ahead of the names: the tables' words, and 'selects' of the private methods out of them =====
/-- a private method of a class that the tables say can be made, by its rows of tables_1 -/
def lw_okq (q : MethodName × Nat) : Prop := (q.1.cls ≠ "java/lang/invoke/MethodHandle" ∧ q.1.cls ≠ "java/lang/invoke/VarHandle") ∧ Cond.instantiable q.1.cls q.2 ∈ tables_1 ∧ Cond.privateMethod q.1 ∈ tables_1 ∧ Cond.instanceMethod q.1 ∈ tables_1
theorem lw_p0 : lw_okq (⟨"PairBench$Pairing", "begin", "()V"⟩, 9) := ⟨⟨by decide +kernel, by decide +kernel⟩, List.mem_of_getElem? (i := 44) (by decide +kernel), List.mem_of_getElem? (i := 253) (by decide +kernel), List.mem_of_getElem? (i := 254) (by decide +kernel)⟩
theorem lw_p1 : lw_okq (⟨"PairBench$Pairing", "openAll", "()V"⟩, 9) := ⟨⟨by decide +kernel, by decide +kernel⟩, List.mem_of_getElem? (i := 44) (by decide +kernel), List.mem_of_getElem? (i := 260) (by decide +kernel), List.mem_of_getElem? (i := 261) (by decide +kernel)⟩
theorem lw_p2 : lw_okq (⟨"PairBench$Pairing", "lengthen", "()Z"⟩, 9) := ⟨⟨by decide +kernel, by decide +kernel⟩, List.mem_of_getElem? (i := 44) (by decide +kernel), List.mem_of_getElem? (i := 268) (by decide +kernel), List.mem_of_getElem? (i := 269) (by decide +kernel)⟩
theorem lw_p3 : lw_okq (⟨"PairBench$Pairing", "bare", "(I)J"⟩, 9) := ⟨⟨by decide +kernel, by decide +kernel⟩, List.mem_of_getElem? (i := 44) (by decide +kernel), List.mem_of_getElem? (i := 272) (by decide +kernel), List.mem_of_getElem? (i := 273) (by decide +kernel)⟩
theorem lw_p4 : lw_okq (⟨"PairBench$Pairing", "pairAlongPath", "(I)V"⟩, 9) := ⟨⟨by decide +kernel, by decide +kernel⟩, List.mem_of_getElem? (i := 44) (by decide +kernel), List.mem_of_getElem? (i := 288) (by decide +kernel), List.mem_of_getElem? (i := 289) (by decide +kernel)⟩
theorem lw_p5 : lw_okq (⟨"PairBench$Pairing", "pair", "(II)V"⟩, 9) := ⟨⟨by decide +kernel, by decide +kernel⟩, List.mem_of_getElem? (i := 44) (by decide +kernel), List.mem_of_getElem? (i := 292) (by decide +kernel), List.mem_of_getElem? (i := 293) (by decide +kernel)⟩
theorem lw_p6 : lw_okq (⟨"PairBench$Pairing", "choicesOf", "(I)J"⟩, 9) := ⟨⟨by decide +kernel, by decide +kernel⟩, List.mem_of_getElem? (i := 44) (by decide +kernel), List.mem_of_getElem? (i := 296) (by decide +kernel), List.mem_of_getElem? (i := 297) (by decide +kernel)⟩
theorem lw_p7 : lw_okq (⟨"PairBench$Pairing", "reach", "(IJ)J"⟩, 9) := ⟨⟨by decide +kernel, by decide +kernel⟩, List.mem_of_getElem? (i := 44) (by decide +kernel), List.mem_of_getElem? (i := 300) (by decide +kernel), List.mem_of_getElem? (i := 301) (by decide +kernel)⟩
theorem lw_p8 : lw_okq (⟨"PairBench$Pairing", "settle", "(IJ)V"⟩, 9) := ⟨⟨by decide +kernel, by decide +kernel⟩, List.mem_of_getElem? (i := 44) (by decide +kernel), List.mem_of_getElem? (i := 313) (by decide +kernel), List.mem_of_getElem? (i := 314) (by decide +kernel)⟩
theorem lw_p9 : lw_okq (⟨"PairBench$Pairing", "loosen", "(II)V"⟩, 9) := ⟨⟨by decide +kernel, by decide +kernel⟩, List.mem_of_getElem? (i := 44) (by decide +kernel), List.mem_of_getElem? (i := 317) (by decide +kernel), List.mem_of_getElem? (i := 318) (by decide +kernel)⟩
theorem lw_p10 : lw_okq (⟨"PairBench$Pairing", "findParts", "()V"⟩, 9) := ⟨⟨by decide +kernel, by decide +kernel⟩, List.mem_of_getElem? (i := 44) (by decide +kernel), List.mem_of_getElem? (i := 321) (by decide +kernel), List.mem_of_getElem? (i := 322) (by decide +kernel)⟩
theorem lw_p11 : lw_okq (⟨"PairBench$Order", "findLevels", "()V"⟩, 6) := ⟨⟨by decide +kernel, by decide +kernel⟩, List.mem_of_getElem? (i := 144) (by decide +kernel), List.mem_of_getElem? (i := 330) (by decide +kernel), List.mem_of_getElem? (i := 331) (by decide +kernel)⟩
theorem lw_p12 : lw_okq (⟨"PairBench$Order", "bottomOf", "(J)J"⟩, 6) := ⟨⟨by decide +kernel, by decide +kernel⟩, List.mem_of_getElem? (i := 144) (by decide +kernel), List.mem_of_getElem? (i := 335) (by decide +kernel), List.mem_of_getElem? (i := 336) (by decide +kernel)⟩
theorem lw_p13 : lw_okq (⟨"PairBench$Order", "findChains", "()V"⟩, 6) := ⟨⟨by decide +kernel, by decide +kernel⟩, List.mem_of_getElem? (i := 144) (by decide +kernel), List.mem_of_getElem? (i := 343) (by decide +kernel), List.mem_of_getElem? (i := 344) (by decide +kernel)⟩
theorem lw_p14 : lw_okq (⟨"PairBench$Order", "numberChain", "(II)V"⟩, 6) := ⟨⟨by decide +kernel, by decide +kernel⟩, List.mem_of_getElem? (i := 144) (by decide +kernel), List.mem_of_getElem? (i := 352) (by decide +kernel), List.mem_of_getElem? (i := 353) (by decide +kernel)⟩
theorem lw_p15 : lw_okq (⟨"PairBench$Blocks", "findReached", "()V"⟩, 8) := ⟨⟨by decide +kernel, by decide +kernel⟩, List.mem_of_getElem? (i := 85) (by decide +kernel), List.mem_of_getElem? (i := 370) (by decide +kernel), List.mem_of_getElem? (i := 371) (by decide +kernel)⟩
def lw_privs_1 : List (MethodName × Nat) := [(⟨"PairBench$Pairing", "begin", "()V"⟩, 9), (⟨"PairBench$Pairing", "openAll", "()V"⟩, 9), (⟨"PairBench$Pairing", "lengthen", "()Z"⟩, 9), (⟨"PairBench$Pairing", "bare", "(I)J"⟩, 9), (⟨"PairBench$Pairing", "pairAlongPath", "(I)V"⟩, 9), (⟨"PairBench$Pairing", "pair", "(II)V"⟩, 9), (⟨"PairBench$Pairing", "choicesOf", "(I)J"⟩, 9), (⟨"PairBench$Pairing", "reach", "(IJ)J"⟩, 9), (⟨"PairBench$Pairing", "settle", "(IJ)V"⟩, 9), (⟨"PairBench$Pairing", "loosen", "(II)V"⟩, 9), (⟨"PairBench$Pairing", "findParts", "()V"⟩, 9), (⟨"PairBench$Order", "findLevels", "()V"⟩, 6), (⟨"PairBench$Order", "bottomOf", "(J)J"⟩, 6), (⟨"PairBench$Order", "findChains", "()V"⟩, 6), (⟨"PairBench$Order", "numberChain", "(II)V"⟩, 6), (⟨"PairBench$Blocks", "findReached", "()V"⟩, 8)]
theorem lw_r1 : ∀ q ∈ lw_privs_1, lw_okq q := List.forall_mem_cons.mpr ⟨lw_p0, List.forall_mem_cons.mpr ⟨lw_p1, List.forall_mem_cons.mpr ⟨lw_p2, List.forall_mem_cons.mpr ⟨lw_p3, List.forall_mem_cons.mpr ⟨lw_p4, List.forall_mem_cons.mpr ⟨lw_p5, List.forall_mem_cons.mpr ⟨lw_p6, List.forall_mem_cons.mpr ⟨lw_p7, List.forall_mem_cons.mpr ⟨lw_p8, List.forall_mem_cons.mpr ⟨lw_p9, List.forall_mem_cons.mpr ⟨lw_p10, List.forall_mem_cons.mpr ⟨lw_p11, List.forall_mem_cons.mpr ⟨lw_p12, List.forall_mem_cons.mpr ⟨lw_p13, List.forall_mem_cons.mpr ⟨lw_p14, List.forall_mem_cons.mpr ⟨lw_p15, fun _ h => absurd h List.not_mem_nil⟩⟩⟩⟩⟩⟩⟩⟩⟩⟩⟩⟩⟩⟩⟩⟩
theorem lw_p16 : lw_okq (⟨"PairBench$Blocks", "numberAll", "()V"⟩, 8) := ⟨⟨by decide +kernel, by decide +kernel⟩, List.mem_of_getElem? (i := 85) (by decide +kernel), List.mem_of_getElem? (i := 382) (by decide +kernel), List.mem_of_getElem? (i := 383) (by decide +kernel)⟩
theorem lw_p17 : lw_okq (⟨"PairBench$Blocks", "gather", "(I)J"⟩, 8) := ⟨⟨by decide +kernel, by decide +kernel⟩, List.mem_of_getElem? (i := 85) (by decide +kernel), List.mem_of_getElem? (i := 387) (by decide +kernel), List.mem_of_getElem? (i := 388) (by decide +kernel)⟩
theorem lw_p18 : lw_okq (⟨"PairBench", "countFindings", "(I)I"⟩, 7) := ⟨⟨by decide +kernel, by decide +kernel⟩, List.mem_of_getElem? (i := 13) (by decide +kernel), List.mem_of_getElem? (i := 391) (by decide +kernel), List.mem_of_getElem? (i := 392) (by decide +kernel)⟩
theorem lw_p19 : lw_okq (⟨"PairBench$Tally", "lefts", "()I"⟩, 7) := ⟨⟨by decide +kernel, by decide +kernel⟩, List.mem_of_getElem? (i := 116) (by decide +kernel), List.mem_of_getElem? (i := 487) (by decide +kernel), List.mem_of_getElem? (i := 488) (by decide +kernel)⟩
theorem lw_p20 : lw_okq (⟨"PairBench$Tally", "pieceOf", "(I)J"⟩, 7) := ⟨⟨by decide +kernel, by decide +kernel⟩, List.mem_of_getElem? (i := 116) (by decide +kernel), List.mem_of_getElem? (i := 498) (by decide +kernel), List.mem_of_getElem? (i := 499) (by decide +kernel)⟩
theorem lw_p21 : lw_okq (⟨"PairBench$Tally", "waysToPair", "(J)J"⟩, 7) := ⟨⟨by decide +kernel, by decide +kernel⟩, List.mem_of_getElem? (i := 116) (by decide +kernel), List.mem_of_getElem? (i := 503) (by decide +kernel), List.mem_of_getElem? (i := 504) (by decide +kernel)⟩
theorem lw_p22 : lw_okq (⟨"PairBench$Tally", "setChoices", "(JJZ)V"⟩, 7) := ⟨⟨by decide +kernel, by decide +kernel⟩, List.mem_of_getElem? (i := 116) (by decide +kernel), List.mem_of_getElem? (i := 508) (by decide +kernel), List.mem_of_getElem? (i := 509) (by decide +kernel)⟩
theorem lw_p23 : lw_okq (⟨"PairBench$Tally", "waysToChoose", "(II)J"⟩, 7) := ⟨⟨by decide +kernel, by decide +kernel⟩, List.mem_of_getElem? (i := 116) (by decide +kernel), List.mem_of_getElem? (i := 513) (by decide +kernel), List.mem_of_getElem? (i := 514) (by decide +kernel)⟩
theorem lw_p24 : lw_okq (⟨"PairBenchModel", "isNode", "(II)Z"⟩, 39) := ⟨⟨by decide +kernel, by decide +kernel⟩, List.mem_of_getElem? (i := 572) (by decide +kernel), List.mem_of_getElem? (i := 706) (by decide +kernel), List.mem_of_getElem? (i := 707) (by decide +kernel)⟩
theorem lw_p25 : lw_okq (⟨"PairBenchModel", "workThings", "()V"⟩, 39) := ⟨⟨by decide +kernel, by decide +kernel⟩, List.mem_of_getElem? (i := 572) (by decide +kernel), List.mem_of_getElem? (i := 714) (by decide +kernel), List.mem_of_getElem? (i := 715) (by decide +kernel)⟩
theorem lw_p26 : lw_okq (⟨"PairBenchModel", "widthBeside", "(I)I"⟩, 39) := ⟨⟨by decide +kernel, by decide +kernel⟩, List.mem_of_getElem? (i := 572) (by decide +kernel), List.mem_of_getElem? (i := 718) (by decide +kernel), List.mem_of_getElem? (i := 719) (by decide +kernel)⟩
theorem lw_p27 : lw_okq (⟨"PairBenchModel", "use", "([ZII)V"⟩, 39) := ⟨⟨by decide +kernel, by decide +kernel⟩, List.mem_of_getElem? (i := 572) (by decide +kernel), List.mem_of_getElem? (i := 722) (by decide +kernel), List.mem_of_getElem? (i := 723) (by decide +kernel)⟩
theorem lw_p28 : lw_okq (⟨"PairBenchModel", "growAll", "()I"⟩, 39) := ⟨⟨by decide +kernel, by decide +kernel⟩, List.mem_of_getElem? (i := 572) (by decide +kernel), List.mem_of_getElem? (i := 726) (by decide +kernel), List.mem_of_getElem? (i := 727) (by decide +kernel)⟩
theorem lw_p29 : lw_okq (⟨"PairBenchModel", "grow", "()Z"⟩, 39) := ⟨⟨by decide +kernel, by decide +kernel⟩, List.mem_of_getElem? (i := 572) (by decide +kernel), List.mem_of_getElem? (i := 730) (by decide +kernel), List.mem_of_getElem? (i := 731) (by decide +kernel)⟩
theorem lw_p30 : lw_okq (⟨"PairBenchModel", "begin", "()V"⟩, 39) := ⟨⟨by decide +kernel, by decide +kernel⟩, List.mem_of_getElem? (i := 572) (by decide +kernel), List.mem_of_getElem? (i := 734) (by decide +kernel), List.mem_of_getElem? (i := 735) (by decide +kernel)⟩
theorem lw_p31 : lw_okq (⟨"PairBenchModel", "flip", "(I)V"⟩, 39) := ⟨⟨by decide +kernel, by decide +kernel⟩, List.mem_of_getElem? (i := 572) (by decide +kernel), List.mem_of_getElem? (i := 738) (by decide +kernel), List.mem_of_getElem? (i := 739) (by decide +kernel)⟩
def lw_privs_2 : List (MethodName × Nat) := [(⟨"PairBench$Blocks", "numberAll", "()V"⟩, 8), (⟨"PairBench$Blocks", "gather", "(I)J"⟩, 8), (⟨"PairBench", "countFindings", "(I)I"⟩, 7), (⟨"PairBench$Tally", "lefts", "()I"⟩, 7), (⟨"PairBench$Tally", "pieceOf", "(I)J"⟩, 7), (⟨"PairBench$Tally", "waysToPair", "(J)J"⟩, 7), (⟨"PairBench$Tally", "setChoices", "(JJZ)V"⟩, 7), (⟨"PairBench$Tally", "waysToChoose", "(II)J"⟩, 7), (⟨"PairBenchModel", "isNode", "(II)Z"⟩, 39), (⟨"PairBenchModel", "workThings", "()V"⟩, 39), (⟨"PairBenchModel", "widthBeside", "(I)I"⟩, 39), (⟨"PairBenchModel", "use", "([ZII)V"⟩, 39), (⟨"PairBenchModel", "growAll", "()I"⟩, 39), (⟨"PairBenchModel", "grow", "()Z"⟩, 39), (⟨"PairBenchModel", "begin", "()V"⟩, 39), (⟨"PairBenchModel", "flip", "(I)V"⟩, 39)]
theorem lw_r2 : ∀ q ∈ lw_privs_2, lw_okq q := List.forall_mem_cons.mpr ⟨lw_p16, List.forall_mem_cons.mpr ⟨lw_p17, List.forall_mem_cons.mpr ⟨lw_p18, List.forall_mem_cons.mpr ⟨lw_p19, List.forall_mem_cons.mpr ⟨lw_p20, List.forall_mem_cons.mpr ⟨lw_p21, List.forall_mem_cons.mpr ⟨lw_p22, List.forall_mem_cons.mpr ⟨lw_p23, List.forall_mem_cons.mpr ⟨lw_p24, List.forall_mem_cons.mpr ⟨lw_p25, List.forall_mem_cons.mpr ⟨lw_p26, List.forall_mem_cons.mpr ⟨lw_p27, List.forall_mem_cons.mpr ⟨lw_p28, List.forall_mem_cons.mpr ⟨lw_p29, List.forall_mem_cons.mpr ⟨lw_p30, List.forall_mem_cons.mpr ⟨lw_p31, fun _ h => absurd h List.not_mem_nil⟩⟩⟩⟩⟩⟩⟩⟩⟩⟩⟩⟩⟩⟩⟩⟩
theorem lw_p32 : lw_okq (⟨"PairBenchModel", "improve", "()V"⟩, 39) := ⟨⟨by decide +kernel, by decide +kernel⟩, List.mem_of_getElem? (i := 572) (by decide +kernel), List.mem_of_getElem? (i := 742) (by decide +kernel), List.mem_of_getElem? (i := 743) (by decide +kernel)⟩
theorem lw_p33 : lw_okq (⟨"PairBenchModel", "force", "(II)Z"⟩, 39) := ⟨⟨by decide +kernel, by decide +kernel⟩, List.mem_of_getElem? (i := 572) (by decide +kernel), List.mem_of_getElem? (i := 746) (by decide +kernel), List.mem_of_getElem? (i := 747) (by decide +kernel)⟩
theorem lw_p34 : lw_okq (⟨"PairBenchModel", "keep", "()V"⟩, 39) := ⟨⟨by decide +kernel, by decide +kernel⟩, List.mem_of_getElem? (i := 572) (by decide +kernel), List.mem_of_getElem? (i := 750) (by decide +kernel), List.mem_of_getElem? (i := 751) (by decide +kernel)⟩
theorem lw_p35 : lw_okq (⟨"PairBenchModel", "putBack", "()V"⟩, 39) := ⟨⟨by decide +kernel, by decide +kernel⟩, List.mem_of_getElem? (i := 572) (by decide +kernel), List.mem_of_getElem? (i := 754) (by decide +kernel), List.mem_of_getElem? (i := 755) (by decide +kernel)⟩
theorem lw_p36 : lw_okq (⟨"PairBenchModel", "levels", "()V"⟩, 39) := ⟨⟨by decide +kernel, by decide +kernel⟩, List.mem_of_getElem? (i := 572) (by decide +kernel), List.mem_of_getElem? (i := 758) (by decide +kernel), List.mem_of_getElem? (i := 759) (by decide +kernel)⟩
theorem lw_p37 : lw_okq (⟨"PairBenchModel", "ends", "()V"⟩, 39) := ⟨⟨by decide +kernel, by decide +kernel⟩, List.mem_of_getElem? (i := 572) (by decide +kernel), List.mem_of_getElem? (i := 762) (by decide +kernel), List.mem_of_getElem? (i := 763) (by decide +kernel)⟩
theorem lw_p38 : lw_okq (⟨"PairBenchModel", "work", "()V"⟩, 39) := ⟨⟨by decide +kernel, by decide +kernel⟩, List.mem_of_getElem? (i := 572) (by decide +kernel), List.mem_of_getElem? (i := 766) (by decide +kernel), List.mem_of_getElem? (i := 767) (by decide +kernel)⟩
theorem lw_p39 : lw_okq (⟨"PairBenchModel", "canMiss", "(ZI)Z"⟩, 39) := ⟨⟨by decide +kernel, by decide +kernel⟩, List.mem_of_getElem? (i := 572) (by decide +kernel), List.mem_of_getElem? (i := 770) (by decide +kernel), List.mem_of_getElem? (i := 771) (by decide +kernel)⟩
theorem lw_p40 : lw_okq (⟨"PairBenchModel", "parts", "()V"⟩, 39) := ⟨⟨by decide +kernel, by decide +kernel⟩, List.mem_of_getElem? (i := 572) (by decide +kernel), List.mem_of_getElem? (i := 774) (by decide +kernel), List.mem_of_getElem? (i := 775) (by decide +kernel)⟩
theorem lw_p41 : lw_okq (⟨"PairBenchModel", "blocks", "()V"⟩, 39) := ⟨⟨by decide +kernel, by decide +kernel⟩, List.mem_of_getElem? (i := 572) (by decide +kernel), List.mem_of_getElem? (i := 778) (by decide +kernel), List.mem_of_getElem? (i := 779) (by decide +kernel)⟩
theorem lw_p42 : lw_okq (⟨"PairBenchModel", "edgesMany", "()I"⟩, 39) := ⟨⟨by decide +kernel, by decide +kernel⟩, List.mem_of_getElem? (i := 572) (by decide +kernel), List.mem_of_getElem? (i := 782) (by decide +kernel), List.mem_of_getElem? (i := 783) (by decide +kernel)⟩
theorem lw_p43 : lw_okq (⟨"PairBenchModel", "inPart", "(I)I"⟩, 39) := ⟨⟨by decide +kernel, by decide +kernel⟩, List.mem_of_getElem? (i := 572) (by decide +kernel), List.mem_of_getElem? (i := 786) (by decide +kernel), List.mem_of_getElem? (i := 787) (by decide +kernel)⟩
theorem lw_p44 : lw_okq (⟨"PairBenchModel", "covers", "(III)Z"⟩, 39) := ⟨⟨by decide +kernel, by decide +kernel⟩, List.mem_of_getElem? (i := 572) (by decide +kernel), List.mem_of_getElem? (i := 811) (by decide +kernel), List.mem_of_getElem? (i := 812) (by decide +kernel)⟩
theorem lw_p45 : lw_okq (⟨"PairBenchModel", "meetsMissed", "(II)Z"⟩, 39) := ⟨⟨by decide +kernel, by decide +kernel⟩, List.mem_of_getElem? (i := 572) (by decide +kernel), List.mem_of_getElem? (i := 815) (by decide +kernel), List.mem_of_getElem? (i := 816) (by decide +kernel)⟩
def lw_privs_3 : List (MethodName × Nat) := [(⟨"PairBenchModel", "improve", "()V"⟩, 39), (⟨"PairBenchModel", "force", "(II)Z"⟩, 39), (⟨"PairBenchModel", "keep", "()V"⟩, 39), (⟨"PairBenchModel", "putBack", "()V"⟩, 39), (⟨"PairBenchModel", "levels", "()V"⟩, 39), (⟨"PairBenchModel", "ends", "()V"⟩, 39), (⟨"PairBenchModel", "work", "()V"⟩, 39), (⟨"PairBenchModel", "canMiss", "(ZI)Z"⟩, 39), (⟨"PairBenchModel", "parts", "()V"⟩, 39), (⟨"PairBenchModel", "blocks", "()V"⟩, 39), (⟨"PairBenchModel", "edgesMany", "()I"⟩, 39), (⟨"PairBenchModel", "inPart", "(I)I"⟩, 39), (⟨"PairBenchModel", "covers", "(III)Z"⟩, 39), (⟨"PairBenchModel", "meetsMissed", "(II)Z"⟩, 39)]
theorem lw_r3 : ∀ q ∈ lw_privs_3, lw_okq q := List.forall_mem_cons.mpr ⟨lw_p32, List.forall_mem_cons.mpr ⟨lw_p33, List.forall_mem_cons.mpr ⟨lw_p34, List.forall_mem_cons.mpr ⟨lw_p35, List.forall_mem_cons.mpr ⟨lw_p36, List.forall_mem_cons.mpr ⟨lw_p37, List.forall_mem_cons.mpr ⟨lw_p38, List.forall_mem_cons.mpr ⟨lw_p39, List.forall_mem_cons.mpr ⟨lw_p40, List.forall_mem_cons.mpr ⟨lw_p41, List.forall_mem_cons.mpr ⟨lw_p42, List.forall_mem_cons.mpr ⟨lw_p43, List.forall_mem_cons.mpr ⟨lw_p44, List.forall_mem_cons.mpr ⟨lw_p45, fun _ h => absurd h List.not_mem_nil⟩⟩⟩⟩⟩⟩⟩⟩⟩⟩⟩⟩⟩⟩
def lw_privs : List (MethodName × Nat) := lw_privs_1 ++ (lw_privs_2 ++ (lw_privs_3))
def lw_tbl : List Cond := k2_sels lw_privs ++ tables_1
theorem lw_privs_ok : ∀ q ∈ lw_privs, lw_okq q := by
  show ∀ q ∈ lw_privs_1 ++ (lw_privs_2 ++ (lw_privs_3)), lw_okq q
  exact List.forall_mem_append.mpr ⟨lw_r1, List.forall_mem_append.mpr ⟨lw_r2, lw_r3⟩⟩

def RX0 : String := "PairBench$Blocks"
def TX0 : u_T := fun k => match k with
  | 0 => ("PairBench$Blocks", "graph", "LPairBench$Graph;", true)
  | 1 => ("PairBench$Blocks", "pairing", "LPairBench$Pairing;", true)
  | 2 => ("PairBench$Blocks", "reached", "[J", true)
  | 3 => ("PairBench$Blocks", "numbers", "[I", true)
  | 4 => ("PairBench$Blocks", "lefts", "[J", true)
  | 5 => ("PairBench$Blocks", "onward", "[J", true)
  | 6 => ("PairBench$Blocks", "size", "I", false)
  | _ => ("PairBench$Blocks", "known", "I", false)
def tyX0 : Nat → FieldType := fun k => match k with
  | 0 => .object "PairBench$Graph"
  | 1 => .object "PairBench$Pairing"
  | 2 => .array .long
  | 3 => .array .int
  | 4 => .array .long
  | 5 => .array .long
  | 6 => .int
  | _ => .int
abbrev wsX00 : List Cond := u_ws RX0 TX0 8
theorem nmX0 : ∀ a, a < 8 → ∀ b, b < 8 → a ≠ b → (TX0 a).2.1 ≠ (TX0 b).2.1 := by decide +kernel
theorem tyX0_ok : ∀ k, k < 8 → parseFieldDescriptor (TX0 k).2.2.1 = some (tyX0 k) := by decide +kernel
abbrev cX0_init : ByteArray := prog_2_method_1_code
def yX0_init : MethodName := ⟨RX0, "<init>", "(LPairBench$Graph;LPairBench$Pairing;)V"⟩
abbrev cX0_refresh : ByteArray := prog_2_method_2_code
def yX0_refresh : MethodName := ⟨RX0, "refresh", "()V"⟩
abbrev cX0_howMany : ByteArray := prog_2_method_3_code
def yX0_howMany : MethodName := ⟨RX0, "howMany", "()I"⟩
abbrev cX0_holds : ByteArray := prog_2_method_4_code
def yX0_holds : MethodName := ⟨RX0, "holds", "(I)Z"⟩
abbrev cX0_numberOf : ByteArray := prog_2_method_5_code
def yX0_numberOf : MethodName := ⟨RX0, "numberOf", "(II)I"⟩
abbrev cX0_comesTo : ByteArray := prog_2_method_6_code
def yX0_comesTo : MethodName := ⟨RX0, "comesTo", "(II)Z"⟩
abbrev cX0_isLonePair : ByteArray := prog_2_method_7_code
def yX0_isLonePair : MethodName := ⟨RX0, "isLonePair", "(I)Z"⟩
abbrev cX0_usefulRights : ByteArray := prog_2_method_8_code
def yX0_usefulRights : MethodName := ⟨RX0, "usefulRights", "(I)J"⟩
abbrev cX0_findReached : ByteArray := prog_2_method_9_code
def yX0_findReached : MethodName := ⟨RX0, "findReached", "()V"⟩
abbrev cX0_numberAll : ByteArray := prog_2_method_10_code
def yX0_numberAll : MethodName := ⟨RX0, "numberAll", "()V"⟩
abbrev cX0_gather : ByteArray := prog_2_method_11_code
def yX0_gather : MethodName := ⟨RX0, "gather", "(I)J"⟩
def RX1 : String := "PairBench$Graph"
def TX1 : u_T := fun k => match k with
  | 0 => ("PairBench$Graph", "most", "I", true)
  | 1 => ("PairBench$Graph", "sizes", "[I", true)
  | 2 => ("PairBench$Graph", "rows", "[[J", true)
  | _ => ("PairBench$Graph", "changes", "I", false)
def tyX1 : Nat → FieldType := fun k => match k with
  | 0 => .int
  | 1 => .array .int
  | 2 => .array (.array .long)
  | _ => .int
abbrev wsX10 : List Cond := u_ws RX1 TX1 4
theorem nmX1 : ∀ a, a < 4 → ∀ b, b < 4 → a ≠ b → (TX1 a).2.1 ≠ (TX1 b).2.1 := by decide +kernel
theorem tyX1_ok : ∀ k, k < 4 → parseFieldDescriptor (TX1 k).2.2.1 = some (tyX1 k) := by decide +kernel
abbrev cX1_init : ByteArray := prog_3_method_1_code
def yX1_init : MethodName := ⟨RX1, "<init>", "(I)V"⟩
abbrev cX1_changes : ByteArray := prog_3_method_2_code
def yX1_changes : MethodName := ⟨RX1, "changes", "()I"⟩
abbrev cX1_most : ByteArray := prog_3_method_3_code
def yX1_most : MethodName := ⟨RX1, "most", "()I"⟩
abbrev cX1_sizeOf : ByteArray := prog_3_method_4_code
def yX1_sizeOf : MethodName := ⟨RX1, "sizeOf", "(I)I"⟩
abbrev cX1_holds : ByteArray := prog_3_method_5_code
def yX1_holds : MethodName := ⟨RX1, "holds", "(II)Z"⟩
abbrev cX1_joins : ByteArray := prog_3_method_6_code
def yX1_joins : MethodName := ⟨RX1, "joins", "(II)Z"⟩
abbrev cX1_all : ByteArray := prog_3_method_7_code
def yX1_all : MethodName := ⟨RX1, "all", "(I)J"⟩
abbrev cX1_across : ByteArray := prog_3_method_8_code
def yX1_across : MethodName := ⟨RX1, "across", "(II)J"⟩
abbrev cX1_neighbours : ByteArray := prog_3_method_9_code
def yX1_neighbours : MethodName := ⟨RX1, "neighbours", "(IJ)J"⟩
abbrev cX1_edges : ByteArray := prog_3_method_10_code
def yX1_edges : MethodName := ⟨RX1, "edges", "()I"⟩
abbrev cX1_add : ByteArray := prog_3_method_11_code
def yX1_add : MethodName := ⟨RX1, "add", "(I)I"⟩
abbrev cX1_joinAll : ByteArray := prog_3_method_12_code
def yX1_joinAll : MethodName := ⟨RX1, "joinAll", "(JJ)V"⟩
abbrev cX1_unjoin : ByteArray := prog_3_method_13_code
def yX1_unjoin : MethodName := ⟨RX1, "unjoin", "(II)V"⟩
abbrev cX1_clear : ByteArray := prog_3_method_14_code
def yX1_clear : MethodName := ⟨RX1, "clear", "()V"⟩
def RX2 : String := "PairBench$Order"
def TX2 : u_T := fun k => match k with
  | 0 => ("PairBench$Order", "things", "LPairBench$Graph;", true)
  | 1 => ("PairBench$Order", "links", "LPairBench$Pairing;", true)
  | 2 => ("PairBench$Order", "levels", "[I", true)
  | 3 => ("PairBench$Order", "chains", "[I", true)
  | 4 => ("PairBench$Order", "levelCount", "I", false)
  | _ => ("PairBench$Order", "known", "I", false)
def tyX2 : Nat → FieldType := fun k => match k with
  | 0 => .object "PairBench$Graph"
  | 1 => .object "PairBench$Pairing"
  | 2 => .array .int
  | 3 => .array .int
  | 4 => .int
  | _ => .int
abbrev wsX20 : List Cond := u_ws RX2 TX2 6
theorem nmX2 : ∀ a, a < 6 → ∀ b, b < 6 → a ≠ b → (TX2 a).2.1 ≠ (TX2 b).2.1 := by decide +kernel
theorem tyX2_ok : ∀ k, k < 6 → parseFieldDescriptor (TX2 k).2.2.1 = some (tyX2 k) := by decide +kernel
abbrev cX2_init : ByteArray := prog_4_method_1_code
def yX2_init : MethodName := ⟨RX2, "<init>", "(LPairBench$Graph;LPairBench$Pairing;)V"⟩
abbrev cX2_refresh : ByteArray := prog_4_method_2_code
def yX2_refresh : MethodName := ⟨RX2, "refresh", "()V"⟩
abbrev cX2_howManyLevels : ByteArray := prog_4_method_3_code
def yX2_howManyLevels : MethodName := ⟨RX2, "howManyLevels", "()I"⟩
abbrev cX2_levelOf : ByteArray := prog_4_method_4_code
def yX2_levelOf : MethodName := ⟨RX2, "levelOf", "(I)I"⟩
abbrev cX2_chainOf : ByteArray := prog_4_method_5_code
def yX2_chainOf : MethodName := ⟨RX2, "chainOf", "(I)I"⟩
abbrev cX2_isInAntichain : ByteArray := prog_4_method_6_code
def yX2_isInAntichain : MethodName := ⟨RX2, "isInAntichain", "(II)Z"⟩
abbrev cX2_findLevels : ByteArray := prog_4_method_7_code
def yX2_findLevels : MethodName := ⟨RX2, "findLevels", "()V"⟩
abbrev cX2_bottomOf : ByteArray := prog_4_method_8_code
def yX2_bottomOf : MethodName := ⟨RX2, "bottomOf", "(J)J"⟩
abbrev cX2_findChains : ByteArray := prog_4_method_9_code
def yX2_findChains : MethodName := ⟨RX2, "findChains", "()V"⟩
abbrev cX2_numberChain : ByteArray := prog_4_method_10_code
def yX2_numberChain : MethodName := ⟨RX2, "numberChain", "(II)V"⟩
def RX3 : String := "PairBench$Pairing"
def TX3 : u_T := fun k => match k with
  | 0 => ("PairBench$Pairing", "graph", "LPairBench$Graph;", true)
  | 1 => ("PairBench$Pairing", "mates", "[[I", true)
  | 2 => ("PairBench$Pairing", "paired", "[J", true)
  | 3 => ("PairBench$Pairing", "open", "[J", true)
  | 4 => ("PairBench$Pairing", "parts", "[[J", true)
  | 5 => ("PairBench$Pairing", "queue", "[I", true)
  | 6 => ("PairBench$Pairing", "cameFrom", "[I", true)
  | 7 => ("PairBench$Pairing", "pairs", "I", false)
  | _ => ("PairBench$Pairing", "known", "I", false)
def tyX3 : Nat → FieldType := fun k => match k with
  | 0 => .object "PairBench$Graph"
  | 1 => .array (.array .int)
  | 2 => .array .long
  | 3 => .array .long
  | 4 => .array (.array .long)
  | 5 => .array .int
  | 6 => .array .int
  | 7 => .int
  | _ => .int
abbrev wsX30 : List Cond := u_ws RX3 TX3 9
theorem nmX3 : ∀ a, a < 9 → ∀ b, b < 9 → a ≠ b → (TX3 a).2.1 ≠ (TX3 b).2.1 := by decide +kernel
theorem tyX3_ok : ∀ k, k < 9 → parseFieldDescriptor (TX3 k).2.2.1 = some (tyX3 k) := by decide +kernel
abbrev cX3_init : ByteArray := prog_5_method_1_code
def yX3_init : MethodName := ⟨RX3, "<init>", "(LPairBench$Graph;)V"⟩
abbrev cX3_refresh : ByteArray := prog_5_method_2_code
def yX3_refresh : MethodName := ⟨RX3, "refresh", "()V"⟩
abbrev cX3_pairs : ByteArray := prog_5_method_3_code
def yX3_pairs : MethodName := ⟨RX3, "pairs", "()I"⟩
abbrev cX3_mateOf : ByteArray := prog_5_method_4_code
def yX3_mateOf : MethodName := ⟨RX3, "mateOf", "(II)I"⟩
abbrev cX3_matesOf : ByteArray := prog_5_method_5_code
def yX3_matesOf : MethodName := ⟨RX3, "matesOf", "(IJ)J"⟩
abbrev cX3_nodesOfPart : ByteArray := prog_5_method_6_code
def yX3_nodesOfPart : MethodName := ⟨RX3, "nodesOfPart", "(II)J"⟩
abbrev cX3_partOf : ByteArray := prog_5_method_7_code
def yX3_partOf : MethodName := ⟨RX3, "partOf", "(II)I"⟩
abbrev cX3_nodesInPart : ByteArray := prog_5_method_8_code
def yX3_nodesInPart : MethodName := ⟨RX3, "nodesInPart", "(I)I"⟩
abbrev cX3_isInCover : ByteArray := prog_5_method_9_code
def yX3_isInCover : MethodName := ⟨RX3, "isInCover", "(III)Z"⟩
abbrev cX3_begin : ByteArray := prog_5_method_10_code
def yX3_begin : MethodName := ⟨RX3, "begin", "()V"⟩
abbrev cX3_openAll : ByteArray := prog_5_method_11_code
def yX3_openAll : MethodName := ⟨RX3, "openAll", "()V"⟩
abbrev cX3_bare : ByteArray := prog_5_method_12_code
def yX3_bare : MethodName := ⟨RX3, "bare", "(I)J"⟩
abbrev cX3_pair : ByteArray := prog_5_method_13_code
def yX3_pair : MethodName := ⟨RX3, "pair", "(II)V"⟩
abbrev cX3_loosen : ByteArray := prog_5_method_14_code
def yX3_loosen : MethodName := ⟨RX3, "loosen", "(II)V"⟩
abbrev cX3_lengthen : ByteArray := prog_5_method_15_code
def yX3_lengthen : MethodName := ⟨RX3, "lengthen", "()Z"⟩
abbrev cX3_pairAlongPath : ByteArray := prog_5_method_16_code
def yX3_pairAlongPath : MethodName := ⟨RX3, "pairAlongPath", "(I)V"⟩
abbrev cX3_reach : ByteArray := prog_5_method_17_code
def yX3_reach : MethodName := ⟨RX3, "reach", "(IJ)J"⟩
abbrev cX3_choicesOf : ByteArray := prog_5_method_18_code
def yX3_choicesOf : MethodName := ⟨RX3, "choicesOf", "(I)J"⟩
abbrev cX3_settle : ByteArray := prog_5_method_19_code
def yX3_settle : MethodName := ⟨RX3, "settle", "(IJ)V"⟩
abbrev cX3_findParts : ByteArray := prog_5_method_20_code
def yX3_findParts : MethodName := ⟨RX3, "findParts", "()V"⟩
def RX4 : String := "PairBench$Tally"
def TX4 : u_T := fun k => match k with
  | 0 => ("PairBench$Tally", "graph", "LPairBench$Graph;", true)
  | 1 => ("PairBench$Tally", "blocks", "LPairBench$Blocks;", true)
  | 2 => ("PairBench$Tally", "useful", "[J", true)
  | 3 => ("PairBench$Tally", "choices", "[I", true)
  | 4 => ("PairBench$Tally", "ways", "[J", false)
  | 5 => ("PairBench$Tally", "total", "J", false)
  | _ => ("PairBench$Tally", "known", "I", false)
def tyX4 : Nat → FieldType := fun k => match k with
  | 0 => .object "PairBench$Graph"
  | 1 => .object "PairBench$Blocks"
  | 2 => .array .long
  | 3 => .array .int
  | 4 => .array .long
  | 5 => .long
  | _ => .int
abbrev wsX40 : List Cond := u_ws RX4 TX4 7
theorem nmX4 : ∀ a, a < 7 → ∀ b, b < 7 → a ≠ b → (TX4 a).2.1 ≠ (TX4 b).2.1 := by decide +kernel
theorem tyX4_ok : ∀ k, k < 7 → parseFieldDescriptor (TX4 k).2.2.1 = some (tyX4 k) := by decide +kernel
abbrev cX4_init : ByteArray := prog_6_method_1_code
def yX4_init : MethodName := ⟨RX4, "<init>", "(LPairBench$Graph;LPairBench$Blocks;)V"⟩
abbrev cX4_refresh : ByteArray := prog_6_method_2_code
def yX4_refresh : MethodName := ⟨RX4, "refresh", "()V"⟩
abbrev cX4_total : ByteArray := prog_6_method_3_code
def yX4_total : MethodName := ⟨RX4, "total", "()J"⟩
abbrev cX4_lefts : ByteArray := prog_6_method_4_code
def yX4_lefts : MethodName := ⟨RX4, "lefts", "()I"⟩
abbrev cX4_pieceOf : ByteArray := prog_6_method_5_code
def yX4_pieceOf : MethodName := ⟨RX4, "pieceOf", "(I)J"⟩
abbrev cX4_waysToPair : ByteArray := prog_6_method_6_code
def yX4_waysToPair : MethodName := ⟨RX4, "waysToPair", "(J)J"⟩
abbrev cX4_setChoices : ByteArray := prog_6_method_7_code
def yX4_setChoices : MethodName := ⟨RX4, "setChoices", "(JJZ)V"⟩
abbrev cX4_waysToChoose : ByteArray := prog_6_method_8_code
def yX4_waysToChoose : MethodName := ⟨RX4, "waysToChoose", "(II)J"⟩
def RX5 : String := "PairBench"
def TX5 : u_T := fun k => match k with
  | 0 => ("PairBench", "graph", "LPairBench$Graph;", true)
  | 1 => ("PairBench", "pairing", "LPairBench$Pairing;", true)
  | 2 => ("PairBench", "blocks", "LPairBench$Blocks;", true)
  | 3 => ("PairBench", "tally", "LPairBench$Tally;", true)
  | 4 => ("PairBench", "things", "LPairBench$Graph;", true)
  | 5 => ("PairBench", "links", "LPairBench$Pairing;", true)
  | _ => ("PairBench", "order", "LPairBench$Order;", true)
def tyX5 : Nat → FieldType := fun k => match k with
  | 0 => .object "PairBench$Graph"
  | 1 => .object "PairBench$Pairing"
  | 2 => .object "PairBench$Blocks"
  | 3 => .object "PairBench$Tally"
  | 4 => .object "PairBench$Graph"
  | 5 => .object "PairBench$Pairing"
  | _ => .object "PairBench$Order"
abbrev wsX50 : List Cond := u_ws RX5 TX5 7
theorem nmX5 : ∀ a, a < 7 → ∀ b, b < 7 → a ≠ b → (TX5 a).2.1 ≠ (TX5 b).2.1 := by decide +kernel
theorem tyX5_ok : ∀ k, k < 7 → parseFieldDescriptor (TX5 k).2.2.1 = some (tyX5 k) := by decide +kernel
abbrev cX5_init : ByteArray := prog_1_method_1_code
def yX5_init : MethodName := ⟨RX5, "<init>", "()V"⟩
abbrev cX5_node : ByteArray := prog_1_method_2_code
def yX5_node : MethodName := ⟨RX5, "node", "(I)I"⟩
abbrev cX5_edge : ByteArray := prog_1_method_3_code
def yX5_edge : MethodName := ⟨RX5, "edge", "(IIZ)I"⟩
abbrev cX5_count : ByteArray := prog_1_method_4_code
def yX5_count : MethodName := ⟨RX5, "count", "(I)I"⟩
abbrev cX5_countFindings : ByteArray := prog_1_method_5_code
def yX5_countFindings : MethodName := ⟨RX5, "countFindings", "(I)I"⟩
abbrev cX5_has : ByteArray := prog_1_method_6_code
def yX5_has : MethodName := ⟨RX5, "has", "(II)Z"⟩
abbrev cX5_partner : ByteArray := prog_1_method_7_code
def yX5_partner : MethodName := ⟨RX5, "partner", "(II)I"⟩
abbrev cX5_edgeIs : ByteArray := prog_1_method_8_code
def yX5_edgeIs : MethodName := ⟨RX5, "edgeIs", "(II)I"⟩
abbrev cX5_nodeIs : ByteArray := prog_1_method_9_code
def yX5_nodeIs : MethodName := ⟨RX5, "nodeIs", "(II)I"⟩
abbrev cX5_cover : ByteArray := prog_1_method_10_code
def yX5_cover : MethodName := ⟨RX5, "cover", "(III)I"⟩
abbrev cX5_hall : ByteArray := prog_1_method_11_code
def yX5_hall : MethodName := ⟨RX5, "hall", "(II)I"⟩
abbrev cX5_part : ByteArray := prog_1_method_12_code
def yX5_part : MethodName := ⟨RX5, "part", "(II)I"⟩
abbrev cX5_block : ByteArray := prog_1_method_13_code
def yX5_block : MethodName := ⟨RX5, "block", "(II)I"⟩
abbrev cX5_leads : ByteArray := prog_1_method_14_code
def yX5_leads : MethodName := ⟨RX5, "leads", "(II)I"⟩
abbrev cX5_pairings : ByteArray := prog_1_method_15_code
def yX5_pairings : MethodName := ⟨RX5, "pairings", "()J"⟩
abbrev cX5_thing : ByteArray := prog_1_method_16_code
def yX5_thing : MethodName := ⟨RX5, "thing", "()I"⟩
abbrev cX5_tell : ByteArray := prog_1_method_17_code
def yX5_tell : MethodName := ⟨RX5, "tell", "(II)I"⟩
abbrev cX5_below : ByteArray := prog_1_method_18_code
def yX5_below : MethodName := ⟨RX5, "below", "(II)Z"⟩
abbrev cX5_about : ByteArray := prog_1_method_19_code
def yX5_about : MethodName := ⟨RX5, "about", "(II)I"⟩
abbrev cX5_clearGraph : ByteArray := prog_1_method_20_code
def yX5_clearGraph : MethodName := ⟨RX5, "clearGraph", "()I"⟩
abbrev cX5_clearThings : ByteArray := prog_1_method_21_code
def yX5_clearThings : MethodName := ⟨RX5, "clearThings", "()I"⟩
abbrev cX5_isOneOfTwo : ByteArray := prog_1_method_22_code
def yX5_isOneOfTwo : MethodName := ⟨RX5, "isOneOfTwo", "(I)Z"⟩
abbrev cX5_contains : ByteArray := prog_1_method_23_code
def yX5_contains : MethodName := ⟨RX5, "contains", "(JI)Z"⟩
abbrev cX5_lowest : ByteArray := prog_1_method_24_code
def yX5_lowest : MethodName := ⟨RX5, "lowest", "(J)I"⟩
def RX6 : String := "PairBenchModel"
def TX6 : u_T := fun k => match k with
  | 0 => ("PairBenchModel", "lefts", "I", false)
  | 1 => ("PairBenchModel", "rights", "I", false)
  | 2 => ("PairBenchModel", "graph", "[Z", true)
  | 3 => ("PairBenchModel", "fresh", "Z", false)
  | 4 => ("PairBenchModel", "size", "I", false)
  | 5 => ("PairBenchModel", "best", "[I", true)
  | 6 => ("PairBenchModel", "bestRight", "[I", true)
  | 7 => ("PairBenchModel", "missesLeft", "[Z", true)
  | 8 => ("PairBenchModel", "missesRight", "[Z", true)
  | 9 => ("PairBenchModel", "partLeft", "[I", true)
  | 10 => ("PairBenchModel", "partRight", "[I", true)
  | 11 => ("PairBenchModel", "blockLeft", "[I", true)
  | 12 => ("PairBenchModel", "comes", "[Z", true)
  | 13 => ("PairBenchModel", "blocks", "I", false)
  | 14 => ("PairBenchModel", "counted", "Z", false)
  | 15 => ("PairBenchModel", "pairings", "J", false)
  | 16 => ("PairBenchModel", "ways", "[J", true)
  | 17 => ("PairBenchModel", "things", "I", false)
  | 18 => ("PairBenchModel", "under", "[Z", true)
  | 19 => ("PairBenchModel", "freshThings", "Z", false)
  | 20 => ("PairBenchModel", "width", "I", false)
  | 21 => ("PairBenchModel", "nextThing", "[I", true)
  | 22 => ("PairBenchModel", "chain", "[I", true)
  | 23 => ("PairBenchModel", "level", "[I", true)
  | 24 => ("PairBenchModel", "lowest", "[Z", true)
  | 25 => ("PairBenchModel", "highest", "[Z", true)
  | 26 => ("PairBenchModel", "marks", "[Z", true)
  | 27 => ("PairBenchModel", "edges", "[Z", true)
  | 28 => ("PairBenchModel", "n", "I", false)
  | 29 => ("PairBenchModel", "m", "I", false)
  | 30 => ("PairBenchModel", "outLeft", "[Z", true)
  | 31 => ("PairBenchModel", "outRight", "[Z", true)
  | 32 => ("PairBenchModel", "pairLeft", "[I", true)
  | 33 => ("PairBenchModel", "pairRight", "[I", true)
  | 34 => ("PairBenchModel", "keptLeft", "[I", true)
  | 35 => ("PairBenchModel", "keptRight", "[I", true)
  | 36 => ("PairBenchModel", "queue", "[I", true)
  | 37 => ("PairBenchModel", "cameFrom", "[I", true)
  | _ => ("PairBenchModel", "queued", "I", false)
def tyX6 : Nat → FieldType := fun k => match k with
  | 0 => .int
  | 1 => .int
  | 2 => .array .boolean
  | 3 => .boolean
  | 4 => .int
  | 5 => .array .int
  | 6 => .array .int
  | 7 => .array .boolean
  | 8 => .array .boolean
  | 9 => .array .int
  | 10 => .array .int
  | 11 => .array .int
  | 12 => .array .boolean
  | 13 => .int
  | 14 => .boolean
  | 15 => .long
  | 16 => .array .long
  | 17 => .int
  | 18 => .array .boolean
  | 19 => .boolean
  | 20 => .int
  | 21 => .array .int
  | 22 => .array .int
  | 23 => .array .int
  | 24 => .array .boolean
  | 25 => .array .boolean
  | 26 => .array .boolean
  | 27 => .array .boolean
  | 28 => .int
  | 29 => .int
  | 30 => .array .boolean
  | 31 => .array .boolean
  | 32 => .array .int
  | 33 => .array .int
  | 34 => .array .int
  | 35 => .array .int
  | 36 => .array .int
  | 37 => .array .int
  | _ => .int
abbrev wsX60 : List Cond := u_ws RX6 TX6 39
theorem nmX6 : ∀ a, a < 39 → ∀ b, b < 39 → a ≠ b → (TX6 a).2.1 ≠ (TX6 b).2.1 := by decide +kernel
theorem tyX6_ok : ∀ k, k < 39 → parseFieldDescriptor (TX6 k).2.2.1 = some (tyX6 k) := by decide +kernel
abbrev cX6_init : ByteArray := prog_8_method_1_code
def yX6_init : MethodName := ⟨RX6, "<init>", "()V"⟩
abbrev cX6_use : ByteArray := prog_8_method_2_code
def yX6_use : MethodName := ⟨RX6, "use", "([ZII)V"⟩
abbrev cX6_begin : ByteArray := prog_8_method_3_code
def yX6_begin : MethodName := ⟨RX6, "begin", "()V"⟩
abbrev cX6_flip : ByteArray := prog_8_method_4_code
def yX6_flip : MethodName := ⟨RX6, "flip", "(I)V"⟩
abbrev cX6_grow : ByteArray := prog_8_method_5_code
def yX6_grow : MethodName := ⟨RX6, "grow", "()Z"⟩
abbrev cX6_growAll : ByteArray := prog_8_method_6_code
def yX6_growAll : MethodName := ⟨RX6, "growAll", "()I"⟩
abbrev cX6_keep : ByteArray := prog_8_method_7_code
def yX6_keep : MethodName := ⟨RX6, "keep", "()V"⟩
abbrev cX6_putBack : ByteArray := prog_8_method_8_code
def yX6_putBack : MethodName := ⟨RX6, "putBack", "()V"⟩
abbrev cX6_canMiss : ByteArray := prog_8_method_9_code
def yX6_canMiss : MethodName := ⟨RX6, "canMiss", "(ZI)Z"⟩
abbrev cX6_force : ByteArray := prog_8_method_10_code
def yX6_force : MethodName := ⟨RX6, "force", "(II)Z"⟩
abbrev cX6_improve : ByteArray := prog_8_method_11_code
def yX6_improve : MethodName := ⟨RX6, "improve", "()V"⟩
abbrev cX6_work : ByteArray := prog_8_method_12_code
def yX6_work : MethodName := ⟨RX6, "work", "()V"⟩
abbrev cX6_parts : ByteArray := prog_8_method_13_code
def yX6_parts : MethodName := ⟨RX6, "parts", "()V"⟩
abbrev cX6_blocks : ByteArray := prog_8_method_14_code
def yX6_blocks : MethodName := ⟨RX6, "blocks", "()V"⟩
abbrev cX6_isNode : ByteArray := prog_8_method_15_code
def yX6_isNode : MethodName := ⟨RX6, "isNode", "(II)Z"⟩
abbrev cX6_node : ByteArray := prog_8_method_16_code
def yX6_node : MethodName := ⟨RX6, "node", "(I)I"⟩
abbrev cX6_edge : ByteArray := prog_8_method_17_code
def yX6_edge : MethodName := ⟨RX6, "edge", "(IIZ)I"⟩
abbrev cX6_edgesMany : ByteArray := prog_8_method_18_code
def yX6_edgesMany : MethodName := ⟨RX6, "edgesMany", "()I"⟩
abbrev cX6_inPart : ByteArray := prog_8_method_19_code
def yX6_inPart : MethodName := ⟨RX6, "inPart", "(I)I"⟩
abbrev cX6_count : ByteArray := prog_8_method_20_code
def yX6_count : MethodName := ⟨RX6, "count", "(I)I"⟩
abbrev cX6_has : ByteArray := prog_8_method_21_code
def yX6_has : MethodName := ⟨RX6, "has", "(II)Z"⟩
abbrev cX6_partner : ByteArray := prog_8_method_22_code
def yX6_partner : MethodName := ⟨RX6, "partner", "(II)I"⟩
abbrev cX6_edgeIs : ByteArray := prog_8_method_23_code
def yX6_edgeIs : MethodName := ⟨RX6, "edgeIs", "(II)I"⟩
abbrev cX6_nodeIs : ByteArray := prog_8_method_24_code
def yX6_nodeIs : MethodName := ⟨RX6, "nodeIs", "(II)I"⟩
abbrev cX6_meetsMissed : ByteArray := prog_8_method_25_code
def yX6_meetsMissed : MethodName := ⟨RX6, "meetsMissed", "(II)Z"⟩
abbrev cX6_covers : ByteArray := prog_8_method_26_code
def yX6_covers : MethodName := ⟨RX6, "covers", "(III)Z"⟩
abbrev cX6_cover : ByteArray := prog_8_method_27_code
def yX6_cover : MethodName := ⟨RX6, "cover", "(III)I"⟩
abbrev cX6_hall : ByteArray := prog_8_method_28_code
def yX6_hall : MethodName := ⟨RX6, "hall", "(II)I"⟩
abbrev cX6_part : ByteArray := prog_8_method_29_code
def yX6_part : MethodName := ⟨RX6, "part", "(II)I"⟩
abbrev cX6_block : ByteArray := prog_8_method_30_code
def yX6_block : MethodName := ⟨RX6, "block", "(II)I"⟩
abbrev cX6_leads : ByteArray := prog_8_method_31_code
def yX6_leads : MethodName := ⟨RX6, "leads", "(II)I"⟩
abbrev cX6_bits : ByteArray := prog_8_method_32_code
def yX6_bits : MethodName := ⟨RX6, "bits", "(I)I"⟩
abbrev cX6_pairings : ByteArray := prog_8_method_33_code
def yX6_pairings : MethodName := ⟨RX6, "pairings", "()J"⟩
abbrev cX6_thing : ByteArray := prog_8_method_34_code
def yX6_thing : MethodName := ⟨RX6, "thing", "()I"⟩
abbrev cX6_tell : ByteArray := prog_8_method_35_code
def yX6_tell : MethodName := ⟨RX6, "tell", "(II)I"⟩
abbrev cX6_below : ByteArray := prog_8_method_36_code
def yX6_below : MethodName := ⟨RX6, "below", "(II)Z"⟩
abbrev cX6_widthBeside : ByteArray := prog_8_method_37_code
def yX6_widthBeside : MethodName := ⟨RX6, "widthBeside", "(I)I"⟩
abbrev cX6_workThings : ByteArray := prog_8_method_38_code
def yX6_workThings : MethodName := ⟨RX6, "workThings", "()V"⟩
abbrev cX6_levels : ByteArray := prog_8_method_39_code
def yX6_levels : MethodName := ⟨RX6, "levels", "()V"⟩
abbrev cX6_ends : ByteArray := prog_8_method_40_code
def yX6_ends : MethodName := ⟨RX6, "ends", "()V"⟩
abbrev cX6_about : ByteArray := prog_8_method_41_code
def yX6_about : MethodName := ⟨RX6, "about", "(II)I"⟩
abbrev cX6_clearGraph : ByteArray := prog_8_method_42_code
def yX6_clearGraph : MethodName := ⟨RX6, "clearGraph", "()I"⟩
abbrev cX6_clearThings : ByteArray := prog_8_method_43_code
def yX6_clearThings : MethodName := ⟨RX6, "clearThings", "()I"⟩
def RJ6 : String := "java/lang/Integer"
def TJ6 : u_T := fun k => match k with
  | _ => ("", "", "", false)
def tyJ6 : Nat → FieldType := fun k => match k with
  | _ => .int
abbrev cJ6_bitCount_0f7a4 : ByteArray := prog_9_method_49_code
def yJ6_bitCount_0f7a4 : MethodName := ⟨RJ6, "bitCount", "(I)I"⟩
def RJ13 : String := "java/lang/Long"
def TJ13 : u_T := fun k => match k with
  | _ => ("", "", "", false)
def tyJ13 : Nat → FieldType := fun k => match k with
  | _ => .int
abbrev cJ13_bitCount_95d88 : ByteArray := prog_10_method_50_code
def yJ13_bitCount_95d88 : MethodName := ⟨RJ13, "bitCount", "(J)I"⟩
def RJ9 : String := "java/lang/Math"
def TJ9 : u_T := fun k => match k with
  | _ => ("", "", "", false)
def tyJ9 : Nat → FieldType := fun k => match k with
  | _ => .int
abbrev cJ9_min_7cf53 : ByteArray := prog_11_method_69_code
def yJ9_min_7cf53 : MethodName := ⟨RJ9, "min", "(II)I"⟩
def RJ7 : String := "java/util/Arrays"
def TJ7 : u_T := fun k => match k with
  | _ => ("", "", "", false)
def tyJ7 : Nat → FieldType := fun k => match k with
  | _ => .int
abbrev cJ7_fill_d0a16 : ByteArray := prog_12_method_101_code
def yJ7_fill_d0a16 : MethodName := ⟨RJ7, "fill", "([JJ)V"⟩
abbrev cJ7_fill_53178 : ByteArray := prog_12_method_103_code
def yJ7_fill_53178 : MethodName := ⟨RJ7, "fill", "([II)V"⟩
def RL : String := "PairBenchLaw"
abbrev cL_law : ByteArray := code
def yL_law : MethodName := ⟨RL, "law", "([I)Z"⟩
abbrev vwCl : List vw_C := [(RX0, TX0, 8), (RX1, TX1, 4), (RX2, TX2, 6), (RX3, TX3, 9), (RX4, TX4, 7), (RX5, TX5, 7), (RX6, TX6, 39)]
