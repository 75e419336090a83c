section
-- ===== PART A: goes FIRST, ahead of the names: the tables' words, and 'selects' of the private methods out of them =====
/-- a private method of a class that the tables say can be made, by its rows of tables_1 -/
def lw_okq (q : MethodName × Nat) : Prop := (q.1.cls ≠ "java/lang/invoke/MethodHandle" ∧ q.1.cls ≠ "java/lang/invoke/VarHandle") ∧ Cond.instantiable q.1.cls q.2 ∈ tables_1 ∧ Cond.privateMethod q.1 ∈ tables_1 ∧ Cond.instanceMethod q.1 ∈ tables_1
theorem lw_p0 : lw_okq (⟨"PairBench$Pairing", "begin", "()V"⟩, 9) := ⟨⟨by decide +kernel, by decide +kernel⟩, List.mem_of_getElem? (i := 44) (by decide +kernel), List.mem_of_getElem? (i := 250) (by decide +kernel), List.mem_of_getElem? (i := 251) (by decide +kernel)⟩
theorem lw_p1 : lw_okq (⟨"PairBench$Pairing", "openAll", "()V"⟩, 9) := ⟨⟨by decide +kernel, by decide +kernel⟩, List.mem_of_getElem? (i := 44) (by decide +kernel), List.mem_of_getElem? (i := 257) (by decide +kernel), List.mem_of_getElem? (i := 258) (by decide +kernel)⟩
theorem lw_p2 : lw_okq (⟨"PairBench$Pairing", "lengthen", "()Z"⟩, 9) := ⟨⟨by decide +kernel, by decide +kernel⟩, List.mem_of_getElem? (i := 44) (by decide +kernel), List.mem_of_getElem? (i := 265) (by decide +kernel), List.mem_of_getElem? (i := 266) (by decide +kernel)⟩
theorem lw_p3 : lw_okq (⟨"PairBench$Pairing", "bare", "(I)J"⟩, 9) := ⟨⟨by decide +kernel, by decide +kernel⟩, List.mem_of_getElem? (i := 44) (by decide +kernel), List.mem_of_getElem? (i := 269) (by decide +kernel), List.mem_of_getElem? (i := 270) (by decide +kernel)⟩
theorem lw_p4 : lw_okq (⟨"PairBench$Pairing", "pairAlongPath", "(I)V"⟩, 9) := ⟨⟨by decide +kernel, by decide +kernel⟩, List.mem_of_getElem? (i := 44) (by decide +kernel), List.mem_of_getElem? (i := 285) (by decide +kernel), List.mem_of_getElem? (i := 286) (by decide +kernel)⟩
theorem lw_p5 : lw_okq (⟨"PairBench$Pairing", "pair", "(II)V"⟩, 9) := ⟨⟨by decide +kernel, by decide +kernel⟩, List.mem_of_getElem? (i := 44) (by decide +kernel), List.mem_of_getElem? (i := 289) (by decide +kernel), List.mem_of_getElem? (i := 290) (by decide +kernel)⟩
theorem lw_p6 : lw_okq (⟨"PairBench$Pairing", "choicesOf", "(I)J"⟩, 9) := ⟨⟨by decide +kernel, by decide +kernel⟩, List.mem_of_getElem? (i := 44) (by decide +kernel), List.mem_of_getElem? (i := 293) (by decide +kernel), List.mem_of_getElem? (i := 294) (by decide +kernel)⟩
theorem lw_p7 : lw_okq (⟨"PairBench$Pairing", "reach", "(IJ)J"⟩, 9) := ⟨⟨by decide +kernel, by decide +kernel⟩, List.mem_of_getElem? (i := 44) (by decide +kernel), List.mem_of_getElem? (i := 297) (by decide +kernel), List.mem_of_getElem? (i := 298) (by decide +kernel)⟩
theorem lw_p8 : lw_okq (⟨"PairBench$Pairing", "settle", "(IJ)V"⟩, 9) := ⟨⟨by decide +kernel, by decide +kernel⟩, List.mem_of_getElem? (i := 44) (by decide +kernel), List.mem_of_getElem? (i := 310) (by decide +kernel), List.mem_of_getElem? (i := 311) (by decide +kernel)⟩
theorem lw_p9 : lw_okq (⟨"PairBench$Pairing", "loosen", "(II)V"⟩, 9) := ⟨⟨by decide +kernel, by decide +kernel⟩, List.mem_of_getElem? (i := 44) (by decide +kernel), List.mem_of_getElem? (i := 314) (by decide +kernel), List.mem_of_getElem? (i := 315) (by decide +kernel)⟩
theorem lw_p10 : lw_okq (⟨"PairBench$Pairing", "findParts", "()V"⟩, 9) := ⟨⟨by decide +kernel, by decide +kernel⟩, List.mem_of_getElem? (i := 44) (by decide +kernel), List.mem_of_getElem? (i := 318) (by decide +kernel), List.mem_of_getElem? (i := 319) (by decide +kernel)⟩
theorem lw_p11 : lw_okq (⟨"PairBench$Order", "findLevels", "()V"⟩, 6) := ⟨⟨by decide +kernel, by decide +kernel⟩, List.mem_of_getElem? (i := 141) (by decide +kernel), List.mem_of_getElem? (i := 327) (by decide +kernel), List.mem_of_getElem? (i := 328) (by decide +kernel)⟩
theorem lw_p12 : lw_okq (⟨"PairBench$Order", "bottomOf", "(J)J"⟩, 6) := ⟨⟨by decide +kernel, by decide +kernel⟩, List.mem_of_getElem? (i := 141) (by decide +kernel), List.mem_of_getElem? (i := 332) (by decide +kernel), List.mem_of_getElem? (i := 333) (by decide +kernel)⟩
theorem lw_p13 : lw_okq (⟨"PairBench$Order", "findChains", "()V"⟩, 6) := ⟨⟨by decide +kernel, by decide +kernel⟩, List.mem_of_getElem? (i := 141) (by decide +kernel), List.mem_of_getElem? (i := 340) (by decide +kernel), List.mem_of_getElem? (i := 341) (by decide +kernel)⟩
theorem lw_p14 : lw_okq (⟨"PairBench$Order", "numberChain", "(II)V"⟩, 6) := ⟨⟨by decide +kernel, by decide +kernel⟩, List.mem_of_getElem? (i := 141) (by decide +kernel), List.mem_of_getElem? (i := 349) (by decide +kernel), List.mem_of_getElem? (i := 350) (by decide +kernel)⟩
theorem lw_p15 : lw_okq (⟨"PairBench$Blocks", "findReached", "()V"⟩, 7) := ⟨⟨by decide +kernel, by decide +kernel⟩, List.mem_of_getElem? (i := 85) (by decide +kernel), List.mem_of_getElem? (i := 367) (by decide +kernel), List.mem_of_getElem? (i := 368) (by decide +kernel)⟩
def lw_privs_1 : List (MethodName × Nat) := [(⟨"PairBench$Pairing", "begin", "()V"⟩, 9), (⟨"PairBench$Pairing", "openAll", "()V"⟩, 9), (⟨"PairBench$Pairing", "lengthen", "()Z"⟩, 9), (⟨"PairBench$Pairing", "bare", "(I)J"⟩, 9), (⟨"PairBench$Pairing", "pairAlongPath", "(I)V"⟩, 9), (⟨"PairBench$Pairing", "pair", "(II)V"⟩, 9), (⟨"PairBench$Pairing", "choicesOf", "(I)J"⟩, 9), (⟨"PairBench$Pairing", "reach", "(IJ)J"⟩, 9), (⟨"PairBench$Pairing", "settle", "(IJ)V"⟩, 9), (⟨"PairBench$Pairing", "loosen", "(II)V"⟩, 9), (⟨"PairBench$Pairing", "findParts", "()V"⟩, 9), (⟨"PairBench$Order", "findLevels", "()V"⟩, 6), (⟨"PairBench$Order", "bottomOf", "(J)J"⟩, 6), (⟨"PairBench$Order", "findChains", "()V"⟩, 6), (⟨"PairBench$Order", "numberChain", "(II)V"⟩, 6), (⟨"PairBench$Blocks", "findReached", "()V"⟩, 7)]
theorem lw_r1 : ∀ q ∈ lw_privs_1, lw_okq q := List.forall_mem_cons.mpr ⟨lw_p0, List.forall_mem_cons.mpr ⟨lw_p1, List.forall_mem_cons.mpr ⟨lw_p2, List.forall_mem_cons.mpr ⟨lw_p3, List.forall_mem_cons.mpr ⟨lw_p4, List.forall_mem_cons.mpr ⟨lw_p5, List.forall_mem_cons.mpr ⟨lw_p6, List.forall_mem_cons.mpr ⟨lw_p7, List.forall_mem_cons.mpr ⟨lw_p8, List.forall_mem_cons.mpr ⟨lw_p9, List.forall_mem_cons.mpr ⟨lw_p10, List.forall_mem_cons.mpr ⟨lw_p11, List.forall_mem_cons.mpr ⟨lw_p12, List.forall_mem_cons.mpr ⟨lw_p13, List.forall_mem_cons.mpr ⟨lw_p14, List.forall_mem_cons.mpr ⟨lw_p15, fun _ h => absurd h List.not_mem_nil⟩⟩⟩⟩⟩⟩⟩⟩⟩⟩⟩⟩⟩⟩⟩⟩
theorem lw_p16 : lw_okq (⟨"PairBench$Blocks", "numberAll", "()V"⟩, 7) := ⟨⟨by decide +kernel, by decide +kernel⟩, List.mem_of_getElem? (i := 85) (by decide +kernel), List.mem_of_getElem? (i := 379) (by decide +kernel), List.mem_of_getElem? (i := 380) (by decide +kernel)⟩
theorem lw_p17 : lw_okq (⟨"PairBench$Blocks", "gather", "(I)J"⟩, 7) := ⟨⟨by decide +kernel, by decide +kernel⟩, List.mem_of_getElem? (i := 85) (by decide +kernel), List.mem_of_getElem? (i := 384) (by decide +kernel), List.mem_of_getElem? (i := 385) (by decide +kernel)⟩
theorem lw_p18 : lw_okq (⟨"PairBench", "countFindings", "(I)I"⟩, 7) := ⟨⟨by decide +kernel, by decide +kernel⟩, List.mem_of_getElem? (i := 13) (by decide +kernel), List.mem_of_getElem? (i := 388) (by decide +kernel), List.mem_of_getElem? (i := 389) (by decide +kernel)⟩
theorem lw_p19 : lw_okq (⟨"PairBench$Tally", "lefts", "()I"⟩, 7) := ⟨⟨by decide +kernel, by decide +kernel⟩, List.mem_of_getElem? (i := 113) (by decide +kernel), List.mem_of_getElem? (i := 485) (by decide +kernel), List.mem_of_getElem? (i := 486) (by decide +kernel)⟩
theorem lw_p20 : lw_okq (⟨"PairBench$Tally", "pieceOf", "(I)J"⟩, 7) := ⟨⟨by decide +kernel, by decide +kernel⟩, List.mem_of_getElem? (i := 113) (by decide +kernel), List.mem_of_getElem? (i := 496) (by decide +kernel), List.mem_of_getElem? (i := 497) (by decide +kernel)⟩
theorem lw_p21 : lw_okq (⟨"PairBench$Tally", "waysToPair", "(J)J"⟩, 7) := ⟨⟨by decide +kernel, by decide +kernel⟩, List.mem_of_getElem? (i := 113) (by decide +kernel), List.mem_of_getElem? (i := 501) (by decide +kernel), List.mem_of_getElem? (i := 502) (by decide +kernel)⟩
theorem lw_p22 : lw_okq (⟨"PairBench$Tally", "setChoices", "(JJZ)V"⟩, 7) := ⟨⟨by decide +kernel, by decide +kernel⟩, List.mem_of_getElem? (i := 113) (by decide +kernel), List.mem_of_getElem? (i := 506) (by decide +kernel), List.mem_of_getElem? (i := 507) (by decide +kernel)⟩
theorem lw_p23 : lw_okq (⟨"PairBench$Tally", "waysToChoose", "(II)J"⟩, 7) := ⟨⟨by decide +kernel, by decide +kernel⟩, List.mem_of_getElem? (i := 113) (by decide +kernel), List.mem_of_getElem? (i := 511) (by decide +kernel), List.mem_of_getElem? (i := 512) (by decide +kernel)⟩
theorem lw_p24 : lw_okq (⟨"PairBenchModel", "isNode", "(II)Z"⟩, 39) := ⟨⟨by decide +kernel, by decide +kernel⟩, List.mem_of_getElem? (i := 570) (by decide +kernel), List.mem_of_getElem? (i := 704) (by decide +kernel), List.mem_of_getElem? (i := 705) (by decide +kernel)⟩
theorem lw_p25 : lw_okq (⟨"PairBenchModel", "workThings", "()V"⟩, 39) := ⟨⟨by decide +kernel, by decide +kernel⟩, List.mem_of_getElem? (i := 570) (by decide +kernel), List.mem_of_getElem? (i := 712) (by decide +kernel), List.mem_of_getElem? (i := 713) (by decide +kernel)⟩
theorem lw_p26 : lw_okq (⟨"PairBenchModel", "widthBeside", "(I)I"⟩, 39) := ⟨⟨by decide +kernel, by decide +kernel⟩, List.mem_of_getElem? (i := 570) (by decide +kernel), List.mem_of_getElem? (i := 716) (by decide +kernel), List.mem_of_getElem? (i := 717) (by decide +kernel)⟩
theorem lw_p27 : lw_okq (⟨"PairBenchModel", "use", "([ZII)V"⟩, 39) := ⟨⟨by decide +kernel, by decide +kernel⟩, List.mem_of_getElem? (i := 570) (by decide +kernel), List.mem_of_getElem? (i := 720) (by decide +kernel), List.mem_of_getElem? (i := 721) (by decide +kernel)⟩
theorem lw_p28 : lw_okq (⟨"PairBenchModel", "growAll", "()I"⟩, 39) := ⟨⟨by decide +kernel, by decide +kernel⟩, List.mem_of_getElem? (i := 570) (by decide +kernel), List.mem_of_getElem? (i := 724) (by decide +kernel), List.mem_of_getElem? (i := 725) (by decide +kernel)⟩
theorem lw_p29 : lw_okq (⟨"PairBenchModel", "grow", "()Z"⟩, 39) := ⟨⟨by decide +kernel, by decide +kernel⟩, List.mem_of_getElem? (i := 570) (by decide +kernel), List.mem_of_getElem? (i := 728) (by decide +kernel), List.mem_of_getElem? (i := 729) (by decide +kernel)⟩
theorem lw_p30 : lw_okq (⟨"PairBenchModel", "begin", "()V"⟩, 39) := ⟨⟨by decide +kernel, by decide +kernel⟩, List.mem_of_getElem? (i := 570) (by decide +kernel), List.mem_of_getElem? (i := 732) (by decide +kernel), List.mem_of_getElem? (i := 733) (by decide +kernel)⟩
theorem lw_p31 : lw_okq (⟨"PairBenchModel", "flip", "(I)V"⟩, 39) := ⟨⟨by decide +kernel, by decide +kernel⟩, List.mem_of_getElem? (i := 570) (by decide +kernel), List.mem_of_getElem? (i := 736) (by decide +kernel), List.mem_of_getElem? (i := 737) (by decide +kernel)⟩
def lw_privs_2 : List (MethodName × Nat) := [(⟨"PairBench$Blocks", "numberAll", "()V"⟩, 7), (⟨"PairBench$Blocks", "gather", "(I)J"⟩, 7), (⟨"PairBench", "countFindings", "(I)I"⟩, 7), (⟨"PairBench$Tally", "lefts", "()I"⟩, 7), (⟨"PairBench$Tally", "pieceOf", "(I)J"⟩, 7), (⟨"PairBench$Tally", "waysToPair", "(J)J"⟩, 7), (⟨"PairBench$Tally", "setChoices", "(JJZ)V"⟩, 7), (⟨"PairBench$Tally", "waysToChoose", "(II)J"⟩, 7), (⟨"PairBenchModel", "isNode", "(II)Z"⟩, 39), (⟨"PairBenchModel", "workThings", "()V"⟩, 39), (⟨"PairBenchModel", "widthBeside", "(I)I"⟩, 39), (⟨"PairBenchModel", "use", "([ZII)V"⟩, 39), (⟨"PairBenchModel", "growAll", "()I"⟩, 39), (⟨"PairBenchModel", "grow", "()Z"⟩, 39), (⟨"PairBenchModel", "begin", "()V"⟩, 39), (⟨"PairBenchModel", "flip", "(I)V"⟩, 39)]
theorem lw_r2 : ∀ q ∈ lw_privs_2, lw_okq q := List.forall_mem_cons.mpr ⟨lw_p16, List.forall_mem_cons.mpr ⟨lw_p17, List.forall_mem_cons.mpr ⟨lw_p18, List.forall_mem_cons.mpr ⟨lw_p19, List.forall_mem_cons.mpr ⟨lw_p20, List.forall_mem_cons.mpr ⟨lw_p21, List.forall_mem_cons.mpr ⟨lw_p22, List.forall_mem_cons.mpr ⟨lw_p23, List.forall_mem_cons.mpr ⟨lw_p24, List.forall_mem_cons.mpr ⟨lw_p25, List.forall_mem_cons.mpr ⟨lw_p26, List.forall_mem_cons.mpr ⟨lw_p27, List.forall_mem_cons.mpr ⟨lw_p28, List.forall_mem_cons.mpr ⟨lw_p29, List.forall_mem_cons.mpr ⟨lw_p30, List.forall_mem_cons.mpr ⟨lw_p31, fun _ h => absurd h List.not_mem_nil⟩⟩⟩⟩⟩⟩⟩⟩⟩⟩⟩⟩⟩⟩⟩⟩
theorem lw_p32 : lw_okq (⟨"PairBenchModel", "improve", "()V"⟩, 39) := ⟨⟨by decide +kernel, by decide +kernel⟩, List.mem_of_getElem? (i := 570) (by decide +kernel), List.mem_of_getElem? (i := 740) (by decide +kernel), List.mem_of_getElem? (i := 741) (by decide +kernel)⟩
theorem lw_p33 : lw_okq (⟨"PairBenchModel", "force", "(II)Z"⟩, 39) := ⟨⟨by decide +kernel, by decide +kernel⟩, List.mem_of_getElem? (i := 570) (by decide +kernel), List.mem_of_getElem? (i := 744) (by decide +kernel), List.mem_of_getElem? (i := 745) (by decide +kernel)⟩
theorem lw_p34 : lw_okq (⟨"PairBenchModel", "keep", "()V"⟩, 39) := ⟨⟨by decide +kernel, by decide +kernel⟩, List.mem_of_getElem? (i := 570) (by decide +kernel), List.mem_of_getElem? (i := 748) (by decide +kernel), List.mem_of_getElem? (i := 749) (by decide +kernel)⟩
theorem lw_p35 : lw_okq (⟨"PairBenchModel", "putBack", "()V"⟩, 39) := ⟨⟨by decide +kernel, by decide +kernel⟩, List.mem_of_getElem? (i := 570) (by decide +kernel), List.mem_of_getElem? (i := 752) (by decide +kernel), List.mem_of_getElem? (i := 753) (by decide +kernel)⟩
theorem lw_p36 : lw_okq (⟨"PairBenchModel", "levels", "()V"⟩, 39) := ⟨⟨by decide +kernel, by decide +kernel⟩, List.mem_of_getElem? (i := 570) (by decide +kernel), List.mem_of_getElem? (i := 756) (by decide +kernel), List.mem_of_getElem? (i := 757) (by decide +kernel)⟩
theorem lw_p37 : lw_okq (⟨"PairBenchModel", "ends", "()V"⟩, 39) := ⟨⟨by decide +kernel, by decide +kernel⟩, List.mem_of_getElem? (i := 570) (by decide +kernel), List.mem_of_getElem? (i := 760) (by decide +kernel), List.mem_of_getElem? (i := 761) (by decide +kernel)⟩
theorem lw_p38 : lw_okq (⟨"PairBenchModel", "work", "()V"⟩, 39) := ⟨⟨by decide +kernel, by decide +kernel⟩, List.mem_of_getElem? (i := 570) (by decide +kernel), List.mem_of_getElem? (i := 764) (by decide +kernel), List.mem_of_getElem? (i := 765) (by decide +kernel)⟩
theorem lw_p39 : lw_okq (⟨"PairBenchModel", "canMiss", "(ZI)Z"⟩, 39) := ⟨⟨by decide +kernel, by decide +kernel⟩, List.mem_of_getElem? (i := 570) (by decide +kernel), List.mem_of_getElem? (i := 768) (by decide +kernel), List.mem_of_getElem? (i := 769) (by decide +kernel)⟩
theorem lw_p40 : lw_okq (⟨"PairBenchModel", "parts", "()V"⟩, 39) := ⟨⟨by decide +kernel, by decide +kernel⟩, List.mem_of_getElem? (i := 570) (by decide +kernel), List.mem_of_getElem? (i := 772) (by decide +kernel), List.mem_of_getElem? (i := 773) (by decide +kernel)⟩
theorem lw_p41 : lw_okq (⟨"PairBenchModel", "blocks", "()V"⟩, 39) := ⟨⟨by decide +kernel, by decide +kernel⟩, List.mem_of_getElem? (i := 570) (by decide +kernel), List.mem_of_getElem? (i := 776) (by decide +kernel), List.mem_of_getElem? (i := 777) (by decide +kernel)⟩
theorem lw_p42 : lw_okq (⟨"PairBenchModel", "edgesMany", "()I"⟩, 39) := ⟨⟨by decide +kernel, by decide +kernel⟩, List.mem_of_getElem? (i := 570) (by decide +kernel), List.mem_of_getElem? (i := 780) (by decide +kernel), List.mem_of_getElem? (i := 781) (by decide +kernel)⟩
theorem lw_p43 : lw_okq (⟨"PairBenchModel", "inPart", "(I)I"⟩, 39) := ⟨⟨by decide +kernel, by decide +kernel⟩, List.mem_of_getElem? (i := 570) (by decide +kernel), List.mem_of_getElem? (i := 784) (by decide +kernel), List.mem_of_getElem? (i := 785) (by decide +kernel)⟩
theorem lw_p44 : lw_okq (⟨"PairBenchModel", "covers", "(III)Z"⟩, 39) := ⟨⟨by decide +kernel, by decide +kernel⟩, List.mem_of_getElem? (i := 570) (by decide +kernel), List.mem_of_getElem? (i := 809) (by decide +kernel), List.mem_of_getElem? (i := 810) (by decide +kernel)⟩
theorem lw_p45 : lw_okq (⟨"PairBenchModel", "meetsMissed", "(II)Z"⟩, 39) := ⟨⟨by decide +kernel, by decide +kernel⟩, List.mem_of_getElem? (i := 570) (by decide +kernel), List.mem_of_getElem? (i := 813) (by decide +kernel), List.mem_of_getElem? (i := 814) (by decide +kernel)⟩
def lw_privs_3 : List (MethodName × Nat) := [(⟨"PairBenchModel", "improve", "()V"⟩, 39), (⟨"PairBenchModel", "force", "(II)Z"⟩, 39), (⟨"PairBenchModel", "keep", "()V"⟩, 39), (⟨"PairBenchModel", "putBack", "()V"⟩, 39), (⟨"PairBenchModel", "levels", "()V"⟩, 39), (⟨"PairBenchModel", "ends", "()V"⟩, 39), (⟨"PairBenchModel", "work", "()V"⟩, 39), (⟨"PairBenchModel", "canMiss", "(ZI)Z"⟩, 39), (⟨"PairBenchModel", "parts", "()V"⟩, 39), (⟨"PairBenchModel", "blocks", "()V"⟩, 39), (⟨"PairBenchModel", "edgesMany", "()I"⟩, 39), (⟨"PairBenchModel", "inPart", "(I)I"⟩, 39), (⟨"PairBenchModel", "covers", "(III)Z"⟩, 39), (⟨"PairBenchModel", "meetsMissed", "(II)Z"⟩, 39)]
theorem lw_r3 : ∀ q ∈ lw_privs_3, lw_okq q := List.forall_mem_cons.mpr ⟨lw_p32, List.forall_mem_cons.mpr ⟨lw_p33, List.forall_mem_cons.mpr ⟨lw_p34, List.forall_mem_cons.mpr ⟨lw_p35, List.forall_mem_cons.mpr ⟨lw_p36, List.forall_mem_cons.mpr ⟨lw_p37, List.forall_mem_cons.mpr ⟨lw_p38, List.forall_mem_cons.mpr ⟨lw_p39, List.forall_mem_cons.mpr ⟨lw_p40, List.forall_mem_cons.mpr ⟨lw_p41, List.forall_mem_cons.mpr ⟨lw_p42, List.forall_mem_cons.mpr ⟨lw_p43, List.forall_mem_cons.mpr ⟨lw_p44, List.forall_mem_cons.mpr ⟨lw_p45, fun _ h => absurd h List.not_mem_nil⟩⟩⟩⟩⟩⟩⟩⟩⟩⟩⟩⟩⟩⟩
def lw_privs : List (MethodName × Nat) := lw_privs_1 ++ (lw_privs_2 ++ (lw_privs_3))
def lw_tbl : List Cond := k2_sels lw_privs ++ tables_1
theorem lw_privs_ok : ∀ q ∈ lw_privs, lw_okq q := by
  show ∀ q ∈ lw_privs_1 ++ (lw_privs_2 ++ (lw_privs_3)), lw_okq q
  exact List.forall_mem_append.mpr ⟨lw_r1, List.forall_mem_append.mpr ⟨lw_r2, lw_r3⟩⟩

def RX0 : String := "PairBench$Blocks"
def TX0 : u_T := fun k => match k with
  | 0 => ("PairBench$Blocks", "graph", "LPairBench$Graph;", true)
  | 1 => ("PairBench$Blocks", "pairing", "LPairBench$Pairing;", true)
  | 2 => ("PairBench$Blocks", "reached", "[J", true)
  | 3 => ("PairBench$Blocks", "numbers", "[I", true)
  | 4 => ("PairBench$Blocks", "lefts", "[J", true)
  | 5 => ("PairBench$Blocks", "size", "I", false)
  | _ => ("PairBench$Blocks", "known", "I", false)
def tyX0 : Nat → FieldType := fun k => match k with
  | 0 => .object "PairBench$Graph"
  | 1 => .object "PairBench$Pairing"
  | 2 => .array .long
  | 3 => .array .int
  | 4 => .array .long
  | 5 => .int
  | _ => .int
abbrev wsX00 : List Cond := u_ws RX0 TX0 7
theorem nmX0 : ∀ a, a < 7 → ∀ b, b < 7 → a ≠ b → (TX0 a).2.1 ≠ (TX0 b).2.1 := by decide +kernel
theorem tyX0_ok : ∀ k, k < 7 → parseFieldDescriptor (TX0 k).2.2.1 = some (tyX0 k) := by decide +kernel
abbrev cX0_init : ByteArray := prog_2_method_1_code
def yX0_init : MethodName := ⟨RX0, "<init>", "(LPairBench$Graph;LPairBench$Pairing;)V"⟩
abbrev cX0_refresh : ByteArray := prog_2_method_2_code
def yX0_refresh : MethodName := ⟨RX0, "refresh", "()V"⟩
abbrev cX0_howMany : ByteArray := prog_2_method_3_code
def yX0_howMany : MethodName := ⟨RX0, "howMany", "()I"⟩
abbrev cX0_holds : ByteArray := prog_2_method_4_code
def yX0_holds : MethodName := ⟨RX0, "holds", "(I)Z"⟩
abbrev cX0_numberOf : ByteArray := prog_2_method_5_code
def yX0_numberOf : MethodName := ⟨RX0, "numberOf", "(II)I"⟩
abbrev cX0_comesTo : ByteArray := prog_2_method_6_code
def yX0_comesTo : MethodName := ⟨RX0, "comesTo", "(II)Z"⟩
abbrev cX0_isLonePair : ByteArray := prog_2_method_7_code
def yX0_isLonePair : MethodName := ⟨RX0, "isLonePair", "(I)Z"⟩
abbrev cX0_usefulRights : ByteArray := prog_2_method_8_code
def yX0_usefulRights : MethodName := ⟨RX0, "usefulRights", "(I)J"⟩
abbrev cX0_findReached : ByteArray := prog_2_method_9_code
def yX0_findReached : MethodName := ⟨RX0, "findReached", "()V"⟩
abbrev cX0_numberAll : ByteArray := prog_2_method_10_code
def yX0_numberAll : MethodName := ⟨RX0, "numberAll", "()V"⟩
abbrev cX0_gather : ByteArray := prog_2_method_11_code
def yX0_gather : MethodName := ⟨RX0, "gather", "(I)J"⟩
def RX1 : String := "PairBench$Graph"
def TX1 : u_T := fun k => match k with
  | 0 => ("PairBench$Graph", "most", "I", true)
  | 1 => ("PairBench$Graph", "sizes", "[I", true)
  | 2 => ("PairBench$Graph", "rows", "[[J", true)
  | _ => ("PairBench$Graph", "changes", "I", false)
def tyX1 : Nat → FieldType := fun k => match k with
  | 0 => .int
  | 1 => .array .int
  | 2 => .array (.array .long)
  | _ => .int
abbrev wsX10 : List Cond := u_ws RX1 TX1 4
theorem nmX1 : ∀ a, a < 4 → ∀ b, b < 4 → a ≠ b → (TX1 a).2.1 ≠ (TX1 b).2.1 := by decide +kernel
theorem tyX1_ok : ∀ k, k < 4 → parseFieldDescriptor (TX1 k).2.2.1 = some (tyX1 k) := by decide +kernel
abbrev cX1_init : ByteArray := prog_3_method_1_code
def yX1_init : MethodName := ⟨RX1, "<init>", "(I)V"⟩
abbrev cX1_changes : ByteArray := prog_3_method_2_code
def yX1_changes : MethodName := ⟨RX1, "changes", "()I"⟩
abbrev cX1_most : ByteArray := prog_3_method_3_code
def yX1_most : MethodName := ⟨RX1, "most", "()I"⟩
abbrev cX1_sizeOf : ByteArray := prog_3_method_4_code
def yX1_sizeOf : MethodName := ⟨RX1, "sizeOf", "(I)I"⟩
abbrev cX1_holds : ByteArray := prog_3_method_5_code
def yX1_holds : MethodName := ⟨RX1, "holds", "(II)Z"⟩
abbrev cX1_joins : ByteArray := prog_3_method_6_code
def yX1_joins : MethodName := ⟨RX1, "joins", "(II)Z"⟩
abbrev cX1_all : ByteArray := prog_3_method_7_code
def yX1_all : MethodName := ⟨RX1, "all", "(I)J"⟩
abbrev cX1_across : ByteArray := prog_3_method_8_code
def yX1_across : MethodName := ⟨RX1, "across", "(II)J"⟩
abbrev cX1_neighbours : ByteArray := prog_3_method_9_code
def yX1_neighbours : MethodName := ⟨RX1, "neighbours", "(IJ)J"⟩
abbrev cX1_edges : ByteArray := prog_3_method_10_code
def yX1_edges : MethodName := ⟨RX1, "edges", "()I"⟩
abbrev cX1_add : ByteArray := prog_3_method_11_code
def yX1_add : MethodName := ⟨RX1, "add", "(I)I"⟩
abbrev cX1_joinAll : ByteArray := prog_3_method_12_code
def yX1_joinAll : MethodName := ⟨RX1, "joinAll", "(JJ)V"⟩
abbrev cX1_unjoin : ByteArray := prog_3_method_13_code
def yX1_unjoin : MethodName := ⟨RX1, "unjoin", "(II)V"⟩
abbrev cX1_clear : ByteArray := prog_3_method_14_code
def yX1_clear : MethodName := ⟨RX1, "clear", "()V"⟩
def RX2 : String := "PairBench$Order"
def TX2 : u_T := fun k => match k with
  | 0 => ("PairBench$Order", "things", "LPairBench$Graph;", true)
  | 1 => ("PairBench$Order", "links", "LPairBench$Pairing;", true)
  | 2 => ("PairBench$Order", "levels", "[I", true)
  | 3 => ("PairBench$Order", "chains", "[I", true)
  | 4 => ("PairBench$Order", "levelCount", "I", false)
  | _ => ("PairBench$Order", "known", "I", false)
def tyX2 : Nat → FieldType := fun k => match k with
  | 0 => .object "PairBench$Graph"
  | 1 => .object "PairBench$Pairing"
  | 2 => .array .int
  | 3 => .array .int
  | 4 => .int
  | _ => .int
abbrev wsX20 : List Cond := u_ws RX2 TX2 6
theorem nmX2 : ∀ a, a < 6 → ∀ b, b < 6 → a ≠ b → (TX2 a).2.1 ≠ (TX2 b).2.1 := by decide +kernel
theorem tyX2_ok : ∀ k, k < 6 → parseFieldDescriptor (TX2 k).2.2.1 = some (tyX2 k) := by decide +kernel
abbrev cX2_init : ByteArray := prog_4_method_1_code
def yX2_init : MethodName := ⟨RX2, "<init>", "(LPairBench$Graph;LPairBench$Pairing;)V"⟩
abbrev cX2_refresh : ByteArray := prog_4_method_2_code
def yX2_refresh : MethodName := ⟨RX2, "refresh", "()V"⟩
abbrev cX2_howManyLevels : ByteArray := prog_4_method_3_code
def yX2_howManyLevels : MethodName := ⟨RX2, "howManyLevels", "()I"⟩
abbrev cX2_levelOf : ByteArray := prog_4_method_4_code
def yX2_levelOf : MethodName := ⟨RX2, "levelOf", "(I)I"⟩
abbrev cX2_chainOf : ByteArray := prog_4_method_5_code
def yX2_chainOf : MethodName := ⟨RX2, "chainOf", "(I)I"⟩
abbrev cX2_isInAntichain : ByteArray := prog_4_method_6_code
def yX2_isInAntichain : MethodName := ⟨RX2, "isInAntichain", "(II)Z"⟩
abbrev cX2_findLevels : ByteArray := prog_4_method_7_code
def yX2_findLevels : MethodName := ⟨RX2, "findLevels", "()V"⟩
abbrev cX2_bottomOf : ByteArray := prog_4_method_8_code
def yX2_bottomOf : MethodName := ⟨RX2, "bottomOf", "(J)J"⟩
abbrev cX2_findChains : ByteArray := prog_4_method_9_code
def yX2_findChains : MethodName := ⟨RX2, "findChains", "()V"⟩
abbrev cX2_numberChain : ByteArray := prog_4_method_10_code
def yX2_numberChain : MethodName := ⟨RX2, "numberChain", "(II)V"⟩
def RX3 : String := "PairBench$Pairing"
def TX3 : u_T := fun k => match k with
  | 0 => ("PairBench$Pairing", "graph", "LPairBench$Graph;", true)
  | 1 => ("PairBench$Pairing", "mates", "[[I", true)
  | 2 => ("PairBench$Pairing", "paired", "[J", true)
  | 3 => ("PairBench$Pairing", "open", "[J", true)
  | 4 => ("PairBench$Pairing", "parts", "[[J", true)
  | 5 => ("PairBench$Pairing", "queue", "[I", true)
  | 6 => ("PairBench$Pairing", "cameFrom", "[I", true)
  | 7 => ("PairBench$Pairing", "pairs", "I", false)
  | _ => ("PairBench$Pairing", "known", "I", false)
def tyX3 : Nat → FieldType := fun k => match k with
  | 0 => .object "PairBench$Graph"
  | 1 => .array (.array .int)
  | 2 => .array .long
  | 3 => .array .long
  | 4 => .array (.array .long)
  | 5 => .array .int
  | 6 => .array .int
  | 7 => .int
  | _ => .int
abbrev wsX30 : List Cond := u_ws RX3 TX3 9
theorem nmX3 : ∀ a, a < 9 → ∀ b, b < 9 → a ≠ b → (TX3 a).2.1 ≠ (TX3 b).2.1 := by decide +kernel
theorem tyX3_ok : ∀ k, k < 9 → parseFieldDescriptor (TX3 k).2.2.1 = some (tyX3 k) := by decide +kernel
abbrev cX3_init : ByteArray := prog_5_method_1_code
def yX3_init : MethodName := ⟨RX3, "<init>", "(LPairBench$Graph;)V"⟩
abbrev cX3_refresh : ByteArray := prog_5_method_2_code
def yX3_refresh : MethodName := ⟨RX3, "refresh", "()V"⟩
abbrev cX3_pairs : ByteArray := prog_5_method_3_code
def yX3_pairs : MethodName := ⟨RX3, "pairs", "()I"⟩
abbrev cX3_mateOf : ByteArray := prog_5_method_4_code
def yX3_mateOf : MethodName := ⟨RX3, "mateOf", "(II)I"⟩
abbrev cX3_matesOf : ByteArray := prog_5_method_5_code
def yX3_matesOf : MethodName := ⟨RX3, "matesOf", "(IJ)J"⟩
abbrev cX3_nodesOfPart : ByteArray := prog_5_method_6_code
def yX3_nodesOfPart : MethodName := ⟨RX3, "nodesOfPart", "(II)J"⟩
abbrev cX3_partOf : ByteArray := prog_5_method_7_code
def yX3_partOf : MethodName := ⟨RX3, "partOf", "(II)I"⟩
abbrev cX3_nodesInPart : ByteArray := prog_5_method_8_code
def yX3_nodesInPart : MethodName := ⟨RX3, "nodesInPart", "(I)I"⟩
abbrev cX3_isInCover : ByteArray := prog_5_method_9_code
def yX3_isInCover : MethodName := ⟨RX3, "isInCover", "(III)Z"⟩
abbrev cX3_begin : ByteArray := prog_5_method_10_code
def yX3_begin : MethodName := ⟨RX3, "begin", "()V"⟩
abbrev cX3_openAll : ByteArray := prog_5_method_11_code
def yX3_openAll : MethodName := ⟨RX3, "openAll", "()V"⟩
abbrev cX3_bare : ByteArray := prog_5_method_12_code
def yX3_bare : MethodName := ⟨RX3, "bare", "(I)J"⟩
abbrev cX3_pair : ByteArray := prog_5_method_13_code
def yX3_pair : MethodName := ⟨RX3, "pair", "(II)V"⟩
abbrev cX3_loosen : ByteArray := prog_5_method_14_code
def yX3_loosen : MethodName := ⟨RX3, "loosen", "(II)V"⟩
abbrev cX3_lengthen : ByteArray := prog_5_method_15_code
def yX3_lengthen : MethodName := ⟨RX3, "lengthen", "()Z"⟩
abbrev cX3_pairAlongPath : ByteArray := prog_5_method_16_code
def yX3_pairAlongPath : MethodName := ⟨RX3, "pairAlongPath", "(I)V"⟩
abbrev cX3_reach : ByteArray := prog_5_method_17_code
def yX3_reach : MethodName := ⟨RX3, "reach", "(IJ)J"⟩
abbrev cX3_choicesOf : ByteArray := prog_5_method_18_code
def yX3_choicesOf : MethodName := ⟨RX3, "choicesOf", "(I)J"⟩
abbrev cX3_settle : ByteArray := prog_5_method_19_code
def yX3_settle : MethodName := ⟨RX3, "settle", "(IJ)V"⟩
abbrev cX3_findParts : ByteArray := prog_5_method_20_code
def yX3_findParts : MethodName := ⟨RX3, "findParts", "()V"⟩
def RX4 : String := "PairBench$Tally"
def TX4 : u_T := fun k => match k with
  | 0 => ("PairBench$Tally", "graph", "LPairBench$Graph;", true)
  | 1 => ("PairBench$Tally", "blocks", "LPairBench$Blocks;", true)
  | 2 => ("PairBench$Tally", "useful", "[J", true)
  | 3 => ("PairBench$Tally", "choices", "[I", true)
  | 4 => ("PairBench$Tally", "ways", "[J", false)
  | 5 => ("PairBench$Tally", "total", "J", false)
  | _ => ("PairBench$Tally", "known", "I", false)
def tyX4 : Nat → FieldType := fun k => match k with
  | 0 => .object "PairBench$Graph"
  | 1 => .object "PairBench$Blocks"
  | 2 => .array .long
  | 3 => .array .int
  | 4 => .array .long
  | 5 => .long
  | _ => .int
abbrev wsX40 : List Cond := u_ws RX4 TX4 7
theorem nmX4 : ∀ a, a < 7 → ∀ b, b < 7 → a ≠ b → (TX4 a).2.1 ≠ (TX4 b).2.1 := by decide +kernel
theorem tyX4_ok : ∀ k, k < 7 → parseFieldDescriptor (TX4 k).2.2.1 = some (tyX4 k) := by decide +kernel
abbrev cX4_init : ByteArray := prog_6_method_1_code
def yX4_init : MethodName := ⟨RX4, "<init>", "(LPairBench$Graph;LPairBench$Blocks;)V"⟩
abbrev cX4_refresh : ByteArray := prog_6_method_2_code
def yX4_refresh : MethodName := ⟨RX4, "refresh", "()V"⟩
abbrev cX4_total : ByteArray := prog_6_method_3_code
def yX4_total : MethodName := ⟨RX4, "total", "()J"⟩
abbrev cX4_lefts : ByteArray := prog_6_method_4_code
def yX4_lefts : MethodName := ⟨RX4, "lefts", "()I"⟩
abbrev cX4_pieceOf : ByteArray := prog_6_method_5_code
def yX4_pieceOf : MethodName := ⟨RX4, "pieceOf", "(I)J"⟩
abbrev cX4_waysToPair : ByteArray := prog_6_method_6_code
def yX4_waysToPair : MethodName := ⟨RX4, "waysToPair", "(J)J"⟩
abbrev cX4_setChoices : ByteArray := prog_6_method_7_code
def yX4_setChoices : MethodName := ⟨RX4, "setChoices", "(JJZ)V"⟩
abbrev cX4_waysToChoose : ByteArray := prog_6_method_8_code
def yX4_waysToChoose : MethodName := ⟨RX4, "waysToChoose", "(II)J"⟩
def RX5 : String := "PairBench"
def TX5 : u_T := fun k => match k with
  | 0 => ("PairBench", "graph", "LPairBench$Graph;", true)
  | 1 => ("PairBench", "pairing", "LPairBench$Pairing;", true)
  | 2 => ("PairBench", "blocks", "LPairBench$Blocks;", true)
  | 3 => ("PairBench", "tally", "LPairBench$Tally;", true)
  | 4 => ("PairBench", "things", "LPairBench$Graph;", true)
  | 5 => ("PairBench", "links", "LPairBench$Pairing;", true)
  | _ => ("PairBench", "order", "LPairBench$Order;", true)
def tyX5 : Nat → FieldType := fun k => match k with
  | 0 => .object "PairBench$Graph"
  | 1 => .object "PairBench$Pairing"
  | 2 => .object "PairBench$Blocks"
  | 3 => .object "PairBench$Tally"
  | 4 => .object "PairBench$Graph"
  | 5 => .object "PairBench$Pairing"
  | _ => .object "PairBench$Order"
abbrev wsX50 : List Cond := u_ws RX5 TX5 7
theorem nmX5 : ∀ a, a < 7 → ∀ b, b < 7 → a ≠ b → (TX5 a).2.1 ≠ (TX5 b).2.1 := by decide +kernel
theorem tyX5_ok : ∀ k, k < 7 → parseFieldDescriptor (TX5 k).2.2.1 = some (tyX5 k) := by decide +kernel
abbrev cX5_init : ByteArray := prog_1_method_1_code
def yX5_init : MethodName := ⟨RX5, "<init>", "()V"⟩
abbrev cX5_node : ByteArray := prog_1_method_2_code
def yX5_node : MethodName := ⟨RX5, "node", "(I)I"⟩
abbrev cX5_edge : ByteArray := prog_1_method_3_code
def yX5_edge : MethodName := ⟨RX5, "edge", "(IIZ)I"⟩
abbrev cX5_count : ByteArray := prog_1_method_4_code
def yX5_count : MethodName := ⟨RX5, "count", "(I)I"⟩
abbrev cX5_countFindings : ByteArray := prog_1_method_5_code
def yX5_countFindings : MethodName := ⟨RX5, "countFindings", "(I)I"⟩
abbrev cX5_has : ByteArray := prog_1_method_6_code
def yX5_has : MethodName := ⟨RX5, "has", "(II)Z"⟩
abbrev cX5_partner : ByteArray := prog_1_method_7_code
def yX5_partner : MethodName := ⟨RX5, "partner", "(II)I"⟩
abbrev cX5_edgeIs : ByteArray := prog_1_method_8_code
def yX5_edgeIs : MethodName := ⟨RX5, "edgeIs", "(II)I"⟩
abbrev cX5_nodeIs : ByteArray := prog_1_method_9_code
def yX5_nodeIs : MethodName := ⟨RX5, "nodeIs", "(II)I"⟩
abbrev cX5_cover : ByteArray := prog_1_method_10_code
def yX5_cover : MethodName := ⟨RX5, "cover", "(III)I"⟩
abbrev cX5_hall : ByteArray := prog_1_method_11_code
def yX5_hall : MethodName := ⟨RX5, "hall", "(II)I"⟩
abbrev cX5_part : ByteArray := prog_1_method_12_code
def yX5_part : MethodName := ⟨RX5, "part", "(II)I"⟩
abbrev cX5_block : ByteArray := prog_1_method_13_code
def yX5_block : MethodName := ⟨RX5, "block", "(II)I"⟩
abbrev cX5_leads : ByteArray := prog_1_method_14_code
def yX5_leads : MethodName := ⟨RX5, "leads", "(II)I"⟩
abbrev cX5_pairings : ByteArray := prog_1_method_15_code
def yX5_pairings : MethodName := ⟨RX5, "pairings", "()J"⟩
abbrev cX5_thing : ByteArray := prog_1_method_16_code
def yX5_thing : MethodName := ⟨RX5, "thing", "()I"⟩
abbrev cX5_tell : ByteArray := prog_1_method_17_code
def yX5_tell : MethodName := ⟨RX5, "tell", "(II)I"⟩
abbrev cX5_below : ByteArray := prog_1_method_18_code
def yX5_below : MethodName := ⟨RX5, "below", "(II)Z"⟩
abbrev cX5_about : ByteArray := prog_1_method_19_code
def yX5_about : MethodName := ⟨RX5, "about", "(II)I"⟩
abbrev cX5_clearGraph : ByteArray := prog_1_method_20_code
def yX5_clearGraph : MethodName := ⟨RX5, "clearGraph", "()I"⟩
abbrev cX5_clearThings : ByteArray := prog_1_method_21_code
def yX5_clearThings : MethodName := ⟨RX5, "clearThings", "()I"⟩
abbrev cX5_isOneOfTwo : ByteArray := prog_1_method_22_code
def yX5_isOneOfTwo : MethodName := ⟨RX5, "isOneOfTwo", "(I)Z"⟩
abbrev cX5_contains : ByteArray := prog_1_method_23_code
def yX5_contains : MethodName := ⟨RX5, "contains", "(JI)Z"⟩
abbrev cX5_lowest : ByteArray := prog_1_method_24_code
def yX5_lowest : MethodName := ⟨RX5, "lowest", "(J)I"⟩
def RX6 : String := "PairBenchModel"
def TX6 : u_T := fun k => match k with
  | 0 => ("PairBenchModel", "lefts", "I", false)
  | 1 => ("PairBenchModel", "rights", "I", false)
  | 2 => ("PairBenchModel", "graph", "[Z", true)
  | 3 => ("PairBenchModel", "fresh", "Z", false)
  | 4 => ("PairBenchModel", "size", "I", false)
  | 5 => ("PairBenchModel", "best", "[I", true)
  | 6 => ("PairBenchModel", "bestRight", "[I", true)
  | 7 => ("PairBenchModel", "missesLeft", "[Z", true)
  | 8 => ("PairBenchModel", "missesRight", "[Z", true)
  | 9 => ("PairBenchModel", "partLeft", "[I", true)
  | 10 => ("PairBenchModel", "partRight", "[I", true)
  | 11 => ("PairBenchModel", "blockLeft", "[I", true)
  | 12 => ("PairBenchModel", "comes", "[Z", true)
  | 13 => ("PairBenchModel", "blocks", "I", false)
  | 14 => ("PairBenchModel", "counted", "Z", false)
  | 15 => ("PairBenchModel", "pairings", "J", false)
  | 16 => ("PairBenchModel", "ways", "[J", true)
  | 17 => ("PairBenchModel", "things", "I", false)
  | 18 => ("PairBenchModel", "under", "[Z", true)
  | 19 => ("PairBenchModel", "freshThings", "Z", false)
  | 20 => ("PairBenchModel", "width", "I", false)
  | 21 => ("PairBenchModel", "nextThing", "[I", true)
  | 22 => ("PairBenchModel", "chain", "[I", true)
  | 23 => ("PairBenchModel", "level", "[I", true)
  | 24 => ("PairBenchModel", "lowest", "[Z", true)
  | 25 => ("PairBenchModel", "highest", "[Z", true)
  | 26 => ("PairBenchModel", "marks", "[Z", true)
  | 27 => ("PairBenchModel", "edges", "[Z", true)
  | 28 => ("PairBenchModel", "n", "I", false)
  | 29 => ("PairBenchModel", "m", "I", false)
  | 30 => ("PairBenchModel", "outLeft", "[Z", true)
  | 31 => ("PairBenchModel", "outRight", "[Z", true)
  | 32 => ("PairBenchModel", "pairLeft", "[I", true)
  | 33 => ("PairBenchModel", "pairRight", "[I", true)
  | 34 => ("PairBenchModel", "keptLeft", "[I", true)
  | 35 => ("PairBenchModel", "keptRight", "[I", true)
  | 36 => ("PairBenchModel", "queue", "[I", true)
  | 37 => ("PairBenchModel", "cameFrom", "[I", true)
  | _ => ("PairBenchModel", "queued", "I", false)
def tyX6 : Nat → FieldType := fun k => match k with
  | 0 => .int
  | 1 => .int
  | 2 => .array .boolean
  | 3 => .boolean
  | 4 => .int
  | 5 => .array .int
  | 6 => .array .int
  | 7 => .array .boolean
  | 8 => .array .boolean
  | 9 => .array .int
  | 10 => .array .int
  | 11 => .array .int
  | 12 => .array .boolean
  | 13 => .int
  | 14 => .boolean
  | 15 => .long
  | 16 => .array .long
  | 17 => .int
  | 18 => .array .boolean
  | 19 => .boolean
  | 20 => .int
  | 21 => .array .int
  | 22 => .array .int
  | 23 => .array .int
  | 24 => .array .boolean
  | 25 => .array .boolean
  | 26 => .array .boolean
  | 27 => .array .boolean
  | 28 => .int
  | 29 => .int
  | 30 => .array .boolean
  | 31 => .array .boolean
  | 32 => .array .int
  | 33 => .array .int
  | 34 => .array .int
  | 35 => .array .int
  | 36 => .array .int
  | 37 => .array .int
  | _ => .int
abbrev wsX60 : List Cond := u_ws RX6 TX6 39
theorem nmX6 : ∀ a, a < 39 → ∀ b, b < 39 → a ≠ b → (TX6 a).2.1 ≠ (TX6 b).2.1 := by decide +kernel
theorem tyX6_ok : ∀ k, k < 39 → parseFieldDescriptor (TX6 k).2.2.1 = some (tyX6 k) := by decide +kernel
abbrev cX6_init : ByteArray := prog_8_method_1_code
def yX6_init : MethodName := ⟨RX6, "<init>", "()V"⟩
abbrev cX6_use : ByteArray := prog_8_method_2_code
def yX6_use : MethodName := ⟨RX6, "use", "([ZII)V"⟩
abbrev cX6_begin : ByteArray := prog_8_method_3_code
def yX6_begin : MethodName := ⟨RX6, "begin", "()V"⟩
abbrev cX6_flip : ByteArray := prog_8_method_4_code
def yX6_flip : MethodName := ⟨RX6, "flip", "(I)V"⟩
abbrev cX6_grow : ByteArray := prog_8_method_5_code
def yX6_grow : MethodName := ⟨RX6, "grow", "()Z"⟩
abbrev cX6_growAll : ByteArray := prog_8_method_6_code
def yX6_growAll : MethodName := ⟨RX6, "growAll", "()I"⟩
abbrev cX6_keep : ByteArray := prog_8_method_7_code
def yX6_keep : MethodName := ⟨RX6, "keep", "()V"⟩
abbrev cX6_putBack : ByteArray := prog_8_method_8_code
def yX6_putBack : MethodName := ⟨RX6, "putBack", "()V"⟩
abbrev cX6_canMiss : ByteArray := prog_8_method_9_code
def yX6_canMiss : MethodName := ⟨RX6, "canMiss", "(ZI)Z"⟩
abbrev cX6_force : ByteArray := prog_8_method_10_code
def yX6_force : MethodName := ⟨RX6, "force", "(II)Z"⟩
abbrev cX6_improve : ByteArray := prog_8_method_11_code
def yX6_improve : MethodName := ⟨RX6, "improve", "()V"⟩
abbrev cX6_work : ByteArray := prog_8_method_12_code
def yX6_work : MethodName := ⟨RX6, "work", "()V"⟩
abbrev cX6_parts : ByteArray := prog_8_method_13_code
def yX6_parts : MethodName := ⟨RX6, "parts", "()V"⟩
abbrev cX6_blocks : ByteArray := prog_8_method_14_code
def yX6_blocks : MethodName := ⟨RX6, "blocks", "()V"⟩
abbrev cX6_isNode : ByteArray := prog_8_method_15_code
def yX6_isNode : MethodName := ⟨RX6, "isNode", "(II)Z"⟩
abbrev cX6_node : ByteArray := prog_8_method_16_code
def yX6_node : MethodName := ⟨RX6, "node", "(I)I"⟩
abbrev cX6_edge : ByteArray := prog_8_method_17_code
def yX6_edge : MethodName := ⟨RX6, "edge", "(IIZ)I"⟩
abbrev cX6_edgesMany : ByteArray := prog_8_method_18_code
def yX6_edgesMany : MethodName := ⟨RX6, "edgesMany", "()I"⟩
abbrev cX6_inPart : ByteArray := prog_8_method_19_code
def yX6_inPart : MethodName := ⟨RX6, "inPart", "(I)I"⟩
abbrev cX6_count : ByteArray := prog_8_method_20_code
def yX6_count : MethodName := ⟨RX6, "count", "(I)I"⟩
abbrev cX6_has : ByteArray := prog_8_method_21_code
def yX6_has : MethodName := ⟨RX6, "has", "(II)Z"⟩
abbrev cX6_partner : ByteArray := prog_8_method_22_code
def yX6_partner : MethodName := ⟨RX6, "partner", "(II)I"⟩
abbrev cX6_edgeIs : ByteArray := prog_8_method_23_code
def yX6_edgeIs : MethodName := ⟨RX6, "edgeIs", "(II)I"⟩
abbrev cX6_nodeIs : ByteArray := prog_8_method_24_code
def yX6_nodeIs : MethodName := ⟨RX6, "nodeIs", "(II)I"⟩
abbrev cX6_meetsMissed : ByteArray := prog_8_method_25_code
def yX6_meetsMissed : MethodName := ⟨RX6, "meetsMissed", "(II)Z"⟩
abbrev cX6_covers : ByteArray := prog_8_method_26_code
def yX6_covers : MethodName := ⟨RX6, "covers", "(III)Z"⟩
abbrev cX6_cover : ByteArray := prog_8_method_27_code
def yX6_cover : MethodName := ⟨RX6, "cover", "(III)I"⟩
abbrev cX6_hall : ByteArray := prog_8_method_28_code
def yX6_hall : MethodName := ⟨RX6, "hall", "(II)I"⟩
abbrev cX6_part : ByteArray := prog_8_method_29_code
def yX6_part : MethodName := ⟨RX6, "part", "(II)I"⟩
abbrev cX6_block : ByteArray := prog_8_method_30_code
def yX6_block : MethodName := ⟨RX6, "block", "(II)I"⟩
abbrev cX6_leads : ByteArray := prog_8_method_31_code
def yX6_leads : MethodName := ⟨RX6, "leads", "(II)I"⟩
abbrev cX6_bits : ByteArray := prog_8_method_32_code
def yX6_bits : MethodName := ⟨RX6, "bits", "(I)I"⟩
abbrev cX6_pairings : ByteArray := prog_8_method_33_code
def yX6_pairings : MethodName := ⟨RX6, "pairings", "()J"⟩
abbrev cX6_thing : ByteArray := prog_8_method_34_code
def yX6_thing : MethodName := ⟨RX6, "thing", "()I"⟩
abbrev cX6_tell : ByteArray := prog_8_method_35_code
def yX6_tell : MethodName := ⟨RX6, "tell", "(II)I"⟩
abbrev cX6_below : ByteArray := prog_8_method_36_code
def yX6_below : MethodName := ⟨RX6, "below", "(II)Z"⟩
abbrev cX6_widthBeside : ByteArray := prog_8_method_37_code
def yX6_widthBeside : MethodName := ⟨RX6, "widthBeside", "(I)I"⟩
abbrev cX6_workThings : ByteArray := prog_8_method_38_code
def yX6_workThings : MethodName := ⟨RX6, "workThings", "()V"⟩
abbrev cX6_levels : ByteArray := prog_8_method_39_code
def yX6_levels : MethodName := ⟨RX6, "levels", "()V"⟩
abbrev cX6_ends : ByteArray := prog_8_method_40_code
def yX6_ends : MethodName := ⟨RX6, "ends", "()V"⟩
abbrev cX6_about : ByteArray := prog_8_method_41_code
def yX6_about : MethodName := ⟨RX6, "about", "(II)I"⟩
abbrev cX6_clearGraph : ByteArray := prog_8_method_42_code
def yX6_clearGraph : MethodName := ⟨RX6, "clearGraph", "()I"⟩
abbrev cX6_clearThings : ByteArray := prog_8_method_43_code
def yX6_clearThings : MethodName := ⟨RX6, "clearThings", "()I"⟩
def RJ6 : String := "java/lang/Integer"
def TJ6 : u_T := fun k => match k with
  | _ => ("", "", "", false)
def tyJ6 : Nat → FieldType := fun k => match k with
  | _ => .int
abbrev cJ6_bitCount_0f7a4 : ByteArray := prog_9_method_49_code
def yJ6_bitCount_0f7a4 : MethodName := ⟨RJ6, "bitCount", "(I)I"⟩
def RJ13 : String := "java/lang/Long"
def TJ13 : u_T := fun k => match k with
  | _ => ("", "", "", false)
def tyJ13 : Nat → FieldType := fun k => match k with
  | _ => .int
abbrev cJ13_bitCount_95d88 : ByteArray := prog_10_method_50_code
def yJ13_bitCount_95d88 : MethodName := ⟨RJ13, "bitCount", "(J)I"⟩
def RJ9 : String := "java/lang/Math"
def TJ9 : u_T := fun k => match k with
  | _ => ("", "", "", false)
def tyJ9 : Nat → FieldType := fun k => match k with
  | _ => .int
abbrev cJ9_min_7cf53 : ByteArray := prog_11_method_69_code
def yJ9_min_7cf53 : MethodName := ⟨RJ9, "min", "(II)I"⟩
def RJ7 : String := "java/util/Arrays"
def TJ7 : u_T := fun k => match k with
  | _ => ("", "", "", false)
def tyJ7 : Nat → FieldType := fun k => match k with
  | _ => .int
abbrev cJ7_fill_d0a16 : ByteArray := prog_12_method_101_code
def yJ7_fill_d0a16 : MethodName := ⟨RJ7, "fill", "([JJ)V"⟩
abbrev cJ7_fill_53178 : ByteArray := prog_12_method_103_code
def yJ7_fill_53178 : MethodName := ⟨RJ7, "fill", "([II)V"⟩
def RL : String := "PairBenchLaw"
abbrev cL_law : ByteArray := code
def yL_law : MethodName := ⟨RL, "law", "([I)Z"⟩
abbrev vwCl : List vw_C := [(RX0, TX0, 7), (RX1, TX1, 4), (RX2, TX2, 6), (RX3, TX3, 9), (RX4, TX4, 7), (RX5, TX5, 7), (RX6, TX6, 39)]
end
section
theorem dX0_init_0 : decode cX0_init 0 = .ok (.aload_n 0, 1) := by decide +kernel
theorem dX0_init_1 : decode cX0_init 1 = .ok (.invokespecial 3, 3) := by decide +kernel
theorem dX0_init_4 : decode cX0_init 4 = .ok (.aload_n 0, 1) := by decide +kernel
theorem dX0_init_5 : decode cX0_init 5 = .ok (.aload_n 1, 1) := by decide +kernel
theorem dX0_init_6 : decode cX0_init 6 = .ok (.putfield 9, 3) := by decide +kernel
theorem dX0_init_9 : decode cX0_init 9 = .ok (.aload_n 0, 1) := by decide +kernel
theorem dX0_init_10 : decode cX0_init 10 = .ok (.aload_n 2, 1) := by decide +kernel
theorem dX0_init_11 : decode cX0_init 11 = .ok (.putfield 15, 3) := by decide +kernel
theorem dX0_init_14 : decode cX0_init 14 = .ok (.aload_n 0, 1) := by decide +kernel
theorem dX0_init_15 : decode cX0_init 15 = .ok (.bipush 50, 2) := by decide +kernel
theorem dX0_init_17 : decode cX0_init 17 = .ok (.newarray .long, 2) := by decide +kernel
theorem dX0_init_19 : decode cX0_init 19 = .ok (.putfield 19, 3) := by decide +kernel
theorem dX0_init_22 : decode cX0_init 22 = .ok (.aload_n 0, 1) := by decide +kernel
theorem dX0_init_23 : decode cX0_init 23 = .ok (.bipush 50, 2) := by decide +kernel
theorem dX0_init_25 : decode cX0_init 25 = .ok (.newarray .int, 2) := by decide +kernel
theorem dX0_init_27 : decode cX0_init 27 = .ok (.putfield 23, 3) := by decide +kernel
theorem dX0_init_30 : decode cX0_init 30 = .ok (.aload_n 0, 1) := by decide +kernel
theorem dX0_init_31 : decode cX0_init 31 = .ok (.bipush 50, 2) := by decide +kernel
theorem dX0_init_33 : decode cX0_init 33 = .ok (.newarray .long, 2) := by decide +kernel
theorem dX0_init_35 : decode cX0_init 35 = .ok (.putfield 27, 3) := by decide +kernel
theorem dX0_init_38 : decode cX0_init 38 = .ok (.aload_n 0, 1) := by decide +kernel
theorem dX0_init_39 : decode cX0_init 39 = .ok (.iconst 0, 1) := by decide +kernel
theorem dX0_init_40 : decode cX0_init 40 = .ok (.putfield 30, 3) := by decide +kernel
theorem dX0_init_43 : decode cX0_init 43 = .ok (.aload_n 0, 1) := by decide +kernel
theorem dX0_init_44 : decode cX0_init 44 = .ok (.iconst (-1), 1) := by decide +kernel
theorem dX0_init_45 : decode cX0_init 45 = .ok (.putfield 34, 3) := by decide +kernel
theorem dX0_init_48 : decode cX0_init 48 = .ok (.return_, 1) := by decide +kernel
theorem dX0_refresh_0 : decode cX0_refresh 0 = .ok (.aload_n 0, 1) := by decide +kernel
theorem dX0_refresh_1 : decode cX0_refresh 1 = .ok (.getfield 34, 3) := by decide +kernel
theorem dX0_refresh_4 : decode cX0_refresh 4 = .ok (.aload_n 0, 1) := by decide +kernel
theorem dX0_refresh_5 : decode cX0_refresh 5 = .ok (.getfield 9, 3) := by decide +kernel
theorem dX0_refresh_8 : decode cX0_refresh 8 = .ok (.invokevirtual 37, 3) := by decide +kernel
theorem dX0_refresh_11 : decode cX0_refresh 11 = .ok (.if_icmp .ne 4, 3) := by decide +kernel
theorem dX0_refresh_14 : decode cX0_refresh 14 = .ok (.return_, 1) := by decide +kernel
theorem dX0_refresh_15 : decode cX0_refresh 15 = .ok (.aload_n 0, 1) := by decide +kernel
theorem dX0_refresh_16 : decode cX0_refresh 16 = .ok (.aload_n 0, 1) := by decide +kernel
theorem dX0_refresh_17 : decode cX0_refresh 17 = .ok (.getfield 9, 3) := by decide +kernel
theorem dX0_refresh_20 : decode cX0_refresh 20 = .ok (.invokevirtual 37, 3) := by decide +kernel
theorem dX0_refresh_23 : decode cX0_refresh 23 = .ok (.putfield 34, 3) := by decide +kernel
theorem dX0_refresh_26 : decode cX0_refresh 26 = .ok (.aload_n 0, 1) := by decide +kernel
theorem dX0_refresh_27 : decode cX0_refresh 27 = .ok (.invokevirtual 43, 3) := by decide +kernel
theorem dX0_refresh_30 : decode cX0_refresh 30 = .ok (.aload_n 0, 1) := by decide +kernel
theorem dX0_refresh_31 : decode cX0_refresh 31 = .ok (.invokevirtual 46, 3) := by decide +kernel
theorem dX0_refresh_34 : decode cX0_refresh 34 = .ok (.return_, 1) := by decide +kernel
theorem dX0_howMany_0 : decode cX0_howMany 0 = .ok (.aload_n 0, 1) := by decide +kernel
theorem dX0_howMany_1 : decode cX0_howMany 1 = .ok (.getfield 30, 3) := by decide +kernel
theorem dX0_howMany_4 : decode cX0_howMany 4 = .ok (.ireturn, 1) := by decide +kernel
theorem dX0_holds_0 : decode cX0_holds 0 = .ok (.iload_n 1, 1) := by decide +kernel
theorem dX0_holds_1 : decode cX0_holds 1 = .ok (.ifCond .lt 15, 3) := by decide +kernel
theorem dX0_holds_4 : decode cX0_holds 4 = .ok (.iload_n 1, 1) := by decide +kernel
theorem dX0_holds_5 : decode cX0_holds 5 = .ok (.aload_n 0, 1) := by decide +kernel
theorem dX0_holds_6 : decode cX0_holds 6 = .ok (.getfield 30, 3) := by decide +kernel
theorem dX0_holds_9 : decode cX0_holds 9 = .ok (.if_icmp .ge 7, 3) := by decide +kernel
theorem dX0_holds_12 : decode cX0_holds 12 = .ok (.iconst 1, 1) := by decide +kernel
theorem dX0_holds_13 : decode cX0_holds 13 = .ok (.goto 4, 3) := by decide +kernel
theorem dX0_holds_16 : decode cX0_holds 16 = .ok (.iconst 0, 1) := by decide +kernel
theorem dX0_holds_17 : decode cX0_holds 17 = .ok (.ireturn, 1) := by decide +kernel
theorem dX0_numberOf_0 : decode cX0_numberOf 0 = .ok (.iload_n 1, 1) := by decide +kernel
theorem dX0_numberOf_1 : decode cX0_numberOf 1 = .ok (.ifCond .ne 7, 3) := by decide +kernel
theorem dX0_numberOf_4 : decode cX0_numberOf 4 = .ok (.iload_n 2, 1) := by decide +kernel
theorem dX0_numberOf_5 : decode cX0_numberOf 5 = .ok (.goto 12, 3) := by decide +kernel
theorem dX0_numberOf_8 : decode cX0_numberOf 8 = .ok (.aload_n 0, 1) := by decide +kernel
theorem dX0_numberOf_9 : decode cX0_numberOf 9 = .ok (.getfield 15, 3) := by decide +kernel
theorem dX0_numberOf_12 : decode cX0_numberOf 12 = .ok (.iconst 1, 1) := by decide +kernel
theorem dX0_numberOf_13 : decode cX0_numberOf 13 = .ok (.iload_n 2, 1) := by decide +kernel
theorem dX0_numberOf_14 : decode cX0_numberOf 14 = .ok (.invokevirtual 49, 3) := by decide +kernel
theorem dX0_numberOf_17 : decode cX0_numberOf 17 = .ok (.istore_n 3, 1) := by decide +kernel
theorem dX0_numberOf_18 : decode cX0_numberOf 18 = .ok (.aload_n 0, 1) := by decide +kernel
theorem dX0_numberOf_19 : decode cX0_numberOf 19 = .ok (.getfield 9, 3) := by decide +kernel
theorem dX0_numberOf_22 : decode cX0_numberOf 22 = .ok (.iconst 0, 1) := by decide +kernel
theorem dX0_numberOf_23 : decode cX0_numberOf 23 = .ok (.iload_n 3, 1) := by decide +kernel
theorem dX0_numberOf_24 : decode cX0_numberOf 24 = .ok (.invokevirtual 55, 3) := by decide +kernel
theorem dX0_numberOf_27 : decode cX0_numberOf 27 = .ok (.ifCond .eq 12, 3) := by decide +kernel
theorem dX0_numberOf_30 : decode cX0_numberOf 30 = .ok (.aload_n 0, 1) := by decide +kernel
theorem dX0_numberOf_31 : decode cX0_numberOf 31 = .ok (.getfield 23, 3) := by decide +kernel
theorem dX0_numberOf_34 : decode cX0_numberOf 34 = .ok (.iload_n 3, 1) := by decide +kernel
theorem dX0_numberOf_35 : decode cX0_numberOf 35 = .ok (.iaload, 1) := by decide +kernel
theorem dX0_numberOf_36 : decode cX0_numberOf 36 = .ok (.goto 5, 3) := by decide +kernel
theorem dX0_numberOf_39 : decode cX0_numberOf 39 = .ok (.bipush (-3), 2) := by decide +kernel
theorem dX0_numberOf_41 : decode cX0_numberOf 41 = .ok (.ireturn, 1) := by decide +kernel
theorem dX0_comesTo_0 : decode cX0_comesTo 0 = .ok (.iload_n 1, 1) := by decide +kernel
theorem dX0_comesTo_1 : decode cX0_comesTo 1 = .ok (.iload_n 2, 1) := by decide +kernel
theorem dX0_comesTo_2 : decode cX0_comesTo 2 = .ok (.if_icmp .eq 19, 3) := by decide +kernel
theorem dX0_comesTo_5 : decode cX0_comesTo 5 = .ok (.aload_n 0, 1) := by decide +kernel
theorem dX0_comesTo_6 : decode cX0_comesTo 6 = .ok (.iload_n 1, 1) := by decide +kernel
theorem dX0_comesTo_7 : decode cX0_comesTo 7 = .ok (.invokevirtual 59, 3) := by decide +kernel
theorem dX0_comesTo_10 : decode cX0_comesTo 10 = .ok (.ifCond .eq 11, 3) := by decide +kernel
theorem dX0_comesTo_13 : decode cX0_comesTo 13 = .ok (.aload_n 0, 1) := by decide +kernel
theorem dX0_comesTo_14 : decode cX0_comesTo 14 = .ok (.iload_n 2, 1) := by decide +kernel
theorem dX0_comesTo_15 : decode cX0_comesTo 15 = .ok (.invokevirtual 59, 3) := by decide +kernel
theorem dX0_comesTo_18 : decode cX0_comesTo 18 = .ok (.ifCond .ne 5, 3) := by decide +kernel
theorem dX0_comesTo_21 : decode cX0_comesTo 21 = .ok (.iconst 0, 1) := by decide +kernel
theorem dX0_comesTo_22 : decode cX0_comesTo 22 = .ok (.ireturn, 1) := by decide +kernel
theorem dX0_comesTo_23 : decode cX0_comesTo 23 = .ok (.aload_n 0, 1) := by decide +kernel
theorem dX0_comesTo_24 : decode cX0_comesTo 24 = .ok (.getfield 19, 3) := by decide +kernel
theorem dX0_comesTo_27 : decode cX0_comesTo 27 = .ok (.aload_n 0, 1) := by decide +kernel
theorem dX0_comesTo_28 : decode cX0_comesTo 28 = .ok (.getfield 27, 3) := by decide +kernel
theorem dX0_comesTo_31 : decode cX0_comesTo 31 = .ok (.iload_n 1, 1) := by decide +kernel
theorem dX0_comesTo_32 : decode cX0_comesTo 32 = .ok (.laload, 1) := by decide +kernel
theorem dX0_comesTo_33 : decode cX0_comesTo 33 = .ok (.invokestatic 62, 3) := by decide +kernel
theorem dX0_comesTo_36 : decode cX0_comesTo 36 = .ok (.laload, 1) := by decide +kernel
theorem dX0_comesTo_37 : decode cX0_comesTo 37 = .ok (.aload_n 0, 1) := by decide +kernel
theorem dX0_comesTo_38 : decode cX0_comesTo 38 = .ok (.getfield 27, 3) := by decide +kernel
theorem dX0_comesTo_41 : decode cX0_comesTo 41 = .ok (.iload_n 2, 1) := by decide +kernel
theorem dX0_comesTo_42 : decode cX0_comesTo 42 = .ok (.laload, 1) := by decide +kernel
theorem dX0_comesTo_43 : decode cX0_comesTo 43 = .ok (.land, 1) := by decide +kernel
theorem dX0_comesTo_44 : decode cX0_comesTo 44 = .ok (.lconst 0, 1) := by decide +kernel
theorem dX0_comesTo_45 : decode cX0_comesTo 45 = .ok (.lcmp, 1) := by decide +kernel
theorem dX0_comesTo_46 : decode cX0_comesTo 46 = .ok (.ifCond .eq 7, 3) := by decide +kernel
theorem dX0_comesTo_49 : decode cX0_comesTo 49 = .ok (.iconst 1, 1) := by decide +kernel
theorem dX0_comesTo_50 : decode cX0_comesTo 50 = .ok (.goto 4, 3) := by decide +kernel
theorem dX0_comesTo_53 : decode cX0_comesTo 53 = .ok (.iconst 0, 1) := by decide +kernel
theorem dX0_comesTo_54 : decode cX0_comesTo 54 = .ok (.ireturn, 1) := by decide +kernel
theorem dX0_isLonePair_0 : decode cX0_isLonePair 0 = .ok (.aload_n 0, 1) := by decide +kernel
theorem dX0_isLonePair_1 : decode cX0_isLonePair 1 = .ok (.iconst 0, 1) := by decide +kernel
theorem dX0_isLonePair_2 : decode cX0_isLonePair 2 = .ok (.iload_n 1, 1) := by decide +kernel
theorem dX0_isLonePair_3 : decode cX0_isLonePair 3 = .ok (.invokevirtual 66, 3) := by decide +kernel
theorem dX0_isLonePair_6 : decode cX0_isLonePair 6 = .ok (.istore_n 2, 1) := by decide +kernel
theorem dX0_isLonePair_7 : decode cX0_isLonePair 7 = .ok (.aload_n 0, 1) := by decide +kernel
theorem dX0_isLonePair_8 : decode cX0_isLonePair 8 = .ok (.iload_n 2, 1) := by decide +kernel
theorem dX0_isLonePair_9 : decode cX0_isLonePair 9 = .ok (.invokevirtual 59, 3) := by decide +kernel
theorem dX0_isLonePair_12 : decode cX0_isLonePair 12 = .ok (.ifCond .eq 20, 3) := by decide +kernel
theorem dX0_isLonePair_15 : decode cX0_isLonePair 15 = .ok (.aload_n 0, 1) := by decide +kernel
theorem dX0_isLonePair_16 : decode cX0_isLonePair 16 = .ok (.getfield 27, 3) := by decide +kernel
theorem dX0_isLonePair_19 : decode cX0_isLonePair 19 = .ok (.iload_n 2, 1) := by decide +kernel
theorem dX0_isLonePair_20 : decode cX0_isLonePair 20 = .ok (.laload, 1) := by decide +kernel
theorem dX0_isLonePair_21 : decode cX0_isLonePair 21 = .ok (.invokestatic 69, 3) := by decide +kernel
theorem dX0_isLonePair_24 : decode cX0_isLonePair 24 = .ok (.iconst 1, 1) := by decide +kernel
theorem dX0_isLonePair_25 : decode cX0_isLonePair 25 = .ok (.if_icmp .ne 7, 3) := by decide +kernel
theorem dX0_isLonePair_28 : decode cX0_isLonePair 28 = .ok (.iconst 1, 1) := by decide +kernel
theorem dX0_isLonePair_29 : decode cX0_isLonePair 29 = .ok (.goto 4, 3) := by decide +kernel
theorem dX0_isLonePair_32 : decode cX0_isLonePair 32 = .ok (.iconst 0, 1) := by decide +kernel
theorem dX0_isLonePair_33 : decode cX0_isLonePair 33 = .ok (.ireturn, 1) := by decide +kernel
theorem dX0_usefulRights_0 : decode cX0_usefulRights 0 = .ok (.aload_n 0, 1) := by decide +kernel
theorem dX0_usefulRights_1 : decode cX0_usefulRights 1 = .ok (.iconst 0, 1) := by decide +kernel
theorem dX0_usefulRights_2 : decode cX0_usefulRights 2 = .ok (.iload_n 1, 1) := by decide +kernel
theorem dX0_usefulRights_3 : decode cX0_usefulRights 3 = .ok (.invokevirtual 66, 3) := by decide +kernel
theorem dX0_usefulRights_6 : decode cX0_usefulRights 6 = .ok (.istore_n 2, 1) := by decide +kernel
theorem dX0_usefulRights_7 : decode cX0_usefulRights 7 = .ok (.aload_n 0, 1) := by decide +kernel
theorem dX0_usefulRights_8 : decode cX0_usefulRights 8 = .ok (.iload_n 2, 1) := by decide +kernel
theorem dX0_usefulRights_9 : decode cX0_usefulRights 9 = .ok (.invokevirtual 59, 3) := by decide +kernel
theorem dX0_usefulRights_12 : decode cX0_usefulRights 12 = .ok (.ifCond .eq 20, 3) := by decide +kernel
theorem dX0_usefulRights_15 : decode cX0_usefulRights 15 = .ok (.aload_n 0, 1) := by decide +kernel
theorem dX0_usefulRights_16 : decode cX0_usefulRights 16 = .ok (.getfield 15, 3) := by decide +kernel
theorem dX0_usefulRights_19 : decode cX0_usefulRights 19 = .ok (.iconst 0, 1) := by decide +kernel
theorem dX0_usefulRights_20 : decode cX0_usefulRights 20 = .ok (.aload_n 0, 1) := by decide +kernel
theorem dX0_usefulRights_21 : decode cX0_usefulRights 21 = .ok (.getfield 27, 3) := by decide +kernel
theorem dX0_usefulRights_24 : decode cX0_usefulRights 24 = .ok (.iload_n 2, 1) := by decide +kernel
theorem dX0_usefulRights_25 : decode cX0_usefulRights 25 = .ok (.laload, 1) := by decide +kernel
theorem dX0_usefulRights_26 : decode cX0_usefulRights 26 = .ok (.invokevirtual 74, 3) := by decide +kernel
theorem dX0_usefulRights_29 : decode cX0_usefulRights 29 = .ok (.goto 20, 3) := by decide +kernel
theorem dX0_usefulRights_32 : decode cX0_usefulRights 32 = .ok (.aload_n 0, 1) := by decide +kernel
theorem dX0_usefulRights_33 : decode cX0_usefulRights 33 = .ok (.getfield 15, 3) := by decide +kernel
theorem dX0_usefulRights_36 : decode cX0_usefulRights 36 = .ok (.iconst 1, 1) := by decide +kernel
theorem dX0_usefulRights_37 : decode cX0_usefulRights 37 = .ok (.aload_n 0, 1) := by decide +kernel
theorem dX0_usefulRights_38 : decode cX0_usefulRights 38 = .ok (.getfield 15, 3) := by decide +kernel
theorem dX0_usefulRights_41 : decode cX0_usefulRights 41 = .ok (.iconst 0, 1) := by decide +kernel
theorem dX0_usefulRights_42 : decode cX0_usefulRights 42 = .ok (.iload_n 1, 1) := by decide +kernel
theorem dX0_usefulRights_43 : decode cX0_usefulRights 43 = .ok (.invokevirtual 78, 3) := by decide +kernel
theorem dX0_usefulRights_46 : decode cX0_usefulRights 46 = .ok (.invokevirtual 81, 3) := by decide +kernel
theorem dX0_usefulRights_49 : decode cX0_usefulRights 49 = .ok (.lstore_n 3, 1) := by decide +kernel
theorem dX0_usefulRights_50 : decode cX0_usefulRights 50 = .ok (.aload_n 0, 1) := by decide +kernel
theorem dX0_usefulRights_51 : decode cX0_usefulRights 51 = .ok (.getfield 9, 3) := by decide +kernel
theorem dX0_usefulRights_54 : decode cX0_usefulRights 54 = .ok (.iconst 0, 1) := by decide +kernel
theorem dX0_usefulRights_55 : decode cX0_usefulRights 55 = .ok (.iload_n 1, 1) := by decide +kernel
theorem dX0_usefulRights_56 : decode cX0_usefulRights 56 = .ok (.invokevirtual 85, 3) := by decide +kernel
theorem dX0_usefulRights_59 : decode cX0_usefulRights 59 = .ok (.lload_n 3, 1) := by decide +kernel
theorem dX0_usefulRights_60 : decode cX0_usefulRights 60 = .ok (.land, 1) := by decide +kernel
theorem dX0_usefulRights_61 : decode cX0_usefulRights 61 = .ok (.lreturn, 1) := by decide +kernel
theorem dX0_findReached_0 : decode cX0_findReached 0 = .ok (.aload_n 0, 1) := by decide +kernel
theorem dX0_findReached_1 : decode cX0_findReached 1 = .ok (.getfield 9, 3) := by decide +kernel
theorem dX0_findReached_4 : decode cX0_findReached 4 = .ok (.iconst 0, 1) := by decide +kernel
theorem dX0_findReached_5 : decode cX0_findReached 5 = .ok (.invokevirtual 88, 3) := by decide +kernel
theorem dX0_findReached_8 : decode cX0_findReached 8 = .ok (.istore_n 1, 1) := by decide +kernel
theorem dX0_findReached_9 : decode cX0_findReached 9 = .ok (.aload_n 0, 1) := by decide +kernel
theorem dX0_findReached_10 : decode cX0_findReached 10 = .ok (.getfield 15, 3) := by decide +kernel
theorem dX0_findReached_13 : decode cX0_findReached 13 = .ok (.iconst 0, 1) := by decide +kernel
theorem dX0_findReached_14 : decode cX0_findReached 14 = .ok (.iconst 1, 1) := by decide +kernel
theorem dX0_findReached_15 : decode cX0_findReached 15 = .ok (.invokevirtual 81, 3) := by decide +kernel
theorem dX0_findReached_18 : decode cX0_findReached 18 = .ok (.lstore_n 2, 1) := by decide +kernel
theorem dX0_findReached_19 : decode cX0_findReached 19 = .ok (.iconst 0, 1) := by decide +kernel
theorem dX0_findReached_20 : decode cX0_findReached 20 = .ok (.istore 4, 2) := by decide +kernel
theorem dX0_findReached_22 : decode cX0_findReached 22 = .ok (.iload 4, 2) := by decide +kernel
theorem dX0_findReached_24 : decode cX0_findReached 24 = .ok (.iload_n 1, 1) := by decide +kernel
theorem dX0_findReached_25 : decode cX0_findReached 25 = .ok (.if_icmp .ge 49, 3) := by decide +kernel
theorem dX0_findReached_28 : decode cX0_findReached 28 = .ok (.aload_n 0, 1) := by decide +kernel
theorem dX0_findReached_29 : decode cX0_findReached 29 = .ok (.getfield 19, 3) := by decide +kernel
theorem dX0_findReached_32 : decode cX0_findReached 32 = .ok (.iload 4, 2) := by decide +kernel
theorem dX0_findReached_34 : decode cX0_findReached 34 = .ok (.lload_n 2, 1) := by decide +kernel
theorem dX0_findReached_35 : decode cX0_findReached 35 = .ok (.iload 4, 2) := by decide +kernel
theorem dX0_findReached_37 : decode cX0_findReached 37 = .ok (.invokestatic 92, 3) := by decide +kernel
theorem dX0_findReached_40 : decode cX0_findReached 40 = .ok (.ifCond .eq 26, 3) := by decide +kernel
theorem dX0_findReached_43 : decode cX0_findReached 43 = .ok (.aload_n 0, 1) := by decide +kernel
theorem dX0_findReached_44 : decode cX0_findReached 44 = .ok (.getfield 15, 3) := by decide +kernel
theorem dX0_findReached_47 : decode cX0_findReached 47 = .ok (.iconst 1, 1) := by decide +kernel
theorem dX0_findReached_48 : decode cX0_findReached 48 = .ok (.aload_n 0, 1) := by decide +kernel
theorem dX0_findReached_49 : decode cX0_findReached 49 = .ok (.getfield 9, 3) := by decide +kernel
theorem dX0_findReached_52 : decode cX0_findReached 52 = .ok (.iconst 0, 1) := by decide +kernel
theorem dX0_findReached_53 : decode cX0_findReached 53 = .ok (.iload 4, 2) := by decide +kernel
theorem dX0_findReached_55 : decode cX0_findReached 55 = .ok (.invokevirtual 85, 3) := by decide +kernel
theorem dX0_findReached_58 : decode cX0_findReached 58 = .ok (.invokevirtual 74, 3) := by decide +kernel
theorem dX0_findReached_61 : decode cX0_findReached 61 = .ok (.lload_n 2, 1) := by decide +kernel
theorem dX0_findReached_62 : decode cX0_findReached 62 = .ok (.land, 1) := by decide +kernel
theorem dX0_findReached_63 : decode cX0_findReached 63 = .ok (.goto 4, 3) := by decide +kernel
theorem dX0_findReached_66 : decode cX0_findReached 66 = .ok (.lconst 0, 1) := by decide +kernel
theorem dX0_findReached_67 : decode cX0_findReached 67 = .ok (.lastore, 1) := by decide +kernel
theorem dX0_findReached_68 : decode cX0_findReached 68 = .ok (.iinc 4 1, 3) := by decide +kernel
theorem dX0_findReached_71 : decode cX0_findReached 71 = .ok (.goto (-49), 3) := by decide +kernel
theorem dX0_findReached_74 : decode cX0_findReached 74 = .ok (.iconst 0, 1) := by decide +kernel
theorem dX0_findReached_75 : decode cX0_findReached 75 = .ok (.istore 4, 2) := by decide +kernel
theorem dX0_findReached_77 : decode cX0_findReached 77 = .ok (.iload 4, 2) := by decide +kernel
theorem dX0_findReached_79 : decode cX0_findReached 79 = .ok (.iload_n 1, 1) := by decide +kernel
theorem dX0_findReached_80 : decode cX0_findReached 80 = .ok (.if_icmp .ge 56, 3) := by decide +kernel
theorem dX0_findReached_83 : decode cX0_findReached 83 = .ok (.iconst 0, 1) := by decide +kernel
theorem dX0_findReached_84 : decode cX0_findReached 84 = .ok (.istore 5, 2) := by decide +kernel
theorem dX0_findReached_86 : decode cX0_findReached 86 = .ok (.iload 5, 2) := by decide +kernel
theorem dX0_findReached_88 : decode cX0_findReached 88 = .ok (.iload_n 1, 1) := by decide +kernel
theorem dX0_findReached_89 : decode cX0_findReached 89 = .ok (.if_icmp .ge 41, 3) := by decide +kernel
theorem dX0_findReached_92 : decode cX0_findReached 92 = .ok (.aload_n 0, 1) := by decide +kernel
theorem dX0_findReached_93 : decode cX0_findReached 93 = .ok (.getfield 19, 3) := by decide +kernel
theorem dX0_findReached_96 : decode cX0_findReached 96 = .ok (.iload 5, 2) := by decide +kernel
theorem dX0_findReached_98 : decode cX0_findReached 98 = .ok (.laload, 1) := by decide +kernel
theorem dX0_findReached_99 : decode cX0_findReached 99 = .ok (.iload 4, 2) := by decide +kernel
theorem dX0_findReached_101 : decode cX0_findReached 101 = .ok (.invokestatic 92, 3) := by decide +kernel
theorem dX0_findReached_104 : decode cX0_findReached 104 = .ok (.ifCond .eq 20, 3) := by decide +kernel
theorem dX0_findReached_107 : decode cX0_findReached 107 = .ok (.aload_n 0, 1) := by decide +kernel
theorem dX0_findReached_108 : decode cX0_findReached 108 = .ok (.getfield 19, 3) := by decide +kernel
theorem dX0_findReached_111 : decode cX0_findReached 111 = .ok (.iload 5, 2) := by decide +kernel
theorem dX0_findReached_113 : decode cX0_findReached 113 = .ok (.dup2, 1) := by decide +kernel
theorem dX0_findReached_114 : decode cX0_findReached 114 = .ok (.laload, 1) := by decide +kernel
theorem dX0_findReached_115 : decode cX0_findReached 115 = .ok (.aload_n 0, 1) := by decide +kernel
theorem dX0_findReached_116 : decode cX0_findReached 116 = .ok (.getfield 19, 3) := by decide +kernel
theorem dX0_findReached_119 : decode cX0_findReached 119 = .ok (.iload 4, 2) := by decide +kernel
theorem dX0_findReached_121 : decode cX0_findReached 121 = .ok (.laload, 1) := by decide +kernel
theorem dX0_findReached_122 : decode cX0_findReached 122 = .ok (.lor, 1) := by decide +kernel
theorem dX0_findReached_123 : decode cX0_findReached 123 = .ok (.lastore, 1) := by decide +kernel
theorem dX0_findReached_124 : decode cX0_findReached 124 = .ok (.iinc 5 1, 3) := by decide +kernel
theorem dX0_findReached_127 : decode cX0_findReached 127 = .ok (.goto (-41), 3) := by decide +kernel
theorem dX0_findReached_130 : decode cX0_findReached 130 = .ok (.iinc 4 1, 3) := by decide +kernel
theorem dX0_findReached_133 : decode cX0_findReached 133 = .ok (.goto (-56), 3) := by decide +kernel
theorem dX0_findReached_136 : decode cX0_findReached 136 = .ok (.return_, 1) := by decide +kernel
theorem dX0_numberAll_0 : decode cX0_numberAll 0 = .ok (.aload_n 0, 1) := by decide +kernel
theorem dX0_numberAll_1 : decode cX0_numberAll 1 = .ok (.getfield 23, 3) := by decide +kernel
theorem dX0_numberAll_4 : decode cX0_numberAll 4 = .ok (.bipush (-3), 2) := by decide +kernel
theorem dX0_numberAll_6 : decode cX0_numberAll 6 = .ok (.invokestatic 96, 3) := by decide +kernel
theorem dX0_numberAll_9 : decode cX0_numberAll 9 = .ok (.aload_n 0, 1) := by decide +kernel
theorem dX0_numberAll_10 : decode cX0_numberAll 10 = .ok (.iconst 0, 1) := by decide +kernel
theorem dX0_numberAll_11 : decode cX0_numberAll 11 = .ok (.putfield 30, 3) := by decide +kernel
theorem dX0_numberAll_14 : decode cX0_numberAll 14 = .ok (.aload_n 0, 1) := by decide +kernel
theorem dX0_numberAll_15 : decode cX0_numberAll 15 = .ok (.getfield 15, 3) := by decide +kernel
theorem dX0_numberAll_18 : decode cX0_numberAll 18 = .ok (.iconst 0, 1) := by decide +kernel
theorem dX0_numberAll_19 : decode cX0_numberAll 19 = .ok (.iconst 1, 1) := by decide +kernel
theorem dX0_numberAll_20 : decode cX0_numberAll 20 = .ok (.invokevirtual 81, 3) := by decide +kernel
theorem dX0_numberAll_23 : decode cX0_numberAll 23 = .ok (.lstore_n 1, 1) := by decide +kernel
theorem dX0_numberAll_24 : decode cX0_numberAll 24 = .ok (.iconst 0, 1) := by decide +kernel
theorem dX0_numberAll_25 : decode cX0_numberAll 25 = .ok (.istore_n 3, 1) := by decide +kernel
theorem dX0_numberAll_26 : decode cX0_numberAll 26 = .ok (.iload_n 3, 1) := by decide +kernel
theorem dX0_numberAll_27 : decode cX0_numberAll 27 = .ok (.aload_n 0, 1) := by decide +kernel
theorem dX0_numberAll_28 : decode cX0_numberAll 28 = .ok (.getfield 9, 3) := by decide +kernel
theorem dX0_numberAll_31 : decode cX0_numberAll 31 = .ok (.iconst 0, 1) := by decide +kernel
theorem dX0_numberAll_32 : decode cX0_numberAll 32 = .ok (.invokevirtual 88, 3) := by decide +kernel
theorem dX0_numberAll_35 : decode cX0_numberAll 35 = .ok (.if_icmp .ge 64, 3) := by decide +kernel
theorem dX0_numberAll_38 : decode cX0_numberAll 38 = .ok (.lload_n 1, 1) := by decide +kernel
theorem dX0_numberAll_39 : decode cX0_numberAll 39 = .ok (.iload_n 3, 1) := by decide +kernel
theorem dX0_numberAll_40 : decode cX0_numberAll 40 = .ok (.invokestatic 92, 3) := by decide +kernel
theorem dX0_numberAll_43 : decode cX0_numberAll 43 = .ok (.ifCond .eq 50, 3) := by decide +kernel
theorem dX0_numberAll_46 : decode cX0_numberAll 46 = .ok (.aload_n 0, 1) := by decide +kernel
theorem dX0_numberAll_47 : decode cX0_numberAll 47 = .ok (.getfield 23, 3) := by decide +kernel
theorem dX0_numberAll_50 : decode cX0_numberAll 50 = .ok (.iload_n 3, 1) := by decide +kernel
theorem dX0_numberAll_51 : decode cX0_numberAll 51 = .ok (.iaload, 1) := by decide +kernel
theorem dX0_numberAll_52 : decode cX0_numberAll 52 = .ok (.bipush (-3), 2) := by decide +kernel
theorem dX0_numberAll_54 : decode cX0_numberAll 54 = .ok (.if_icmp .ne 39, 3) := by decide +kernel
theorem dX0_numberAll_57 : decode cX0_numberAll 57 = .ok (.aload_n 0, 1) := by decide +kernel
theorem dX0_numberAll_58 : decode cX0_numberAll 58 = .ok (.getfield 30, 3) := by decide +kernel
theorem dX0_numberAll_61 : decode cX0_numberAll 61 = .ok (.aload_n 0, 1) := by decide +kernel
theorem dX0_numberAll_62 : decode cX0_numberAll 62 = .ok (.getfield 27, 3) := by decide +kernel
theorem dX0_numberAll_65 : decode cX0_numberAll 65 = .ok (.arraylength, 1) := by decide +kernel
theorem dX0_numberAll_66 : decode cX0_numberAll 66 = .ok (.if_icmp .ge 27, 3) := by decide +kernel
theorem dX0_numberAll_69 : decode cX0_numberAll 69 = .ok (.aload_n 0, 1) := by decide +kernel
theorem dX0_numberAll_70 : decode cX0_numberAll 70 = .ok (.getfield 27, 3) := by decide +kernel
theorem dX0_numberAll_73 : decode cX0_numberAll 73 = .ok (.aload_n 0, 1) := by decide +kernel
theorem dX0_numberAll_74 : decode cX0_numberAll 74 = .ok (.getfield 30, 3) := by decide +kernel
theorem dX0_numberAll_77 : decode cX0_numberAll 77 = .ok (.aload_n 0, 1) := by decide +kernel
theorem dX0_numberAll_78 : decode cX0_numberAll 78 = .ok (.iload_n 3, 1) := by decide +kernel
theorem dX0_numberAll_79 : decode cX0_numberAll 79 = .ok (.invokevirtual 102, 3) := by decide +kernel
theorem dX0_numberAll_82 : decode cX0_numberAll 82 = .ok (.lastore, 1) := by decide +kernel
theorem dX0_numberAll_83 : decode cX0_numberAll 83 = .ok (.aload_n 0, 1) := by decide +kernel
theorem dX0_numberAll_84 : decode cX0_numberAll 84 = .ok (.dup, 1) := by decide +kernel
theorem dX0_numberAll_85 : decode cX0_numberAll 85 = .ok (.getfield 30, 3) := by decide +kernel
theorem dX0_numberAll_88 : decode cX0_numberAll 88 = .ok (.iconst 1, 1) := by decide +kernel
theorem dX0_numberAll_89 : decode cX0_numberAll 89 = .ok (.iadd, 1) := by decide +kernel
theorem dX0_numberAll_90 : decode cX0_numberAll 90 = .ok (.putfield 30, 3) := by decide +kernel
theorem dX0_numberAll_93 : decode cX0_numberAll 93 = .ok (.iinc 3 1, 3) := by decide +kernel
theorem dX0_numberAll_96 : decode cX0_numberAll 96 = .ok (.goto (-70), 3) := by decide +kernel
theorem dX0_numberAll_99 : decode cX0_numberAll 99 = .ok (.return_, 1) := by decide +kernel
theorem dX0_gather_0 : decode cX0_gather 0 = .ok (.lconst 0, 1) := by decide +kernel
theorem dX0_gather_1 : decode cX0_gather 1 = .ok (.lstore_n 2, 1) := by decide +kernel
theorem dX0_gather_2 : decode cX0_gather 2 = .ok (.iconst 0, 1) := by decide +kernel
theorem dX0_gather_3 : decode cX0_gather 3 = .ok (.istore 4, 2) := by decide +kernel
theorem dX0_gather_5 : decode cX0_gather 5 = .ok (.iload 4, 2) := by decide +kernel
theorem dX0_gather_7 : decode cX0_gather 7 = .ok (.aload_n 0, 1) := by decide +kernel
theorem dX0_gather_8 : decode cX0_gather 8 = .ok (.getfield 9, 3) := by decide +kernel
theorem dX0_gather_11 : decode cX0_gather 11 = .ok (.iconst 0, 1) := by decide +kernel
theorem dX0_gather_12 : decode cX0_gather 12 = .ok (.invokevirtual 88, 3) := by decide +kernel
theorem dX0_gather_15 : decode cX0_gather 15 = .ok (.if_icmp .ge 55, 3) := by decide +kernel
theorem dX0_gather_18 : decode cX0_gather 18 = .ok (.aload_n 0, 1) := by decide +kernel
theorem dX0_gather_19 : decode cX0_gather 19 = .ok (.getfield 19, 3) := by decide +kernel
theorem dX0_gather_22 : decode cX0_gather 22 = .ok (.iload_n 1, 1) := by decide +kernel
theorem dX0_gather_23 : decode cX0_gather 23 = .ok (.laload, 1) := by decide +kernel
theorem dX0_gather_24 : decode cX0_gather 24 = .ok (.iload 4, 2) := by decide +kernel
theorem dX0_gather_26 : decode cX0_gather 26 = .ok (.invokestatic 92, 3) := by decide +kernel
theorem dX0_gather_29 : decode cX0_gather 29 = .ok (.ifCond .eq 35, 3) := by decide +kernel
theorem dX0_gather_32 : decode cX0_gather 32 = .ok (.aload_n 0, 1) := by decide +kernel
theorem dX0_gather_33 : decode cX0_gather 33 = .ok (.getfield 19, 3) := by decide +kernel
theorem dX0_gather_36 : decode cX0_gather 36 = .ok (.iload 4, 2) := by decide +kernel
theorem dX0_gather_38 : decode cX0_gather 38 = .ok (.laload, 1) := by decide +kernel
theorem dX0_gather_39 : decode cX0_gather 39 = .ok (.iload_n 1, 1) := by decide +kernel
theorem dX0_gather_40 : decode cX0_gather 40 = .ok (.invokestatic 92, 3) := by decide +kernel
theorem dX0_gather_43 : decode cX0_gather 43 = .ok (.ifCond .eq 21, 3) := by decide +kernel
theorem dX0_gather_46 : decode cX0_gather 46 = .ok (.lload_n 2, 1) := by decide +kernel
theorem dX0_gather_47 : decode cX0_gather 47 = .ok (.lconst 1, 1) := by decide +kernel
theorem dX0_gather_48 : decode cX0_gather 48 = .ok (.iload 4, 2) := by decide +kernel
theorem dX0_gather_50 : decode cX0_gather 50 = .ok (.lshl, 1) := by decide +kernel
theorem dX0_gather_51 : decode cX0_gather 51 = .ok (.lor, 1) := by decide +kernel
theorem dX0_gather_52 : decode cX0_gather 52 = .ok (.lstore_n 2, 1) := by decide +kernel
theorem dX0_gather_53 : decode cX0_gather 53 = .ok (.aload_n 0, 1) := by decide +kernel
theorem dX0_gather_54 : decode cX0_gather 54 = .ok (.getfield 23, 3) := by decide +kernel
theorem dX0_gather_57 : decode cX0_gather 57 = .ok (.iload 4, 2) := by decide +kernel
theorem dX0_gather_59 : decode cX0_gather 59 = .ok (.aload_n 0, 1) := by decide +kernel
theorem dX0_gather_60 : decode cX0_gather 60 = .ok (.getfield 30, 3) := by decide +kernel
theorem dX0_gather_63 : decode cX0_gather 63 = .ok (.iastore, 1) := by decide +kernel
theorem dX0_gather_64 : decode cX0_gather 64 = .ok (.iinc 4 1, 3) := by decide +kernel
theorem dX0_gather_67 : decode cX0_gather 67 = .ok (.goto (-62), 3) := by decide +kernel
theorem dX0_gather_70 : decode cX0_gather 70 = .ok (.lload_n 2, 1) := by decide +kernel
theorem dX0_gather_71 : decode cX0_gather 71 = .ok (.lreturn, 1) := by decide +kernel
theorem dX1_init_0 : decode cX1_init 0 = .ok (.aload_n 0, 1) := by decide +kernel
theorem dX1_init_1 : decode cX1_init 1 = .ok (.invokespecial 3, 3) := by decide +kernel
theorem dX1_init_4 : decode cX1_init 4 = .ok (.aload_n 0, 1) := by decide +kernel
theorem dX1_init_5 : decode cX1_init 5 = .ok (.iload_n 1, 1) := by decide +kernel
theorem dX1_init_6 : decode cX1_init 6 = .ok (.putfield 9, 3) := by decide +kernel
theorem dX1_init_9 : decode cX1_init 9 = .ok (.aload_n 0, 1) := by decide +kernel
theorem dX1_init_10 : decode cX1_init 10 = .ok (.iconst 2, 1) := by decide +kernel
theorem dX1_init_11 : decode cX1_init 11 = .ok (.newarray .int, 2) := by decide +kernel
theorem dX1_init_13 : decode cX1_init 13 = .ok (.putfield 15, 3) := by decide +kernel
theorem dX1_init_16 : decode cX1_init 16 = .ok (.aload_n 0, 1) := by decide +kernel
theorem dX1_init_17 : decode cX1_init 17 = .ok (.iconst 2, 1) := by decide +kernel
theorem dX1_init_18 : decode cX1_init 18 = .ok (.iload_n 1, 1) := by decide +kernel
theorem dX1_init_19 : decode cX1_init 19 = .ok (.multianewarray 19 2, 4) := by decide +kernel
theorem dX1_init_23 : decode cX1_init 23 = .ok (.putfield 21, 3) := by decide +kernel
theorem dX1_init_26 : decode cX1_init 26 = .ok (.aload_n 0, 1) := by decide +kernel
theorem dX1_init_27 : decode cX1_init 27 = .ok (.iconst 0, 1) := by decide +kernel
theorem dX1_init_28 : decode cX1_init 28 = .ok (.putfield 24, 3) := by decide +kernel
theorem dX1_init_31 : decode cX1_init 31 = .ok (.return_, 1) := by decide +kernel
theorem dX1_changes_0 : decode cX1_changes 0 = .ok (.aload_n 0, 1) := by decide +kernel
theorem dX1_changes_1 : decode cX1_changes 1 = .ok (.getfield 24, 3) := by decide +kernel
theorem dX1_changes_4 : decode cX1_changes 4 = .ok (.ireturn, 1) := by decide +kernel
theorem dX1_most_0 : decode cX1_most 0 = .ok (.aload_n 0, 1) := by decide +kernel
theorem dX1_most_1 : decode cX1_most 1 = .ok (.getfield 9, 3) := by decide +kernel
theorem dX1_most_4 : decode cX1_most 4 = .ok (.ireturn, 1) := by decide +kernel
theorem dX1_sizeOf_0 : decode cX1_sizeOf 0 = .ok (.iload_n 1, 1) := by decide +kernel
theorem dX1_sizeOf_1 : decode cX1_sizeOf 1 = .ok (.invokestatic 27, 3) := by decide +kernel
theorem dX1_sizeOf_4 : decode cX1_sizeOf 4 = .ok (.ifCond .eq 12, 3) := by decide +kernel
theorem dX1_sizeOf_7 : decode cX1_sizeOf 7 = .ok (.aload_n 0, 1) := by decide +kernel
theorem dX1_sizeOf_8 : decode cX1_sizeOf 8 = .ok (.getfield 15, 3) := by decide +kernel
theorem dX1_sizeOf_11 : decode cX1_sizeOf 11 = .ok (.iload_n 1, 1) := by decide +kernel
theorem dX1_sizeOf_12 : decode cX1_sizeOf 12 = .ok (.iaload, 1) := by decide +kernel
theorem dX1_sizeOf_13 : decode cX1_sizeOf 13 = .ok (.goto 4, 3) := by decide +kernel
theorem dX1_sizeOf_16 : decode cX1_sizeOf 16 = .ok (.iconst 0, 1) := by decide +kernel
theorem dX1_sizeOf_17 : decode cX1_sizeOf 17 = .ok (.ireturn, 1) := by decide +kernel
theorem dX1_holds_0 : decode cX1_holds 0 = .ok (.iload_n 1, 1) := by decide +kernel
theorem dX1_holds_1 : decode cX1_holds 1 = .ok (.invokestatic 27, 3) := by decide +kernel
theorem dX1_holds_4 : decode cX1_holds 4 = .ok (.ifCond .eq 21, 3) := by decide +kernel
theorem dX1_holds_7 : decode cX1_holds 7 = .ok (.iload_n 2, 1) := by decide +kernel
theorem dX1_holds_8 : decode cX1_holds 8 = .ok (.ifCond .lt 17, 3) := by decide +kernel
theorem dX1_holds_11 : decode cX1_holds 11 = .ok (.iload_n 2, 1) := by decide +kernel
theorem dX1_holds_12 : decode cX1_holds 12 = .ok (.aload_n 0, 1) := by decide +kernel
theorem dX1_holds_13 : decode cX1_holds 13 = .ok (.getfield 15, 3) := by decide +kernel
theorem dX1_holds_16 : decode cX1_holds 16 = .ok (.iload_n 1, 1) := by decide +kernel
theorem dX1_holds_17 : decode cX1_holds 17 = .ok (.iaload, 1) := by decide +kernel
theorem dX1_holds_18 : decode cX1_holds 18 = .ok (.if_icmp .ge 7, 3) := by decide +kernel
theorem dX1_holds_21 : decode cX1_holds 21 = .ok (.iconst 1, 1) := by decide +kernel
theorem dX1_holds_22 : decode cX1_holds 22 = .ok (.goto 4, 3) := by decide +kernel
theorem dX1_holds_25 : decode cX1_holds 25 = .ok (.iconst 0, 1) := by decide +kernel
theorem dX1_holds_26 : decode cX1_holds 26 = .ok (.ireturn, 1) := by decide +kernel
theorem dX1_joins_0 : decode cX1_joins 0 = .ok (.aload_n 0, 1) := by decide +kernel
theorem dX1_joins_1 : decode cX1_joins 1 = .ok (.iconst 0, 1) := by decide +kernel
theorem dX1_joins_2 : decode cX1_joins 2 = .ok (.iload_n 1, 1) := by decide +kernel
theorem dX1_joins_3 : decode cX1_joins 3 = .ok (.invokevirtual 31, 3) := by decide +kernel
theorem dX1_joins_6 : decode cX1_joins 6 = .ok (.ifCond .eq 31, 3) := by decide +kernel
theorem dX1_joins_9 : decode cX1_joins 9 = .ok (.aload_n 0, 1) := by decide +kernel
theorem dX1_joins_10 : decode cX1_joins 10 = .ok (.iconst 1, 1) := by decide +kernel
theorem dX1_joins_11 : decode cX1_joins 11 = .ok (.iload_n 2, 1) := by decide +kernel
theorem dX1_joins_12 : decode cX1_joins 12 = .ok (.invokevirtual 31, 3) := by decide +kernel
theorem dX1_joins_15 : decode cX1_joins 15 = .ok (.ifCond .eq 22, 3) := by decide +kernel
theorem dX1_joins_18 : decode cX1_joins 18 = .ok (.aload_n 0, 1) := by decide +kernel
theorem dX1_joins_19 : decode cX1_joins 19 = .ok (.getfield 21, 3) := by decide +kernel
theorem dX1_joins_22 : decode cX1_joins 22 = .ok (.iconst 0, 1) := by decide +kernel
theorem dX1_joins_23 : decode cX1_joins 23 = .ok (.aaload, 1) := by decide +kernel
theorem dX1_joins_24 : decode cX1_joins 24 = .ok (.iload_n 1, 1) := by decide +kernel
theorem dX1_joins_25 : decode cX1_joins 25 = .ok (.laload, 1) := by decide +kernel
theorem dX1_joins_26 : decode cX1_joins 26 = .ok (.iload_n 2, 1) := by decide +kernel
theorem dX1_joins_27 : decode cX1_joins 27 = .ok (.invokestatic 35, 3) := by decide +kernel
theorem dX1_joins_30 : decode cX1_joins 30 = .ok (.ifCond .eq 7, 3) := by decide +kernel
theorem dX1_joins_33 : decode cX1_joins 33 = .ok (.iconst 1, 1) := by decide +kernel
theorem dX1_joins_34 : decode cX1_joins 34 = .ok (.goto 4, 3) := by decide +kernel
theorem dX1_joins_37 : decode cX1_joins 37 = .ok (.iconst 0, 1) := by decide +kernel
theorem dX1_joins_38 : decode cX1_joins 38 = .ok (.ireturn, 1) := by decide +kernel
theorem dX1_all_0 : decode cX1_all 0 = .ok (.iload_n 1, 1) := by decide +kernel
theorem dX1_all_1 : decode cX1_all 1 = .ok (.invokestatic 27, 3) := by decide +kernel
theorem dX1_all_4 : decode cX1_all 4 = .ok (.ifCond .eq 16, 3) := by decide +kernel
theorem dX1_all_7 : decode cX1_all 7 = .ok (.lconst 1, 1) := by decide +kernel
theorem dX1_all_8 : decode cX1_all 8 = .ok (.aload_n 0, 1) := by decide +kernel
theorem dX1_all_9 : decode cX1_all 9 = .ok (.getfield 15, 3) := by decide +kernel
theorem dX1_all_12 : decode cX1_all 12 = .ok (.iload_n 1, 1) := by decide +kernel
theorem dX1_all_13 : decode cX1_all 13 = .ok (.iaload, 1) := by decide +kernel
theorem dX1_all_14 : decode cX1_all 14 = .ok (.lshl, 1) := by decide +kernel
theorem dX1_all_15 : decode cX1_all 15 = .ok (.lconst 1, 1) := by decide +kernel
theorem dX1_all_16 : decode cX1_all 16 = .ok (.lsub, 1) := by decide +kernel
theorem dX1_all_17 : decode cX1_all 17 = .ok (.goto 4, 3) := by decide +kernel
theorem dX1_all_20 : decode cX1_all 20 = .ok (.lconst 0, 1) := by decide +kernel
theorem dX1_all_21 : decode cX1_all 21 = .ok (.lreturn, 1) := by decide +kernel
theorem dX1_across_0 : decode cX1_across 0 = .ok (.aload_n 0, 1) := by decide +kernel
theorem dX1_across_1 : decode cX1_across 1 = .ok (.iload_n 1, 1) := by decide +kernel
theorem dX1_across_2 : decode cX1_across 2 = .ok (.iload_n 2, 1) := by decide +kernel
theorem dX1_across_3 : decode cX1_across 3 = .ok (.invokevirtual 31, 3) := by decide +kernel
theorem dX1_across_6 : decode cX1_across 6 = .ok (.ifCond .eq 14, 3) := by decide +kernel
theorem dX1_across_9 : decode cX1_across 9 = .ok (.aload_n 0, 1) := by decide +kernel
theorem dX1_across_10 : decode cX1_across 10 = .ok (.getfield 21, 3) := by decide +kernel
theorem dX1_across_13 : decode cX1_across 13 = .ok (.iload_n 1, 1) := by decide +kernel
theorem dX1_across_14 : decode cX1_across 14 = .ok (.aaload, 1) := by decide +kernel
theorem dX1_across_15 : decode cX1_across 15 = .ok (.iload_n 2, 1) := by decide +kernel
theorem dX1_across_16 : decode cX1_across 16 = .ok (.laload, 1) := by decide +kernel
theorem dX1_across_17 : decode cX1_across 17 = .ok (.goto 4, 3) := by decide +kernel
theorem dX1_across_20 : decode cX1_across 20 = .ok (.lconst 0, 1) := by decide +kernel
theorem dX1_across_21 : decode cX1_across 21 = .ok (.lreturn, 1) := by decide +kernel
theorem dX1_neighbours_0 : decode cX1_neighbours 0 = .ok (.lconst 0, 1) := by decide +kernel
theorem dX1_neighbours_1 : decode cX1_neighbours 1 = .ok (.lstore 4, 2) := by decide +kernel
theorem dX1_neighbours_3 : decode cX1_neighbours 3 = .ok (.iconst 0, 1) := by decide +kernel
theorem dX1_neighbours_4 : decode cX1_neighbours 4 = .ok (.istore 6, 2) := by decide +kernel
theorem dX1_neighbours_6 : decode cX1_neighbours 6 = .ok (.iload 6, 2) := by decide +kernel
theorem dX1_neighbours_8 : decode cX1_neighbours 8 = .ok (.aload_n 0, 1) := by decide +kernel
theorem dX1_neighbours_9 : decode cX1_neighbours 9 = .ok (.iload_n 1, 1) := by decide +kernel
theorem dX1_neighbours_10 : decode cX1_neighbours 10 = .ok (.invokevirtual 39, 3) := by decide +kernel
theorem dX1_neighbours_13 : decode cX1_neighbours 13 = .ok (.if_icmp .ge 32, 3) := by decide +kernel
theorem dX1_neighbours_16 : decode cX1_neighbours 16 = .ok (.lload_n 2, 1) := by decide +kernel
theorem dX1_neighbours_17 : decode cX1_neighbours 17 = .ok (.iload 6, 2) := by decide +kernel
theorem dX1_neighbours_19 : decode cX1_neighbours 19 = .ok (.invokestatic 35, 3) := by decide +kernel
theorem dX1_neighbours_22 : decode cX1_neighbours 22 = .ok (.ifCond .eq 17, 3) := by decide +kernel
theorem dX1_neighbours_25 : decode cX1_neighbours 25 = .ok (.lload 4, 2) := by decide +kernel
theorem dX1_neighbours_27 : decode cX1_neighbours 27 = .ok (.aload_n 0, 1) := by decide +kernel
theorem dX1_neighbours_28 : decode cX1_neighbours 28 = .ok (.getfield 21, 3) := by decide +kernel
theorem dX1_neighbours_31 : decode cX1_neighbours 31 = .ok (.iload_n 1, 1) := by decide +kernel
theorem dX1_neighbours_32 : decode cX1_neighbours 32 = .ok (.aaload, 1) := by decide +kernel
theorem dX1_neighbours_33 : decode cX1_neighbours 33 = .ok (.iload 6, 2) := by decide +kernel
theorem dX1_neighbours_35 : decode cX1_neighbours 35 = .ok (.laload, 1) := by decide +kernel
theorem dX1_neighbours_36 : decode cX1_neighbours 36 = .ok (.lor, 1) := by decide +kernel
theorem dX1_neighbours_37 : decode cX1_neighbours 37 = .ok (.lstore 4, 2) := by decide +kernel
theorem dX1_neighbours_39 : decode cX1_neighbours 39 = .ok (.iinc 6 1, 3) := by decide +kernel
theorem dX1_neighbours_42 : decode cX1_neighbours 42 = .ok (.goto (-36), 3) := by decide +kernel
theorem dX1_neighbours_45 : decode cX1_neighbours 45 = .ok (.lload 4, 2) := by decide +kernel
theorem dX1_neighbours_47 : decode cX1_neighbours 47 = .ok (.lreturn, 1) := by decide +kernel
theorem dX1_edges_0 : decode cX1_edges 0 = .ok (.iconst 0, 1) := by decide +kernel
theorem dX1_edges_1 : decode cX1_edges 1 = .ok (.istore_n 1, 1) := by decide +kernel
theorem dX1_edges_2 : decode cX1_edges 2 = .ok (.iconst 0, 1) := by decide +kernel
theorem dX1_edges_3 : decode cX1_edges 3 = .ok (.istore_n 2, 1) := by decide +kernel
theorem dX1_edges_4 : decode cX1_edges 4 = .ok (.iload_n 2, 1) := by decide +kernel
theorem dX1_edges_5 : decode cX1_edges 5 = .ok (.aload_n 0, 1) := by decide +kernel
theorem dX1_edges_6 : decode cX1_edges 6 = .ok (.getfield 15, 3) := by decide +kernel
theorem dX1_edges_9 : decode cX1_edges 9 = .ok (.iconst 0, 1) := by decide +kernel
theorem dX1_edges_10 : decode cX1_edges 10 = .ok (.iaload, 1) := by decide +kernel
theorem dX1_edges_11 : decode cX1_edges 11 = .ok (.if_icmp .ge 23, 3) := by decide +kernel
theorem dX1_edges_14 : decode cX1_edges 14 = .ok (.iload_n 1, 1) := by decide +kernel
theorem dX1_edges_15 : decode cX1_edges 15 = .ok (.aload_n 0, 1) := by decide +kernel
theorem dX1_edges_16 : decode cX1_edges 16 = .ok (.getfield 21, 3) := by decide +kernel
theorem dX1_edges_19 : decode cX1_edges 19 = .ok (.iconst 0, 1) := by decide +kernel
theorem dX1_edges_20 : decode cX1_edges 20 = .ok (.aaload, 1) := by decide +kernel
theorem dX1_edges_21 : decode cX1_edges 21 = .ok (.iload_n 2, 1) := by decide +kernel
theorem dX1_edges_22 : decode cX1_edges 22 = .ok (.laload, 1) := by decide +kernel
theorem dX1_edges_23 : decode cX1_edges 23 = .ok (.invokestatic 43, 3) := by decide +kernel
theorem dX1_edges_26 : decode cX1_edges 26 = .ok (.iadd, 1) := by decide +kernel
theorem dX1_edges_27 : decode cX1_edges 27 = .ok (.istore_n 1, 1) := by decide +kernel
theorem dX1_edges_28 : decode cX1_edges 28 = .ok (.iinc 2 1, 3) := by decide +kernel
theorem dX1_edges_31 : decode cX1_edges 31 = .ok (.goto (-27), 3) := by decide +kernel
theorem dX1_edges_34 : decode cX1_edges 34 = .ok (.iload_n 1, 1) := by decide +kernel
theorem dX1_edges_35 : decode cX1_edges 35 = .ok (.ireturn, 1) := by decide +kernel
theorem dX1_add_0 : decode cX1_add 0 = .ok (.iload_n 1, 1) := by decide +kernel
theorem dX1_add_1 : decode cX1_add 1 = .ok (.invokestatic 27, 3) := by decide +kernel
theorem dX1_add_4 : decode cX1_add 4 = .ok (.ifCond .ne 5, 3) := by decide +kernel
theorem dX1_add_7 : decode cX1_add 7 = .ok (.iconst (-1), 1) := by decide +kernel
theorem dX1_add_8 : decode cX1_add 8 = .ok (.ireturn, 1) := by decide +kernel
theorem dX1_add_9 : decode cX1_add 9 = .ok (.aload_n 0, 1) := by decide +kernel
theorem dX1_add_10 : decode cX1_add 10 = .ok (.getfield 15, 3) := by decide +kernel
theorem dX1_add_13 : decode cX1_add 13 = .ok (.iload_n 1, 1) := by decide +kernel
theorem dX1_add_14 : decode cX1_add 14 = .ok (.iaload, 1) := by decide +kernel
theorem dX1_add_15 : decode cX1_add 15 = .ok (.istore_n 2, 1) := by decide +kernel
theorem dX1_add_16 : decode cX1_add 16 = .ok (.iload_n 2, 1) := by decide +kernel
theorem dX1_add_17 : decode cX1_add 17 = .ok (.aload_n 0, 1) := by decide +kernel
theorem dX1_add_18 : decode cX1_add 18 = .ok (.getfield 9, 3) := by decide +kernel
theorem dX1_add_21 : decode cX1_add 21 = .ok (.if_icmp .lt 6, 3) := by decide +kernel
theorem dX1_add_24 : decode cX1_add 24 = .ok (.bipush (-2), 2) := by decide +kernel
theorem dX1_add_26 : decode cX1_add 26 = .ok (.ireturn, 1) := by decide +kernel
theorem dX1_add_27 : decode cX1_add 27 = .ok (.aload_n 0, 1) := by decide +kernel
theorem dX1_add_28 : decode cX1_add 28 = .ok (.getfield 15, 3) := by decide +kernel
theorem dX1_add_31 : decode cX1_add 31 = .ok (.iload_n 1, 1) := by decide +kernel
theorem dX1_add_32 : decode cX1_add 32 = .ok (.iload_n 2, 1) := by decide +kernel
theorem dX1_add_33 : decode cX1_add 33 = .ok (.iconst 1, 1) := by decide +kernel
theorem dX1_add_34 : decode cX1_add 34 = .ok (.iadd, 1) := by decide +kernel
theorem dX1_add_35 : decode cX1_add 35 = .ok (.iastore, 1) := by decide +kernel
theorem dX1_add_36 : decode cX1_add 36 = .ok (.aload_n 0, 1) := by decide +kernel
theorem dX1_add_37 : decode cX1_add 37 = .ok (.dup, 1) := by decide +kernel
theorem dX1_add_38 : decode cX1_add 38 = .ok (.getfield 24, 3) := by decide +kernel
theorem dX1_add_41 : decode cX1_add 41 = .ok (.iconst 1, 1) := by decide +kernel
theorem dX1_add_42 : decode cX1_add 42 = .ok (.iadd, 1) := by decide +kernel
theorem dX1_add_43 : decode cX1_add 43 = .ok (.putfield 24, 3) := by decide +kernel
theorem dX1_add_46 : decode cX1_add 46 = .ok (.iload_n 2, 1) := by decide +kernel
theorem dX1_add_47 : decode cX1_add 47 = .ok (.ireturn, 1) := by decide +kernel
theorem dX1_joinAll_0 : decode cX1_joinAll 0 = .ok (.iconst 0, 1) := by decide +kernel
theorem dX1_joinAll_1 : decode cX1_joinAll 1 = .ok (.istore 5, 2) := by decide +kernel
theorem dX1_joinAll_3 : decode cX1_joinAll 3 = .ok (.iload 5, 2) := by decide +kernel
theorem dX1_joinAll_5 : decode cX1_joinAll 5 = .ok (.aload_n 0, 1) := by decide +kernel
theorem dX1_joinAll_6 : decode cX1_joinAll 6 = .ok (.getfield 15, 3) := by decide +kernel
theorem dX1_joinAll_9 : decode cX1_joinAll 9 = .ok (.iconst 0, 1) := by decide +kernel
theorem dX1_joinAll_10 : decode cX1_joinAll 10 = .ok (.iaload, 1) := by decide +kernel
theorem dX1_joinAll_11 : decode cX1_joinAll 11 = .ok (.if_icmp .ge 31, 3) := by decide +kernel
theorem dX1_joinAll_14 : decode cX1_joinAll 14 = .ok (.lload_n 1, 1) := by decide +kernel
theorem dX1_joinAll_15 : decode cX1_joinAll 15 = .ok (.iload 5, 2) := by decide +kernel
theorem dX1_joinAll_17 : decode cX1_joinAll 17 = .ok (.invokestatic 35, 3) := by decide +kernel
theorem dX1_joinAll_20 : decode cX1_joinAll 20 = .ok (.ifCond .eq 16, 3) := by decide +kernel
theorem dX1_joinAll_23 : decode cX1_joinAll 23 = .ok (.aload_n 0, 1) := by decide +kernel
theorem dX1_joinAll_24 : decode cX1_joinAll 24 = .ok (.getfield 21, 3) := by decide +kernel
theorem dX1_joinAll_27 : decode cX1_joinAll 27 = .ok (.iconst 0, 1) := by decide +kernel
theorem dX1_joinAll_28 : decode cX1_joinAll 28 = .ok (.aaload, 1) := by decide +kernel
theorem dX1_joinAll_29 : decode cX1_joinAll 29 = .ok (.iload 5, 2) := by decide +kernel
theorem dX1_joinAll_31 : decode cX1_joinAll 31 = .ok (.dup2, 1) := by decide +kernel
theorem dX1_joinAll_32 : decode cX1_joinAll 32 = .ok (.laload, 1) := by decide +kernel
theorem dX1_joinAll_33 : decode cX1_joinAll 33 = .ok (.lload_n 3, 1) := by decide +kernel
theorem dX1_joinAll_34 : decode cX1_joinAll 34 = .ok (.lor, 1) := by decide +kernel
theorem dX1_joinAll_35 : decode cX1_joinAll 35 = .ok (.lastore, 1) := by decide +kernel
theorem dX1_joinAll_36 : decode cX1_joinAll 36 = .ok (.iinc 5 1, 3) := by decide +kernel
theorem dX1_joinAll_39 : decode cX1_joinAll 39 = .ok (.goto (-36), 3) := by decide +kernel
theorem dX1_joinAll_42 : decode cX1_joinAll 42 = .ok (.iconst 0, 1) := by decide +kernel
theorem dX1_joinAll_43 : decode cX1_joinAll 43 = .ok (.istore 5, 2) := by decide +kernel
theorem dX1_joinAll_45 : decode cX1_joinAll 45 = .ok (.iload 5, 2) := by decide +kernel
theorem dX1_joinAll_47 : decode cX1_joinAll 47 = .ok (.aload_n 0, 1) := by decide +kernel
theorem dX1_joinAll_48 : decode cX1_joinAll 48 = .ok (.getfield 15, 3) := by decide +kernel
theorem dX1_joinAll_51 : decode cX1_joinAll 51 = .ok (.iconst 1, 1) := by decide +kernel
theorem dX1_joinAll_52 : decode cX1_joinAll 52 = .ok (.iaload, 1) := by decide +kernel
theorem dX1_joinAll_53 : decode cX1_joinAll 53 = .ok (.if_icmp .ge 31, 3) := by decide +kernel
theorem dX1_joinAll_56 : decode cX1_joinAll 56 = .ok (.lload_n 3, 1) := by decide +kernel
theorem dX1_joinAll_57 : decode cX1_joinAll 57 = .ok (.iload 5, 2) := by decide +kernel
theorem dX1_joinAll_59 : decode cX1_joinAll 59 = .ok (.invokestatic 35, 3) := by decide +kernel
theorem dX1_joinAll_62 : decode cX1_joinAll 62 = .ok (.ifCond .eq 16, 3) := by decide +kernel
theorem dX1_joinAll_65 : decode cX1_joinAll 65 = .ok (.aload_n 0, 1) := by decide +kernel
theorem dX1_joinAll_66 : decode cX1_joinAll 66 = .ok (.getfield 21, 3) := by decide +kernel
theorem dX1_joinAll_69 : decode cX1_joinAll 69 = .ok (.iconst 1, 1) := by decide +kernel
theorem dX1_joinAll_70 : decode cX1_joinAll 70 = .ok (.aaload, 1) := by decide +kernel
theorem dX1_joinAll_71 : decode cX1_joinAll 71 = .ok (.iload 5, 2) := by decide +kernel
theorem dX1_joinAll_73 : decode cX1_joinAll 73 = .ok (.dup2, 1) := by decide +kernel
theorem dX1_joinAll_74 : decode cX1_joinAll 74 = .ok (.laload, 1) := by decide +kernel
theorem dX1_joinAll_75 : decode cX1_joinAll 75 = .ok (.lload_n 1, 1) := by decide +kernel
theorem dX1_joinAll_76 : decode cX1_joinAll 76 = .ok (.lor, 1) := by decide +kernel
theorem dX1_joinAll_77 : decode cX1_joinAll 77 = .ok (.lastore, 1) := by decide +kernel
theorem dX1_joinAll_78 : decode cX1_joinAll 78 = .ok (.iinc 5 1, 3) := by decide +kernel
theorem dX1_joinAll_81 : decode cX1_joinAll 81 = .ok (.goto (-36), 3) := by decide +kernel
theorem dX1_joinAll_84 : decode cX1_joinAll 84 = .ok (.aload_n 0, 1) := by decide +kernel
theorem dX1_joinAll_85 : decode cX1_joinAll 85 = .ok (.dup, 1) := by decide +kernel
theorem dX1_joinAll_86 : decode cX1_joinAll 86 = .ok (.getfield 24, 3) := by decide +kernel
theorem dX1_joinAll_89 : decode cX1_joinAll 89 = .ok (.iconst 1, 1) := by decide +kernel
theorem dX1_joinAll_90 : decode cX1_joinAll 90 = .ok (.iadd, 1) := by decide +kernel
theorem dX1_joinAll_91 : decode cX1_joinAll 91 = .ok (.putfield 24, 3) := by decide +kernel
theorem dX1_joinAll_94 : decode cX1_joinAll 94 = .ok (.return_, 1) := by decide +kernel
theorem dX1_unjoin_0 : decode cX1_unjoin 0 = .ok (.aload_n 0, 1) := by decide +kernel
theorem dX1_unjoin_1 : decode cX1_unjoin 1 = .ok (.iconst 0, 1) := by decide +kernel
theorem dX1_unjoin_2 : decode cX1_unjoin 2 = .ok (.iload_n 1, 1) := by decide +kernel
theorem dX1_unjoin_3 : decode cX1_unjoin 3 = .ok (.invokevirtual 31, 3) := by decide +kernel
theorem dX1_unjoin_6 : decode cX1_unjoin 6 = .ok (.ifCond .eq 58, 3) := by decide +kernel
theorem dX1_unjoin_9 : decode cX1_unjoin 9 = .ok (.aload_n 0, 1) := by decide +kernel
theorem dX1_unjoin_10 : decode cX1_unjoin 10 = .ok (.iconst 1, 1) := by decide +kernel
theorem dX1_unjoin_11 : decode cX1_unjoin 11 = .ok (.iload_n 2, 1) := by decide +kernel
theorem dX1_unjoin_12 : decode cX1_unjoin 12 = .ok (.invokevirtual 31, 3) := by decide +kernel
theorem dX1_unjoin_15 : decode cX1_unjoin 15 = .ok (.ifCond .eq 49, 3) := by decide +kernel
theorem dX1_unjoin_18 : decode cX1_unjoin 18 = .ok (.aload_n 0, 1) := by decide +kernel
theorem dX1_unjoin_19 : decode cX1_unjoin 19 = .ok (.getfield 21, 3) := by decide +kernel
theorem dX1_unjoin_22 : decode cX1_unjoin 22 = .ok (.iconst 0, 1) := by decide +kernel
theorem dX1_unjoin_23 : decode cX1_unjoin 23 = .ok (.aaload, 1) := by decide +kernel
theorem dX1_unjoin_24 : decode cX1_unjoin 24 = .ok (.iload_n 1, 1) := by decide +kernel
theorem dX1_unjoin_25 : decode cX1_unjoin 25 = .ok (.dup2, 1) := by decide +kernel
theorem dX1_unjoin_26 : decode cX1_unjoin 26 = .ok (.laload, 1) := by decide +kernel
theorem dX1_unjoin_27 : decode cX1_unjoin 27 = .ok (.lconst 1, 1) := by decide +kernel
theorem dX1_unjoin_28 : decode cX1_unjoin 28 = .ok (.iload_n 2, 1) := by decide +kernel
theorem dX1_unjoin_29 : decode cX1_unjoin 29 = .ok (.lshl, 1) := by decide +kernel
theorem dX1_unjoin_30 : decode cX1_unjoin 30 = .ok (.ldc2_w 49, 3) := by decide +kernel
theorem dX1_unjoin_33 : decode cX1_unjoin 33 = .ok (.lxor, 1) := by decide +kernel
theorem dX1_unjoin_34 : decode cX1_unjoin 34 = .ok (.land, 1) := by decide +kernel
theorem dX1_unjoin_35 : decode cX1_unjoin 35 = .ok (.lastore, 1) := by decide +kernel
theorem dX1_unjoin_36 : decode cX1_unjoin 36 = .ok (.aload_n 0, 1) := by decide +kernel
theorem dX1_unjoin_37 : decode cX1_unjoin 37 = .ok (.getfield 21, 3) := by decide +kernel
theorem dX1_unjoin_40 : decode cX1_unjoin 40 = .ok (.iconst 1, 1) := by decide +kernel
theorem dX1_unjoin_41 : decode cX1_unjoin 41 = .ok (.aaload, 1) := by decide +kernel
theorem dX1_unjoin_42 : decode cX1_unjoin 42 = .ok (.iload_n 2, 1) := by decide +kernel
theorem dX1_unjoin_43 : decode cX1_unjoin 43 = .ok (.dup2, 1) := by decide +kernel
theorem dX1_unjoin_44 : decode cX1_unjoin 44 = .ok (.laload, 1) := by decide +kernel
theorem dX1_unjoin_45 : decode cX1_unjoin 45 = .ok (.lconst 1, 1) := by decide +kernel
theorem dX1_unjoin_46 : decode cX1_unjoin 46 = .ok (.iload_n 1, 1) := by decide +kernel
theorem dX1_unjoin_47 : decode cX1_unjoin 47 = .ok (.lshl, 1) := by decide +kernel
theorem dX1_unjoin_48 : decode cX1_unjoin 48 = .ok (.ldc2_w 49, 3) := by decide +kernel
theorem dX1_unjoin_51 : decode cX1_unjoin 51 = .ok (.lxor, 1) := by decide +kernel
theorem dX1_unjoin_52 : decode cX1_unjoin 52 = .ok (.land, 1) := by decide +kernel
theorem dX1_unjoin_53 : decode cX1_unjoin 53 = .ok (.lastore, 1) := by decide +kernel
theorem dX1_unjoin_54 : decode cX1_unjoin 54 = .ok (.aload_n 0, 1) := by decide +kernel
theorem dX1_unjoin_55 : decode cX1_unjoin 55 = .ok (.dup, 1) := by decide +kernel
theorem dX1_unjoin_56 : decode cX1_unjoin 56 = .ok (.getfield 24, 3) := by decide +kernel
theorem dX1_unjoin_59 : decode cX1_unjoin 59 = .ok (.iconst 1, 1) := by decide +kernel
theorem dX1_unjoin_60 : decode cX1_unjoin 60 = .ok (.iadd, 1) := by decide +kernel
theorem dX1_unjoin_61 : decode cX1_unjoin 61 = .ok (.putfield 24, 3) := by decide +kernel
theorem dX1_unjoin_64 : decode cX1_unjoin 64 = .ok (.return_, 1) := by decide +kernel
theorem dX1_clear_0 : decode cX1_clear 0 = .ok (.iconst 0, 1) := by decide +kernel
theorem dX1_clear_1 : decode cX1_clear 1 = .ok (.istore_n 1, 1) := by decide +kernel
theorem dX1_clear_2 : decode cX1_clear 2 = .ok (.iload_n 1, 1) := by decide +kernel
theorem dX1_clear_3 : decode cX1_clear 3 = .ok (.iconst 1, 1) := by decide +kernel
theorem dX1_clear_4 : decode cX1_clear 4 = .ok (.if_icmp .gt 26, 3) := by decide +kernel
theorem dX1_clear_7 : decode cX1_clear 7 = .ok (.aload_n 0, 1) := by decide +kernel
theorem dX1_clear_8 : decode cX1_clear 8 = .ok (.getfield 15, 3) := by decide +kernel
theorem dX1_clear_11 : decode cX1_clear 11 = .ok (.iload_n 1, 1) := by decide +kernel
theorem dX1_clear_12 : decode cX1_clear 12 = .ok (.iconst 0, 1) := by decide +kernel
theorem dX1_clear_13 : decode cX1_clear 13 = .ok (.iastore, 1) := by decide +kernel
theorem dX1_clear_14 : decode cX1_clear 14 = .ok (.aload_n 0, 1) := by decide +kernel
theorem dX1_clear_15 : decode cX1_clear 15 = .ok (.getfield 21, 3) := by decide +kernel
theorem dX1_clear_18 : decode cX1_clear 18 = .ok (.iload_n 1, 1) := by decide +kernel
theorem dX1_clear_19 : decode cX1_clear 19 = .ok (.aaload, 1) := by decide +kernel
theorem dX1_clear_20 : decode cX1_clear 20 = .ok (.lconst 0, 1) := by decide +kernel
theorem dX1_clear_21 : decode cX1_clear 21 = .ok (.invokestatic 51, 3) := by decide +kernel
theorem dX1_clear_24 : decode cX1_clear 24 = .ok (.iinc 1 1, 3) := by decide +kernel
theorem dX1_clear_27 : decode cX1_clear 27 = .ok (.goto (-25), 3) := by decide +kernel
theorem dX1_clear_30 : decode cX1_clear 30 = .ok (.aload_n 0, 1) := by decide +kernel
theorem dX1_clear_31 : decode cX1_clear 31 = .ok (.dup, 1) := by decide +kernel
theorem dX1_clear_32 : decode cX1_clear 32 = .ok (.getfield 24, 3) := by decide +kernel
theorem dX1_clear_35 : decode cX1_clear 35 = .ok (.iconst 1, 1) := by decide +kernel
theorem dX1_clear_36 : decode cX1_clear 36 = .ok (.iadd, 1) := by decide +kernel
theorem dX1_clear_37 : decode cX1_clear 37 = .ok (.putfield 24, 3) := by decide +kernel
theorem dX1_clear_40 : decode cX1_clear 40 = .ok (.return_, 1) := by decide +kernel
theorem dX2_init_0 : decode cX2_init 0 = .ok (.aload_n 0, 1) := by decide +kernel
theorem dX2_init_1 : decode cX2_init 1 = .ok (.invokespecial 3, 3) := by decide +kernel
theorem dX2_init_4 : decode cX2_init 4 = .ok (.aload_n 0, 1) := by decide +kernel
theorem dX2_init_5 : decode cX2_init 5 = .ok (.aload_n 1, 1) := by decide +kernel
theorem dX2_init_6 : decode cX2_init 6 = .ok (.putfield 9, 3) := by decide +kernel
theorem dX2_init_9 : decode cX2_init 9 = .ok (.aload_n 0, 1) := by decide +kernel
theorem dX2_init_10 : decode cX2_init 10 = .ok (.aload_n 2, 1) := by decide +kernel
theorem dX2_init_11 : decode cX2_init 11 = .ok (.putfield 15, 3) := by decide +kernel
theorem dX2_init_14 : decode cX2_init 14 = .ok (.aload_n 0, 1) := by decide +kernel
theorem dX2_init_15 : decode cX2_init 15 = .ok (.bipush 40, 2) := by decide +kernel
theorem dX2_init_17 : decode cX2_init 17 = .ok (.newarray .int, 2) := by decide +kernel
theorem dX2_init_19 : decode cX2_init 19 = .ok (.putfield 19, 3) := by decide +kernel
theorem dX2_init_22 : decode cX2_init 22 = .ok (.aload_n 0, 1) := by decide +kernel
theorem dX2_init_23 : decode cX2_init 23 = .ok (.bipush 40, 2) := by decide +kernel
theorem dX2_init_25 : decode cX2_init 25 = .ok (.newarray .int, 2) := by decide +kernel
theorem dX2_init_27 : decode cX2_init 27 = .ok (.putfield 23, 3) := by decide +kernel
theorem dX2_init_30 : decode cX2_init 30 = .ok (.aload_n 0, 1) := by decide +kernel
theorem dX2_init_31 : decode cX2_init 31 = .ok (.iconst 0, 1) := by decide +kernel
theorem dX2_init_32 : decode cX2_init 32 = .ok (.putfield 26, 3) := by decide +kernel
theorem dX2_init_35 : decode cX2_init 35 = .ok (.aload_n 0, 1) := by decide +kernel
theorem dX2_init_36 : decode cX2_init 36 = .ok (.iconst (-1), 1) := by decide +kernel
theorem dX2_init_37 : decode cX2_init 37 = .ok (.putfield 30, 3) := by decide +kernel
theorem dX2_init_40 : decode cX2_init 40 = .ok (.return_, 1) := by decide +kernel
theorem dX2_refresh_0 : decode cX2_refresh 0 = .ok (.aload_n 0, 1) := by decide +kernel
theorem dX2_refresh_1 : decode cX2_refresh 1 = .ok (.getfield 30, 3) := by decide +kernel
theorem dX2_refresh_4 : decode cX2_refresh 4 = .ok (.aload_n 0, 1) := by decide +kernel
theorem dX2_refresh_5 : decode cX2_refresh 5 = .ok (.getfield 9, 3) := by decide +kernel
theorem dX2_refresh_8 : decode cX2_refresh 8 = .ok (.invokevirtual 33, 3) := by decide +kernel
theorem dX2_refresh_11 : decode cX2_refresh 11 = .ok (.if_icmp .ne 4, 3) := by decide +kernel
theorem dX2_refresh_14 : decode cX2_refresh 14 = .ok (.return_, 1) := by decide +kernel
theorem dX2_refresh_15 : decode cX2_refresh 15 = .ok (.aload_n 0, 1) := by decide +kernel
theorem dX2_refresh_16 : decode cX2_refresh 16 = .ok (.aload_n 0, 1) := by decide +kernel
theorem dX2_refresh_17 : decode cX2_refresh 17 = .ok (.getfield 9, 3) := by decide +kernel
theorem dX2_refresh_20 : decode cX2_refresh 20 = .ok (.invokevirtual 33, 3) := by decide +kernel
theorem dX2_refresh_23 : decode cX2_refresh 23 = .ok (.putfield 30, 3) := by decide +kernel
theorem dX2_refresh_26 : decode cX2_refresh 26 = .ok (.aload_n 0, 1) := by decide +kernel
theorem dX2_refresh_27 : decode cX2_refresh 27 = .ok (.invokevirtual 39, 3) := by decide +kernel
theorem dX2_refresh_30 : decode cX2_refresh 30 = .ok (.aload_n 0, 1) := by decide +kernel
theorem dX2_refresh_31 : decode cX2_refresh 31 = .ok (.invokevirtual 42, 3) := by decide +kernel
theorem dX2_refresh_34 : decode cX2_refresh 34 = .ok (.return_, 1) := by decide +kernel
theorem dX2_howManyLevels_0 : decode cX2_howManyLevels 0 = .ok (.aload_n 0, 1) := by decide +kernel
theorem dX2_howManyLevels_1 : decode cX2_howManyLevels 1 = .ok (.getfield 26, 3) := by decide +kernel
theorem dX2_howManyLevels_4 : decode cX2_howManyLevels 4 = .ok (.ireturn, 1) := by decide +kernel
theorem dX2_levelOf_0 : decode cX2_levelOf 0 = .ok (.aload_n 0, 1) := by decide +kernel
theorem dX2_levelOf_1 : decode cX2_levelOf 1 = .ok (.getfield 9, 3) := by decide +kernel
theorem dX2_levelOf_4 : decode cX2_levelOf 4 = .ok (.iconst 0, 1) := by decide +kernel
theorem dX2_levelOf_5 : decode cX2_levelOf 5 = .ok (.iload_n 1, 1) := by decide +kernel
theorem dX2_levelOf_6 : decode cX2_levelOf 6 = .ok (.invokevirtual 45, 3) := by decide +kernel
theorem dX2_levelOf_9 : decode cX2_levelOf 9 = .ok (.ifCond .eq 12, 3) := by decide +kernel
theorem dX2_levelOf_12 : decode cX2_levelOf 12 = .ok (.aload_n 0, 1) := by decide +kernel
theorem dX2_levelOf_13 : decode cX2_levelOf 13 = .ok (.getfield 19, 3) := by decide +kernel
theorem dX2_levelOf_16 : decode cX2_levelOf 16 = .ok (.iload_n 1, 1) := by decide +kernel
theorem dX2_levelOf_17 : decode cX2_levelOf 17 = .ok (.iaload, 1) := by decide +kernel
theorem dX2_levelOf_18 : decode cX2_levelOf 18 = .ok (.goto 5, 3) := by decide +kernel
theorem dX2_levelOf_21 : decode cX2_levelOf 21 = .ok (.bipush (-3), 2) := by decide +kernel
theorem dX2_levelOf_23 : decode cX2_levelOf 23 = .ok (.ireturn, 1) := by decide +kernel
theorem dX2_chainOf_0 : decode cX2_chainOf 0 = .ok (.aload_n 0, 1) := by decide +kernel
theorem dX2_chainOf_1 : decode cX2_chainOf 1 = .ok (.getfield 9, 3) := by decide +kernel
theorem dX2_chainOf_4 : decode cX2_chainOf 4 = .ok (.iconst 0, 1) := by decide +kernel
theorem dX2_chainOf_5 : decode cX2_chainOf 5 = .ok (.iload_n 1, 1) := by decide +kernel
theorem dX2_chainOf_6 : decode cX2_chainOf 6 = .ok (.invokevirtual 45, 3) := by decide +kernel
theorem dX2_chainOf_9 : decode cX2_chainOf 9 = .ok (.ifCond .eq 12, 3) := by decide +kernel
theorem dX2_chainOf_12 : decode cX2_chainOf 12 = .ok (.aload_n 0, 1) := by decide +kernel
theorem dX2_chainOf_13 : decode cX2_chainOf 13 = .ok (.getfield 23, 3) := by decide +kernel
theorem dX2_chainOf_16 : decode cX2_chainOf 16 = .ok (.iload_n 1, 1) := by decide +kernel
theorem dX2_chainOf_17 : decode cX2_chainOf 17 = .ok (.iaload, 1) := by decide +kernel
theorem dX2_chainOf_18 : decode cX2_chainOf 18 = .ok (.goto 5, 3) := by decide +kernel
theorem dX2_chainOf_21 : decode cX2_chainOf 21 = .ok (.bipush (-3), 2) := by decide +kernel
theorem dX2_chainOf_23 : decode cX2_chainOf 23 = .ok (.ireturn, 1) := by decide +kernel
theorem dX2_isInAntichain_0 : decode cX2_isInAntichain 0 = .ok (.iconst 1, 1) := by decide +kernel
theorem dX2_isInAntichain_1 : decode cX2_isInAntichain 1 = .ok (.iload_n 1, 1) := by decide +kernel
theorem dX2_isInAntichain_2 : decode cX2_isInAntichain 2 = .ok (.isub, 1) := by decide +kernel
theorem dX2_isInAntichain_3 : decode cX2_isInAntichain 3 = .ok (.istore_n 3, 1) := by decide +kernel
theorem dX2_isInAntichain_4 : decode cX2_isInAntichain 4 = .ok (.aload_n 0, 1) := by decide +kernel
theorem dX2_isInAntichain_5 : decode cX2_isInAntichain 5 = .ok (.getfield 15, 3) := by decide +kernel
theorem dX2_isInAntichain_8 : decode cX2_isInAntichain 8 = .ok (.iload_n 3, 1) := by decide +kernel
theorem dX2_isInAntichain_9 : decode cX2_isInAntichain 9 = .ok (.iconst 0, 1) := by decide +kernel
theorem dX2_isInAntichain_10 : decode cX2_isInAntichain 10 = .ok (.iload_n 2, 1) := by decide +kernel
theorem dX2_isInAntichain_11 : decode cX2_isInAntichain 11 = .ok (.invokevirtual 49, 3) := by decide +kernel
theorem dX2_isInAntichain_14 : decode cX2_isInAntichain 14 = .ok (.ifCond .ne 20, 3) := by decide +kernel
theorem dX2_isInAntichain_17 : decode cX2_isInAntichain 17 = .ok (.aload_n 0, 1) := by decide +kernel
theorem dX2_isInAntichain_18 : decode cX2_isInAntichain 18 = .ok (.getfield 15, 3) := by decide +kernel
theorem dX2_isInAntichain_21 : decode cX2_isInAntichain 21 = .ok (.iload_n 3, 1) := by decide +kernel
theorem dX2_isInAntichain_22 : decode cX2_isInAntichain 22 = .ok (.iconst 1, 1) := by decide +kernel
theorem dX2_isInAntichain_23 : decode cX2_isInAntichain 23 = .ok (.iload_n 2, 1) := by decide +kernel
theorem dX2_isInAntichain_24 : decode cX2_isInAntichain 24 = .ok (.invokevirtual 49, 3) := by decide +kernel
theorem dX2_isInAntichain_27 : decode cX2_isInAntichain 27 = .ok (.ifCond .ne 7, 3) := by decide +kernel
theorem dX2_isInAntichain_30 : decode cX2_isInAntichain 30 = .ok (.iconst 1, 1) := by decide +kernel
theorem dX2_isInAntichain_31 : decode cX2_isInAntichain 31 = .ok (.goto 4, 3) := by decide +kernel
theorem dX2_isInAntichain_34 : decode cX2_isInAntichain 34 = .ok (.iconst 0, 1) := by decide +kernel
theorem dX2_isInAntichain_35 : decode cX2_isInAntichain 35 = .ok (.ireturn, 1) := by decide +kernel
theorem dX2_findLevels_0 : decode cX2_findLevels 0 = .ok (.aload_n 0, 1) := by decide +kernel
theorem dX2_findLevels_1 : decode cX2_findLevels 1 = .ok (.getfield 9, 3) := by decide +kernel
theorem dX2_findLevels_4 : decode cX2_findLevels 4 = .ok (.iconst 0, 1) := by decide +kernel
theorem dX2_findLevels_5 : decode cX2_findLevels 5 = .ok (.invokevirtual 55, 3) := by decide +kernel
theorem dX2_findLevels_8 : decode cX2_findLevels 8 = .ok (.lstore_n 1, 1) := by decide +kernel
theorem dX2_findLevels_9 : decode cX2_findLevels 9 = .ok (.aload_n 0, 1) := by decide +kernel
theorem dX2_findLevels_10 : decode cX2_findLevels 10 = .ok (.iconst 0, 1) := by decide +kernel
theorem dX2_findLevels_11 : decode cX2_findLevels 11 = .ok (.putfield 26, 3) := by decide +kernel
theorem dX2_findLevels_14 : decode cX2_findLevels 14 = .ok (.iconst 0, 1) := by decide +kernel
theorem dX2_findLevels_15 : decode cX2_findLevels 15 = .ok (.istore_n 3, 1) := by decide +kernel
theorem dX2_findLevels_16 : decode cX2_findLevels 16 = .ok (.iload_n 3, 1) := by decide +kernel
theorem dX2_findLevels_17 : decode cX2_findLevels 17 = .ok (.bipush 40, 2) := by decide +kernel
theorem dX2_findLevels_19 : decode cX2_findLevels 19 = .ok (.if_icmp .ge 81, 3) := by decide +kernel
theorem dX2_findLevels_22 : decode cX2_findLevels 22 = .ok (.lload_n 1, 1) := by decide +kernel
theorem dX2_findLevels_23 : decode cX2_findLevels 23 = .ok (.lconst 0, 1) := by decide +kernel
theorem dX2_findLevels_24 : decode cX2_findLevels 24 = .ok (.lcmp, 1) := by decide +kernel
theorem dX2_findLevels_25 : decode cX2_findLevels 25 = .ok (.ifCond .eq 75, 3) := by decide +kernel
theorem dX2_findLevels_28 : decode cX2_findLevels 28 = .ok (.aload_n 0, 1) := by decide +kernel
theorem dX2_findLevels_29 : decode cX2_findLevels 29 = .ok (.lload_n 1, 1) := by decide +kernel
theorem dX2_findLevels_30 : decode cX2_findLevels 30 = .ok (.invokevirtual 59, 3) := by decide +kernel
theorem dX2_findLevels_33 : decode cX2_findLevels 33 = .ok (.lstore 4, 2) := by decide +kernel
theorem dX2_findLevels_35 : decode cX2_findLevels 35 = .ok (.iconst 0, 1) := by decide +kernel
theorem dX2_findLevels_36 : decode cX2_findLevels 36 = .ok (.istore 6, 2) := by decide +kernel
theorem dX2_findLevels_38 : decode cX2_findLevels 38 = .ok (.iload 6, 2) := by decide +kernel
theorem dX2_findLevels_40 : decode cX2_findLevels 40 = .ok (.aload_n 0, 1) := by decide +kernel
theorem dX2_findLevels_41 : decode cX2_findLevels 41 = .ok (.getfield 9, 3) := by decide +kernel
theorem dX2_findLevels_44 : decode cX2_findLevels 44 = .ok (.iconst 0, 1) := by decide +kernel
theorem dX2_findLevels_45 : decode cX2_findLevels 45 = .ok (.invokevirtual 63, 3) := by decide +kernel
theorem dX2_findLevels_48 : decode cX2_findLevels 48 = .ok (.if_icmp .ge 27, 3) := by decide +kernel
theorem dX2_findLevels_51 : decode cX2_findLevels 51 = .ok (.lload 4, 2) := by decide +kernel
theorem dX2_findLevels_53 : decode cX2_findLevels 53 = .ok (.iload 6, 2) := by decide +kernel
theorem dX2_findLevels_55 : decode cX2_findLevels 55 = .ok (.invokestatic 67, 3) := by decide +kernel
theorem dX2_findLevels_58 : decode cX2_findLevels 58 = .ok (.ifCond .eq 11, 3) := by decide +kernel
theorem dX2_findLevels_61 : decode cX2_findLevels 61 = .ok (.aload_n 0, 1) := by decide +kernel
theorem dX2_findLevels_62 : decode cX2_findLevels 62 = .ok (.getfield 19, 3) := by decide +kernel
theorem dX2_findLevels_65 : decode cX2_findLevels 65 = .ok (.iload 6, 2) := by decide +kernel
theorem dX2_findLevels_67 : decode cX2_findLevels 67 = .ok (.iload_n 3, 1) := by decide +kernel
theorem dX2_findLevels_68 : decode cX2_findLevels 68 = .ok (.iastore, 1) := by decide +kernel
theorem dX2_findLevels_69 : decode cX2_findLevels 69 = .ok (.iinc 6 1, 3) := by decide +kernel
theorem dX2_findLevels_72 : decode cX2_findLevels 72 = .ok (.goto (-34), 3) := by decide +kernel
theorem dX2_findLevels_75 : decode cX2_findLevels 75 = .ok (.lload_n 1, 1) := by decide +kernel
theorem dX2_findLevels_76 : decode cX2_findLevels 76 = .ok (.lload 4, 2) := by decide +kernel
theorem dX2_findLevels_78 : decode cX2_findLevels 78 = .ok (.ldc2_w 71, 3) := by decide +kernel
theorem dX2_findLevels_81 : decode cX2_findLevels 81 = .ok (.lxor, 1) := by decide +kernel
theorem dX2_findLevels_82 : decode cX2_findLevels 82 = .ok (.land, 1) := by decide +kernel
theorem dX2_findLevels_83 : decode cX2_findLevels 83 = .ok (.lstore_n 1, 1) := by decide +kernel
theorem dX2_findLevels_84 : decode cX2_findLevels 84 = .ok (.aload_n 0, 1) := by decide +kernel
theorem dX2_findLevels_85 : decode cX2_findLevels 85 = .ok (.dup, 1) := by decide +kernel
theorem dX2_findLevels_86 : decode cX2_findLevels 86 = .ok (.getfield 26, 3) := by decide +kernel
theorem dX2_findLevels_89 : decode cX2_findLevels 89 = .ok (.iconst 1, 1) := by decide +kernel
theorem dX2_findLevels_90 : decode cX2_findLevels 90 = .ok (.iadd, 1) := by decide +kernel
theorem dX2_findLevels_91 : decode cX2_findLevels 91 = .ok (.putfield 26, 3) := by decide +kernel
theorem dX2_findLevels_94 : decode cX2_findLevels 94 = .ok (.iinc 3 1, 3) := by decide +kernel
theorem dX2_findLevels_97 : decode cX2_findLevels 97 = .ok (.goto (-81), 3) := by decide +kernel
theorem dX2_findLevels_100 : decode cX2_findLevels 100 = .ok (.return_, 1) := by decide +kernel
theorem dX2_bottomOf_0 : decode cX2_bottomOf 0 = .ok (.lconst 0, 1) := by decide +kernel
theorem dX2_bottomOf_1 : decode cX2_bottomOf 1 = .ok (.lstore_n 3, 1) := by decide +kernel
theorem dX2_bottomOf_2 : decode cX2_bottomOf 2 = .ok (.iconst 0, 1) := by decide +kernel
theorem dX2_bottomOf_3 : decode cX2_bottomOf 3 = .ok (.istore 5, 2) := by decide +kernel
theorem dX2_bottomOf_5 : decode cX2_bottomOf 5 = .ok (.iload 5, 2) := by decide +kernel
theorem dX2_bottomOf_7 : decode cX2_bottomOf 7 = .ok (.aload_n 0, 1) := by decide +kernel
theorem dX2_bottomOf_8 : decode cX2_bottomOf 8 = .ok (.getfield 9, 3) := by decide +kernel
theorem dX2_bottomOf_11 : decode cX2_bottomOf 11 = .ok (.iconst 0, 1) := by decide +kernel
theorem dX2_bottomOf_12 : decode cX2_bottomOf 12 = .ok (.invokevirtual 63, 3) := by decide +kernel
theorem dX2_bottomOf_15 : decode cX2_bottomOf 15 = .ok (.if_icmp .ge 42, 3) := by decide +kernel
theorem dX2_bottomOf_18 : decode cX2_bottomOf 18 = .ok (.lload_n 1, 1) := by decide +kernel
theorem dX2_bottomOf_19 : decode cX2_bottomOf 19 = .ok (.iload 5, 2) := by decide +kernel
theorem dX2_bottomOf_21 : decode cX2_bottomOf 21 = .ok (.invokestatic 67, 3) := by decide +kernel
theorem dX2_bottomOf_24 : decode cX2_bottomOf 24 = .ok (.ifCond .eq 27, 3) := by decide +kernel
theorem dX2_bottomOf_27 : decode cX2_bottomOf 27 = .ok (.aload_n 0, 1) := by decide +kernel
theorem dX2_bottomOf_28 : decode cX2_bottomOf 28 = .ok (.getfield 9, 3) := by decide +kernel
theorem dX2_bottomOf_31 : decode cX2_bottomOf 31 = .ok (.iconst 1, 1) := by decide +kernel
theorem dX2_bottomOf_32 : decode cX2_bottomOf 32 = .ok (.iload 5, 2) := by decide +kernel
theorem dX2_bottomOf_34 : decode cX2_bottomOf 34 = .ok (.invokevirtual 73, 3) := by decide +kernel
theorem dX2_bottomOf_37 : decode cX2_bottomOf 37 = .ok (.lload_n 1, 1) := by decide +kernel
theorem dX2_bottomOf_38 : decode cX2_bottomOf 38 = .ok (.land, 1) := by decide +kernel
theorem dX2_bottomOf_39 : decode cX2_bottomOf 39 = .ok (.lconst 0, 1) := by decide +kernel
theorem dX2_bottomOf_40 : decode cX2_bottomOf 40 = .ok (.lcmp, 1) := by decide +kernel
theorem dX2_bottomOf_41 : decode cX2_bottomOf 41 = .ok (.ifCond .ne 10, 3) := by decide +kernel
theorem dX2_bottomOf_44 : decode cX2_bottomOf 44 = .ok (.lload_n 3, 1) := by decide +kernel
theorem dX2_bottomOf_45 : decode cX2_bottomOf 45 = .ok (.lconst 1, 1) := by decide +kernel
theorem dX2_bottomOf_46 : decode cX2_bottomOf 46 = .ok (.iload 5, 2) := by decide +kernel
theorem dX2_bottomOf_48 : decode cX2_bottomOf 48 = .ok (.lshl, 1) := by decide +kernel
theorem dX2_bottomOf_49 : decode cX2_bottomOf 49 = .ok (.lor, 1) := by decide +kernel
theorem dX2_bottomOf_50 : decode cX2_bottomOf 50 = .ok (.lstore_n 3, 1) := by decide +kernel
theorem dX2_bottomOf_51 : decode cX2_bottomOf 51 = .ok (.iinc 5 1, 3) := by decide +kernel
theorem dX2_bottomOf_54 : decode cX2_bottomOf 54 = .ok (.goto (-49), 3) := by decide +kernel
theorem dX2_bottomOf_57 : decode cX2_bottomOf 57 = .ok (.lload_n 3, 1) := by decide +kernel
theorem dX2_bottomOf_58 : decode cX2_bottomOf 58 = .ok (.lreturn, 1) := by decide +kernel
theorem dX2_findChains_0 : decode cX2_findChains 0 = .ok (.iconst 0, 1) := by decide +kernel
theorem dX2_findChains_1 : decode cX2_findChains 1 = .ok (.istore_n 1, 1) := by decide +kernel
theorem dX2_findChains_2 : decode cX2_findChains 2 = .ok (.iconst 0, 1) := by decide +kernel
theorem dX2_findChains_3 : decode cX2_findChains 3 = .ok (.istore_n 2, 1) := by decide +kernel
theorem dX2_findChains_4 : decode cX2_findChains 4 = .ok (.iload_n 2, 1) := by decide +kernel
theorem dX2_findChains_5 : decode cX2_findChains 5 = .ok (.aload_n 0, 1) := by decide +kernel
theorem dX2_findChains_6 : decode cX2_findChains 6 = .ok (.getfield 9, 3) := by decide +kernel
theorem dX2_findChains_9 : decode cX2_findChains 9 = .ok (.iconst 0, 1) := by decide +kernel
theorem dX2_findChains_10 : decode cX2_findChains 10 = .ok (.invokevirtual 63, 3) := by decide +kernel
theorem dX2_findChains_13 : decode cX2_findChains 13 = .ok (.if_icmp .ge 32, 3) := by decide +kernel
theorem dX2_findChains_16 : decode cX2_findChains 16 = .ok (.aload_n 0, 1) := by decide +kernel
theorem dX2_findChains_17 : decode cX2_findChains 17 = .ok (.getfield 15, 3) := by decide +kernel
theorem dX2_findChains_20 : decode cX2_findChains 20 = .ok (.iconst 1, 1) := by decide +kernel
theorem dX2_findChains_21 : decode cX2_findChains 21 = .ok (.iload_n 2, 1) := by decide +kernel
theorem dX2_findChains_22 : decode cX2_findChains 22 = .ok (.invokevirtual 77, 3) := by decide +kernel
theorem dX2_findChains_25 : decode cX2_findChains 25 = .ok (.bipush (-3), 2) := by decide +kernel
theorem dX2_findChains_27 : decode cX2_findChains 27 = .ok (.if_icmp .ne 12, 3) := by decide +kernel
theorem dX2_findChains_30 : decode cX2_findChains 30 = .ok (.aload_n 0, 1) := by decide +kernel
theorem dX2_findChains_31 : decode cX2_findChains 31 = .ok (.iload_n 2, 1) := by decide +kernel
theorem dX2_findChains_32 : decode cX2_findChains 32 = .ok (.iload_n 1, 1) := by decide +kernel
theorem dX2_findChains_33 : decode cX2_findChains 33 = .ok (.invokevirtual 81, 3) := by decide +kernel
theorem dX2_findChains_36 : decode cX2_findChains 36 = .ok (.iinc 1 1, 3) := by decide +kernel
theorem dX2_findChains_39 : decode cX2_findChains 39 = .ok (.iinc 2 1, 3) := by decide +kernel
theorem dX2_findChains_42 : decode cX2_findChains 42 = .ok (.goto (-38), 3) := by decide +kernel
theorem dX2_findChains_45 : decode cX2_findChains 45 = .ok (.return_, 1) := by decide +kernel
theorem dX2_numberChain_0 : decode cX2_numberChain 0 = .ok (.iload_n 1, 1) := by decide +kernel
theorem dX2_numberChain_1 : decode cX2_numberChain 1 = .ok (.istore_n 3, 1) := by decide +kernel
theorem dX2_numberChain_2 : decode cX2_numberChain 2 = .ok (.iconst 0, 1) := by decide +kernel
theorem dX2_numberChain_3 : decode cX2_numberChain 3 = .ok (.istore 4, 2) := by decide +kernel
theorem dX2_numberChain_5 : decode cX2_numberChain 5 = .ok (.iload 4, 2) := by decide +kernel
theorem dX2_numberChain_7 : decode cX2_numberChain 7 = .ok (.bipush 40, 2) := by decide +kernel
theorem dX2_numberChain_9 : decode cX2_numberChain 9 = .ok (.if_icmp .ge 38, 3) := by decide +kernel
theorem dX2_numberChain_12 : decode cX2_numberChain 12 = .ok (.aload_n 0, 1) := by decide +kernel
theorem dX2_numberChain_13 : decode cX2_numberChain 13 = .ok (.getfield 9, 3) := by decide +kernel
theorem dX2_numberChain_16 : decode cX2_numberChain 16 = .ok (.iconst 0, 1) := by decide +kernel
theorem dX2_numberChain_17 : decode cX2_numberChain 17 = .ok (.iload_n 3, 1) := by decide +kernel
theorem dX2_numberChain_18 : decode cX2_numberChain 18 = .ok (.invokevirtual 45, 3) := by decide +kernel
theorem dX2_numberChain_21 : decode cX2_numberChain 21 = .ok (.ifCond .eq 26, 3) := by decide +kernel
theorem dX2_numberChain_24 : decode cX2_numberChain 24 = .ok (.aload_n 0, 1) := by decide +kernel
theorem dX2_numberChain_25 : decode cX2_numberChain 25 = .ok (.getfield 23, 3) := by decide +kernel
theorem dX2_numberChain_28 : decode cX2_numberChain 28 = .ok (.iload_n 3, 1) := by decide +kernel
theorem dX2_numberChain_29 : decode cX2_numberChain 29 = .ok (.iload_n 2, 1) := by decide +kernel
theorem dX2_numberChain_30 : decode cX2_numberChain 30 = .ok (.iastore, 1) := by decide +kernel
theorem dX2_numberChain_31 : decode cX2_numberChain 31 = .ok (.aload_n 0, 1) := by decide +kernel
theorem dX2_numberChain_32 : decode cX2_numberChain 32 = .ok (.getfield 15, 3) := by decide +kernel
theorem dX2_numberChain_35 : decode cX2_numberChain 35 = .ok (.iconst 0, 1) := by decide +kernel
theorem dX2_numberChain_36 : decode cX2_numberChain 36 = .ok (.iload_n 3, 1) := by decide +kernel
theorem dX2_numberChain_37 : decode cX2_numberChain 37 = .ok (.invokevirtual 77, 3) := by decide +kernel
theorem dX2_numberChain_40 : decode cX2_numberChain 40 = .ok (.istore_n 3, 1) := by decide +kernel
theorem dX2_numberChain_41 : decode cX2_numberChain 41 = .ok (.iinc 4 1, 3) := by decide +kernel
theorem dX2_numberChain_44 : decode cX2_numberChain 44 = .ok (.goto (-39), 3) := by decide +kernel
theorem dX2_numberChain_47 : decode cX2_numberChain 47 = .ok (.return_, 1) := by decide +kernel
theorem dX3_init_0 : decode cX3_init 0 = .ok (.aload_n 0, 1) := by decide +kernel
theorem dX3_init_1 : decode cX3_init 1 = .ok (.invokespecial 3, 3) := by decide +kernel
theorem dX3_init_4 : decode cX3_init 4 = .ok (.aload_n 0, 1) := by decide +kernel
theorem dX3_init_5 : decode cX3_init 5 = .ok (.aload_n 1, 1) := by decide +kernel
theorem dX3_init_6 : decode cX3_init 6 = .ok (.putfield 9, 3) := by decide +kernel
theorem dX3_init_9 : decode cX3_init 9 = .ok (.aload_n 0, 1) := by decide +kernel
theorem dX3_init_10 : decode cX3_init 10 = .ok (.iconst 2, 1) := by decide +kernel
theorem dX3_init_11 : decode cX3_init 11 = .ok (.aload_n 1, 1) := by decide +kernel
theorem dX3_init_12 : decode cX3_init 12 = .ok (.invokevirtual 15, 3) := by decide +kernel
theorem dX3_init_15 : decode cX3_init 15 = .ok (.multianewarray 21 2, 4) := by decide +kernel
theorem dX3_init_19 : decode cX3_init 19 = .ok (.putfield 23, 3) := by decide +kernel
theorem dX3_init_22 : decode cX3_init 22 = .ok (.aload_n 0, 1) := by decide +kernel
theorem dX3_init_23 : decode cX3_init 23 = .ok (.iconst 2, 1) := by decide +kernel
theorem dX3_init_24 : decode cX3_init 24 = .ok (.newarray .long, 2) := by decide +kernel
theorem dX3_init_26 : decode cX3_init 26 = .ok (.putfield 26, 3) := by decide +kernel
theorem dX3_init_29 : decode cX3_init 29 = .ok (.aload_n 0, 1) := by decide +kernel
theorem dX3_init_30 : decode cX3_init 30 = .ok (.iconst 2, 1) := by decide +kernel
theorem dX3_init_31 : decode cX3_init 31 = .ok (.newarray .long, 2) := by decide +kernel
theorem dX3_init_33 : decode cX3_init 33 = .ok (.putfield 30, 3) := by decide +kernel
theorem dX3_init_36 : decode cX3_init 36 = .ok (.aload_n 0, 1) := by decide +kernel
theorem dX3_init_37 : decode cX3_init 37 = .ok (.iconst 2, 1) := by decide +kernel
theorem dX3_init_38 : decode cX3_init 38 = .ok (.iconst 3, 1) := by decide +kernel
theorem dX3_init_39 : decode cX3_init 39 = .ok (.multianewarray 33 2, 4) := by decide +kernel
theorem dX3_init_43 : decode cX3_init 43 = .ok (.putfield 35, 3) := by decide +kernel
theorem dX3_init_46 : decode cX3_init 46 = .ok (.aload_n 0, 1) := by decide +kernel
theorem dX3_init_47 : decode cX3_init 47 = .ok (.aload_n 1, 1) := by decide +kernel
theorem dX3_init_48 : decode cX3_init 48 = .ok (.invokevirtual 15, 3) := by decide +kernel
theorem dX3_init_51 : decode cX3_init 51 = .ok (.newarray .int, 2) := by decide +kernel
theorem dX3_init_53 : decode cX3_init 53 = .ok (.putfield 38, 3) := by decide +kernel
theorem dX3_init_56 : decode cX3_init 56 = .ok (.aload_n 0, 1) := by decide +kernel
theorem dX3_init_57 : decode cX3_init 57 = .ok (.aload_n 1, 1) := by decide +kernel
theorem dX3_init_58 : decode cX3_init 58 = .ok (.invokevirtual 15, 3) := by decide +kernel
theorem dX3_init_61 : decode cX3_init 61 = .ok (.newarray .int, 2) := by decide +kernel
theorem dX3_init_63 : decode cX3_init 63 = .ok (.putfield 42, 3) := by decide +kernel
theorem dX3_init_66 : decode cX3_init 66 = .ok (.aload_n 0, 1) := by decide +kernel
theorem dX3_init_67 : decode cX3_init 67 = .ok (.iconst 0, 1) := by decide +kernel
theorem dX3_init_68 : decode cX3_init 68 = .ok (.putfield 45, 3) := by decide +kernel
theorem dX3_init_71 : decode cX3_init 71 = .ok (.aload_n 0, 1) := by decide +kernel
theorem dX3_init_72 : decode cX3_init 72 = .ok (.iconst (-1), 1) := by decide +kernel
theorem dX3_init_73 : decode cX3_init 73 = .ok (.putfield 49, 3) := by decide +kernel
theorem dX3_init_76 : decode cX3_init 76 = .ok (.return_, 1) := by decide +kernel
theorem dX3_refresh_0 : decode cX3_refresh 0 = .ok (.aload_n 0, 1) := by decide +kernel
theorem dX3_refresh_1 : decode cX3_refresh 1 = .ok (.getfield 49, 3) := by decide +kernel
theorem dX3_refresh_4 : decode cX3_refresh 4 = .ok (.aload_n 0, 1) := by decide +kernel
theorem dX3_refresh_5 : decode cX3_refresh 5 = .ok (.getfield 9, 3) := by decide +kernel
theorem dX3_refresh_8 : decode cX3_refresh 8 = .ok (.invokevirtual 52, 3) := by decide +kernel
theorem dX3_refresh_11 : decode cX3_refresh 11 = .ok (.if_icmp .ne 4, 3) := by decide +kernel
theorem dX3_refresh_14 : decode cX3_refresh 14 = .ok (.return_, 1) := by decide +kernel
theorem dX3_refresh_15 : decode cX3_refresh 15 = .ok (.aload_n 0, 1) := by decide +kernel
theorem dX3_refresh_16 : decode cX3_refresh 16 = .ok (.aload_n 0, 1) := by decide +kernel
theorem dX3_refresh_17 : decode cX3_refresh 17 = .ok (.getfield 9, 3) := by decide +kernel
theorem dX3_refresh_20 : decode cX3_refresh 20 = .ok (.invokevirtual 52, 3) := by decide +kernel
theorem dX3_refresh_23 : decode cX3_refresh 23 = .ok (.putfield 49, 3) := by decide +kernel
theorem dX3_refresh_26 : decode cX3_refresh 26 = .ok (.aload_n 0, 1) := by decide +kernel
theorem dX3_refresh_27 : decode cX3_refresh 27 = .ok (.invokevirtual 55, 3) := by decide +kernel
theorem dX3_refresh_30 : decode cX3_refresh 30 = .ok (.iconst 0, 1) := by decide +kernel
theorem dX3_refresh_31 : decode cX3_refresh 31 = .ok (.istore_n 1, 1) := by decide +kernel
theorem dX3_refresh_32 : decode cX3_refresh 32 = .ok (.iload_n 1, 1) := by decide +kernel
theorem dX3_refresh_33 : decode cX3_refresh 33 = .ok (.aload_n 0, 1) := by decide +kernel
theorem dX3_refresh_34 : decode cX3_refresh 34 = .ok (.getfield 9, 3) := by decide +kernel
theorem dX3_refresh_37 : decode cX3_refresh 37 = .ok (.invokevirtual 15, 3) := by decide +kernel
theorem dX3_refresh_40 : decode cX3_refresh 40 = .ok (.if_icmp .ge 26, 3) := by decide +kernel
theorem dX3_refresh_43 : decode cX3_refresh 43 = .ok (.aload_n 0, 1) := by decide +kernel
theorem dX3_refresh_44 : decode cX3_refresh 44 = .ok (.invokevirtual 58, 3) := by decide +kernel
theorem dX3_refresh_47 : decode cX3_refresh 47 = .ok (.ifCond .eq 19, 3) := by decide +kernel
theorem dX3_refresh_50 : decode cX3_refresh 50 = .ok (.aload_n 0, 1) := by decide +kernel
theorem dX3_refresh_51 : decode cX3_refresh 51 = .ok (.dup, 1) := by decide +kernel
theorem dX3_refresh_52 : decode cX3_refresh 52 = .ok (.getfield 45, 3) := by decide +kernel
theorem dX3_refresh_55 : decode cX3_refresh 55 = .ok (.iconst 1, 1) := by decide +kernel
theorem dX3_refresh_56 : decode cX3_refresh 56 = .ok (.iadd, 1) := by decide +kernel
theorem dX3_refresh_57 : decode cX3_refresh 57 = .ok (.putfield 45, 3) := by decide +kernel
theorem dX3_refresh_60 : decode cX3_refresh 60 = .ok (.iinc 1 1, 3) := by decide +kernel
theorem dX3_refresh_63 : decode cX3_refresh 63 = .ok (.goto (-31), 3) := by decide +kernel
theorem dX3_refresh_66 : decode cX3_refresh 66 = .ok (.iconst 0, 1) := by decide +kernel
theorem dX3_refresh_67 : decode cX3_refresh 67 = .ok (.istore_n 1, 1) := by decide +kernel
theorem dX3_refresh_68 : decode cX3_refresh 68 = .ok (.iload_n 1, 1) := by decide +kernel
theorem dX3_refresh_69 : decode cX3_refresh 69 = .ok (.aload_n 0, 1) := by decide +kernel
theorem dX3_refresh_70 : decode cX3_refresh 70 = .ok (.getfield 9, 3) := by decide +kernel
theorem dX3_refresh_73 : decode cX3_refresh 73 = .ok (.iconst 0, 1) := by decide +kernel
theorem dX3_refresh_74 : decode cX3_refresh 74 = .ok (.invokevirtual 62, 3) := by decide +kernel
theorem dX3_refresh_77 : decode cX3_refresh 77 = .ok (.if_icmp .ge 19, 3) := by decide +kernel
theorem dX3_refresh_80 : decode cX3_refresh 80 = .ok (.aload_n 0, 1) := by decide +kernel
theorem dX3_refresh_81 : decode cX3_refresh 81 = .ok (.iload_n 1, 1) := by decide +kernel
theorem dX3_refresh_82 : decode cX3_refresh 82 = .ok (.aload_n 0, 1) := by decide +kernel
theorem dX3_refresh_83 : decode cX3_refresh 83 = .ok (.iload_n 1, 1) := by decide +kernel
theorem dX3_refresh_84 : decode cX3_refresh 84 = .ok (.invokevirtual 66, 3) := by decide +kernel
theorem dX3_refresh_87 : decode cX3_refresh 87 = .ok (.invokevirtual 70, 3) := by decide +kernel
theorem dX3_refresh_90 : decode cX3_refresh 90 = .ok (.iinc 1 1, 3) := by decide +kernel
theorem dX3_refresh_93 : decode cX3_refresh 93 = .ok (.goto (-25), 3) := by decide +kernel
theorem dX3_refresh_96 : decode cX3_refresh 96 = .ok (.aload_n 0, 1) := by decide +kernel
theorem dX3_refresh_97 : decode cX3_refresh 97 = .ok (.invokevirtual 74, 3) := by decide +kernel
theorem dX3_refresh_100 : decode cX3_refresh 100 = .ok (.aload_n 0, 1) := by decide +kernel
theorem dX3_refresh_101 : decode cX3_refresh 101 = .ok (.invokevirtual 77, 3) := by decide +kernel
theorem dX3_refresh_104 : decode cX3_refresh 104 = .ok (.return_, 1) := by decide +kernel
theorem dX3_pairs_0 : decode cX3_pairs 0 = .ok (.aload_n 0, 1) := by decide +kernel
theorem dX3_pairs_1 : decode cX3_pairs 1 = .ok (.getfield 45, 3) := by decide +kernel
theorem dX3_pairs_4 : decode cX3_pairs 4 = .ok (.ireturn, 1) := by decide +kernel
theorem dX3_mateOf_0 : decode cX3_mateOf 0 = .ok (.aload_n 0, 1) := by decide +kernel
theorem dX3_mateOf_1 : decode cX3_mateOf 1 = .ok (.getfield 9, 3) := by decide +kernel
theorem dX3_mateOf_4 : decode cX3_mateOf 4 = .ok (.iload_n 1, 1) := by decide +kernel
theorem dX3_mateOf_5 : decode cX3_mateOf 5 = .ok (.iload_n 2, 1) := by decide +kernel
theorem dX3_mateOf_6 : decode cX3_mateOf 6 = .ok (.invokevirtual 80, 3) := by decide +kernel
theorem dX3_mateOf_9 : decode cX3_mateOf 9 = .ok (.ifCond .eq 14, 3) := by decide +kernel
theorem dX3_mateOf_12 : decode cX3_mateOf 12 = .ok (.aload_n 0, 1) := by decide +kernel
theorem dX3_mateOf_13 : decode cX3_mateOf 13 = .ok (.getfield 23, 3) := by decide +kernel
theorem dX3_mateOf_16 : decode cX3_mateOf 16 = .ok (.iload_n 1, 1) := by decide +kernel
theorem dX3_mateOf_17 : decode cX3_mateOf 17 = .ok (.aaload, 1) := by decide +kernel
theorem dX3_mateOf_18 : decode cX3_mateOf 18 = .ok (.iload_n 2, 1) := by decide +kernel
theorem dX3_mateOf_19 : decode cX3_mateOf 19 = .ok (.iaload, 1) := by decide +kernel
theorem dX3_mateOf_20 : decode cX3_mateOf 20 = .ok (.goto 5, 3) := by decide +kernel
theorem dX3_mateOf_23 : decode cX3_mateOf 23 = .ok (.bipush (-3), 2) := by decide +kernel
theorem dX3_mateOf_25 : decode cX3_mateOf 25 = .ok (.ireturn, 1) := by decide +kernel
theorem dX3_matesOf_0 : decode cX3_matesOf 0 = .ok (.lconst 0, 1) := by decide +kernel
theorem dX3_matesOf_1 : decode cX3_matesOf 1 = .ok (.lstore 4, 2) := by decide +kernel
theorem dX3_matesOf_3 : decode cX3_matesOf 3 = .ok (.lload_n 2, 1) := by decide +kernel
theorem dX3_matesOf_4 : decode cX3_matesOf 4 = .ok (.aload_n 0, 1) := by decide +kernel
theorem dX3_matesOf_5 : decode cX3_matesOf 5 = .ok (.getfield 9, 3) := by decide +kernel
theorem dX3_matesOf_8 : decode cX3_matesOf 8 = .ok (.iload_n 1, 1) := by decide +kernel
theorem dX3_matesOf_9 : decode cX3_matesOf 9 = .ok (.invokevirtual 84, 3) := by decide +kernel
theorem dX3_matesOf_12 : decode cX3_matesOf 12 = .ok (.land, 1) := by decide +kernel
theorem dX3_matesOf_13 : decode cX3_matesOf 13 = .ok (.lstore 6, 2) := by decide +kernel
theorem dX3_matesOf_15 : decode cX3_matesOf 15 = .ok (.lload 6, 2) := by decide +kernel
theorem dX3_matesOf_17 : decode cX3_matesOf 17 = .ok (.invokestatic 87, 3) := by decide +kernel
theorem dX3_matesOf_20 : decode cX3_matesOf 20 = .ok (.istore 8, 2) := by decide +kernel
theorem dX3_matesOf_22 : decode cX3_matesOf 22 = .ok (.iload 8, 2) := by decide +kernel
theorem dX3_matesOf_24 : decode cX3_matesOf 24 = .ok (.ifCond .le 48, 3) := by decide +kernel
theorem dX3_matesOf_27 : decode cX3_matesOf 27 = .ok (.aload_n 0, 1) := by decide +kernel
end
section
theorem dX3_matesOf_28 : decode cX3_matesOf 28 = .ok (.getfield 23, 3) := by decide +kernel
theorem dX3_matesOf_31 : decode cX3_matesOf 31 = .ok (.iload_n 1, 1) := by decide +kernel
theorem dX3_matesOf_32 : decode cX3_matesOf 32 = .ok (.aaload, 1) := by decide +kernel
theorem dX3_matesOf_33 : decode cX3_matesOf 33 = .ok (.lload 6, 2) := by decide +kernel
theorem dX3_matesOf_35 : decode cX3_matesOf 35 = .ok (.invokestatic 93, 3) := by decide +kernel
theorem dX3_matesOf_38 : decode cX3_matesOf 38 = .ok (.iaload, 1) := by decide +kernel
theorem dX3_matesOf_39 : decode cX3_matesOf 39 = .ok (.istore 9, 2) := by decide +kernel
theorem dX3_matesOf_41 : decode cX3_matesOf 41 = .ok (.lload 6, 2) := by decide +kernel
theorem dX3_matesOf_43 : decode cX3_matesOf 43 = .ok (.lload 6, 2) := by decide +kernel
theorem dX3_matesOf_45 : decode cX3_matesOf 45 = .ok (.lconst 1, 1) := by decide +kernel
theorem dX3_matesOf_46 : decode cX3_matesOf 46 = .ok (.lsub, 1) := by decide +kernel
theorem dX3_matesOf_47 : decode cX3_matesOf 47 = .ok (.land, 1) := by decide +kernel
theorem dX3_matesOf_48 : decode cX3_matesOf 48 = .ok (.lstore 6, 2) := by decide +kernel
theorem dX3_matesOf_50 : decode cX3_matesOf 50 = .ok (.iload 9, 2) := by decide +kernel
theorem dX3_matesOf_52 : decode cX3_matesOf 52 = .ok (.bipush (-3), 2) := by decide +kernel
theorem dX3_matesOf_54 : decode cX3_matesOf 54 = .ok (.if_icmp .eq 12, 3) := by decide +kernel
theorem dX3_matesOf_57 : decode cX3_matesOf 57 = .ok (.lload 4, 2) := by decide +kernel
theorem dX3_matesOf_59 : decode cX3_matesOf 59 = .ok (.lconst 1, 1) := by decide +kernel
theorem dX3_matesOf_60 : decode cX3_matesOf 60 = .ok (.iload 9, 2) := by decide +kernel
theorem dX3_matesOf_62 : decode cX3_matesOf 62 = .ok (.lshl, 1) := by decide +kernel
theorem dX3_matesOf_63 : decode cX3_matesOf 63 = .ok (.lor, 1) := by decide +kernel
theorem dX3_matesOf_64 : decode cX3_matesOf 64 = .ok (.lstore 4, 2) := by decide +kernel
theorem dX3_matesOf_66 : decode cX3_matesOf 66 = .ok (.iinc 8 (-1), 3) := by decide +kernel
theorem dX3_matesOf_69 : decode cX3_matesOf 69 = .ok (.goto (-47), 3) := by decide +kernel
theorem dX3_matesOf_72 : decode cX3_matesOf 72 = .ok (.lload 4, 2) := by decide +kernel
theorem dX3_matesOf_74 : decode cX3_matesOf 74 = .ok (.lreturn, 1) := by decide +kernel
theorem dX3_nodesOfPart_0 : decode cX3_nodesOfPart 0 = .ok (.aload_n 0, 1) := by decide +kernel
theorem dX3_nodesOfPart_1 : decode cX3_nodesOfPart 1 = .ok (.getfield 35, 3) := by decide +kernel
theorem dX3_nodesOfPart_4 : decode cX3_nodesOfPart 4 = .ok (.iload_n 1, 1) := by decide +kernel
theorem dX3_nodesOfPart_5 : decode cX3_nodesOfPart 5 = .ok (.aaload, 1) := by decide +kernel
theorem dX3_nodesOfPart_6 : decode cX3_nodesOfPart 6 = .ok (.iload_n 2, 1) := by decide +kernel
theorem dX3_nodesOfPart_7 : decode cX3_nodesOfPart 7 = .ok (.laload, 1) := by decide +kernel
theorem dX3_nodesOfPart_8 : decode cX3_nodesOfPart 8 = .ok (.lreturn, 1) := by decide +kernel
theorem dX3_partOf_0 : decode cX3_partOf 0 = .ok (.aload_n 0, 1) := by decide +kernel
theorem dX3_partOf_1 : decode cX3_partOf 1 = .ok (.getfield 35, 3) := by decide +kernel
theorem dX3_partOf_4 : decode cX3_partOf 4 = .ok (.iload_n 1, 1) := by decide +kernel
theorem dX3_partOf_5 : decode cX3_partOf 5 = .ok (.aaload, 1) := by decide +kernel
theorem dX3_partOf_6 : decode cX3_partOf 6 = .ok (.iconst 0, 1) := by decide +kernel
theorem dX3_partOf_7 : decode cX3_partOf 7 = .ok (.laload, 1) := by decide +kernel
theorem dX3_partOf_8 : decode cX3_partOf 8 = .ok (.iload_n 2, 1) := by decide +kernel
theorem dX3_partOf_9 : decode cX3_partOf 9 = .ok (.invokestatic 96, 3) := by decide +kernel
theorem dX3_partOf_12 : decode cX3_partOf 12 = .ok (.ifCond .eq 5, 3) := by decide +kernel
theorem dX3_partOf_15 : decode cX3_partOf 15 = .ok (.iconst 0, 1) := by decide +kernel
theorem dX3_partOf_16 : decode cX3_partOf 16 = .ok (.ireturn, 1) := by decide +kernel
theorem dX3_partOf_17 : decode cX3_partOf 17 = .ok (.aload_n 0, 1) := by decide +kernel
theorem dX3_partOf_18 : decode cX3_partOf 18 = .ok (.getfield 35, 3) := by decide +kernel
theorem dX3_partOf_21 : decode cX3_partOf 21 = .ok (.iload_n 1, 1) := by decide +kernel
theorem dX3_partOf_22 : decode cX3_partOf 22 = .ok (.aaload, 1) := by decide +kernel
theorem dX3_partOf_23 : decode cX3_partOf 23 = .ok (.iconst 2, 1) := by decide +kernel
theorem dX3_partOf_24 : decode cX3_partOf 24 = .ok (.laload, 1) := by decide +kernel
theorem dX3_partOf_25 : decode cX3_partOf 25 = .ok (.iload_n 2, 1) := by decide +kernel
theorem dX3_partOf_26 : decode cX3_partOf 26 = .ok (.invokestatic 96, 3) := by decide +kernel
theorem dX3_partOf_29 : decode cX3_partOf 29 = .ok (.ifCond .eq 7, 3) := by decide +kernel
theorem dX3_partOf_32 : decode cX3_partOf 32 = .ok (.iconst 2, 1) := by decide +kernel
theorem dX3_partOf_33 : decode cX3_partOf 33 = .ok (.goto 4, 3) := by decide +kernel
theorem dX3_partOf_36 : decode cX3_partOf 36 = .ok (.iconst 1, 1) := by decide +kernel
theorem dX3_partOf_37 : decode cX3_partOf 37 = .ok (.ireturn, 1) := by decide +kernel
theorem dX3_nodesInPart_0 : decode cX3_nodesInPart 0 = .ok (.aload_n 0, 1) := by decide +kernel
theorem dX3_nodesInPart_1 : decode cX3_nodesInPart 1 = .ok (.getfield 35, 3) := by decide +kernel
theorem dX3_nodesInPart_4 : decode cX3_nodesInPart 4 = .ok (.iconst 0, 1) := by decide +kernel
theorem dX3_nodesInPart_5 : decode cX3_nodesInPart 5 = .ok (.aaload, 1) := by decide +kernel
theorem dX3_nodesInPart_6 : decode cX3_nodesInPart 6 = .ok (.iload_n 1, 1) := by decide +kernel
theorem dX3_nodesInPart_7 : decode cX3_nodesInPart 7 = .ok (.laload, 1) := by decide +kernel
theorem dX3_nodesInPart_8 : decode cX3_nodesInPart 8 = .ok (.invokestatic 87, 3) := by decide +kernel
theorem dX3_nodesInPart_11 : decode cX3_nodesInPart 11 = .ok (.aload_n 0, 1) := by decide +kernel
theorem dX3_nodesInPart_12 : decode cX3_nodesInPart 12 = .ok (.getfield 35, 3) := by decide +kernel
theorem dX3_nodesInPart_15 : decode cX3_nodesInPart 15 = .ok (.iconst 1, 1) := by decide +kernel
theorem dX3_nodesInPart_16 : decode cX3_nodesInPart 16 = .ok (.aaload, 1) := by decide +kernel
theorem dX3_nodesInPart_17 : decode cX3_nodesInPart 17 = .ok (.iload_n 1, 1) := by decide +kernel
theorem dX3_nodesInPart_18 : decode cX3_nodesInPart 18 = .ok (.laload, 1) := by decide +kernel
theorem dX3_nodesInPart_19 : decode cX3_nodesInPart 19 = .ok (.invokestatic 87, 3) := by decide +kernel
theorem dX3_nodesInPart_22 : decode cX3_nodesInPart 22 = .ok (.iadd, 1) := by decide +kernel
theorem dX3_nodesInPart_23 : decode cX3_nodesInPart 23 = .ok (.ireturn, 1) := by decide +kernel
theorem dX3_isInCover_0 : decode cX3_isInCover 0 = .ok (.aload_n 0, 1) := by decide +kernel
theorem dX3_isInCover_1 : decode cX3_isInCover 1 = .ok (.iload_n 2, 1) := by decide +kernel
theorem dX3_isInCover_2 : decode cX3_isInCover 2 = .ok (.iload_n 3, 1) := by decide +kernel
theorem dX3_isInCover_3 : decode cX3_isInCover 3 = .ok (.invokevirtual 100, 3) := by decide +kernel
theorem dX3_isInCover_6 : decode cX3_isInCover 6 = .ok (.istore 4, 2) := by decide +kernel
theorem dX3_isInCover_8 : decode cX3_isInCover 8 = .ok (.iload 4, 2) := by decide +kernel
theorem dX3_isInCover_10 : decode cX3_isInCover 10 = .ok (.iconst 1, 1) := by decide +kernel
theorem dX3_isInCover_11 : decode cX3_isInCover 11 = .ok (.if_icmp .ne 14, 3) := by decide +kernel
theorem dX3_isInCover_14 : decode cX3_isInCover 14 = .ok (.iload_n 2, 1) := by decide +kernel
theorem dX3_isInCover_15 : decode cX3_isInCover 15 = .ok (.iload_n 1, 1) := by decide +kernel
theorem dX3_isInCover_16 : decode cX3_isInCover 16 = .ok (.if_icmp .ne 7, 3) := by decide +kernel
theorem dX3_isInCover_19 : decode cX3_isInCover 19 = .ok (.iconst 1, 1) := by decide +kernel
theorem dX3_isInCover_20 : decode cX3_isInCover 20 = .ok (.goto 4, 3) := by decide +kernel
theorem dX3_isInCover_23 : decode cX3_isInCover 23 = .ok (.iconst 0, 1) := by decide +kernel
theorem dX3_isInCover_24 : decode cX3_isInCover 24 = .ok (.ireturn, 1) := by decide +kernel
theorem dX3_isInCover_25 : decode cX3_isInCover 25 = .ok (.iload_n 2, 1) := by decide +kernel
theorem dX3_isInCover_26 : decode cX3_isInCover 26 = .ok (.ifCond .ne 17, 3) := by decide +kernel
theorem dX3_isInCover_29 : decode cX3_isInCover 29 = .ok (.iload 4, 2) := by decide +kernel
theorem dX3_isInCover_31 : decode cX3_isInCover 31 = .ok (.iconst 2, 1) := by decide +kernel
theorem dX3_isInCover_32 : decode cX3_isInCover 32 = .ok (.if_icmp .ne 7, 3) := by decide +kernel
theorem dX3_isInCover_35 : decode cX3_isInCover 35 = .ok (.iconst 1, 1) := by decide +kernel
theorem dX3_isInCover_36 : decode cX3_isInCover 36 = .ok (.goto 17, 3) := by decide +kernel
theorem dX3_isInCover_39 : decode cX3_isInCover 39 = .ok (.iconst 0, 1) := by decide +kernel
theorem dX3_isInCover_40 : decode cX3_isInCover 40 = .ok (.goto 13, 3) := by decide +kernel
theorem dX3_isInCover_43 : decode cX3_isInCover 43 = .ok (.iload 4, 2) := by decide +kernel
theorem dX3_isInCover_45 : decode cX3_isInCover 45 = .ok (.ifCond .ne 7, 3) := by decide +kernel
theorem dX3_isInCover_48 : decode cX3_isInCover 48 = .ok (.iconst 1, 1) := by decide +kernel
theorem dX3_isInCover_49 : decode cX3_isInCover 49 = .ok (.goto 4, 3) := by decide +kernel
theorem dX3_isInCover_52 : decode cX3_isInCover 52 = .ok (.iconst 0, 1) := by decide +kernel
theorem dX3_isInCover_53 : decode cX3_isInCover 53 = .ok (.ireturn, 1) := by decide +kernel
theorem dX3_begin_0 : decode cX3_begin 0 = .ok (.iconst 0, 1) := by decide +kernel
theorem dX3_begin_1 : decode cX3_begin 1 = .ok (.istore_n 1, 1) := by decide +kernel
theorem dX3_begin_2 : decode cX3_begin 2 = .ok (.iload_n 1, 1) := by decide +kernel
theorem dX3_begin_3 : decode cX3_begin 3 = .ok (.iconst 1, 1) := by decide +kernel
theorem dX3_begin_4 : decode cX3_begin 4 = .ok (.if_icmp .gt 27, 3) := by decide +kernel
theorem dX3_begin_7 : decode cX3_begin 7 = .ok (.aload_n 0, 1) := by decide +kernel
theorem dX3_begin_8 : decode cX3_begin 8 = .ok (.getfield 23, 3) := by decide +kernel
theorem dX3_begin_11 : decode cX3_begin 11 = .ok (.iload_n 1, 1) := by decide +kernel
theorem dX3_begin_12 : decode cX3_begin 12 = .ok (.aaload, 1) := by decide +kernel
theorem dX3_begin_13 : decode cX3_begin 13 = .ok (.bipush (-3), 2) := by decide +kernel
theorem dX3_begin_15 : decode cX3_begin 15 = .ok (.invokestatic 104, 3) := by decide +kernel
theorem dX3_begin_18 : decode cX3_begin 18 = .ok (.aload_n 0, 1) := by decide +kernel
theorem dX3_begin_19 : decode cX3_begin 19 = .ok (.getfield 26, 3) := by decide +kernel
theorem dX3_begin_22 : decode cX3_begin 22 = .ok (.iload_n 1, 1) := by decide +kernel
theorem dX3_begin_23 : decode cX3_begin 23 = .ok (.lconst 0, 1) := by decide +kernel
theorem dX3_begin_24 : decode cX3_begin 24 = .ok (.lastore, 1) := by decide +kernel
theorem dX3_begin_25 : decode cX3_begin 25 = .ok (.iinc 1 1, 3) := by decide +kernel
theorem dX3_begin_28 : decode cX3_begin 28 = .ok (.goto (-26), 3) := by decide +kernel
theorem dX3_begin_31 : decode cX3_begin 31 = .ok (.aload_n 0, 1) := by decide +kernel
theorem dX3_begin_32 : decode cX3_begin 32 = .ok (.iconst 0, 1) := by decide +kernel
theorem dX3_begin_33 : decode cX3_begin 33 = .ok (.putfield 45, 3) := by decide +kernel
theorem dX3_begin_36 : decode cX3_begin 36 = .ok (.aload_n 0, 1) := by decide +kernel
theorem dX3_begin_37 : decode cX3_begin 37 = .ok (.invokevirtual 74, 3) := by decide +kernel
theorem dX3_begin_40 : decode cX3_begin 40 = .ok (.return_, 1) := by decide +kernel
theorem dX3_openAll_0 : decode cX3_openAll 0 = .ok (.aload_n 0, 1) := by decide +kernel
theorem dX3_openAll_1 : decode cX3_openAll 1 = .ok (.getfield 30, 3) := by decide +kernel
theorem dX3_openAll_4 : decode cX3_openAll 4 = .ok (.iconst 0, 1) := by decide +kernel
theorem dX3_openAll_5 : decode cX3_openAll 5 = .ok (.aload_n 0, 1) := by decide +kernel
theorem dX3_openAll_6 : decode cX3_openAll 6 = .ok (.getfield 9, 3) := by decide +kernel
theorem dX3_openAll_9 : decode cX3_openAll 9 = .ok (.iconst 0, 1) := by decide +kernel
theorem dX3_openAll_10 : decode cX3_openAll 10 = .ok (.invokevirtual 84, 3) := by decide +kernel
theorem dX3_openAll_13 : decode cX3_openAll 13 = .ok (.lastore, 1) := by decide +kernel
theorem dX3_openAll_14 : decode cX3_openAll 14 = .ok (.aload_n 0, 1) := by decide +kernel
theorem dX3_openAll_15 : decode cX3_openAll 15 = .ok (.getfield 30, 3) := by decide +kernel
theorem dX3_openAll_18 : decode cX3_openAll 18 = .ok (.iconst 1, 1) := by decide +kernel
theorem dX3_openAll_19 : decode cX3_openAll 19 = .ok (.aload_n 0, 1) := by decide +kernel
theorem dX3_openAll_20 : decode cX3_openAll 20 = .ok (.getfield 9, 3) := by decide +kernel
theorem dX3_openAll_23 : decode cX3_openAll 23 = .ok (.iconst 1, 1) := by decide +kernel
theorem dX3_openAll_24 : decode cX3_openAll 24 = .ok (.invokevirtual 84, 3) := by decide +kernel
theorem dX3_openAll_27 : decode cX3_openAll 27 = .ok (.lastore, 1) := by decide +kernel
theorem dX3_openAll_28 : decode cX3_openAll 28 = .ok (.return_, 1) := by decide +kernel
theorem dX3_bare_0 : decode cX3_bare 0 = .ok (.aload_n 0, 1) := by decide +kernel
theorem dX3_bare_1 : decode cX3_bare 1 = .ok (.getfield 30, 3) := by decide +kernel
theorem dX3_bare_4 : decode cX3_bare 4 = .ok (.iload_n 1, 1) := by decide +kernel
theorem dX3_bare_5 : decode cX3_bare 5 = .ok (.laload, 1) := by decide +kernel
theorem dX3_bare_6 : decode cX3_bare 6 = .ok (.aload_n 0, 1) := by decide +kernel
theorem dX3_bare_7 : decode cX3_bare 7 = .ok (.getfield 26, 3) := by decide +kernel
theorem dX3_bare_10 : decode cX3_bare 10 = .ok (.iload_n 1, 1) := by decide +kernel
theorem dX3_bare_11 : decode cX3_bare 11 = .ok (.laload, 1) := by decide +kernel
theorem dX3_bare_12 : decode cX3_bare 12 = .ok (.ldc2_w 110, 3) := by decide +kernel
theorem dX3_bare_15 : decode cX3_bare 15 = .ok (.lxor, 1) := by decide +kernel
theorem dX3_bare_16 : decode cX3_bare 16 = .ok (.land, 1) := by decide +kernel
theorem dX3_bare_17 : decode cX3_bare 17 = .ok (.lreturn, 1) := by decide +kernel
theorem dX3_pair_0 : decode cX3_pair 0 = .ok (.aload_n 0, 1) := by decide +kernel
theorem dX3_pair_1 : decode cX3_pair 1 = .ok (.getfield 23, 3) := by decide +kernel
theorem dX3_pair_4 : decode cX3_pair 4 = .ok (.iconst 0, 1) := by decide +kernel
theorem dX3_pair_5 : decode cX3_pair 5 = .ok (.aaload, 1) := by decide +kernel
theorem dX3_pair_6 : decode cX3_pair 6 = .ok (.iload_n 1, 1) := by decide +kernel
theorem dX3_pair_7 : decode cX3_pair 7 = .ok (.iload_n 2, 1) := by decide +kernel
theorem dX3_pair_8 : decode cX3_pair 8 = .ok (.iastore, 1) := by decide +kernel
theorem dX3_pair_9 : decode cX3_pair 9 = .ok (.aload_n 0, 1) := by decide +kernel
theorem dX3_pair_10 : decode cX3_pair 10 = .ok (.getfield 23, 3) := by decide +kernel
theorem dX3_pair_13 : decode cX3_pair 13 = .ok (.iconst 1, 1) := by decide +kernel
theorem dX3_pair_14 : decode cX3_pair 14 = .ok (.aaload, 1) := by decide +kernel
theorem dX3_pair_15 : decode cX3_pair 15 = .ok (.iload_n 2, 1) := by decide +kernel
theorem dX3_pair_16 : decode cX3_pair 16 = .ok (.iload_n 1, 1) := by decide +kernel
theorem dX3_pair_17 : decode cX3_pair 17 = .ok (.iastore, 1) := by decide +kernel
theorem dX3_pair_18 : decode cX3_pair 18 = .ok (.aload_n 0, 1) := by decide +kernel
theorem dX3_pair_19 : decode cX3_pair 19 = .ok (.getfield 26, 3) := by decide +kernel
theorem dX3_pair_22 : decode cX3_pair 22 = .ok (.iconst 0, 1) := by decide +kernel
theorem dX3_pair_23 : decode cX3_pair 23 = .ok (.dup2, 1) := by decide +kernel
theorem dX3_pair_24 : decode cX3_pair 24 = .ok (.laload, 1) := by decide +kernel
theorem dX3_pair_25 : decode cX3_pair 25 = .ok (.lconst 1, 1) := by decide +kernel
theorem dX3_pair_26 : decode cX3_pair 26 = .ok (.iload_n 1, 1) := by decide +kernel
theorem dX3_pair_27 : decode cX3_pair 27 = .ok (.lshl, 1) := by decide +kernel
theorem dX3_pair_28 : decode cX3_pair 28 = .ok (.lor, 1) := by decide +kernel
theorem dX3_pair_29 : decode cX3_pair 29 = .ok (.lastore, 1) := by decide +kernel
theorem dX3_pair_30 : decode cX3_pair 30 = .ok (.aload_n 0, 1) := by decide +kernel
theorem dX3_pair_31 : decode cX3_pair 31 = .ok (.getfield 26, 3) := by decide +kernel
theorem dX3_pair_34 : decode cX3_pair 34 = .ok (.iconst 1, 1) := by decide +kernel
theorem dX3_pair_35 : decode cX3_pair 35 = .ok (.dup2, 1) := by decide +kernel
theorem dX3_pair_36 : decode cX3_pair 36 = .ok (.laload, 1) := by decide +kernel
theorem dX3_pair_37 : decode cX3_pair 37 = .ok (.lconst 1, 1) := by decide +kernel
theorem dX3_pair_38 : decode cX3_pair 38 = .ok (.iload_n 2, 1) := by decide +kernel
theorem dX3_pair_39 : decode cX3_pair 39 = .ok (.lshl, 1) := by decide +kernel
theorem dX3_pair_40 : decode cX3_pair 40 = .ok (.lor, 1) := by decide +kernel
theorem dX3_pair_41 : decode cX3_pair 41 = .ok (.lastore, 1) := by decide +kernel
theorem dX3_pair_42 : decode cX3_pair 42 = .ok (.return_, 1) := by decide +kernel
theorem dX3_loosen_0 : decode cX3_loosen 0 = .ok (.aload_n 0, 1) := by decide +kernel
theorem dX3_loosen_1 : decode cX3_loosen 1 = .ok (.getfield 23, 3) := by decide +kernel
theorem dX3_loosen_4 : decode cX3_loosen 4 = .ok (.iload_n 1, 1) := by decide +kernel
theorem dX3_loosen_5 : decode cX3_loosen 5 = .ok (.aaload, 1) := by decide +kernel
theorem dX3_loosen_6 : decode cX3_loosen 6 = .ok (.iload_n 2, 1) := by decide +kernel
theorem dX3_loosen_7 : decode cX3_loosen 7 = .ok (.iaload, 1) := by decide +kernel
theorem dX3_loosen_8 : decode cX3_loosen 8 = .ok (.istore_n 3, 1) := by decide +kernel
theorem dX3_loosen_9 : decode cX3_loosen 9 = .ok (.iload_n 3, 1) := by decide +kernel
theorem dX3_loosen_10 : decode cX3_loosen 10 = .ok (.bipush (-3), 2) := by decide +kernel
theorem dX3_loosen_12 : decode cX3_loosen 12 = .ok (.if_icmp .eq 59, 3) := by decide +kernel
theorem dX3_loosen_15 : decode cX3_loosen 15 = .ok (.aload_n 0, 1) := by decide +kernel
theorem dX3_loosen_16 : decode cX3_loosen 16 = .ok (.getfield 23, 3) := by decide +kernel
theorem dX3_loosen_19 : decode cX3_loosen 19 = .ok (.iload_n 1, 1) := by decide +kernel
theorem dX3_loosen_20 : decode cX3_loosen 20 = .ok (.aaload, 1) := by decide +kernel
theorem dX3_loosen_21 : decode cX3_loosen 21 = .ok (.iload_n 2, 1) := by decide +kernel
theorem dX3_loosen_22 : decode cX3_loosen 22 = .ok (.bipush (-3), 2) := by decide +kernel
theorem dX3_loosen_24 : decode cX3_loosen 24 = .ok (.iastore, 1) := by decide +kernel
theorem dX3_loosen_25 : decode cX3_loosen 25 = .ok (.aload_n 0, 1) := by decide +kernel
theorem dX3_loosen_26 : decode cX3_loosen 26 = .ok (.getfield 23, 3) := by decide +kernel
theorem dX3_loosen_29 : decode cX3_loosen 29 = .ok (.iconst 1, 1) := by decide +kernel
theorem dX3_loosen_30 : decode cX3_loosen 30 = .ok (.iload_n 1, 1) := by decide +kernel
theorem dX3_loosen_31 : decode cX3_loosen 31 = .ok (.isub, 1) := by decide +kernel
theorem dX3_loosen_32 : decode cX3_loosen 32 = .ok (.aaload, 1) := by decide +kernel
theorem dX3_loosen_33 : decode cX3_loosen 33 = .ok (.iload_n 3, 1) := by decide +kernel
theorem dX3_loosen_34 : decode cX3_loosen 34 = .ok (.bipush (-3), 2) := by decide +kernel
theorem dX3_loosen_36 : decode cX3_loosen 36 = .ok (.iastore, 1) := by decide +kernel
theorem dX3_loosen_37 : decode cX3_loosen 37 = .ok (.aload_n 0, 1) := by decide +kernel
theorem dX3_loosen_38 : decode cX3_loosen 38 = .ok (.getfield 26, 3) := by decide +kernel
theorem dX3_loosen_41 : decode cX3_loosen 41 = .ok (.iload_n 1, 1) := by decide +kernel
theorem dX3_loosen_42 : decode cX3_loosen 42 = .ok (.dup2, 1) := by decide +kernel
theorem dX3_loosen_43 : decode cX3_loosen 43 = .ok (.laload, 1) := by decide +kernel
theorem dX3_loosen_44 : decode cX3_loosen 44 = .ok (.lconst 1, 1) := by decide +kernel
theorem dX3_loosen_45 : decode cX3_loosen 45 = .ok (.iload_n 2, 1) := by decide +kernel
theorem dX3_loosen_46 : decode cX3_loosen 46 = .ok (.lshl, 1) := by decide +kernel
theorem dX3_loosen_47 : decode cX3_loosen 47 = .ok (.ldc2_w 110, 3) := by decide +kernel
theorem dX3_loosen_50 : decode cX3_loosen 50 = .ok (.lxor, 1) := by decide +kernel
theorem dX3_loosen_51 : decode cX3_loosen 51 = .ok (.land, 1) := by decide +kernel
theorem dX3_loosen_52 : decode cX3_loosen 52 = .ok (.lastore, 1) := by decide +kernel
theorem dX3_loosen_53 : decode cX3_loosen 53 = .ok (.aload_n 0, 1) := by decide +kernel
theorem dX3_loosen_54 : decode cX3_loosen 54 = .ok (.getfield 26, 3) := by decide +kernel
theorem dX3_loosen_57 : decode cX3_loosen 57 = .ok (.iconst 1, 1) := by decide +kernel
theorem dX3_loosen_58 : decode cX3_loosen 58 = .ok (.iload_n 1, 1) := by decide +kernel
theorem dX3_loosen_59 : decode cX3_loosen 59 = .ok (.isub, 1) := by decide +kernel
theorem dX3_loosen_60 : decode cX3_loosen 60 = .ok (.dup2, 1) := by decide +kernel
theorem dX3_loosen_61 : decode cX3_loosen 61 = .ok (.laload, 1) := by decide +kernel
theorem dX3_loosen_62 : decode cX3_loosen 62 = .ok (.lconst 1, 1) := by decide +kernel
theorem dX3_loosen_63 : decode cX3_loosen 63 = .ok (.iload_n 3, 1) := by decide +kernel
theorem dX3_loosen_64 : decode cX3_loosen 64 = .ok (.lshl, 1) := by decide +kernel
theorem dX3_loosen_65 : decode cX3_loosen 65 = .ok (.ldc2_w 110, 3) := by decide +kernel
theorem dX3_loosen_68 : decode cX3_loosen 68 = .ok (.lxor, 1) := by decide +kernel
theorem dX3_loosen_69 : decode cX3_loosen 69 = .ok (.land, 1) := by decide +kernel
theorem dX3_loosen_70 : decode cX3_loosen 70 = .ok (.lastore, 1) := by decide +kernel
theorem dX3_loosen_71 : decode cX3_loosen 71 = .ok (.return_, 1) := by decide +kernel
theorem dX3_lengthen_0 : decode cX3_lengthen 0 = .ok (.iconst 0, 1) := by decide +kernel
theorem dX3_lengthen_1 : decode cX3_lengthen 1 = .ok (.istore_n 1, 1) := by decide +kernel
theorem dX3_lengthen_2 : decode cX3_lengthen 2 = .ok (.aload_n 0, 1) := by decide +kernel
theorem dX3_lengthen_3 : decode cX3_lengthen 3 = .ok (.iconst 0, 1) := by decide +kernel
theorem dX3_lengthen_4 : decode cX3_lengthen 4 = .ok (.invokevirtual 112, 3) := by decide +kernel
theorem dX3_lengthen_7 : decode cX3_lengthen 7 = .ok (.lstore_n 2, 1) := by decide +kernel
theorem dX3_lengthen_8 : decode cX3_lengthen 8 = .ok (.iconst 0, 1) := by decide +kernel
theorem dX3_lengthen_9 : decode cX3_lengthen 9 = .ok (.istore 4, 2) := by decide +kernel
theorem dX3_lengthen_11 : decode cX3_lengthen 11 = .ok (.iload 4, 2) := by decide +kernel
theorem dX3_lengthen_13 : decode cX3_lengthen 13 = .ok (.aload_n 0, 1) := by decide +kernel
theorem dX3_lengthen_14 : decode cX3_lengthen 14 = .ok (.getfield 9, 3) := by decide +kernel
theorem dX3_lengthen_17 : decode cX3_lengthen 17 = .ok (.iconst 0, 1) := by decide +kernel
theorem dX3_lengthen_18 : decode cX3_lengthen 18 = .ok (.invokevirtual 62, 3) := by decide +kernel
theorem dX3_lengthen_21 : decode cX3_lengthen 21 = .ok (.if_icmp .ge 29, 3) := by decide +kernel
theorem dX3_lengthen_24 : decode cX3_lengthen 24 = .ok (.lload_n 2, 1) := by decide +kernel
theorem dX3_lengthen_25 : decode cX3_lengthen 25 = .ok (.iload 4, 2) := by decide +kernel
theorem dX3_lengthen_27 : decode cX3_lengthen 27 = .ok (.invokestatic 96, 3) := by decide +kernel
theorem dX3_lengthen_30 : decode cX3_lengthen 30 = .ok (.ifCond .eq 14, 3) := by decide +kernel
theorem dX3_lengthen_33 : decode cX3_lengthen 33 = .ok (.aload_n 0, 1) := by decide +kernel
theorem dX3_lengthen_34 : decode cX3_lengthen 34 = .ok (.getfield 38, 3) := by decide +kernel
theorem dX3_lengthen_37 : decode cX3_lengthen 37 = .ok (.iload_n 1, 1) := by decide +kernel
theorem dX3_lengthen_38 : decode cX3_lengthen 38 = .ok (.iinc 1 1, 3) := by decide +kernel
theorem dX3_lengthen_41 : decode cX3_lengthen 41 = .ok (.iload 4, 2) := by decide +kernel
theorem dX3_lengthen_43 : decode cX3_lengthen 43 = .ok (.iastore, 1) := by decide +kernel
theorem dX3_lengthen_44 : decode cX3_lengthen 44 = .ok (.iinc 4 1, 3) := by decide +kernel
theorem dX3_lengthen_47 : decode cX3_lengthen 47 = .ok (.goto (-36), 3) := by decide +kernel
theorem dX3_lengthen_50 : decode cX3_lengthen 50 = .ok (.aload_n 0, 1) := by decide +kernel
theorem dX3_lengthen_51 : decode cX3_lengthen 51 = .ok (.getfield 30, 3) := by decide +kernel
theorem dX3_lengthen_54 : decode cX3_lengthen 54 = .ok (.iconst 1, 1) := by decide +kernel
theorem dX3_lengthen_55 : decode cX3_lengthen 55 = .ok (.laload, 1) := by decide +kernel
theorem dX3_lengthen_56 : decode cX3_lengthen 56 = .ok (.lstore 4, 2) := by decide +kernel
theorem dX3_lengthen_58 : decode cX3_lengthen 58 = .ok (.iconst 0, 1) := by decide +kernel
theorem dX3_lengthen_59 : decode cX3_lengthen 59 = .ok (.istore 6, 2) := by decide +kernel
theorem dX3_lengthen_61 : decode cX3_lengthen 61 = .ok (.iload 6, 2) := by decide +kernel
theorem dX3_lengthen_63 : decode cX3_lengthen 63 = .ok (.iload_n 1, 1) := by decide +kernel
theorem dX3_lengthen_64 : decode cX3_lengthen 64 = .ok (.if_icmp .ge 133, 3) := by decide +kernel
theorem dX3_lengthen_67 : decode cX3_lengthen 67 = .ok (.aload_n 0, 1) := by decide +kernel
theorem dX3_lengthen_68 : decode cX3_lengthen 68 = .ok (.getfield 38, 3) := by decide +kernel
theorem dX3_lengthen_71 : decode cX3_lengthen 71 = .ok (.iload 6, 2) := by decide +kernel
theorem dX3_lengthen_73 : decode cX3_lengthen 73 = .ok (.iaload, 1) := by decide +kernel
theorem dX3_lengthen_74 : decode cX3_lengthen 74 = .ok (.istore 7, 2) := by decide +kernel
theorem dX3_lengthen_76 : decode cX3_lengthen 76 = .ok (.aload_n 0, 1) := by decide +kernel
theorem dX3_lengthen_77 : decode cX3_lengthen 77 = .ok (.getfield 9, 3) := by decide +kernel
theorem dX3_lengthen_80 : decode cX3_lengthen 80 = .ok (.iconst 0, 1) := by decide +kernel
theorem dX3_lengthen_81 : decode cX3_lengthen 81 = .ok (.iload 7, 2) := by decide +kernel
theorem dX3_lengthen_83 : decode cX3_lengthen 83 = .ok (.invokevirtual 115, 3) := by decide +kernel
theorem dX3_lengthen_86 : decode cX3_lengthen 86 = .ok (.lload 4, 2) := by decide +kernel
theorem dX3_lengthen_88 : decode cX3_lengthen 88 = .ok (.land, 1) := by decide +kernel
theorem dX3_lengthen_89 : decode cX3_lengthen 89 = .ok (.lstore 8, 2) := by decide +kernel
theorem dX3_lengthen_91 : decode cX3_lengthen 91 = .ok (.lload 4, 2) := by decide +kernel
theorem dX3_lengthen_93 : decode cX3_lengthen 93 = .ok (.lload 8, 2) := by decide +kernel
theorem dX3_lengthen_95 : decode cX3_lengthen 95 = .ok (.ldc2_w 110, 3) := by decide +kernel
theorem dX3_lengthen_98 : decode cX3_lengthen 98 = .ok (.lxor, 1) := by decide +kernel
theorem dX3_lengthen_99 : decode cX3_lengthen 99 = .ok (.land, 1) := by decide +kernel
theorem dX3_lengthen_100 : decode cX3_lengthen 100 = .ok (.lstore 4, 2) := by decide +kernel
theorem dX3_lengthen_102 : decode cX3_lengthen 102 = .ok (.lload 8, 2) := by decide +kernel
theorem dX3_lengthen_104 : decode cX3_lengthen 104 = .ok (.invokestatic 87, 3) := by decide +kernel
theorem dX3_lengthen_107 : decode cX3_lengthen 107 = .ok (.istore 10, 2) := by decide +kernel
theorem dX3_lengthen_109 : decode cX3_lengthen 109 = .ok (.iload 10, 2) := by decide +kernel
theorem dX3_lengthen_111 : decode cX3_lengthen 111 = .ok (.ifCond .le 80, 3) := by decide +kernel
theorem dX3_lengthen_114 : decode cX3_lengthen 114 = .ok (.lload 8, 2) := by decide +kernel
theorem dX3_lengthen_116 : decode cX3_lengthen 116 = .ok (.invokestatic 93, 3) := by decide +kernel
theorem dX3_lengthen_119 : decode cX3_lengthen 119 = .ok (.istore 11, 2) := by decide +kernel
theorem dX3_lengthen_121 : decode cX3_lengthen 121 = .ok (.lload 8, 2) := by decide +kernel
theorem dX3_lengthen_123 : decode cX3_lengthen 123 = .ok (.lload 8, 2) := by decide +kernel
theorem dX3_lengthen_125 : decode cX3_lengthen 125 = .ok (.lconst 1, 1) := by decide +kernel
theorem dX3_lengthen_126 : decode cX3_lengthen 126 = .ok (.lsub, 1) := by decide +kernel
theorem dX3_lengthen_127 : decode cX3_lengthen 127 = .ok (.land, 1) := by decide +kernel
theorem dX3_lengthen_128 : decode cX3_lengthen 128 = .ok (.lstore 8, 2) := by decide +kernel
theorem dX3_lengthen_130 : decode cX3_lengthen 130 = .ok (.aload_n 0, 1) := by decide +kernel
theorem dX3_lengthen_131 : decode cX3_lengthen 131 = .ok (.getfield 42, 3) := by decide +kernel
theorem dX3_lengthen_134 : decode cX3_lengthen 134 = .ok (.iload 11, 2) := by decide +kernel
theorem dX3_lengthen_136 : decode cX3_lengthen 136 = .ok (.iload 7, 2) := by decide +kernel
theorem dX3_lengthen_138 : decode cX3_lengthen 138 = .ok (.iastore, 1) := by decide +kernel
theorem dX3_lengthen_139 : decode cX3_lengthen 139 = .ok (.aload_n 0, 1) := by decide +kernel
theorem dX3_lengthen_140 : decode cX3_lengthen 140 = .ok (.getfield 23, 3) := by decide +kernel
theorem dX3_lengthen_143 : decode cX3_lengthen 143 = .ok (.iconst 1, 1) := by decide +kernel
theorem dX3_lengthen_144 : decode cX3_lengthen 144 = .ok (.aaload, 1) := by decide +kernel
theorem dX3_lengthen_145 : decode cX3_lengthen 145 = .ok (.iload 11, 2) := by decide +kernel
theorem dX3_lengthen_147 : decode cX3_lengthen 147 = .ok (.iaload, 1) := by decide +kernel
theorem dX3_lengthen_148 : decode cX3_lengthen 148 = .ok (.istore 12, 2) := by decide +kernel
theorem dX3_lengthen_150 : decode cX3_lengthen 150 = .ok (.iload 12, 2) := by decide +kernel
theorem dX3_lengthen_152 : decode cX3_lengthen 152 = .ok (.bipush (-3), 2) := by decide +kernel
theorem dX3_lengthen_154 : decode cX3_lengthen 154 = .ok (.if_icmp .ne 11, 3) := by decide +kernel
theorem dX3_lengthen_157 : decode cX3_lengthen 157 = .ok (.aload_n 0, 1) := by decide +kernel
theorem dX3_lengthen_158 : decode cX3_lengthen 158 = .ok (.iload 11, 2) := by decide +kernel
theorem dX3_lengthen_160 : decode cX3_lengthen 160 = .ok (.invokevirtual 119, 3) := by decide +kernel
theorem dX3_lengthen_163 : decode cX3_lengthen 163 = .ok (.iconst 1, 1) := by decide +kernel
theorem dX3_lengthen_164 : decode cX3_lengthen 164 = .ok (.ireturn, 1) := by decide +kernel
theorem dX3_lengthen_165 : decode cX3_lengthen 165 = .ok (.iload_n 1, 1) := by decide +kernel
theorem dX3_lengthen_166 : decode cX3_lengthen 166 = .ok (.aload_n 0, 1) := by decide +kernel
theorem dX3_lengthen_167 : decode cX3_lengthen 167 = .ok (.getfield 38, 3) := by decide +kernel
theorem dX3_lengthen_170 : decode cX3_lengthen 170 = .ok (.arraylength, 1) := by decide +kernel
theorem dX3_lengthen_171 : decode cX3_lengthen 171 = .ok (.if_icmp .ge 14, 3) := by decide +kernel
theorem dX3_lengthen_174 : decode cX3_lengthen 174 = .ok (.aload_n 0, 1) := by decide +kernel
theorem dX3_lengthen_175 : decode cX3_lengthen 175 = .ok (.getfield 38, 3) := by decide +kernel
theorem dX3_lengthen_178 : decode cX3_lengthen 178 = .ok (.iload_n 1, 1) := by decide +kernel
theorem dX3_lengthen_179 : decode cX3_lengthen 179 = .ok (.iinc 1 1, 3) := by decide +kernel
theorem dX3_lengthen_182 : decode cX3_lengthen 182 = .ok (.iload 12, 2) := by decide +kernel
theorem dX3_lengthen_184 : decode cX3_lengthen 184 = .ok (.iastore, 1) := by decide +kernel
theorem dX3_lengthen_185 : decode cX3_lengthen 185 = .ok (.iinc 10 (-1), 3) := by decide +kernel
theorem dX3_lengthen_188 : decode cX3_lengthen 188 = .ok (.goto (-79), 3) := by decide +kernel
theorem dX3_lengthen_191 : decode cX3_lengthen 191 = .ok (.iinc 6 1, 3) := by decide +kernel
theorem dX3_lengthen_194 : decode cX3_lengthen 194 = .ok (.goto (-133), 3) := by decide +kernel
theorem dX3_lengthen_197 : decode cX3_lengthen 197 = .ok (.iconst 0, 1) := by decide +kernel
theorem dX3_lengthen_198 : decode cX3_lengthen 198 = .ok (.ireturn, 1) := by decide +kernel
theorem dX3_pairAlongPath_0 : decode cX3_pairAlongPath 0 = .ok (.iload_n 1, 1) := by decide +kernel
theorem dX3_pairAlongPath_1 : decode cX3_pairAlongPath 1 = .ok (.istore_n 2, 1) := by decide +kernel
theorem dX3_pairAlongPath_2 : decode cX3_pairAlongPath 2 = .ok (.iconst 0, 1) := by decide +kernel
theorem dX3_pairAlongPath_3 : decode cX3_pairAlongPath 3 = .ok (.istore_n 3, 1) := by decide +kernel
theorem dX3_pairAlongPath_4 : decode cX3_pairAlongPath 4 = .ok (.iload_n 3, 1) := by decide +kernel
theorem dX3_pairAlongPath_5 : decode cX3_pairAlongPath 5 = .ok (.aload_n 0, 1) := by decide +kernel
theorem dX3_pairAlongPath_6 : decode cX3_pairAlongPath 6 = .ok (.getfield 9, 3) := by decide +kernel
theorem dX3_pairAlongPath_9 : decode cX3_pairAlongPath 9 = .ok (.invokevirtual 15, 3) := by decide +kernel
theorem dX3_pairAlongPath_12 : decode cX3_pairAlongPath 12 = .ok (.if_icmp .ge 44, 3) := by decide +kernel
theorem dX3_pairAlongPath_15 : decode cX3_pairAlongPath 15 = .ok (.iload_n 2, 1) := by decide +kernel
theorem dX3_pairAlongPath_16 : decode cX3_pairAlongPath 16 = .ok (.bipush (-3), 2) := by decide +kernel
theorem dX3_pairAlongPath_18 : decode cX3_pairAlongPath 18 = .ok (.if_icmp .eq 38, 3) := by decide +kernel
theorem dX3_pairAlongPath_21 : decode cX3_pairAlongPath 21 = .ok (.aload_n 0, 1) := by decide +kernel
theorem dX3_pairAlongPath_22 : decode cX3_pairAlongPath 22 = .ok (.getfield 42, 3) := by decide +kernel
theorem dX3_pairAlongPath_25 : decode cX3_pairAlongPath 25 = .ok (.iload_n 2, 1) := by decide +kernel
theorem dX3_pairAlongPath_26 : decode cX3_pairAlongPath 26 = .ok (.iaload, 1) := by decide +kernel
theorem dX3_pairAlongPath_27 : decode cX3_pairAlongPath 27 = .ok (.istore 4, 2) := by decide +kernel
theorem dX3_pairAlongPath_29 : decode cX3_pairAlongPath 29 = .ok (.aload_n 0, 1) := by decide +kernel
theorem dX3_pairAlongPath_30 : decode cX3_pairAlongPath 30 = .ok (.getfield 23, 3) := by decide +kernel
theorem dX3_pairAlongPath_33 : decode cX3_pairAlongPath 33 = .ok (.iconst 0, 1) := by decide +kernel
theorem dX3_pairAlongPath_34 : decode cX3_pairAlongPath 34 = .ok (.aaload, 1) := by decide +kernel
theorem dX3_pairAlongPath_35 : decode cX3_pairAlongPath 35 = .ok (.iload 4, 2) := by decide +kernel
theorem dX3_pairAlongPath_37 : decode cX3_pairAlongPath 37 = .ok (.iaload, 1) := by decide +kernel
theorem dX3_pairAlongPath_38 : decode cX3_pairAlongPath 38 = .ok (.istore 5, 2) := by decide +kernel
theorem dX3_pairAlongPath_40 : decode cX3_pairAlongPath 40 = .ok (.aload_n 0, 1) := by decide +kernel
theorem dX3_pairAlongPath_41 : decode cX3_pairAlongPath 41 = .ok (.iload 4, 2) := by decide +kernel
theorem dX3_pairAlongPath_43 : decode cX3_pairAlongPath 43 = .ok (.iload_n 2, 1) := by decide +kernel
theorem dX3_pairAlongPath_44 : decode cX3_pairAlongPath 44 = .ok (.invokevirtual 123, 3) := by decide +kernel
theorem dX3_pairAlongPath_47 : decode cX3_pairAlongPath 47 = .ok (.iload 5, 2) := by decide +kernel
theorem dX3_pairAlongPath_49 : decode cX3_pairAlongPath 49 = .ok (.istore_n 2, 1) := by decide +kernel
theorem dX3_pairAlongPath_50 : decode cX3_pairAlongPath 50 = .ok (.iinc 3 1, 3) := by decide +kernel
theorem dX3_pairAlongPath_53 : decode cX3_pairAlongPath 53 = .ok (.goto (-49), 3) := by decide +kernel
theorem dX3_pairAlongPath_56 : decode cX3_pairAlongPath 56 = .ok (.return_, 1) := by decide +kernel
theorem dX3_reach_0 : decode cX3_reach 0 = .ok (.lload_n 2, 1) := by decide +kernel
theorem dX3_reach_1 : decode cX3_reach 1 = .ok (.lstore 4, 2) := by decide +kernel
theorem dX3_reach_3 : decode cX3_reach 3 = .ok (.lload_n 2, 1) := by decide +kernel
theorem dX3_reach_4 : decode cX3_reach 4 = .ok (.lstore 6, 2) := by decide +kernel
theorem dX3_reach_6 : decode cX3_reach 6 = .ok (.aload_n 0, 1) := by decide +kernel
theorem dX3_reach_7 : decode cX3_reach 7 = .ok (.getfield 30, 3) := by decide +kernel
theorem dX3_reach_10 : decode cX3_reach 10 = .ok (.iconst 1, 1) := by decide +kernel
theorem dX3_reach_11 : decode cX3_reach 11 = .ok (.iload_n 1, 1) := by decide +kernel
theorem dX3_reach_12 : decode cX3_reach 12 = .ok (.isub, 1) := by decide +kernel
theorem dX3_reach_13 : decode cX3_reach 13 = .ok (.laload, 1) := by decide +kernel
theorem dX3_reach_14 : decode cX3_reach 14 = .ok (.lstore 8, 2) := by decide +kernel
theorem dX3_reach_16 : decode cX3_reach 16 = .ok (.iconst 0, 1) := by decide +kernel
theorem dX3_reach_17 : decode cX3_reach 17 = .ok (.istore 10, 2) := by decide +kernel
theorem dX3_reach_19 : decode cX3_reach 19 = .ok (.iload 10, 2) := by decide +kernel
theorem dX3_reach_21 : decode cX3_reach 21 = .ok (.aload_n 0, 1) := by decide +kernel
theorem dX3_reach_22 : decode cX3_reach 22 = .ok (.getfield 9, 3) := by decide +kernel
theorem dX3_reach_25 : decode cX3_reach 25 = .ok (.invokevirtual 15, 3) := by decide +kernel
theorem dX3_reach_28 : decode cX3_reach 28 = .ok (.if_icmp .ge 86, 3) := by decide +kernel
theorem dX3_reach_31 : decode cX3_reach 31 = .ok (.lload 6, 2) := by decide +kernel
theorem dX3_reach_33 : decode cX3_reach 33 = .ok (.lconst 0, 1) := by decide +kernel
theorem dX3_reach_34 : decode cX3_reach 34 = .ok (.lcmp, 1) := by decide +kernel
theorem dX3_reach_35 : decode cX3_reach 35 = .ok (.ifCond .eq 79, 3) := by decide +kernel
theorem dX3_reach_38 : decode cX3_reach 38 = .ok (.aload_n 0, 1) := by decide +kernel
theorem dX3_reach_39 : decode cX3_reach 39 = .ok (.getfield 9, 3) := by decide +kernel
theorem dX3_reach_42 : decode cX3_reach 42 = .ok (.iload_n 1, 1) := by decide +kernel
theorem dX3_reach_43 : decode cX3_reach 43 = .ok (.lload 6, 2) := by decide +kernel
theorem dX3_reach_45 : decode cX3_reach 45 = .ok (.invokestatic 93, 3) := by decide +kernel
theorem dX3_reach_48 : decode cX3_reach 48 = .ok (.invokevirtual 115, 3) := by decide +kernel
theorem dX3_reach_51 : decode cX3_reach 51 = .ok (.lload 8, 2) := by decide +kernel
theorem dX3_reach_53 : decode cX3_reach 53 = .ok (.land, 1) := by decide +kernel
theorem dX3_reach_54 : decode cX3_reach 54 = .ok (.lstore 11, 2) := by decide +kernel
theorem dX3_reach_56 : decode cX3_reach 56 = .ok (.lload 8, 2) := by decide +kernel
theorem dX3_reach_58 : decode cX3_reach 58 = .ok (.lload 11, 2) := by decide +kernel
theorem dX3_reach_60 : decode cX3_reach 60 = .ok (.ldc2_w 110, 3) := by decide +kernel
theorem dX3_reach_63 : decode cX3_reach 63 = .ok (.lxor, 1) := by decide +kernel
theorem dX3_reach_64 : decode cX3_reach 64 = .ok (.land, 1) := by decide +kernel
theorem dX3_reach_65 : decode cX3_reach 65 = .ok (.lstore 8, 2) := by decide +kernel
theorem dX3_reach_67 : decode cX3_reach 67 = .ok (.lload 6, 2) := by decide +kernel
theorem dX3_reach_69 : decode cX3_reach 69 = .ok (.lload 6, 2) := by decide +kernel
theorem dX3_reach_71 : decode cX3_reach 71 = .ok (.lconst 1, 1) := by decide +kernel
theorem dX3_reach_72 : decode cX3_reach 72 = .ok (.lsub, 1) := by decide +kernel
theorem dX3_reach_73 : decode cX3_reach 73 = .ok (.land, 1) := by decide +kernel
theorem dX3_reach_74 : decode cX3_reach 74 = .ok (.lstore 6, 2) := by decide +kernel
theorem dX3_reach_76 : decode cX3_reach 76 = .ok (.aload_n 0, 1) := by decide +kernel
theorem dX3_reach_77 : decode cX3_reach 77 = .ok (.iconst 1, 1) := by decide +kernel
theorem dX3_reach_78 : decode cX3_reach 78 = .ok (.iload_n 1, 1) := by decide +kernel
theorem dX3_reach_79 : decode cX3_reach 79 = .ok (.isub, 1) := by decide +kernel
theorem dX3_reach_80 : decode cX3_reach 80 = .ok (.lload 11, 2) := by decide +kernel
theorem dX3_reach_82 : decode cX3_reach 82 = .ok (.invokevirtual 127, 3) := by decide +kernel
theorem dX3_reach_85 : decode cX3_reach 85 = .ok (.lload 4, 2) := by decide +kernel
theorem dX3_reach_87 : decode cX3_reach 87 = .ok (.ldc2_w 110, 3) := by decide +kernel
theorem dX3_reach_90 : decode cX3_reach 90 = .ok (.lxor, 1) := by decide +kernel
theorem dX3_reach_91 : decode cX3_reach 91 = .ok (.land, 1) := by decide +kernel
theorem dX3_reach_92 : decode cX3_reach 92 = .ok (.lstore 13, 2) := by decide +kernel
theorem dX3_reach_94 : decode cX3_reach 94 = .ok (.lload 4, 2) := by decide +kernel
theorem dX3_reach_96 : decode cX3_reach 96 = .ok (.lload 13, 2) := by decide +kernel
theorem dX3_reach_98 : decode cX3_reach 98 = .ok (.lor, 1) := by decide +kernel
theorem dX3_reach_99 : decode cX3_reach 99 = .ok (.lstore 4, 2) := by decide +kernel
theorem dX3_reach_101 : decode cX3_reach 101 = .ok (.lload 6, 2) := by decide +kernel
theorem dX3_reach_103 : decode cX3_reach 103 = .ok (.lload 13, 2) := by decide +kernel
theorem dX3_reach_105 : decode cX3_reach 105 = .ok (.lor, 1) := by decide +kernel
theorem dX3_reach_106 : decode cX3_reach 106 = .ok (.lstore 6, 2) := by decide +kernel
theorem dX3_reach_108 : decode cX3_reach 108 = .ok (.iinc 10 1, 3) := by decide +kernel
theorem dX3_reach_111 : decode cX3_reach 111 = .ok (.goto (-92), 3) := by decide +kernel
theorem dX3_reach_114 : decode cX3_reach 114 = .ok (.lload 4, 2) := by decide +kernel
theorem dX3_reach_116 : decode cX3_reach 116 = .ok (.lreturn, 1) := by decide +kernel
theorem dX3_choicesOf_0 : decode cX3_choicesOf 0 = .ok (.aload_n 0, 1) := by decide +kernel
theorem dX3_choicesOf_1 : decode cX3_choicesOf 1 = .ok (.getfield 9, 3) := by decide +kernel
theorem dX3_choicesOf_4 : decode cX3_choicesOf 4 = .ok (.iconst 0, 1) := by decide +kernel
theorem dX3_choicesOf_5 : decode cX3_choicesOf 5 = .ok (.iload_n 1, 1) := by decide +kernel
theorem dX3_choicesOf_6 : decode cX3_choicesOf 6 = .ok (.invokevirtual 115, 3) := by decide +kernel
theorem dX3_choicesOf_9 : decode cX3_choicesOf 9 = .ok (.aload_n 0, 1) := by decide +kernel
theorem dX3_choicesOf_10 : decode cX3_choicesOf 10 = .ok (.getfield 30, 3) := by decide +kernel
theorem dX3_choicesOf_13 : decode cX3_choicesOf 13 = .ok (.iconst 1, 1) := by decide +kernel
theorem dX3_choicesOf_14 : decode cX3_choicesOf 14 = .ok (.laload, 1) := by decide +kernel
theorem dX3_choicesOf_15 : decode cX3_choicesOf 15 = .ok (.land, 1) := by decide +kernel
theorem dX3_choicesOf_16 : decode cX3_choicesOf 16 = .ok (.lstore_n 2, 1) := by decide +kernel
theorem dX3_choicesOf_17 : decode cX3_choicesOf 17 = .ok (.aload_n 0, 1) := by decide +kernel
theorem dX3_choicesOf_18 : decode cX3_choicesOf 18 = .ok (.getfield 23, 3) := by decide +kernel
theorem dX3_choicesOf_21 : decode cX3_choicesOf 21 = .ok (.iconst 0, 1) := by decide +kernel
theorem dX3_choicesOf_22 : decode cX3_choicesOf 22 = .ok (.aaload, 1) := by decide +kernel
theorem dX3_choicesOf_23 : decode cX3_choicesOf 23 = .ok (.iload_n 1, 1) := by decide +kernel
theorem dX3_choicesOf_24 : decode cX3_choicesOf 24 = .ok (.iaload, 1) := by decide +kernel
theorem dX3_choicesOf_25 : decode cX3_choicesOf 25 = .ok (.istore 4, 2) := by decide +kernel
theorem dX3_choicesOf_27 : decode cX3_choicesOf 27 = .ok (.iload 4, 2) := by decide +kernel
theorem dX3_choicesOf_29 : decode cX3_choicesOf 29 = .ok (.bipush (-3), 2) := by decide +kernel
theorem dX3_choicesOf_31 : decode cX3_choicesOf 31 = .ok (.if_icmp .ne 5, 3) := by decide +kernel
theorem dX3_choicesOf_34 : decode cX3_choicesOf 34 = .ok (.lload_n 2, 1) := by decide +kernel
theorem dX3_choicesOf_35 : decode cX3_choicesOf 35 = .ok (.lreturn, 1) := by decide +kernel
theorem dX3_choicesOf_36 : decode cX3_choicesOf 36 = .ok (.aload_n 0, 1) := by decide +kernel
theorem dX3_choicesOf_37 : decode cX3_choicesOf 37 = .ok (.iconst 1, 1) := by decide +kernel
theorem dX3_choicesOf_38 : decode cX3_choicesOf 38 = .ok (.aload_n 0, 1) := by decide +kernel
theorem dX3_choicesOf_39 : decode cX3_choicesOf 39 = .ok (.iconst 1, 1) := by decide +kernel
theorem dX3_choicesOf_40 : decode cX3_choicesOf 40 = .ok (.invokevirtual 112, 3) := by decide +kernel
theorem dX3_choicesOf_43 : decode cX3_choicesOf 43 = .ok (.lconst 1, 1) := by decide +kernel
theorem dX3_choicesOf_44 : decode cX3_choicesOf 44 = .ok (.iload 4, 2) := by decide +kernel
theorem dX3_choicesOf_46 : decode cX3_choicesOf 46 = .ok (.lshl, 1) := by decide +kernel
theorem dX3_choicesOf_47 : decode cX3_choicesOf 47 = .ok (.lor, 1) := by decide +kernel
theorem dX3_choicesOf_48 : decode cX3_choicesOf 48 = .ok (.invokevirtual 131, 3) := by decide +kernel
theorem dX3_choicesOf_51 : decode cX3_choicesOf 51 = .ok (.lstore 5, 2) := by decide +kernel
theorem dX3_choicesOf_53 : decode cX3_choicesOf 53 = .ok (.aload_n 0, 1) := by decide +kernel
theorem dX3_choicesOf_54 : decode cX3_choicesOf 54 = .ok (.getfield 9, 3) := by decide +kernel
theorem dX3_choicesOf_57 : decode cX3_choicesOf 57 = .ok (.iconst 1, 1) := by decide +kernel
theorem dX3_choicesOf_58 : decode cX3_choicesOf 58 = .ok (.lload 5, 2) := by decide +kernel
theorem dX3_choicesOf_60 : decode cX3_choicesOf 60 = .ok (.invokevirtual 134, 3) := by decide +kernel
theorem dX3_choicesOf_63 : decode cX3_choicesOf 63 = .ok (.aload_n 0, 1) := by decide +kernel
theorem dX3_choicesOf_64 : decode cX3_choicesOf 64 = .ok (.iconst 0, 1) := by decide +kernel
theorem dX3_choicesOf_65 : decode cX3_choicesOf 65 = .ok (.invokevirtual 112, 3) := by decide +kernel
theorem dX3_choicesOf_68 : decode cX3_choicesOf 68 = .ok (.land, 1) := by decide +kernel
theorem dX3_choicesOf_69 : decode cX3_choicesOf 69 = .ok (.lconst 0, 1) := by decide +kernel
theorem dX3_choicesOf_70 : decode cX3_choicesOf 70 = .ok (.lcmp, 1) := by decide +kernel
theorem dX3_choicesOf_71 : decode cX3_choicesOf 71 = .ok (.ifCond .eq 5, 3) := by decide +kernel
theorem dX3_choicesOf_74 : decode cX3_choicesOf 74 = .ok (.lload_n 2, 1) := by decide +kernel
theorem dX3_choicesOf_75 : decode cX3_choicesOf 75 = .ok (.lreturn, 1) := by decide +kernel
theorem dX3_choicesOf_76 : decode cX3_choicesOf 76 = .ok (.lload_n 2, 1) := by decide +kernel
theorem dX3_choicesOf_77 : decode cX3_choicesOf 77 = .ok (.lload 5, 2) := by decide +kernel
theorem dX3_choicesOf_79 : decode cX3_choicesOf 79 = .ok (.land, 1) := by decide +kernel
theorem dX3_choicesOf_80 : decode cX3_choicesOf 80 = .ok (.lreturn, 1) := by decide +kernel
theorem dX3_settle_0 : decode cX3_settle 0 = .ok (.aload_n 0, 1) := by decide +kernel
theorem dX3_settle_1 : decode cX3_settle 1 = .ok (.getfield 30, 3) := by decide +kernel
theorem dX3_settle_4 : decode cX3_settle 4 = .ok (.iconst 0, 1) := by decide +kernel
theorem dX3_settle_5 : decode cX3_settle 5 = .ok (.dup2, 1) := by decide +kernel
theorem dX3_settle_6 : decode cX3_settle 6 = .ok (.laload, 1) := by decide +kernel
theorem dX3_settle_7 : decode cX3_settle 7 = .ok (.lconst 1, 1) := by decide +kernel
theorem dX3_settle_8 : decode cX3_settle 8 = .ok (.iload_n 1, 1) := by decide +kernel
theorem dX3_settle_9 : decode cX3_settle 9 = .ok (.lshl, 1) := by decide +kernel
theorem dX3_settle_10 : decode cX3_settle 10 = .ok (.ldc2_w 110, 3) := by decide +kernel
theorem dX3_settle_13 : decode cX3_settle 13 = .ok (.lxor, 1) := by decide +kernel
theorem dX3_settle_14 : decode cX3_settle 14 = .ok (.land, 1) := by decide +kernel
theorem dX3_settle_15 : decode cX3_settle 15 = .ok (.lastore, 1) := by decide +kernel
theorem dX3_settle_16 : decode cX3_settle 16 = .ok (.lload_n 2, 1) := by decide +kernel
theorem dX3_settle_17 : decode cX3_settle 17 = .ok (.lconst 0, 1) := by decide +kernel
theorem dX3_settle_18 : decode cX3_settle 18 = .ok (.lcmp, 1) := by decide +kernel
theorem dX3_settle_19 : decode cX3_settle 19 = .ok (.ifCond .ne 4, 3) := by decide +kernel
theorem dX3_settle_22 : decode cX3_settle 22 = .ok (.return_, 1) := by decide +kernel
theorem dX3_settle_23 : decode cX3_settle 23 = .ok (.lload_n 2, 1) := by decide +kernel
theorem dX3_settle_24 : decode cX3_settle 24 = .ok (.invokestatic 93, 3) := by decide +kernel
theorem dX3_settle_27 : decode cX3_settle 27 = .ok (.istore 4, 2) := by decide +kernel
theorem dX3_settle_29 : decode cX3_settle 29 = .ok (.aload_n 0, 1) := by decide +kernel
theorem dX3_settle_30 : decode cX3_settle 30 = .ok (.getfield 30, 3) := by decide +kernel
theorem dX3_settle_33 : decode cX3_settle 33 = .ok (.iconst 1, 1) := by decide +kernel
theorem dX3_settle_34 : decode cX3_settle 34 = .ok (.dup2, 1) := by decide +kernel
theorem dX3_settle_35 : decode cX3_settle 35 = .ok (.laload, 1) := by decide +kernel
theorem dX3_settle_36 : decode cX3_settle 36 = .ok (.lconst 1, 1) := by decide +kernel
theorem dX3_settle_37 : decode cX3_settle 37 = .ok (.iload 4, 2) := by decide +kernel
theorem dX3_settle_39 : decode cX3_settle 39 = .ok (.lshl, 1) := by decide +kernel
theorem dX3_settle_40 : decode cX3_settle 40 = .ok (.ldc2_w 110, 3) := by decide +kernel
theorem dX3_settle_43 : decode cX3_settle 43 = .ok (.lxor, 1) := by decide +kernel
theorem dX3_settle_44 : decode cX3_settle 44 = .ok (.land, 1) := by decide +kernel
theorem dX3_settle_45 : decode cX3_settle 45 = .ok (.lastore, 1) := by decide +kernel
theorem dX3_settle_46 : decode cX3_settle 46 = .ok (.aload_n 0, 1) := by decide +kernel
theorem dX3_settle_47 : decode cX3_settle 47 = .ok (.getfield 23, 3) := by decide +kernel
theorem dX3_settle_50 : decode cX3_settle 50 = .ok (.iconst 0, 1) := by decide +kernel
theorem dX3_settle_51 : decode cX3_settle 51 = .ok (.aaload, 1) := by decide +kernel
theorem dX3_settle_52 : decode cX3_settle 52 = .ok (.iload_n 1, 1) := by decide +kernel
theorem dX3_settle_53 : decode cX3_settle 53 = .ok (.iaload, 1) := by decide +kernel
theorem dX3_settle_54 : decode cX3_settle 54 = .ok (.iload 4, 2) := by decide +kernel
theorem dX3_settle_56 : decode cX3_settle 56 = .ok (.if_icmp .eq 28, 3) := by decide +kernel
theorem dX3_settle_59 : decode cX3_settle 59 = .ok (.aload_n 0, 1) := by decide +kernel
theorem dX3_settle_60 : decode cX3_settle 60 = .ok (.iconst 0, 1) := by decide +kernel
theorem dX3_settle_61 : decode cX3_settle 61 = .ok (.iload_n 1, 1) := by decide +kernel
theorem dX3_settle_62 : decode cX3_settle 62 = .ok (.invokevirtual 137, 3) := by decide +kernel
theorem dX3_settle_65 : decode cX3_settle 65 = .ok (.aload_n 0, 1) := by decide +kernel
theorem dX3_settle_66 : decode cX3_settle 66 = .ok (.iconst 1, 1) := by decide +kernel
theorem dX3_settle_67 : decode cX3_settle 67 = .ok (.iload 4, 2) := by decide +kernel
theorem dX3_settle_69 : decode cX3_settle 69 = .ok (.invokevirtual 137, 3) := by decide +kernel
theorem dX3_settle_72 : decode cX3_settle 72 = .ok (.aload_n 0, 1) := by decide +kernel
theorem dX3_settle_73 : decode cX3_settle 73 = .ok (.iload_n 1, 1) := by decide +kernel
theorem dX3_settle_74 : decode cX3_settle 74 = .ok (.iload 4, 2) := by decide +kernel
theorem dX3_settle_76 : decode cX3_settle 76 = .ok (.invokevirtual 123, 3) := by decide +kernel
theorem dX3_settle_79 : decode cX3_settle 79 = .ok (.aload_n 0, 1) := by decide +kernel
theorem dX3_settle_80 : decode cX3_settle 80 = .ok (.invokevirtual 58, 3) := by decide +kernel
theorem dX3_settle_83 : decode cX3_settle 83 = .ok (.pop, 1) := by decide +kernel
theorem dX3_settle_84 : decode cX3_settle 84 = .ok (.return_, 1) := by decide +kernel
theorem dX3_findParts_0 : decode cX3_findParts 0 = .ok (.aload_n 0, 1) := by decide +kernel
theorem dX3_findParts_1 : decode cX3_findParts 1 = .ok (.getfield 35, 3) := by decide +kernel
theorem dX3_findParts_4 : decode cX3_findParts 4 = .ok (.iconst 0, 1) := by decide +kernel
theorem dX3_findParts_5 : decode cX3_findParts 5 = .ok (.aaload, 1) := by decide +kernel
theorem dX3_findParts_6 : decode cX3_findParts 6 = .ok (.iconst 0, 1) := by decide +kernel
theorem dX3_findParts_7 : decode cX3_findParts 7 = .ok (.aload_n 0, 1) := by decide +kernel
theorem dX3_findParts_8 : decode cX3_findParts 8 = .ok (.iconst 0, 1) := by decide +kernel
theorem dX3_findParts_9 : decode cX3_findParts 9 = .ok (.aload_n 0, 1) := by decide +kernel
theorem dX3_findParts_10 : decode cX3_findParts 10 = .ok (.iconst 0, 1) := by decide +kernel
theorem dX3_findParts_11 : decode cX3_findParts 11 = .ok (.invokevirtual 112, 3) := by decide +kernel
theorem dX3_findParts_14 : decode cX3_findParts 14 = .ok (.invokevirtual 131, 3) := by decide +kernel
theorem dX3_findParts_17 : decode cX3_findParts 17 = .ok (.lastore, 1) := by decide +kernel
theorem dX3_findParts_18 : decode cX3_findParts 18 = .ok (.aload_n 0, 1) := by decide +kernel
theorem dX3_findParts_19 : decode cX3_findParts 19 = .ok (.getfield 35, 3) := by decide +kernel
theorem dX3_findParts_22 : decode cX3_findParts 22 = .ok (.iconst 1, 1) := by decide +kernel
theorem dX3_findParts_23 : decode cX3_findParts 23 = .ok (.aaload, 1) := by decide +kernel
theorem dX3_findParts_24 : decode cX3_findParts 24 = .ok (.iconst 0, 1) := by decide +kernel
theorem dX3_findParts_25 : decode cX3_findParts 25 = .ok (.aload_n 0, 1) := by decide +kernel
theorem dX3_findParts_26 : decode cX3_findParts 26 = .ok (.getfield 9, 3) := by decide +kernel
theorem dX3_findParts_29 : decode cX3_findParts 29 = .ok (.iconst 0, 1) := by decide +kernel
theorem dX3_findParts_30 : decode cX3_findParts 30 = .ok (.aload_n 0, 1) := by decide +kernel
theorem dX3_findParts_31 : decode cX3_findParts 31 = .ok (.getfield 35, 3) := by decide +kernel
theorem dX3_findParts_34 : decode cX3_findParts 34 = .ok (.iconst 0, 1) := by decide +kernel
theorem dX3_findParts_35 : decode cX3_findParts 35 = .ok (.aaload, 1) := by decide +kernel
theorem dX3_findParts_36 : decode cX3_findParts 36 = .ok (.iconst 0, 1) := by decide +kernel
theorem dX3_findParts_37 : decode cX3_findParts 37 = .ok (.laload, 1) := by decide +kernel
theorem dX3_findParts_38 : decode cX3_findParts 38 = .ok (.invokevirtual 134, 3) := by decide +kernel
theorem dX3_findParts_41 : decode cX3_findParts 41 = .ok (.lastore, 1) := by decide +kernel
theorem dX3_findParts_42 : decode cX3_findParts 42 = .ok (.aload_n 0, 1) := by decide +kernel
theorem dX3_findParts_43 : decode cX3_findParts 43 = .ok (.getfield 35, 3) := by decide +kernel
theorem dX3_findParts_46 : decode cX3_findParts 46 = .ok (.iconst 1, 1) := by decide +kernel
theorem dX3_findParts_47 : decode cX3_findParts 47 = .ok (.aaload, 1) := by decide +kernel
theorem dX3_findParts_48 : decode cX3_findParts 48 = .ok (.iconst 2, 1) := by decide +kernel
theorem dX3_findParts_49 : decode cX3_findParts 49 = .ok (.aload_n 0, 1) := by decide +kernel
theorem dX3_findParts_50 : decode cX3_findParts 50 = .ok (.iconst 1, 1) := by decide +kernel
theorem dX3_findParts_51 : decode cX3_findParts 51 = .ok (.aload_n 0, 1) := by decide +kernel
theorem dX3_findParts_52 : decode cX3_findParts 52 = .ok (.iconst 1, 1) := by decide +kernel
theorem dX3_findParts_53 : decode cX3_findParts 53 = .ok (.invokevirtual 112, 3) := by decide +kernel
theorem dX3_findParts_56 : decode cX3_findParts 56 = .ok (.invokevirtual 131, 3) := by decide +kernel
theorem dX3_findParts_59 : decode cX3_findParts 59 = .ok (.lastore, 1) := by decide +kernel
theorem dX3_findParts_60 : decode cX3_findParts 60 = .ok (.aload_n 0, 1) := by decide +kernel
theorem dX3_findParts_61 : decode cX3_findParts 61 = .ok (.getfield 35, 3) := by decide +kernel
theorem dX3_findParts_64 : decode cX3_findParts 64 = .ok (.iconst 0, 1) := by decide +kernel
theorem dX3_findParts_65 : decode cX3_findParts 65 = .ok (.aaload, 1) := by decide +kernel
theorem dX3_findParts_66 : decode cX3_findParts 66 = .ok (.iconst 2, 1) := by decide +kernel
theorem dX3_findParts_67 : decode cX3_findParts 67 = .ok (.aload_n 0, 1) := by decide +kernel
theorem dX3_findParts_68 : decode cX3_findParts 68 = .ok (.getfield 9, 3) := by decide +kernel
theorem dX3_findParts_71 : decode cX3_findParts 71 = .ok (.iconst 1, 1) := by decide +kernel
theorem dX3_findParts_72 : decode cX3_findParts 72 = .ok (.aload_n 0, 1) := by decide +kernel
theorem dX3_findParts_73 : decode cX3_findParts 73 = .ok (.getfield 35, 3) := by decide +kernel
theorem dX3_findParts_76 : decode cX3_findParts 76 = .ok (.iconst 1, 1) := by decide +kernel
theorem dX3_findParts_77 : decode cX3_findParts 77 = .ok (.aaload, 1) := by decide +kernel
theorem dX3_findParts_78 : decode cX3_findParts 78 = .ok (.iconst 2, 1) := by decide +kernel
theorem dX3_findParts_79 : decode cX3_findParts 79 = .ok (.laload, 1) := by decide +kernel
theorem dX3_findParts_80 : decode cX3_findParts 80 = .ok (.invokevirtual 134, 3) := by decide +kernel
theorem dX3_findParts_83 : decode cX3_findParts 83 = .ok (.lastore, 1) := by decide +kernel
theorem dX3_findParts_84 : decode cX3_findParts 84 = .ok (.iconst 0, 1) := by decide +kernel
theorem dX3_findParts_85 : decode cX3_findParts 85 = .ok (.istore_n 1, 1) := by decide +kernel
theorem dX3_findParts_86 : decode cX3_findParts 86 = .ok (.iload_n 1, 1) := by decide +kernel
theorem dX3_findParts_87 : decode cX3_findParts 87 = .ok (.iconst 1, 1) := by decide +kernel
theorem dX3_findParts_88 : decode cX3_findParts 88 = .ok (.if_icmp .gt 51, 3) := by decide +kernel
theorem dX3_findParts_91 : decode cX3_findParts 91 = .ok (.aload_n 0, 1) := by decide +kernel
theorem dX3_findParts_92 : decode cX3_findParts 92 = .ok (.getfield 35, 3) := by decide +kernel
theorem dX3_findParts_95 : decode cX3_findParts 95 = .ok (.iload_n 1, 1) := by decide +kernel
theorem dX3_findParts_96 : decode cX3_findParts 96 = .ok (.aaload, 1) := by decide +kernel
theorem dX3_findParts_97 : decode cX3_findParts 97 = .ok (.iconst 1, 1) := by decide +kernel
theorem dX3_findParts_98 : decode cX3_findParts 98 = .ok (.aload_n 0, 1) := by decide +kernel
theorem dX3_findParts_99 : decode cX3_findParts 99 = .ok (.getfield 9, 3) := by decide +kernel
theorem dX3_findParts_102 : decode cX3_findParts 102 = .ok (.iload_n 1, 1) := by decide +kernel
theorem dX3_findParts_103 : decode cX3_findParts 103 = .ok (.invokevirtual 84, 3) := by decide +kernel
theorem dX3_findParts_106 : decode cX3_findParts 106 = .ok (.aload_n 0, 1) := by decide +kernel
theorem dX3_findParts_107 : decode cX3_findParts 107 = .ok (.getfield 35, 3) := by decide +kernel
theorem dX3_findParts_110 : decode cX3_findParts 110 = .ok (.iload_n 1, 1) := by decide +kernel
theorem dX3_findParts_111 : decode cX3_findParts 111 = .ok (.aaload, 1) := by decide +kernel
theorem dX3_findParts_112 : decode cX3_findParts 112 = .ok (.iconst 0, 1) := by decide +kernel
theorem dX3_findParts_113 : decode cX3_findParts 113 = .ok (.laload, 1) := by decide +kernel
theorem dX3_findParts_114 : decode cX3_findParts 114 = .ok (.ldc2_w 110, 3) := by decide +kernel
theorem dX3_findParts_117 : decode cX3_findParts 117 = .ok (.lxor, 1) := by decide +kernel
theorem dX3_findParts_118 : decode cX3_findParts 118 = .ok (.land, 1) := by decide +kernel
theorem dX3_findParts_119 : decode cX3_findParts 119 = .ok (.aload_n 0, 1) := by decide +kernel
theorem dX3_findParts_120 : decode cX3_findParts 120 = .ok (.getfield 35, 3) := by decide +kernel
theorem dX3_findParts_123 : decode cX3_findParts 123 = .ok (.iload_n 1, 1) := by decide +kernel
theorem dX3_findParts_124 : decode cX3_findParts 124 = .ok (.aaload, 1) := by decide +kernel
theorem dX3_findParts_125 : decode cX3_findParts 125 = .ok (.iconst 2, 1) := by decide +kernel
theorem dX3_findParts_126 : decode cX3_findParts 126 = .ok (.laload, 1) := by decide +kernel
theorem dX3_findParts_127 : decode cX3_findParts 127 = .ok (.ldc2_w 110, 3) := by decide +kernel
theorem dX3_findParts_130 : decode cX3_findParts 130 = .ok (.lxor, 1) := by decide +kernel
theorem dX3_findParts_131 : decode cX3_findParts 131 = .ok (.land, 1) := by decide +kernel
theorem dX3_findParts_132 : decode cX3_findParts 132 = .ok (.lastore, 1) := by decide +kernel
theorem dX3_findParts_133 : decode cX3_findParts 133 = .ok (.iinc 1 1, 3) := by decide +kernel
theorem dX3_findParts_136 : decode cX3_findParts 136 = .ok (.goto (-50), 3) := by decide +kernel
theorem dX3_findParts_139 : decode cX3_findParts 139 = .ok (.return_, 1) := by decide +kernel
theorem dX4_init_0 : decode cX4_init 0 = .ok (.aload_n 0, 1) := by decide +kernel
theorem dX4_init_1 : decode cX4_init 1 = .ok (.invokespecial 3, 3) := by decide +kernel
theorem dX4_init_4 : decode cX4_init 4 = .ok (.aload_n 0, 1) := by decide +kernel
theorem dX4_init_5 : decode cX4_init 5 = .ok (.aload_n 1, 1) := by decide +kernel
theorem dX4_init_6 : decode cX4_init 6 = .ok (.putfield 9, 3) := by decide +kernel
theorem dX4_init_9 : decode cX4_init 9 = .ok (.aload_n 0, 1) := by decide +kernel
theorem dX4_init_10 : decode cX4_init 10 = .ok (.aload_n 2, 1) := by decide +kernel
theorem dX4_init_11 : decode cX4_init 11 = .ok (.putfield 15, 3) := by decide +kernel
theorem dX4_init_14 : decode cX4_init 14 = .ok (.aload_n 0, 1) := by decide +kernel
theorem dX4_init_15 : decode cX4_init 15 = .ok (.bipush 16, 2) := by decide +kernel
theorem dX4_init_17 : decode cX4_init 17 = .ok (.newarray .long, 2) := by decide +kernel
theorem dX4_init_19 : decode cX4_init 19 = .ok (.putfield 19, 3) := by decide +kernel
theorem dX4_init_22 : decode cX4_init 22 = .ok (.aload_n 0, 1) := by decide +kernel
theorem dX4_init_23 : decode cX4_init 23 = .ok (.bipush 16, 2) := by decide +kernel
theorem dX4_init_25 : decode cX4_init 25 = .ok (.newarray .int, 2) := by decide +kernel
theorem dX4_init_27 : decode cX4_init 27 = .ok (.putfield 23, 3) := by decide +kernel
theorem dX4_init_30 : decode cX4_init 30 = .ok (.aload_n 0, 1) := by decide +kernel
theorem dX4_init_31 : decode cX4_init 31 = .ok (.iconst 1, 1) := by decide +kernel
theorem dX4_init_32 : decode cX4_init 32 = .ok (.newarray .long, 2) := by decide +kernel
theorem dX4_init_34 : decode cX4_init 34 = .ok (.putfield 27, 3) := by decide +kernel
theorem dX4_init_37 : decode cX4_init 37 = .ok (.aload_n 0, 1) := by decide +kernel
theorem dX4_init_38 : decode cX4_init 38 = .ok (.lconst 1, 1) := by decide +kernel
theorem dX4_init_39 : decode cX4_init 39 = .ok (.putfield 30, 3) := by decide +kernel
theorem dX4_init_42 : decode cX4_init 42 = .ok (.aload_n 0, 1) := by decide +kernel
theorem dX4_init_43 : decode cX4_init 43 = .ok (.iconst (-1), 1) := by decide +kernel
theorem dX4_init_44 : decode cX4_init 44 = .ok (.putfield 34, 3) := by decide +kernel
theorem dX4_init_47 : decode cX4_init 47 = .ok (.return_, 1) := by decide +kernel
theorem dX4_refresh_0 : decode cX4_refresh 0 = .ok (.aload_n 0, 1) := by decide +kernel
theorem dX4_refresh_1 : decode cX4_refresh 1 = .ok (.getfield 34, 3) := by decide +kernel
theorem dX4_refresh_4 : decode cX4_refresh 4 = .ok (.aload_n 0, 1) := by decide +kernel
theorem dX4_refresh_5 : decode cX4_refresh 5 = .ok (.getfield 9, 3) := by decide +kernel
theorem dX4_refresh_8 : decode cX4_refresh 8 = .ok (.invokevirtual 38, 3) := by decide +kernel
theorem dX4_refresh_11 : decode cX4_refresh 11 = .ok (.if_icmp .ne 4, 3) := by decide +kernel
theorem dX4_refresh_14 : decode cX4_refresh 14 = .ok (.return_, 1) := by decide +kernel
theorem dX4_refresh_15 : decode cX4_refresh 15 = .ok (.aload_n 0, 1) := by decide +kernel
theorem dX4_refresh_16 : decode cX4_refresh 16 = .ok (.aload_n 0, 1) := by decide +kernel
theorem dX4_refresh_17 : decode cX4_refresh 17 = .ok (.getfield 9, 3) := by decide +kernel
theorem dX4_refresh_20 : decode cX4_refresh 20 = .ok (.invokevirtual 38, 3) := by decide +kernel
theorem dX4_refresh_23 : decode cX4_refresh 23 = .ok (.putfield 34, 3) := by decide +kernel
theorem dX4_refresh_26 : decode cX4_refresh 26 = .ok (.iconst 0, 1) := by decide +kernel
theorem dX4_refresh_27 : decode cX4_refresh 27 = .ok (.istore_n 1, 1) := by decide +kernel
theorem dX4_refresh_28 : decode cX4_refresh 28 = .ok (.iload_n 1, 1) := by decide +kernel
theorem dX4_refresh_29 : decode cX4_refresh 29 = .ok (.aload_n 0, 1) := by decide +kernel
theorem dX4_refresh_30 : decode cX4_refresh 30 = .ok (.invokevirtual 44, 3) := by decide +kernel
theorem dX4_refresh_33 : decode cX4_refresh 33 = .ok (.if_icmp .ge 23, 3) := by decide +kernel
theorem dX4_refresh_36 : decode cX4_refresh 36 = .ok (.aload_n 0, 1) := by decide +kernel
theorem dX4_refresh_37 : decode cX4_refresh 37 = .ok (.getfield 19, 3) := by decide +kernel
theorem dX4_refresh_40 : decode cX4_refresh 40 = .ok (.iload_n 1, 1) := by decide +kernel
theorem dX4_refresh_41 : decode cX4_refresh 41 = .ok (.aload_n 0, 1) := by decide +kernel
theorem dX4_refresh_42 : decode cX4_refresh 42 = .ok (.getfield 15, 3) := by decide +kernel
theorem dX4_refresh_45 : decode cX4_refresh 45 = .ok (.iload_n 1, 1) := by decide +kernel
theorem dX4_refresh_46 : decode cX4_refresh 46 = .ok (.invokevirtual 47, 3) := by decide +kernel
theorem dX4_refresh_49 : decode cX4_refresh 49 = .ok (.lastore, 1) := by decide +kernel
theorem dX4_refresh_50 : decode cX4_refresh 50 = .ok (.iinc 1 1, 3) := by decide +kernel
theorem dX4_refresh_53 : decode cX4_refresh 53 = .ok (.goto (-25), 3) := by decide +kernel
theorem dX4_refresh_56 : decode cX4_refresh 56 = .ok (.aload_n 0, 1) := by decide +kernel
theorem dX4_refresh_57 : decode cX4_refresh 57 = .ok (.lconst 1, 1) := by decide +kernel
theorem dX4_refresh_58 : decode cX4_refresh 58 = .ok (.putfield 30, 3) := by decide +kernel
theorem dX4_refresh_61 : decode cX4_refresh 61 = .ok (.aload_n 0, 1) := by decide +kernel
theorem dX4_refresh_62 : decode cX4_refresh 62 = .ok (.getfield 9, 3) := by decide +kernel
theorem dX4_refresh_65 : decode cX4_refresh 65 = .ok (.iconst 0, 1) := by decide +kernel
theorem dX4_refresh_66 : decode cX4_refresh 66 = .ok (.invokevirtual 53, 3) := by decide +kernel
theorem dX4_refresh_69 : decode cX4_refresh 69 = .ok (.lstore_n 1, 1) := by decide +kernel
theorem dX4_refresh_70 : decode cX4_refresh 70 = .ok (.iconst 0, 1) := by decide +kernel
theorem dX4_refresh_71 : decode cX4_refresh 71 = .ok (.istore_n 3, 1) := by decide +kernel
theorem dX4_refresh_72 : decode cX4_refresh 72 = .ok (.iload_n 3, 1) := by decide +kernel
theorem dX4_refresh_73 : decode cX4_refresh 73 = .ok (.aload_n 0, 1) := by decide +kernel
theorem dX4_refresh_74 : decode cX4_refresh 74 = .ok (.invokevirtual 44, 3) := by decide +kernel
theorem dX4_refresh_77 : decode cX4_refresh 77 = .ok (.if_icmp .ge 48, 3) := by decide +kernel
theorem dX4_refresh_80 : decode cX4_refresh 80 = .ok (.lload_n 1, 1) := by decide +kernel
theorem dX4_refresh_81 : decode cX4_refresh 81 = .ok (.iload_n 3, 1) := by decide +kernel
theorem dX4_refresh_82 : decode cX4_refresh 82 = .ok (.invokestatic 56, 3) := by decide +kernel
theorem dX4_refresh_85 : decode cX4_refresh 85 = .ok (.ifCond .eq 34, 3) := by decide +kernel
theorem dX4_refresh_88 : decode cX4_refresh 88 = .ok (.aload_n 0, 1) := by decide +kernel
theorem dX4_refresh_89 : decode cX4_refresh 89 = .ok (.iload_n 3, 1) := by decide +kernel
theorem dX4_refresh_90 : decode cX4_refresh 90 = .ok (.invokevirtual 60, 3) := by decide +kernel
theorem dX4_refresh_93 : decode cX4_refresh 93 = .ok (.lstore 4, 2) := by decide +kernel
theorem dX4_refresh_95 : decode cX4_refresh 95 = .ok (.lload_n 1, 1) := by decide +kernel
theorem dX4_refresh_96 : decode cX4_refresh 96 = .ok (.lload 4, 2) := by decide +kernel
theorem dX4_refresh_98 : decode cX4_refresh 98 = .ok (.ldc2_w 63, 3) := by decide +kernel
theorem dX4_refresh_101 : decode cX4_refresh 101 = .ok (.lxor, 1) := by decide +kernel
theorem dX4_refresh_102 : decode cX4_refresh 102 = .ok (.land, 1) := by decide +kernel
theorem dX4_refresh_103 : decode cX4_refresh 103 = .ok (.lstore_n 1, 1) := by decide +kernel
theorem dX4_refresh_104 : decode cX4_refresh 104 = .ok (.aload_n 0, 1) := by decide +kernel
theorem dX4_refresh_105 : decode cX4_refresh 105 = .ok (.dup, 1) := by decide +kernel
theorem dX4_refresh_106 : decode cX4_refresh 106 = .ok (.getfield 30, 3) := by decide +kernel
theorem dX4_refresh_109 : decode cX4_refresh 109 = .ok (.aload_n 0, 1) := by decide +kernel
theorem dX4_refresh_110 : decode cX4_refresh 110 = .ok (.lload 4, 2) := by decide +kernel
theorem dX4_refresh_112 : decode cX4_refresh 112 = .ok (.invokevirtual 65, 3) := by decide +kernel
theorem dX4_refresh_115 : decode cX4_refresh 115 = .ok (.lmul, 1) := by decide +kernel
theorem dX4_refresh_116 : decode cX4_refresh 116 = .ok (.putfield 30, 3) := by decide +kernel
theorem dX4_refresh_119 : decode cX4_refresh 119 = .ok (.iinc 3 1, 3) := by decide +kernel
theorem dX4_refresh_122 : decode cX4_refresh 122 = .ok (.goto (-50), 3) := by decide +kernel
theorem dX4_refresh_125 : decode cX4_refresh 125 = .ok (.return_, 1) := by decide +kernel
theorem dX4_total_0 : decode cX4_total 0 = .ok (.aload_n 0, 1) := by decide +kernel
theorem dX4_total_1 : decode cX4_total 1 = .ok (.getfield 30, 3) := by decide +kernel
theorem dX4_total_4 : decode cX4_total 4 = .ok (.lreturn, 1) := by decide +kernel
theorem dX4_lefts_0 : decode cX4_lefts 0 = .ok (.aload_n 0, 1) := by decide +kernel
theorem dX4_lefts_1 : decode cX4_lefts 1 = .ok (.getfield 9, 3) := by decide +kernel
theorem dX4_lefts_4 : decode cX4_lefts 4 = .ok (.iconst 0, 1) := by decide +kernel
theorem dX4_lefts_5 : decode cX4_lefts 5 = .ok (.invokevirtual 69, 3) := by decide +kernel
theorem dX4_lefts_8 : decode cX4_lefts 8 = .ok (.bipush 16, 2) := by decide +kernel
theorem dX4_lefts_10 : decode cX4_lefts 10 = .ok (.invokestatic 73, 3) := by decide +kernel
theorem dX4_lefts_13 : decode cX4_lefts 13 = .ok (.ireturn, 1) := by decide +kernel
theorem dX4_pieceOf_0 : decode cX4_pieceOf 0 = .ok (.lconst 1, 1) := by decide +kernel
theorem dX4_pieceOf_1 : decode cX4_pieceOf 1 = .ok (.iload_n 1, 1) := by decide +kernel
theorem dX4_pieceOf_2 : decode cX4_pieceOf 2 = .ok (.lshl, 1) := by decide +kernel
theorem dX4_pieceOf_3 : decode cX4_pieceOf 3 = .ok (.lstore_n 2, 1) := by decide +kernel
theorem dX4_pieceOf_4 : decode cX4_pieceOf 4 = .ok (.aload_n 0, 1) := by decide +kernel
theorem dX4_pieceOf_5 : decode cX4_pieceOf 5 = .ok (.getfield 19, 3) := by decide +kernel
theorem dX4_pieceOf_8 : decode cX4_pieceOf 8 = .ok (.iload_n 1, 1) := by decide +kernel
theorem dX4_pieceOf_9 : decode cX4_pieceOf 9 = .ok (.laload, 1) := by decide +kernel
theorem dX4_pieceOf_10 : decode cX4_pieceOf 10 = .ok (.lstore 4, 2) := by decide +kernel
theorem dX4_pieceOf_12 : decode cX4_pieceOf 12 = .ok (.iconst 1, 1) := by decide +kernel
theorem dX4_pieceOf_13 : decode cX4_pieceOf 13 = .ok (.istore 6, 2) := by decide +kernel
theorem dX4_pieceOf_15 : decode cX4_pieceOf 15 = .ok (.iload 6, 2) := by decide +kernel
theorem dX4_pieceOf_17 : decode cX4_pieceOf 17 = .ok (.aload_n 0, 1) := by decide +kernel
theorem dX4_pieceOf_18 : decode cX4_pieceOf 18 = .ok (.invokevirtual 44, 3) := by decide +kernel
theorem dX4_pieceOf_21 : decode cX4_pieceOf 21 = .ok (.if_icmp .ge 61, 3) := by decide +kernel
theorem dX4_pieceOf_24 : decode cX4_pieceOf 24 = .ok (.iconst 0, 1) := by decide +kernel
theorem dX4_pieceOf_25 : decode cX4_pieceOf 25 = .ok (.istore 7, 2) := by decide +kernel
theorem dX4_pieceOf_27 : decode cX4_pieceOf 27 = .ok (.iload 7, 2) := by decide +kernel
theorem dX4_pieceOf_29 : decode cX4_pieceOf 29 = .ok (.aload_n 0, 1) := by decide +kernel
theorem dX4_pieceOf_30 : decode cX4_pieceOf 30 = .ok (.invokevirtual 44, 3) := by decide +kernel
theorem dX4_pieceOf_33 : decode cX4_pieceOf 33 = .ok (.if_icmp .ge 43, 3) := by decide +kernel
theorem dX4_pieceOf_36 : decode cX4_pieceOf 36 = .ok (.aload_n 0, 1) := by decide +kernel
theorem dX4_pieceOf_37 : decode cX4_pieceOf 37 = .ok (.getfield 19, 3) := by decide +kernel
theorem dX4_pieceOf_40 : decode cX4_pieceOf 40 = .ok (.iload 7, 2) := by decide +kernel
theorem dX4_pieceOf_42 : decode cX4_pieceOf 42 = .ok (.laload, 1) := by decide +kernel
theorem dX4_pieceOf_43 : decode cX4_pieceOf 43 = .ok (.lload 4, 2) := by decide +kernel
theorem dX4_pieceOf_45 : decode cX4_pieceOf 45 = .ok (.land, 1) := by decide +kernel
theorem dX4_pieceOf_46 : decode cX4_pieceOf 46 = .ok (.lconst 0, 1) := by decide +kernel
theorem dX4_pieceOf_47 : decode cX4_pieceOf 47 = .ok (.lcmp, 1) := by decide +kernel
theorem dX4_pieceOf_48 : decode cX4_pieceOf 48 = .ok (.ifCond .eq 22, 3) := by decide +kernel
theorem dX4_pieceOf_51 : decode cX4_pieceOf 51 = .ok (.lload_n 2, 1) := by decide +kernel
theorem dX4_pieceOf_52 : decode cX4_pieceOf 52 = .ok (.lconst 1, 1) := by decide +kernel
theorem dX4_pieceOf_53 : decode cX4_pieceOf 53 = .ok (.iload 7, 2) := by decide +kernel
theorem dX4_pieceOf_55 : decode cX4_pieceOf 55 = .ok (.lshl, 1) := by decide +kernel
theorem dX4_pieceOf_56 : decode cX4_pieceOf 56 = .ok (.lor, 1) := by decide +kernel
theorem dX4_pieceOf_57 : decode cX4_pieceOf 57 = .ok (.lstore_n 2, 1) := by decide +kernel
theorem dX4_pieceOf_58 : decode cX4_pieceOf 58 = .ok (.lload 4, 2) := by decide +kernel
theorem dX4_pieceOf_60 : decode cX4_pieceOf 60 = .ok (.aload_n 0, 1) := by decide +kernel
theorem dX4_pieceOf_61 : decode cX4_pieceOf 61 = .ok (.getfield 19, 3) := by decide +kernel
theorem dX4_pieceOf_64 : decode cX4_pieceOf 64 = .ok (.iload 7, 2) := by decide +kernel
theorem dX4_pieceOf_66 : decode cX4_pieceOf 66 = .ok (.laload, 1) := by decide +kernel
theorem dX4_pieceOf_67 : decode cX4_pieceOf 67 = .ok (.lor, 1) := by decide +kernel
theorem dX4_pieceOf_68 : decode cX4_pieceOf 68 = .ok (.lstore 4, 2) := by decide +kernel
theorem dX4_pieceOf_70 : decode cX4_pieceOf 70 = .ok (.iinc 7 1, 3) := by decide +kernel
theorem dX4_pieceOf_73 : decode cX4_pieceOf 73 = .ok (.goto (-46), 3) := by decide +kernel
theorem dX4_pieceOf_76 : decode cX4_pieceOf 76 = .ok (.iinc 6 1, 3) := by decide +kernel
theorem dX4_pieceOf_79 : decode cX4_pieceOf 79 = .ok (.goto (-64), 3) := by decide +kernel
theorem dX4_pieceOf_82 : decode cX4_pieceOf 82 = .ok (.lload_n 2, 1) := by decide +kernel
theorem dX4_pieceOf_83 : decode cX4_pieceOf 83 = .ok (.lreturn, 1) := by decide +kernel
theorem dX4_waysToPair_0 : decode cX4_waysToPair 0 = .ok (.lconst 0, 1) := by decide +kernel
theorem dX4_waysToPair_1 : decode cX4_waysToPair 1 = .ok (.lstore_n 3, 1) := by decide +kernel
theorem dX4_waysToPair_2 : decode cX4_waysToPair 2 = .ok (.iconst 0, 1) := by decide +kernel
theorem dX4_waysToPair_3 : decode cX4_waysToPair 3 = .ok (.istore 5, 2) := by decide +kernel
theorem dX4_waysToPair_5 : decode cX4_waysToPair 5 = .ok (.iload 5, 2) := by decide +kernel
theorem dX4_waysToPair_7 : decode cX4_waysToPair 7 = .ok (.aload_n 0, 1) := by decide +kernel
theorem dX4_waysToPair_8 : decode cX4_waysToPair 8 = .ok (.invokevirtual 44, 3) := by decide +kernel
theorem dX4_waysToPair_11 : decode cX4_waysToPair 11 = .ok (.if_icmp .ge 28, 3) := by decide +kernel
theorem dX4_waysToPair_14 : decode cX4_waysToPair 14 = .ok (.lload_n 1, 1) := by decide +kernel
theorem dX4_waysToPair_15 : decode cX4_waysToPair 15 = .ok (.iload 5, 2) := by decide +kernel
theorem dX4_waysToPair_17 : decode cX4_waysToPair 17 = .ok (.invokestatic 56, 3) := by decide +kernel
theorem dX4_waysToPair_20 : decode cX4_waysToPair 20 = .ok (.ifCond .eq 13, 3) := by decide +kernel
theorem dX4_waysToPair_23 : decode cX4_waysToPair 23 = .ok (.lload_n 3, 1) := by decide +kernel
theorem dX4_waysToPair_24 : decode cX4_waysToPair 24 = .ok (.aload_n 0, 1) := by decide +kernel
theorem dX4_waysToPair_25 : decode cX4_waysToPair 25 = .ok (.getfield 19, 3) := by decide +kernel
theorem dX4_waysToPair_28 : decode cX4_waysToPair 28 = .ok (.iload 5, 2) := by decide +kernel
theorem dX4_waysToPair_30 : decode cX4_waysToPair 30 = .ok (.laload, 1) := by decide +kernel
theorem dX4_waysToPair_31 : decode cX4_waysToPair 31 = .ok (.lor, 1) := by decide +kernel
theorem dX4_waysToPair_32 : decode cX4_waysToPair 32 = .ok (.lstore_n 3, 1) := by decide +kernel
theorem dX4_waysToPair_33 : decode cX4_waysToPair 33 = .ok (.iinc 5 1, 3) := by decide +kernel
theorem dX4_waysToPair_36 : decode cX4_waysToPair 36 = .ok (.goto (-31), 3) := by decide +kernel
theorem dX4_waysToPair_39 : decode cX4_waysToPair 39 = .ok (.lload_n 1, 1) := by decide +kernel
theorem dX4_waysToPair_40 : decode cX4_waysToPair 40 = .ok (.invokestatic 79, 3) := by decide +kernel
theorem dX4_waysToPair_43 : decode cX4_waysToPair 43 = .ok (.istore 5, 2) := by decide +kernel
theorem dX4_waysToPair_45 : decode cX4_waysToPair 45 = .ok (.lload_n 3, 1) := by decide +kernel
theorem dX4_waysToPair_46 : decode cX4_waysToPair 46 = .ok (.invokestatic 79, 3) := by decide +kernel
theorem dX4_waysToPair_49 : decode cX4_waysToPair 49 = .ok (.istore 6, 2) := by decide +kernel
theorem dX4_waysToPair_51 : decode cX4_waysToPair 51 = .ok (.iload 5, 2) := by decide +kernel
theorem dX4_waysToPair_53 : decode cX4_waysToPair 53 = .ok (.iload 6, 2) := by decide +kernel
theorem dX4_waysToPair_55 : decode cX4_waysToPair 55 = .ok (.if_icmp .le 7, 3) := by decide +kernel
theorem dX4_waysToPair_58 : decode cX4_waysToPair 58 = .ok (.iconst 1, 1) := by decide +kernel
theorem dX4_waysToPair_59 : decode cX4_waysToPair 59 = .ok (.goto 4, 3) := by decide +kernel
theorem dX4_waysToPair_62 : decode cX4_waysToPair 62 = .ok (.iconst 0, 1) := by decide +kernel
theorem dX4_waysToPair_63 : decode cX4_waysToPair 63 = .ok (.istore 7, 2) := by decide +kernel
theorem dX4_waysToPair_65 : decode cX4_waysToPair 65 = .ok (.aload_n 0, 1) := by decide +kernel
theorem dX4_waysToPair_66 : decode cX4_waysToPair 66 = .ok (.lload_n 1, 1) := by decide +kernel
theorem dX4_waysToPair_67 : decode cX4_waysToPair 67 = .ok (.lload_n 3, 1) := by decide +kernel
theorem dX4_waysToPair_68 : decode cX4_waysToPair 68 = .ok (.iload 7, 2) := by decide +kernel
theorem dX4_waysToPair_70 : decode cX4_waysToPair 70 = .ok (.invokevirtual 85, 3) := by decide +kernel
theorem dX4_waysToPair_73 : decode cX4_waysToPair 73 = .ok (.iload 7, 2) := by decide +kernel
theorem dX4_waysToPair_75 : decode cX4_waysToPair 75 = .ok (.ifCond .eq 14, 3) := by decide +kernel
theorem dX4_waysToPair_78 : decode cX4_waysToPair 78 = .ok (.aload_n 0, 1) := by decide +kernel
theorem dX4_waysToPair_79 : decode cX4_waysToPair 79 = .ok (.iload 6, 2) := by decide +kernel
theorem dX4_waysToPair_81 : decode cX4_waysToPair 81 = .ok (.iload 5, 2) := by decide +kernel
theorem dX4_waysToPair_83 : decode cX4_waysToPair 83 = .ok (.invokevirtual 89, 3) := by decide +kernel
theorem dX4_waysToPair_86 : decode cX4_waysToPair 86 = .ok (.goto 11, 3) := by decide +kernel
theorem dX4_waysToPair_89 : decode cX4_waysToPair 89 = .ok (.aload_n 0, 1) := by decide +kernel
theorem dX4_waysToPair_90 : decode cX4_waysToPair 90 = .ok (.iload 5, 2) := by decide +kernel
theorem dX4_waysToPair_92 : decode cX4_waysToPair 92 = .ok (.iload 6, 2) := by decide +kernel
theorem dX4_waysToPair_94 : decode cX4_waysToPair 94 = .ok (.invokevirtual 89, 3) := by decide +kernel
theorem dX4_waysToPair_97 : decode cX4_waysToPair 97 = .ok (.lreturn, 1) := by decide +kernel
theorem dX4_setChoices_0 : decode cX4_setChoices 0 = .ok (.aload_n 0, 1) := by decide +kernel
theorem dX4_setChoices_1 : decode cX4_setChoices 1 = .ok (.getfield 23, 3) := by decide +kernel
theorem dX4_setChoices_4 : decode cX4_setChoices 4 = .ok (.iconst 0, 1) := by decide +kernel
theorem dX4_setChoices_5 : decode cX4_setChoices 5 = .ok (.invokestatic 93, 3) := by decide +kernel
theorem dX4_setChoices_8 : decode cX4_setChoices 8 = .ok (.iconst 0, 1) := by decide +kernel
theorem dX4_setChoices_9 : decode cX4_setChoices 9 = .ok (.istore 6, 2) := by decide +kernel
theorem dX4_setChoices_11 : decode cX4_setChoices 11 = .ok (.iconst 0, 1) := by decide +kernel
theorem dX4_setChoices_12 : decode cX4_setChoices 12 = .ok (.istore 7, 2) := by decide +kernel
theorem dX4_setChoices_14 : decode cX4_setChoices 14 = .ok (.iload 7, 2) := by decide +kernel
theorem dX4_setChoices_16 : decode cX4_setChoices 16 = .ok (.aload_n 0, 1) := by decide +kernel
theorem dX4_setChoices_17 : decode cX4_setChoices 17 = .ok (.invokevirtual 44, 3) := by decide +kernel
theorem dX4_setChoices_20 : decode cX4_setChoices 20 = .ok (.if_icmp .ge 115, 3) := by decide +kernel
theorem dX4_setChoices_23 : decode cX4_setChoices 23 = .ok (.lload_n 1, 1) := by decide +kernel
theorem dX4_setChoices_24 : decode cX4_setChoices 24 = .ok (.iload 7, 2) := by decide +kernel
theorem dX4_setChoices_26 : decode cX4_setChoices 26 = .ok (.invokestatic 56, 3) := by decide +kernel
theorem dX4_setChoices_29 : decode cX4_setChoices 29 = .ok (.ifCond .ne 6, 3) := by decide +kernel
theorem dX4_setChoices_32 : decode cX4_setChoices 32 = .ok (.goto 97, 3) := by decide +kernel
theorem dX4_setChoices_35 : decode cX4_setChoices 35 = .ok (.iconst 0, 1) := by decide +kernel
theorem dX4_setChoices_36 : decode cX4_setChoices 36 = .ok (.istore 8, 2) := by decide +kernel
theorem dX4_setChoices_38 : decode cX4_setChoices 38 = .ok (.iconst 0, 1) := by decide +kernel
theorem dX4_setChoices_39 : decode cX4_setChoices 39 = .ok (.istore 9, 2) := by decide +kernel
theorem dX4_setChoices_41 : decode cX4_setChoices 41 = .ok (.iload 9, 2) := by decide +kernel
theorem dX4_setChoices_43 : decode cX4_setChoices 43 = .ok (.bipush 16, 2) := by decide +kernel
theorem dX4_setChoices_45 : decode cX4_setChoices 45 = .ok (.if_icmp .ge 81, 3) := by decide +kernel
theorem dX4_setChoices_48 : decode cX4_setChoices 48 = .ok (.lload_n 3, 1) := by decide +kernel
theorem dX4_setChoices_49 : decode cX4_setChoices 49 = .ok (.iload 9, 2) := by decide +kernel
theorem dX4_setChoices_51 : decode cX4_setChoices 51 = .ok (.invokestatic 56, 3) := by decide +kernel
theorem dX4_setChoices_54 : decode cX4_setChoices 54 = .ok (.ifCond .ne 6, 3) := by decide +kernel
theorem dX4_setChoices_57 : decode cX4_setChoices 57 = .ok (.goto 63, 3) := by decide +kernel
theorem dX4_setChoices_60 : decode cX4_setChoices 60 = .ok (.aload_n 0, 1) := by decide +kernel
theorem dX4_setChoices_61 : decode cX4_setChoices 61 = .ok (.getfield 19, 3) := by decide +kernel
theorem dX4_setChoices_64 : decode cX4_setChoices 64 = .ok (.iload 7, 2) := by decide +kernel
theorem dX4_setChoices_66 : decode cX4_setChoices 66 = .ok (.laload, 1) := by decide +kernel
theorem dX4_setChoices_67 : decode cX4_setChoices 67 = .ok (.iload 9, 2) := by decide +kernel
theorem dX4_setChoices_69 : decode cX4_setChoices 69 = .ok (.invokestatic 56, 3) := by decide +kernel
theorem dX4_setChoices_72 : decode cX4_setChoices 72 = .ok (.ifCond .eq 45, 3) := by decide +kernel
theorem dX4_setChoices_75 : decode cX4_setChoices 75 = .ok (.iload 5, 2) := by decide +kernel
theorem dX4_setChoices_77 : decode cX4_setChoices 77 = .ok (.ifCond .eq 8, 3) := by decide +kernel
theorem dX4_setChoices_80 : decode cX4_setChoices 80 = .ok (.iload 8, 2) := by decide +kernel
theorem dX4_setChoices_82 : decode cX4_setChoices 82 = .ok (.goto 5, 3) := by decide +kernel
theorem dX4_setChoices_85 : decode cX4_setChoices 85 = .ok (.iload 6, 2) := by decide +kernel
theorem dX4_setChoices_87 : decode cX4_setChoices 87 = .ok (.istore 10, 2) := by decide +kernel
theorem dX4_setChoices_89 : decode cX4_setChoices 89 = .ok (.iload 5, 2) := by decide +kernel
theorem dX4_setChoices_91 : decode cX4_setChoices 91 = .ok (.ifCond .eq 8, 3) := by decide +kernel
theorem dX4_setChoices_94 : decode cX4_setChoices 94 = .ok (.iload 6, 2) := by decide +kernel
theorem dX4_setChoices_96 : decode cX4_setChoices 96 = .ok (.goto 5, 3) := by decide +kernel
theorem dX4_setChoices_99 : decode cX4_setChoices 99 = .ok (.iload 8, 2) := by decide +kernel
theorem dX4_setChoices_101 : decode cX4_setChoices 101 = .ok (.istore 11, 2) := by decide +kernel
theorem dX4_setChoices_103 : decode cX4_setChoices 103 = .ok (.aload_n 0, 1) := by decide +kernel
theorem dX4_setChoices_104 : decode cX4_setChoices 104 = .ok (.getfield 23, 3) := by decide +kernel
theorem dX4_setChoices_107 : decode cX4_setChoices 107 = .ok (.iload 10, 2) := by decide +kernel
theorem dX4_setChoices_109 : decode cX4_setChoices 109 = .ok (.dup2, 1) := by decide +kernel
theorem dX4_setChoices_110 : decode cX4_setChoices 110 = .ok (.iaload, 1) := by decide +kernel
theorem dX4_setChoices_111 : decode cX4_setChoices 111 = .ok (.iconst 1, 1) := by decide +kernel
theorem dX4_setChoices_112 : decode cX4_setChoices 112 = .ok (.iload 11, 2) := by decide +kernel
theorem dX4_setChoices_114 : decode cX4_setChoices 114 = .ok (.ishl, 1) := by decide +kernel
theorem dX4_setChoices_115 : decode cX4_setChoices 115 = .ok (.ior, 1) := by decide +kernel
theorem dX4_setChoices_116 : decode cX4_setChoices 116 = .ok (.iastore, 1) := by decide +kernel
theorem dX4_setChoices_117 : decode cX4_setChoices 117 = .ok (.iinc 8 1, 3) := by decide +kernel
theorem dX4_setChoices_120 : decode cX4_setChoices 120 = .ok (.iinc 9 1, 3) := by decide +kernel
theorem dX4_setChoices_123 : decode cX4_setChoices 123 = .ok (.goto (-82), 3) := by decide +kernel
theorem dX4_setChoices_126 : decode cX4_setChoices 126 = .ok (.iinc 6 1, 3) := by decide +kernel
theorem dX4_setChoices_129 : decode cX4_setChoices 129 = .ok (.iinc 7 1, 3) := by decide +kernel
theorem dX4_setChoices_132 : decode cX4_setChoices 132 = .ok (.goto (-118), 3) := by decide +kernel
theorem dX4_setChoices_135 : decode cX4_setChoices 135 = .ok (.return_, 1) := by decide +kernel
theorem dX4_waysToChoose_0 : decode cX4_waysToChoose 0 = .ok (.iconst 1, 1) := by decide +kernel
theorem dX4_waysToChoose_1 : decode cX4_waysToChoose 1 = .ok (.iload_n 2, 1) := by decide +kernel
theorem dX4_waysToChoose_2 : decode cX4_waysToChoose 2 = .ok (.bipush 16, 2) := by decide +kernel
theorem dX4_waysToChoose_4 : decode cX4_waysToChoose 4 = .ok (.invokestatic 73, 3) := by decide +kernel
theorem dX4_waysToChoose_7 : decode cX4_waysToChoose 7 = .ok (.ishl, 1) := by decide +kernel
theorem dX4_waysToChoose_8 : decode cX4_waysToChoose 8 = .ok (.istore_n 3, 1) := by decide +kernel
theorem dX4_waysToChoose_9 : decode cX4_waysToChoose 9 = .ok (.aload_n 0, 1) := by decide +kernel
theorem dX4_waysToChoose_10 : decode cX4_waysToChoose 10 = .ok (.getfield 27, 3) := by decide +kernel
theorem dX4_waysToChoose_13 : decode cX4_waysToChoose 13 = .ok (.arraylength, 1) := by decide +kernel
theorem dX4_waysToChoose_14 : decode cX4_waysToChoose 14 = .ok (.iload_n 3, 1) := by decide +kernel
theorem dX4_waysToChoose_15 : decode cX4_waysToChoose 15 = .ok (.if_icmp .ge 10, 3) := by decide +kernel
theorem dX4_waysToChoose_18 : decode cX4_waysToChoose 18 = .ok (.aload_n 0, 1) := by decide +kernel
theorem dX4_waysToChoose_19 : decode cX4_waysToChoose 19 = .ok (.iload_n 3, 1) := by decide +kernel
theorem dX4_waysToChoose_20 : decode cX4_waysToChoose 20 = .ok (.newarray .long, 2) := by decide +kernel
theorem dX4_waysToChoose_22 : decode cX4_waysToChoose 22 = .ok (.putfield 27, 3) := by decide +kernel
theorem dX4_waysToChoose_25 : decode cX4_waysToChoose 25 = .ok (.iconst 1, 1) := by decide +kernel
theorem dX4_waysToChoose_26 : decode cX4_waysToChoose 26 = .ok (.istore 4, 2) := by decide +kernel
theorem dX4_waysToChoose_28 : decode cX4_waysToChoose 28 = .ok (.iload 4, 2) := by decide +kernel
theorem dX4_waysToChoose_30 : decode cX4_waysToChoose 30 = .ok (.iload_n 3, 1) := by decide +kernel
theorem dX4_waysToChoose_31 : decode cX4_waysToChoose 31 = .ok (.if_icmp .ge 17, 3) := by decide +kernel
theorem dX4_waysToChoose_34 : decode cX4_waysToChoose 34 = .ok (.aload_n 0, 1) := by decide +kernel
theorem dX4_waysToChoose_35 : decode cX4_waysToChoose 35 = .ok (.getfield 27, 3) := by decide +kernel
theorem dX4_waysToChoose_38 : decode cX4_waysToChoose 38 = .ok (.iload 4, 2) := by decide +kernel
theorem dX4_waysToChoose_40 : decode cX4_waysToChoose 40 = .ok (.lconst 0, 1) := by decide +kernel
theorem dX4_waysToChoose_41 : decode cX4_waysToChoose 41 = .ok (.lastore, 1) := by decide +kernel
theorem dX4_waysToChoose_42 : decode cX4_waysToChoose 42 = .ok (.iinc 4 1, 3) := by decide +kernel
theorem dX4_waysToChoose_45 : decode cX4_waysToChoose 45 = .ok (.goto (-17), 3) := by decide +kernel
theorem dX4_waysToChoose_48 : decode cX4_waysToChoose 48 = .ok (.aload_n 0, 1) := by decide +kernel
theorem dX4_waysToChoose_49 : decode cX4_waysToChoose 49 = .ok (.getfield 27, 3) := by decide +kernel
theorem dX4_waysToChoose_52 : decode cX4_waysToChoose 52 = .ok (.iconst 0, 1) := by decide +kernel
theorem dX4_waysToChoose_53 : decode cX4_waysToChoose 53 = .ok (.lconst 1, 1) := by decide +kernel
theorem dX4_waysToChoose_54 : decode cX4_waysToChoose 54 = .ok (.lastore, 1) := by decide +kernel
theorem dX4_waysToChoose_55 : decode cX4_waysToChoose 55 = .ok (.lconst 0, 1) := by decide +kernel
theorem dX4_waysToChoose_56 : decode cX4_waysToChoose 56 = .ok (.lstore 4, 2) := by decide +kernel
theorem dX4_waysToChoose_58 : decode cX4_waysToChoose 58 = .ok (.iconst 0, 1) := by decide +kernel
theorem dX4_waysToChoose_59 : decode cX4_waysToChoose 59 = .ok (.istore 6, 2) := by decide +kernel
theorem dX4_waysToChoose_61 : decode cX4_waysToChoose 61 = .ok (.iload 6, 2) := by decide +kernel
theorem dX4_waysToChoose_63 : decode cX4_waysToChoose 63 = .ok (.iload_n 3, 1) := by decide +kernel
theorem dX4_waysToChoose_64 : decode cX4_waysToChoose 64 = .ok (.if_icmp .ge 118, 3) := by decide +kernel
theorem dX4_waysToChoose_67 : decode cX4_waysToChoose 67 = .ok (.iload 6, 2) := by decide +kernel
theorem dX4_waysToChoose_69 : decode cX4_waysToChoose 69 = .ok (.invokestatic 99, 3) := by decide +kernel
theorem dX4_waysToChoose_72 : decode cX4_waysToChoose 72 = .ok (.istore 7, 2) := by decide +kernel
theorem dX4_waysToChoose_74 : decode cX4_waysToChoose 74 = .ok (.aload_n 0, 1) := by decide +kernel
theorem dX4_waysToChoose_75 : decode cX4_waysToChoose 75 = .ok (.getfield 27, 3) := by decide +kernel
theorem dX4_waysToChoose_78 : decode cX4_waysToChoose 78 = .ok (.iload 6, 2) := by decide +kernel
theorem dX4_waysToChoose_80 : decode cX4_waysToChoose 80 = .ok (.laload, 1) := by decide +kernel
theorem dX4_waysToChoose_81 : decode cX4_waysToChoose 81 = .ok (.lconst 0, 1) := by decide +kernel
theorem dX4_waysToChoose_82 : decode cX4_waysToChoose 82 = .ok (.lcmp, 1) := by decide +kernel
theorem dX4_waysToChoose_83 : decode cX4_waysToChoose 83 = .ok (.ifCond .eq 93, 3) := by decide +kernel
theorem dX4_waysToChoose_86 : decode cX4_waysToChoose 86 = .ok (.iload 7, 2) := by decide +kernel
theorem dX4_waysToChoose_88 : decode cX4_waysToChoose 88 = .ok (.iload_n 1, 1) := by decide +kernel
theorem dX4_waysToChoose_89 : decode cX4_waysToChoose 89 = .ok (.if_icmp .le 6, 3) := by decide +kernel
theorem dX4_waysToChoose_92 : decode cX4_waysToChoose 92 = .ok (.goto 84, 3) := by decide +kernel
theorem dX4_waysToChoose_95 : decode cX4_waysToChoose 95 = .ok (.iload 7, 2) := by decide +kernel
theorem dX4_waysToChoose_97 : decode cX4_waysToChoose 97 = .ok (.iload_n 1, 1) := by decide +kernel
theorem dX4_waysToChoose_98 : decode cX4_waysToChoose 98 = .ok (.if_icmp .ne 18, 3) := by decide +kernel
theorem dX4_waysToChoose_101 : decode cX4_waysToChoose 101 = .ok (.lload 4, 2) := by decide +kernel
theorem dX4_waysToChoose_103 : decode cX4_waysToChoose 103 = .ok (.aload_n 0, 1) := by decide +kernel
theorem dX4_waysToChoose_104 : decode cX4_waysToChoose 104 = .ok (.getfield 27, 3) := by decide +kernel
theorem dX4_waysToChoose_107 : decode cX4_waysToChoose 107 = .ok (.iload 6, 2) := by decide +kernel
theorem dX4_waysToChoose_109 : decode cX4_waysToChoose 109 = .ok (.laload, 1) := by decide +kernel
theorem dX4_waysToChoose_110 : decode cX4_waysToChoose 110 = .ok (.ladd, 1) := by decide +kernel
theorem dX4_waysToChoose_111 : decode cX4_waysToChoose 111 = .ok (.lstore 4, 2) := by decide +kernel
theorem dX4_waysToChoose_113 : decode cX4_waysToChoose 113 = .ok (.goto 63, 3) := by decide +kernel
theorem dX4_waysToChoose_116 : decode cX4_waysToChoose 116 = .ok (.aload_n 0, 1) := by decide +kernel
theorem dX4_waysToChoose_117 : decode cX4_waysToChoose 117 = .ok (.getfield 23, 3) := by decide +kernel
theorem dX4_waysToChoose_120 : decode cX4_waysToChoose 120 = .ok (.iload 7, 2) := by decide +kernel
theorem dX4_waysToChoose_122 : decode cX4_waysToChoose 122 = .ok (.iaload, 1) := by decide +kernel
theorem dX4_waysToChoose_123 : decode cX4_waysToChoose 123 = .ok (.iload 6, 2) := by decide +kernel
theorem dX4_waysToChoose_125 : decode cX4_waysToChoose 125 = .ok (.iconst (-1), 1) := by decide +kernel
theorem dX4_waysToChoose_126 : decode cX4_waysToChoose 126 = .ok (.ixor, 1) := by decide +kernel
theorem dX4_waysToChoose_127 : decode cX4_waysToChoose 127 = .ok (.iand, 1) := by decide +kernel
theorem dX4_waysToChoose_128 : decode cX4_waysToChoose 128 = .ok (.istore 8, 2) := by decide +kernel
theorem dX4_waysToChoose_130 : decode cX4_waysToChoose 130 = .ok (.iconst 1, 1) := by decide +kernel
theorem dX4_waysToChoose_131 : decode cX4_waysToChoose 131 = .ok (.istore 9, 2) := by decide +kernel
theorem dX4_waysToChoose_133 : decode cX4_waysToChoose 133 = .ok (.iload 9, 2) := by decide +kernel
theorem dX4_waysToChoose_135 : decode cX4_waysToChoose 135 = .ok (.iload_n 3, 1) := by decide +kernel
theorem dX4_waysToChoose_136 : decode cX4_waysToChoose 136 = .ok (.if_icmp .ge 40, 3) := by decide +kernel
theorem dX4_waysToChoose_139 : decode cX4_waysToChoose 139 = .ok (.iload 8, 2) := by decide +kernel
theorem dX4_waysToChoose_141 : decode cX4_waysToChoose 141 = .ok (.iload 9, 2) := by decide +kernel
theorem dX4_waysToChoose_143 : decode cX4_waysToChoose 143 = .ok (.iand, 1) := by decide +kernel
theorem dX4_waysToChoose_144 : decode cX4_waysToChoose 144 = .ok (.ifCond .eq 23, 3) := by decide +kernel
end
section
theorem dX4_waysToChoose_147 : decode cX4_waysToChoose 147 = .ok (.aload_n 0, 1) := by decide +kernel
theorem dX4_waysToChoose_148 : decode cX4_waysToChoose 148 = .ok (.getfield 27, 3) := by decide +kernel
theorem dX4_waysToChoose_151 : decode cX4_waysToChoose 151 = .ok (.iload 6, 2) := by decide +kernel
theorem dX4_waysToChoose_153 : decode cX4_waysToChoose 153 = .ok (.iload 9, 2) := by decide +kernel
theorem dX4_waysToChoose_155 : decode cX4_waysToChoose 155 = .ok (.ior, 1) := by decide +kernel
theorem dX4_waysToChoose_156 : decode cX4_waysToChoose 156 = .ok (.dup2, 1) := by decide +kernel
theorem dX4_waysToChoose_157 : decode cX4_waysToChoose 157 = .ok (.laload, 1) := by decide +kernel
theorem dX4_waysToChoose_158 : decode cX4_waysToChoose 158 = .ok (.aload_n 0, 1) := by decide +kernel
theorem dX4_waysToChoose_159 : decode cX4_waysToChoose 159 = .ok (.getfield 27, 3) := by decide +kernel
theorem dX4_waysToChoose_162 : decode cX4_waysToChoose 162 = .ok (.iload 6, 2) := by decide +kernel
theorem dX4_waysToChoose_164 : decode cX4_waysToChoose 164 = .ok (.laload, 1) := by decide +kernel
theorem dX4_waysToChoose_165 : decode cX4_waysToChoose 165 = .ok (.ladd, 1) := by decide +kernel
theorem dX4_waysToChoose_166 : decode cX4_waysToChoose 166 = .ok (.lastore, 1) := by decide +kernel
theorem dX4_waysToChoose_167 : decode cX4_waysToChoose 167 = .ok (.iload 9, 2) := by decide +kernel
theorem dX4_waysToChoose_169 : decode cX4_waysToChoose 169 = .ok (.iconst 1, 1) := by decide +kernel
theorem dX4_waysToChoose_170 : decode cX4_waysToChoose 170 = .ok (.ishl, 1) := by decide +kernel
theorem dX4_waysToChoose_171 : decode cX4_waysToChoose 171 = .ok (.istore 9, 2) := by decide +kernel
theorem dX4_waysToChoose_173 : decode cX4_waysToChoose 173 = .ok (.goto (-40), 3) := by decide +kernel
theorem dX4_waysToChoose_176 : decode cX4_waysToChoose 176 = .ok (.iinc 6 1, 3) := by decide +kernel
theorem dX4_waysToChoose_179 : decode cX4_waysToChoose 179 = .ok (.goto (-118), 3) := by decide +kernel
theorem dX4_waysToChoose_182 : decode cX4_waysToChoose 182 = .ok (.lload 4, 2) := by decide +kernel
theorem dX4_waysToChoose_184 : decode cX4_waysToChoose 184 = .ok (.lreturn, 1) := by decide +kernel
theorem dX5_init_0 : decode cX5_init 0 = .ok (.aload_n 0, 1) := by decide +kernel
theorem dX5_init_1 : decode cX5_init 1 = .ok (.invokespecial 1, 3) := by decide +kernel
theorem dX5_init_4 : decode cX5_init 4 = .ok (.aload_n 0, 1) := by decide +kernel
theorem dX5_init_5 : decode cX5_init 5 = .ok (.new 7, 3) := by decide +kernel
theorem dX5_init_8 : decode cX5_init 8 = .ok (.dup, 1) := by decide +kernel
theorem dX5_init_9 : decode cX5_init 9 = .ok (.bipush 50, 2) := by decide +kernel
theorem dX5_init_11 : decode cX5_init 11 = .ok (.invokespecial 11, 3) := by decide +kernel
theorem dX5_init_14 : decode cX5_init 14 = .ok (.putfield 14, 3) := by decide +kernel
theorem dX5_init_17 : decode cX5_init 17 = .ok (.aload_n 0, 1) := by decide +kernel
theorem dX5_init_18 : decode cX5_init 18 = .ok (.new 18, 3) := by decide +kernel
theorem dX5_init_21 : decode cX5_init 21 = .ok (.dup, 1) := by decide +kernel
theorem dX5_init_22 : decode cX5_init 22 = .ok (.aload_n 0, 1) := by decide +kernel
theorem dX5_init_23 : decode cX5_init 23 = .ok (.getfield 14, 3) := by decide +kernel
theorem dX5_init_26 : decode cX5_init 26 = .ok (.invokespecial 20, 3) := by decide +kernel
theorem dX5_init_29 : decode cX5_init 29 = .ok (.putfield 23, 3) := by decide +kernel
theorem dX5_init_32 : decode cX5_init 32 = .ok (.aload_n 0, 1) := by decide +kernel
theorem dX5_init_33 : decode cX5_init 33 = .ok (.new 27, 3) := by decide +kernel
theorem dX5_init_36 : decode cX5_init 36 = .ok (.dup, 1) := by decide +kernel
theorem dX5_init_37 : decode cX5_init 37 = .ok (.aload_n 0, 1) := by decide +kernel
theorem dX5_init_38 : decode cX5_init 38 = .ok (.getfield 14, 3) := by decide +kernel
theorem dX5_init_41 : decode cX5_init 41 = .ok (.aload_n 0, 1) := by decide +kernel
theorem dX5_init_42 : decode cX5_init 42 = .ok (.getfield 23, 3) := by decide +kernel
theorem dX5_init_45 : decode cX5_init 45 = .ok (.invokespecial 29, 3) := by decide +kernel
theorem dX5_init_48 : decode cX5_init 48 = .ok (.putfield 32, 3) := by decide +kernel
theorem dX5_init_51 : decode cX5_init 51 = .ok (.aload_n 0, 1) := by decide +kernel
theorem dX5_init_52 : decode cX5_init 52 = .ok (.new 36, 3) := by decide +kernel
theorem dX5_init_55 : decode cX5_init 55 = .ok (.dup, 1) := by decide +kernel
theorem dX5_init_56 : decode cX5_init 56 = .ok (.aload_n 0, 1) := by decide +kernel
theorem dX5_init_57 : decode cX5_init 57 = .ok (.getfield 14, 3) := by decide +kernel
theorem dX5_init_60 : decode cX5_init 60 = .ok (.aload_n 0, 1) := by decide +kernel
theorem dX5_init_61 : decode cX5_init 61 = .ok (.getfield 32, 3) := by decide +kernel
theorem dX5_init_64 : decode cX5_init 64 = .ok (.invokespecial 38, 3) := by decide +kernel
theorem dX5_init_67 : decode cX5_init 67 = .ok (.putfield 41, 3) := by decide +kernel
theorem dX5_init_70 : decode cX5_init 70 = .ok (.aload_n 0, 1) := by decide +kernel
theorem dX5_init_71 : decode cX5_init 71 = .ok (.new 7, 3) := by decide +kernel
theorem dX5_init_74 : decode cX5_init 74 = .ok (.dup, 1) := by decide +kernel
theorem dX5_init_75 : decode cX5_init 75 = .ok (.bipush 40, 2) := by decide +kernel
theorem dX5_init_77 : decode cX5_init 77 = .ok (.invokespecial 11, 3) := by decide +kernel
theorem dX5_init_80 : decode cX5_init 80 = .ok (.putfield 45, 3) := by decide +kernel
theorem dX5_init_83 : decode cX5_init 83 = .ok (.aload_n 0, 1) := by decide +kernel
theorem dX5_init_84 : decode cX5_init 84 = .ok (.new 18, 3) := by decide +kernel
theorem dX5_init_87 : decode cX5_init 87 = .ok (.dup, 1) := by decide +kernel
theorem dX5_init_88 : decode cX5_init 88 = .ok (.aload_n 0, 1) := by decide +kernel
theorem dX5_init_89 : decode cX5_init 89 = .ok (.getfield 45, 3) := by decide +kernel
theorem dX5_init_92 : decode cX5_init 92 = .ok (.invokespecial 20, 3) := by decide +kernel
theorem dX5_init_95 : decode cX5_init 95 = .ok (.putfield 48, 3) := by decide +kernel
theorem dX5_init_98 : decode cX5_init 98 = .ok (.aload_n 0, 1) := by decide +kernel
theorem dX5_init_99 : decode cX5_init 99 = .ok (.new 51, 3) := by decide +kernel
theorem dX5_init_102 : decode cX5_init 102 = .ok (.dup, 1) := by decide +kernel
theorem dX5_init_103 : decode cX5_init 103 = .ok (.aload_n 0, 1) := by decide +kernel
theorem dX5_init_104 : decode cX5_init 104 = .ok (.getfield 45, 3) := by decide +kernel
theorem dX5_init_107 : decode cX5_init 107 = .ok (.aload_n 0, 1) := by decide +kernel
theorem dX5_init_108 : decode cX5_init 108 = .ok (.getfield 48, 3) := by decide +kernel
theorem dX5_init_111 : decode cX5_init 111 = .ok (.invokespecial 53, 3) := by decide +kernel
theorem dX5_init_114 : decode cX5_init 114 = .ok (.putfield 54, 3) := by decide +kernel
theorem dX5_init_117 : decode cX5_init 117 = .ok (.return_, 1) := by decide +kernel
theorem dX5_node_0 : decode cX5_node 0 = .ok (.aload_n 0, 1) := by decide +kernel
theorem dX5_node_1 : decode cX5_node 1 = .ok (.getfield 14, 3) := by decide +kernel
theorem dX5_node_4 : decode cX5_node 4 = .ok (.iload_n 1, 1) := by decide +kernel
theorem dX5_node_5 : decode cX5_node 5 = .ok (.invokevirtual 58, 3) := by decide +kernel
theorem dX5_node_8 : decode cX5_node 8 = .ok (.ireturn, 1) := by decide +kernel
theorem dX5_edge_0 : decode cX5_edge 0 = .ok (.aload_n 0, 1) := by decide +kernel
theorem dX5_edge_1 : decode cX5_edge 1 = .ok (.getfield 14, 3) := by decide +kernel
theorem dX5_edge_4 : decode cX5_edge 4 = .ok (.iconst 0, 1) := by decide +kernel
theorem dX5_edge_5 : decode cX5_edge 5 = .ok (.iload_n 1, 1) := by decide +kernel
theorem dX5_edge_6 : decode cX5_edge 6 = .ok (.invokevirtual 62, 3) := by decide +kernel
theorem dX5_edge_9 : decode cX5_edge 9 = .ok (.ifCond .eq 15, 3) := by decide +kernel
theorem dX5_edge_12 : decode cX5_edge 12 = .ok (.aload_n 0, 1) := by decide +kernel
theorem dX5_edge_13 : decode cX5_edge 13 = .ok (.getfield 14, 3) := by decide +kernel
theorem dX5_edge_16 : decode cX5_edge 16 = .ok (.iconst 1, 1) := by decide +kernel
theorem dX5_edge_17 : decode cX5_edge 17 = .ok (.iload_n 2, 1) := by decide +kernel
theorem dX5_edge_18 : decode cX5_edge 18 = .ok (.invokevirtual 62, 3) := by decide +kernel
theorem dX5_edge_21 : decode cX5_edge 21 = .ok (.ifCond .ne 5, 3) := by decide +kernel
theorem dX5_edge_24 : decode cX5_edge 24 = .ok (.iconst (-1), 1) := by decide +kernel
theorem dX5_edge_25 : decode cX5_edge 25 = .ok (.ireturn, 1) := by decide +kernel
theorem dX5_edge_26 : decode cX5_edge 26 = .ok (.aload_n 0, 1) := by decide +kernel
theorem dX5_edge_27 : decode cX5_edge 27 = .ok (.getfield 14, 3) := by decide +kernel
theorem dX5_edge_30 : decode cX5_edge 30 = .ok (.iload_n 1, 1) := by decide +kernel
theorem dX5_edge_31 : decode cX5_edge 31 = .ok (.iload_n 2, 1) := by decide +kernel
theorem dX5_edge_32 : decode cX5_edge 32 = .ok (.invokevirtual 66, 3) := by decide +kernel
theorem dX5_edge_35 : decode cX5_edge 35 = .ok (.iload_n 3, 1) := by decide +kernel
theorem dX5_edge_36 : decode cX5_edge 36 = .ok (.if_icmp .ne 5, 3) := by decide +kernel
theorem dX5_edge_39 : decode cX5_edge 39 = .ok (.iconst 0, 1) := by decide +kernel
theorem dX5_edge_40 : decode cX5_edge 40 = .ok (.ireturn, 1) := by decide +kernel
theorem dX5_edge_41 : decode cX5_edge 41 = .ok (.iload_n 3, 1) := by decide +kernel
theorem dX5_edge_42 : decode cX5_edge 42 = .ok (.ifCond .eq 19, 3) := by decide +kernel
theorem dX5_edge_45 : decode cX5_edge 45 = .ok (.aload_n 0, 1) := by decide +kernel
theorem dX5_edge_46 : decode cX5_edge 46 = .ok (.getfield 14, 3) := by decide +kernel
theorem dX5_edge_49 : decode cX5_edge 49 = .ok (.lconst 1, 1) := by decide +kernel
theorem dX5_edge_50 : decode cX5_edge 50 = .ok (.iload_n 1, 1) := by decide +kernel
theorem dX5_edge_51 : decode cX5_edge 51 = .ok (.lshl, 1) := by decide +kernel
theorem dX5_edge_52 : decode cX5_edge 52 = .ok (.lconst 1, 1) := by decide +kernel
theorem dX5_edge_53 : decode cX5_edge 53 = .ok (.iload_n 2, 1) := by decide +kernel
theorem dX5_edge_54 : decode cX5_edge 54 = .ok (.lshl, 1) := by decide +kernel
theorem dX5_edge_55 : decode cX5_edge 55 = .ok (.invokevirtual 69, 3) := by decide +kernel
theorem dX5_edge_58 : decode cX5_edge 58 = .ok (.goto 12, 3) := by decide +kernel
theorem dX5_edge_61 : decode cX5_edge 61 = .ok (.aload_n 0, 1) := by decide +kernel
theorem dX5_edge_62 : decode cX5_edge 62 = .ok (.getfield 14, 3) := by decide +kernel
theorem dX5_edge_65 : decode cX5_edge 65 = .ok (.iload_n 1, 1) := by decide +kernel
theorem dX5_edge_66 : decode cX5_edge 66 = .ok (.iload_n 2, 1) := by decide +kernel
theorem dX5_edge_67 : decode cX5_edge 67 = .ok (.invokevirtual 73, 3) := by decide +kernel
theorem dX5_edge_70 : decode cX5_edge 70 = .ok (.iconst 1, 1) := by decide +kernel
theorem dX5_edge_71 : decode cX5_edge 71 = .ok (.ireturn, 1) := by decide +kernel
theorem dX5_count_0 : decode cX5_count 0 = .ok (.iload_n 1, 1) := by decide +kernel
theorem dX5_count_1 : decode cX5_count 1 = .ok (.tableswitch 145 0 11 #[63, 72, 81, 145, 145, 145, 145, 145, 145, 89, 98, 98], 63) := by decide +kernel
theorem dX5_count_64 : decode cX5_count 64 = .ok (.aload_n 0, 1) := by decide +kernel
theorem dX5_count_65 : decode cX5_count 65 = .ok (.getfield 14, 3) := by decide +kernel
theorem dX5_count_68 : decode cX5_count 68 = .ok (.iconst 0, 1) := by decide +kernel
theorem dX5_count_69 : decode cX5_count 69 = .ok (.invokevirtual 77, 3) := by decide +kernel
theorem dX5_count_72 : decode cX5_count 72 = .ok (.ireturn, 1) := by decide +kernel
theorem dX5_count_73 : decode cX5_count 73 = .ok (.aload_n 0, 1) := by decide +kernel
theorem dX5_count_74 : decode cX5_count 74 = .ok (.getfield 14, 3) := by decide +kernel
theorem dX5_count_77 : decode cX5_count 77 = .ok (.iconst 1, 1) := by decide +kernel
theorem dX5_count_78 : decode cX5_count 78 = .ok (.invokevirtual 77, 3) := by decide +kernel
theorem dX5_count_81 : decode cX5_count 81 = .ok (.ireturn, 1) := by decide +kernel
theorem dX5_count_82 : decode cX5_count 82 = .ok (.aload_n 0, 1) := by decide +kernel
theorem dX5_count_83 : decode cX5_count 83 = .ok (.getfield 14, 3) := by decide +kernel
theorem dX5_count_86 : decode cX5_count 86 = .ok (.invokevirtual 80, 3) := by decide +kernel
theorem dX5_count_89 : decode cX5_count 89 = .ok (.ireturn, 1) := by decide +kernel
theorem dX5_count_90 : decode cX5_count 90 = .ok (.aload_n 0, 1) := by decide +kernel
theorem dX5_count_91 : decode cX5_count 91 = .ok (.getfield 45, 3) := by decide +kernel
theorem dX5_count_94 : decode cX5_count 94 = .ok (.iconst 0, 1) := by decide +kernel
theorem dX5_count_95 : decode cX5_count 95 = .ok (.invokevirtual 77, 3) := by decide +kernel
theorem dX5_count_98 : decode cX5_count 98 = .ok (.ireturn, 1) := by decide +kernel
theorem dX5_count_99 : decode cX5_count 99 = .ok (.aload_n 0, 1) := by decide +kernel
theorem dX5_count_100 : decode cX5_count 100 = .ok (.getfield 48, 3) := by decide +kernel
theorem dX5_count_103 : decode cX5_count 103 = .ok (.invokevirtual 84, 3) := by decide +kernel
theorem dX5_count_106 : decode cX5_count 106 = .ok (.aload_n 0, 1) := by decide +kernel
theorem dX5_count_107 : decode cX5_count 107 = .ok (.getfield 54, 3) := by decide +kernel
theorem dX5_count_110 : decode cX5_count 110 = .ok (.invokevirtual 87, 3) := by decide +kernel
theorem dX5_count_113 : decode cX5_count 113 = .ok (.iload_n 1, 1) := by decide +kernel
theorem dX5_count_114 : decode cX5_count 114 = .ok (.bipush 10, 2) := by decide +kernel
theorem dX5_count_116 : decode cX5_count 116 = .ok (.if_icmp .ne 22, 3) := by decide +kernel
theorem dX5_count_119 : decode cX5_count 119 = .ok (.aload_n 0, 1) := by decide +kernel
theorem dX5_count_120 : decode cX5_count 120 = .ok (.getfield 45, 3) := by decide +kernel
theorem dX5_count_123 : decode cX5_count 123 = .ok (.iconst 0, 1) := by decide +kernel
theorem dX5_count_124 : decode cX5_count 124 = .ok (.invokevirtual 77, 3) := by decide +kernel
theorem dX5_count_127 : decode cX5_count 127 = .ok (.aload_n 0, 1) := by decide +kernel
theorem dX5_count_128 : decode cX5_count 128 = .ok (.getfield 48, 3) := by decide +kernel
theorem dX5_count_131 : decode cX5_count 131 = .ok (.invokevirtual 88, 3) := by decide +kernel
theorem dX5_count_134 : decode cX5_count 134 = .ok (.isub, 1) := by decide +kernel
theorem dX5_count_135 : decode cX5_count 135 = .ok (.goto 10, 3) := by decide +kernel
theorem dX5_count_138 : decode cX5_count 138 = .ok (.aload_n 0, 1) := by decide +kernel
theorem dX5_count_139 : decode cX5_count 139 = .ok (.getfield 54, 3) := by decide +kernel
theorem dX5_count_142 : decode cX5_count 142 = .ok (.invokevirtual 91, 3) := by decide +kernel
theorem dX5_count_145 : decode cX5_count 145 = .ok (.ireturn, 1) := by decide +kernel
theorem dX5_count_146 : decode cX5_count 146 = .ok (.aload_n 0, 1) := by decide +kernel
theorem dX5_count_147 : decode cX5_count 147 = .ok (.getfield 23, 3) := by decide +kernel
theorem dX5_count_150 : decode cX5_count 150 = .ok (.invokevirtual 84, 3) := by decide +kernel
theorem dX5_count_153 : decode cX5_count 153 = .ok (.aload_n 0, 1) := by decide +kernel
theorem dX5_count_154 : decode cX5_count 154 = .ok (.getfield 32, 3) := by decide +kernel
theorem dX5_count_157 : decode cX5_count 157 = .ok (.invokevirtual 94, 3) := by decide +kernel
theorem dX5_count_160 : decode cX5_count 160 = .ok (.aload_n 0, 1) := by decide +kernel
theorem dX5_count_161 : decode cX5_count 161 = .ok (.iload_n 1, 1) := by decide +kernel
theorem dX5_count_162 : decode cX5_count 162 = .ok (.invokevirtual 95, 3) := by decide +kernel
theorem dX5_count_165 : decode cX5_count 165 = .ok (.ireturn, 1) := by decide +kernel
theorem dX5_countFindings_0 : decode cX5_countFindings 0 = .ok (.iload_n 1, 1) := by decide +kernel
theorem dX5_countFindings_1 : decode cX5_countFindings 1 = .ok (.tableswitch 83 3 8 #[39, 47, 64, 64, 64, 75], 39) := by decide +kernel
theorem dX5_countFindings_40 : decode cX5_countFindings 40 = .ok (.aload_n 0, 1) := by decide +kernel
theorem dX5_countFindings_41 : decode cX5_countFindings 41 = .ok (.getfield 23, 3) := by decide +kernel
theorem dX5_countFindings_44 : decode cX5_countFindings 44 = .ok (.invokevirtual 88, 3) := by decide +kernel
theorem dX5_countFindings_47 : decode cX5_countFindings 47 = .ok (.ireturn, 1) := by decide +kernel
theorem dX5_countFindings_48 : decode cX5_countFindings 48 = .ok (.aload_n 0, 1) := by decide +kernel
theorem dX5_countFindings_49 : decode cX5_countFindings 49 = .ok (.getfield 14, 3) := by decide +kernel
theorem dX5_countFindings_52 : decode cX5_countFindings 52 = .ok (.iconst 0, 1) := by decide +kernel
theorem dX5_countFindings_53 : decode cX5_countFindings 53 = .ok (.invokevirtual 77, 3) := by decide +kernel
theorem dX5_countFindings_56 : decode cX5_countFindings 56 = .ok (.aload_n 0, 1) := by decide +kernel
theorem dX5_countFindings_57 : decode cX5_countFindings 57 = .ok (.getfield 23, 3) := by decide +kernel
theorem dX5_countFindings_60 : decode cX5_countFindings 60 = .ok (.invokevirtual 88, 3) := by decide +kernel
theorem dX5_countFindings_63 : decode cX5_countFindings 63 = .ok (.isub, 1) := by decide +kernel
theorem dX5_countFindings_64 : decode cX5_countFindings 64 = .ok (.ireturn, 1) := by decide +kernel
theorem dX5_countFindings_65 : decode cX5_countFindings 65 = .ok (.aload_n 0, 1) := by decide +kernel
theorem dX5_countFindings_66 : decode cX5_countFindings 66 = .ok (.getfield 23, 3) := by decide +kernel
theorem dX5_countFindings_69 : decode cX5_countFindings 69 = .ok (.iload_n 1, 1) := by decide +kernel
theorem dX5_countFindings_70 : decode cX5_countFindings 70 = .ok (.iconst 5, 1) := by decide +kernel
theorem dX5_countFindings_71 : decode cX5_countFindings 71 = .ok (.isub, 1) := by decide +kernel
theorem dX5_countFindings_72 : decode cX5_countFindings 72 = .ok (.invokevirtual 98, 3) := by decide +kernel
theorem dX5_countFindings_75 : decode cX5_countFindings 75 = .ok (.ireturn, 1) := by decide +kernel
theorem dX5_countFindings_76 : decode cX5_countFindings 76 = .ok (.aload_n 0, 1) := by decide +kernel
theorem dX5_countFindings_77 : decode cX5_countFindings 77 = .ok (.getfield 32, 3) := by decide +kernel
theorem dX5_countFindings_80 : decode cX5_countFindings 80 = .ok (.invokevirtual 101, 3) := by decide +kernel
theorem dX5_countFindings_83 : decode cX5_countFindings 83 = .ok (.ireturn, 1) := by decide +kernel
theorem dX5_countFindings_84 : decode cX5_countFindings 84 = .ok (.iconst (-1), 1) := by decide +kernel
theorem dX5_countFindings_85 : decode cX5_countFindings 85 = .ok (.ireturn, 1) := by decide +kernel
theorem dX5_has_0 : decode cX5_has 0 = .ok (.aload_n 0, 1) := by decide +kernel
theorem dX5_has_1 : decode cX5_has 1 = .ok (.getfield 14, 3) := by decide +kernel
theorem dX5_has_4 : decode cX5_has 4 = .ok (.iload_n 1, 1) := by decide +kernel
theorem dX5_has_5 : decode cX5_has 5 = .ok (.iload_n 2, 1) := by decide +kernel
theorem dX5_has_6 : decode cX5_has 6 = .ok (.invokevirtual 66, 3) := by decide +kernel
theorem dX5_has_9 : decode cX5_has 9 = .ok (.ireturn, 1) := by decide +kernel
theorem dX5_partner_0 : decode cX5_partner 0 = .ok (.aload_n 0, 1) := by decide +kernel
theorem dX5_partner_1 : decode cX5_partner 1 = .ok (.getfield 14, 3) := by decide +kernel
theorem dX5_partner_4 : decode cX5_partner 4 = .ok (.iload_n 1, 1) := by decide +kernel
theorem dX5_partner_5 : decode cX5_partner 5 = .ok (.iload_n 2, 1) := by decide +kernel
theorem dX5_partner_6 : decode cX5_partner 6 = .ok (.invokevirtual 62, 3) := by decide +kernel
theorem dX5_partner_9 : decode cX5_partner 9 = .ok (.ifCond .ne 5, 3) := by decide +kernel
theorem dX5_partner_12 : decode cX5_partner 12 = .ok (.iconst (-1), 1) := by decide +kernel
theorem dX5_partner_13 : decode cX5_partner 13 = .ok (.ireturn, 1) := by decide +kernel
theorem dX5_partner_14 : decode cX5_partner 14 = .ok (.aload_n 0, 1) := by decide +kernel
theorem dX5_partner_15 : decode cX5_partner 15 = .ok (.getfield 23, 3) := by decide +kernel
theorem dX5_partner_18 : decode cX5_partner 18 = .ok (.invokevirtual 84, 3) := by decide +kernel
theorem dX5_partner_21 : decode cX5_partner 21 = .ok (.aload_n 0, 1) := by decide +kernel
theorem dX5_partner_22 : decode cX5_partner 22 = .ok (.getfield 23, 3) := by decide +kernel
theorem dX5_partner_25 : decode cX5_partner 25 = .ok (.iload_n 1, 1) := by decide +kernel
theorem dX5_partner_26 : decode cX5_partner 26 = .ok (.iload_n 2, 1) := by decide +kernel
theorem dX5_partner_27 : decode cX5_partner 27 = .ok (.invokevirtual 104, 3) := by decide +kernel
theorem dX5_partner_30 : decode cX5_partner 30 = .ok (.ireturn, 1) := by decide +kernel
theorem dX5_edgeIs_0 : decode cX5_edgeIs 0 = .ok (.aload_n 0, 1) := by decide +kernel
theorem dX5_edgeIs_1 : decode cX5_edgeIs 1 = .ok (.getfield 14, 3) := by decide +kernel
theorem dX5_edgeIs_4 : decode cX5_edgeIs 4 = .ok (.iload_n 1, 1) := by decide +kernel
theorem dX5_edgeIs_5 : decode cX5_edgeIs 5 = .ok (.iload_n 2, 1) := by decide +kernel
theorem dX5_edgeIs_6 : decode cX5_edgeIs 6 = .ok (.invokevirtual 66, 3) := by decide +kernel
theorem dX5_edgeIs_9 : decode cX5_edgeIs 9 = .ok (.ifCond .ne 5, 3) := by decide +kernel
theorem dX5_edgeIs_12 : decode cX5_edgeIs 12 = .ok (.iconst (-1), 1) := by decide +kernel
theorem dX5_edgeIs_13 : decode cX5_edgeIs 13 = .ok (.ireturn, 1) := by decide +kernel
theorem dX5_edgeIs_14 : decode cX5_edgeIs 14 = .ok (.aload_n 0, 1) := by decide +kernel
theorem dX5_edgeIs_15 : decode cX5_edgeIs 15 = .ok (.getfield 23, 3) := by decide +kernel
theorem dX5_edgeIs_18 : decode cX5_edgeIs 18 = .ok (.invokevirtual 84, 3) := by decide +kernel
theorem dX5_edgeIs_21 : decode cX5_edgeIs 21 = .ok (.aload_n 0, 1) := by decide +kernel
theorem dX5_edgeIs_22 : decode cX5_edgeIs 22 = .ok (.getfield 32, 3) := by decide +kernel
theorem dX5_edgeIs_25 : decode cX5_edgeIs 25 = .ok (.invokevirtual 94, 3) := by decide +kernel
theorem dX5_edgeIs_28 : decode cX5_edgeIs 28 = .ok (.aload_n 0, 1) := by decide +kernel
theorem dX5_edgeIs_29 : decode cX5_edgeIs 29 = .ok (.getfield 32, 3) := by decide +kernel
theorem dX5_edgeIs_32 : decode cX5_edgeIs 32 = .ok (.iload_n 1, 1) := by decide +kernel
theorem dX5_edgeIs_33 : decode cX5_edgeIs 33 = .ok (.invokevirtual 108, 3) := by decide +kernel
theorem dX5_edgeIs_36 : decode cX5_edgeIs 36 = .ok (.iload_n 2, 1) := by decide +kernel
theorem dX5_edgeIs_37 : decode cX5_edgeIs 37 = .ok (.invokestatic 112, 3) := by decide +kernel
theorem dX5_edgeIs_40 : decode cX5_edgeIs 40 = .ok (.ifCond .ne 5, 3) := by decide +kernel
theorem dX5_edgeIs_43 : decode cX5_edgeIs 43 = .ok (.iconst 0, 1) := by decide +kernel
theorem dX5_edgeIs_44 : decode cX5_edgeIs 44 = .ok (.ireturn, 1) := by decide +kernel
theorem dX5_edgeIs_45 : decode cX5_edgeIs 45 = .ok (.aload_n 0, 1) := by decide +kernel
theorem dX5_edgeIs_46 : decode cX5_edgeIs 46 = .ok (.getfield 32, 3) := by decide +kernel
theorem dX5_edgeIs_49 : decode cX5_edgeIs 49 = .ok (.iload_n 1, 1) := by decide +kernel
theorem dX5_edgeIs_50 : decode cX5_edgeIs 50 = .ok (.invokevirtual 116, 3) := by decide +kernel
theorem dX5_edgeIs_53 : decode cX5_edgeIs 53 = .ok (.ifCond .eq 7, 3) := by decide +kernel
theorem dX5_edgeIs_56 : decode cX5_edgeIs 56 = .ok (.iconst 2, 1) := by decide +kernel
theorem dX5_edgeIs_57 : decode cX5_edgeIs 57 = .ok (.goto 4, 3) := by decide +kernel
theorem dX5_edgeIs_60 : decode cX5_edgeIs 60 = .ok (.iconst 1, 1) := by decide +kernel
theorem dX5_edgeIs_61 : decode cX5_edgeIs 61 = .ok (.ireturn, 1) := by decide +kernel
theorem dX5_nodeIs_0 : decode cX5_nodeIs 0 = .ok (.aload_n 0, 1) := by decide +kernel
theorem dX5_nodeIs_1 : decode cX5_nodeIs 1 = .ok (.getfield 14, 3) := by decide +kernel
theorem dX5_nodeIs_4 : decode cX5_nodeIs 4 = .ok (.iload_n 1, 1) := by decide +kernel
theorem dX5_nodeIs_5 : decode cX5_nodeIs 5 = .ok (.iload_n 2, 1) := by decide +kernel
theorem dX5_nodeIs_6 : decode cX5_nodeIs 6 = .ok (.invokevirtual 62, 3) := by decide +kernel
theorem dX5_nodeIs_9 : decode cX5_nodeIs 9 = .ok (.ifCond .ne 5, 3) := by decide +kernel
theorem dX5_nodeIs_12 : decode cX5_nodeIs 12 = .ok (.iconst (-1), 1) := by decide +kernel
theorem dX5_nodeIs_13 : decode cX5_nodeIs 13 = .ok (.ireturn, 1) := by decide +kernel
theorem dX5_nodeIs_14 : decode cX5_nodeIs 14 = .ok (.aload_n 0, 1) := by decide +kernel
theorem dX5_nodeIs_15 : decode cX5_nodeIs 15 = .ok (.getfield 23, 3) := by decide +kernel
theorem dX5_nodeIs_18 : decode cX5_nodeIs 18 = .ok (.invokevirtual 84, 3) := by decide +kernel
theorem dX5_nodeIs_21 : decode cX5_nodeIs 21 = .ok (.iload_n 1, 1) := by decide +kernel
theorem dX5_nodeIs_22 : decode cX5_nodeIs 22 = .ok (.ifCond .ne 7, 3) := by decide +kernel
theorem dX5_nodeIs_25 : decode cX5_nodeIs 25 = .ok (.iconst 0, 1) := by decide +kernel
theorem dX5_nodeIs_26 : decode cX5_nodeIs 26 = .ok (.goto 4, 3) := by decide +kernel
theorem dX5_nodeIs_29 : decode cX5_nodeIs 29 = .ok (.iconst 2, 1) := by decide +kernel
theorem dX5_nodeIs_30 : decode cX5_nodeIs 30 = .ok (.istore_n 3, 1) := by decide +kernel
theorem dX5_nodeIs_31 : decode cX5_nodeIs 31 = .ok (.aload_n 0, 1) := by decide +kernel
theorem dX5_nodeIs_32 : decode cX5_nodeIs 32 = .ok (.getfield 23, 3) := by decide +kernel
theorem dX5_nodeIs_35 : decode cX5_nodeIs 35 = .ok (.iload_n 1, 1) := by decide +kernel
theorem dX5_nodeIs_36 : decode cX5_nodeIs 36 = .ok (.iload_n 2, 1) := by decide +kernel
theorem dX5_nodeIs_37 : decode cX5_nodeIs 37 = .ok (.invokevirtual 120, 3) := by decide +kernel
theorem dX5_nodeIs_40 : decode cX5_nodeIs 40 = .ok (.iload_n 3, 1) := by decide +kernel
theorem dX5_nodeIs_41 : decode cX5_nodeIs 41 = .ok (.if_icmp .ne 7, 3) := by decide +kernel
theorem dX5_nodeIs_44 : decode cX5_nodeIs 44 = .ok (.iconst 0, 1) := by decide +kernel
theorem dX5_nodeIs_45 : decode cX5_nodeIs 45 = .ok (.goto 4, 3) := by decide +kernel
theorem dX5_nodeIs_48 : decode cX5_nodeIs 48 = .ok (.iconst 1, 1) := by decide +kernel
theorem dX5_nodeIs_49 : decode cX5_nodeIs 49 = .ok (.ireturn, 1) := by decide +kernel
theorem dX5_cover_0 : decode cX5_cover 0 = .ok (.iload_n 1, 1) := by decide +kernel
theorem dX5_cover_1 : decode cX5_cover 1 = .ok (.invokestatic 123, 3) := by decide +kernel
theorem dX5_cover_4 : decode cX5_cover 4 = .ok (.ifCond .eq 15, 3) := by decide +kernel
theorem dX5_cover_7 : decode cX5_cover 7 = .ok (.aload_n 0, 1) := by decide +kernel
theorem dX5_cover_8 : decode cX5_cover 8 = .ok (.getfield 14, 3) := by decide +kernel
theorem dX5_cover_11 : decode cX5_cover 11 = .ok (.iload_n 2, 1) := by decide +kernel
theorem dX5_cover_12 : decode cX5_cover 12 = .ok (.iload_n 3, 1) := by decide +kernel
theorem dX5_cover_13 : decode cX5_cover 13 = .ok (.invokevirtual 62, 3) := by decide +kernel
theorem dX5_cover_16 : decode cX5_cover 16 = .ok (.ifCond .ne 5, 3) := by decide +kernel
theorem dX5_cover_19 : decode cX5_cover 19 = .ok (.iconst (-1), 1) := by decide +kernel
theorem dX5_cover_20 : decode cX5_cover 20 = .ok (.ireturn, 1) := by decide +kernel
theorem dX5_cover_21 : decode cX5_cover 21 = .ok (.aload_n 0, 1) := by decide +kernel
theorem dX5_cover_22 : decode cX5_cover 22 = .ok (.getfield 23, 3) := by decide +kernel
theorem dX5_cover_25 : decode cX5_cover 25 = .ok (.invokevirtual 84, 3) := by decide +kernel
theorem dX5_cover_28 : decode cX5_cover 28 = .ok (.aload_n 0, 1) := by decide +kernel
theorem dX5_cover_29 : decode cX5_cover 29 = .ok (.getfield 23, 3) := by decide +kernel
theorem dX5_cover_32 : decode cX5_cover 32 = .ok (.iload_n 1, 1) := by decide +kernel
theorem dX5_cover_33 : decode cX5_cover 33 = .ok (.iload_n 2, 1) := by decide +kernel
theorem dX5_cover_34 : decode cX5_cover 34 = .ok (.iload_n 3, 1) := by decide +kernel
theorem dX5_cover_35 : decode cX5_cover 35 = .ok (.invokevirtual 126, 3) := by decide +kernel
theorem dX5_cover_38 : decode cX5_cover 38 = .ok (.ifCond .eq 7, 3) := by decide +kernel
theorem dX5_cover_41 : decode cX5_cover 41 = .ok (.iconst 1, 1) := by decide +kernel
theorem dX5_cover_42 : decode cX5_cover 42 = .ok (.goto 4, 3) := by decide +kernel
theorem dX5_cover_45 : decode cX5_cover 45 = .ok (.iconst 0, 1) := by decide +kernel
theorem dX5_cover_46 : decode cX5_cover 46 = .ok (.ireturn, 1) := by decide +kernel
theorem dX5_hall_0 : decode cX5_hall 0 = .ok (.iload_n 1, 1) := by decide +kernel
theorem dX5_hall_1 : decode cX5_hall 1 = .ok (.invokestatic 123, 3) := by decide +kernel
theorem dX5_hall_4 : decode cX5_hall 4 = .ok (.ifCond .eq 15, 3) := by decide +kernel
theorem dX5_hall_7 : decode cX5_hall 7 = .ok (.aload_n 0, 1) := by decide +kernel
theorem dX5_hall_8 : decode cX5_hall 8 = .ok (.getfield 14, 3) := by decide +kernel
theorem dX5_hall_11 : decode cX5_hall 11 = .ok (.iconst 0, 1) := by decide +kernel
theorem dX5_hall_12 : decode cX5_hall 12 = .ok (.iload_n 2, 1) := by decide +kernel
theorem dX5_hall_13 : decode cX5_hall 13 = .ok (.invokevirtual 62, 3) := by decide +kernel
theorem dX5_hall_16 : decode cX5_hall 16 = .ok (.ifCond .ne 5, 3) := by decide +kernel
theorem dX5_hall_19 : decode cX5_hall 19 = .ok (.iconst (-1), 1) := by decide +kernel
theorem dX5_hall_20 : decode cX5_hall 20 = .ok (.ireturn, 1) := by decide +kernel
theorem dX5_hall_21 : decode cX5_hall 21 = .ok (.aload_n 0, 1) := by decide +kernel
theorem dX5_hall_22 : decode cX5_hall 22 = .ok (.getfield 23, 3) := by decide +kernel
theorem dX5_hall_25 : decode cX5_hall 25 = .ok (.invokevirtual 84, 3) := by decide +kernel
theorem dX5_hall_28 : decode cX5_hall 28 = .ok (.aload_n 0, 1) := by decide +kernel
theorem dX5_hall_29 : decode cX5_hall 29 = .ok (.getfield 23, 3) := by decide +kernel
theorem dX5_hall_32 : decode cX5_hall 32 = .ok (.iconst 0, 1) := by decide +kernel
theorem dX5_hall_33 : decode cX5_hall 33 = .ok (.iload_n 2, 1) := by decide +kernel
theorem dX5_hall_34 : decode cX5_hall 34 = .ok (.invokevirtual 120, 3) := by decide +kernel
theorem dX5_hall_37 : decode cX5_hall 37 = .ok (.iload_n 1, 1) := by decide +kernel
theorem dX5_hall_38 : decode cX5_hall 38 = .ok (.if_icmp .gt 7, 3) := by decide +kernel
theorem dX5_hall_41 : decode cX5_hall 41 = .ok (.iconst 1, 1) := by decide +kernel
theorem dX5_hall_42 : decode cX5_hall 42 = .ok (.goto 4, 3) := by decide +kernel
theorem dX5_hall_45 : decode cX5_hall 45 = .ok (.iconst 0, 1) := by decide +kernel
theorem dX5_hall_46 : decode cX5_hall 46 = .ok (.ireturn, 1) := by decide +kernel
theorem dX5_part_0 : decode cX5_part 0 = .ok (.aload_n 0, 1) := by decide +kernel
theorem dX5_part_1 : decode cX5_part 1 = .ok (.getfield 14, 3) := by decide +kernel
theorem dX5_part_4 : decode cX5_part 4 = .ok (.iload_n 1, 1) := by decide +kernel
theorem dX5_part_5 : decode cX5_part 5 = .ok (.iload_n 2, 1) := by decide +kernel
theorem dX5_part_6 : decode cX5_part 6 = .ok (.invokevirtual 62, 3) := by decide +kernel
theorem dX5_part_9 : decode cX5_part 9 = .ok (.ifCond .ne 5, 3) := by decide +kernel
theorem dX5_part_12 : decode cX5_part 12 = .ok (.iconst (-1), 1) := by decide +kernel
theorem dX5_part_13 : decode cX5_part 13 = .ok (.ireturn, 1) := by decide +kernel
theorem dX5_part_14 : decode cX5_part 14 = .ok (.aload_n 0, 1) := by decide +kernel
theorem dX5_part_15 : decode cX5_part 15 = .ok (.getfield 23, 3) := by decide +kernel
theorem dX5_part_18 : decode cX5_part 18 = .ok (.invokevirtual 84, 3) := by decide +kernel
theorem dX5_part_21 : decode cX5_part 21 = .ok (.aload_n 0, 1) := by decide +kernel
theorem dX5_part_22 : decode cX5_part 22 = .ok (.getfield 23, 3) := by decide +kernel
theorem dX5_part_25 : decode cX5_part 25 = .ok (.iload_n 1, 1) := by decide +kernel
theorem dX5_part_26 : decode cX5_part 26 = .ok (.iload_n 2, 1) := by decide +kernel
theorem dX5_part_27 : decode cX5_part 27 = .ok (.invokevirtual 120, 3) := by decide +kernel
theorem dX5_part_30 : decode cX5_part 30 = .ok (.ireturn, 1) := by decide +kernel
theorem dX5_block_0 : decode cX5_block 0 = .ok (.aload_n 0, 1) := by decide +kernel
theorem dX5_block_1 : decode cX5_block 1 = .ok (.getfield 14, 3) := by decide +kernel
theorem dX5_block_4 : decode cX5_block 4 = .ok (.iload_n 1, 1) := by decide +kernel
theorem dX5_block_5 : decode cX5_block 5 = .ok (.iload_n 2, 1) := by decide +kernel
theorem dX5_block_6 : decode cX5_block 6 = .ok (.invokevirtual 62, 3) := by decide +kernel
theorem dX5_block_9 : decode cX5_block 9 = .ok (.ifCond .ne 5, 3) := by decide +kernel
theorem dX5_block_12 : decode cX5_block 12 = .ok (.iconst (-1), 1) := by decide +kernel
theorem dX5_block_13 : decode cX5_block 13 = .ok (.ireturn, 1) := by decide +kernel
theorem dX5_block_14 : decode cX5_block 14 = .ok (.aload_n 0, 1) := by decide +kernel
theorem dX5_block_15 : decode cX5_block 15 = .ok (.getfield 23, 3) := by decide +kernel
theorem dX5_block_18 : decode cX5_block 18 = .ok (.invokevirtual 84, 3) := by decide +kernel
theorem dX5_block_21 : decode cX5_block 21 = .ok (.aload_n 0, 1) := by decide +kernel
theorem dX5_block_22 : decode cX5_block 22 = .ok (.getfield 32, 3) := by decide +kernel
theorem dX5_block_25 : decode cX5_block 25 = .ok (.invokevirtual 94, 3) := by decide +kernel
theorem dX5_block_28 : decode cX5_block 28 = .ok (.aload_n 0, 1) := by decide +kernel
theorem dX5_block_29 : decode cX5_block 29 = .ok (.getfield 32, 3) := by decide +kernel
theorem dX5_block_32 : decode cX5_block 32 = .ok (.iload_n 1, 1) := by decide +kernel
theorem dX5_block_33 : decode cX5_block 33 = .ok (.iload_n 2, 1) := by decide +kernel
theorem dX5_block_34 : decode cX5_block 34 = .ok (.invokevirtual 130, 3) := by decide +kernel
theorem dX5_block_37 : decode cX5_block 37 = .ok (.ireturn, 1) := by decide +kernel
theorem dX5_leads_0 : decode cX5_leads 0 = .ok (.aload_n 0, 1) := by decide +kernel
theorem dX5_leads_1 : decode cX5_leads 1 = .ok (.getfield 23, 3) := by decide +kernel
theorem dX5_leads_4 : decode cX5_leads 4 = .ok (.invokevirtual 84, 3) := by decide +kernel
theorem dX5_leads_7 : decode cX5_leads 7 = .ok (.aload_n 0, 1) := by decide +kernel
theorem dX5_leads_8 : decode cX5_leads 8 = .ok (.getfield 32, 3) := by decide +kernel
theorem dX5_leads_11 : decode cX5_leads 11 = .ok (.invokevirtual 94, 3) := by decide +kernel
theorem dX5_leads_14 : decode cX5_leads 14 = .ok (.aload_n 0, 1) := by decide +kernel
theorem dX5_leads_15 : decode cX5_leads 15 = .ok (.getfield 32, 3) := by decide +kernel
theorem dX5_leads_18 : decode cX5_leads 18 = .ok (.iload_n 1, 1) := by decide +kernel
theorem dX5_leads_19 : decode cX5_leads 19 = .ok (.invokevirtual 133, 3) := by decide +kernel
theorem dX5_leads_22 : decode cX5_leads 22 = .ok (.ifCond .eq 14, 3) := by decide +kernel
theorem dX5_leads_25 : decode cX5_leads 25 = .ok (.aload_n 0, 1) := by decide +kernel
theorem dX5_leads_26 : decode cX5_leads 26 = .ok (.getfield 32, 3) := by decide +kernel
theorem dX5_leads_29 : decode cX5_leads 29 = .ok (.iload_n 2, 1) := by decide +kernel
theorem dX5_leads_30 : decode cX5_leads 30 = .ok (.invokevirtual 133, 3) := by decide +kernel
theorem dX5_leads_33 : decode cX5_leads 33 = .ok (.ifCond .ne 5, 3) := by decide +kernel
theorem dX5_leads_36 : decode cX5_leads 36 = .ok (.iconst (-1), 1) := by decide +kernel
theorem dX5_leads_37 : decode cX5_leads 37 = .ok (.ireturn, 1) := by decide +kernel
theorem dX5_leads_38 : decode cX5_leads 38 = .ok (.aload_n 0, 1) := by decide +kernel
theorem dX5_leads_39 : decode cX5_leads 39 = .ok (.getfield 32, 3) := by decide +kernel
theorem dX5_leads_42 : decode cX5_leads 42 = .ok (.iload_n 1, 1) := by decide +kernel
theorem dX5_leads_43 : decode cX5_leads 43 = .ok (.iload_n 2, 1) := by decide +kernel
theorem dX5_leads_44 : decode cX5_leads 44 = .ok (.invokevirtual 135, 3) := by decide +kernel
theorem dX5_leads_47 : decode cX5_leads 47 = .ok (.ifCond .eq 7, 3) := by decide +kernel
theorem dX5_leads_50 : decode cX5_leads 50 = .ok (.iconst 1, 1) := by decide +kernel
theorem dX5_leads_51 : decode cX5_leads 51 = .ok (.goto 4, 3) := by decide +kernel
theorem dX5_leads_54 : decode cX5_leads 54 = .ok (.iconst 0, 1) := by decide +kernel
theorem dX5_leads_55 : decode cX5_leads 55 = .ok (.ireturn, 1) := by decide +kernel
theorem dX5_pairings_0 : decode cX5_pairings 0 = .ok (.aload_n 0, 1) := by decide +kernel
theorem dX5_pairings_1 : decode cX5_pairings 1 = .ok (.getfield 14, 3) := by decide +kernel
theorem dX5_pairings_4 : decode cX5_pairings 4 = .ok (.iconst 0, 1) := by decide +kernel
theorem dX5_pairings_5 : decode cX5_pairings 5 = .ok (.invokevirtual 77, 3) := by decide +kernel
theorem dX5_pairings_8 : decode cX5_pairings 8 = .ok (.bipush 16, 2) := by decide +kernel
theorem dX5_pairings_10 : decode cX5_pairings 10 = .ok (.if_icmp .gt 16, 3) := by decide +kernel
theorem dX5_pairings_13 : decode cX5_pairings 13 = .ok (.aload_n 0, 1) := by decide +kernel
theorem dX5_pairings_14 : decode cX5_pairings 14 = .ok (.getfield 14, 3) := by decide +kernel
theorem dX5_pairings_17 : decode cX5_pairings 17 = .ok (.iconst 1, 1) := by decide +kernel
theorem dX5_pairings_18 : decode cX5_pairings 18 = .ok (.invokevirtual 77, 3) := by decide +kernel
theorem dX5_pairings_21 : decode cX5_pairings 21 = .ok (.bipush 16, 2) := by decide +kernel
theorem dX5_pairings_23 : decode cX5_pairings 23 = .ok (.if_icmp .le 7, 3) := by decide +kernel
theorem dX5_pairings_26 : decode cX5_pairings 26 = .ok (.ldc2_w 138, 3) := by decide +kernel
theorem dX5_pairings_29 : decode cX5_pairings 29 = .ok (.lreturn, 1) := by decide +kernel
theorem dX5_pairings_30 : decode cX5_pairings 30 = .ok (.aload_n 0, 1) := by decide +kernel
theorem dX5_pairings_31 : decode cX5_pairings 31 = .ok (.getfield 23, 3) := by decide +kernel
theorem dX5_pairings_34 : decode cX5_pairings 34 = .ok (.invokevirtual 84, 3) := by decide +kernel
theorem dX5_pairings_37 : decode cX5_pairings 37 = .ok (.aload_n 0, 1) := by decide +kernel
theorem dX5_pairings_38 : decode cX5_pairings 38 = .ok (.getfield 32, 3) := by decide +kernel
theorem dX5_pairings_41 : decode cX5_pairings 41 = .ok (.invokevirtual 94, 3) := by decide +kernel
theorem dX5_pairings_44 : decode cX5_pairings 44 = .ok (.aload_n 0, 1) := by decide +kernel
theorem dX5_pairings_45 : decode cX5_pairings 45 = .ok (.getfield 41, 3) := by decide +kernel
theorem dX5_pairings_48 : decode cX5_pairings 48 = .ok (.invokevirtual 140, 3) := by decide +kernel
theorem dX5_pairings_51 : decode cX5_pairings 51 = .ok (.aload_n 0, 1) := by decide +kernel
theorem dX5_pairings_52 : decode cX5_pairings 52 = .ok (.getfield 41, 3) := by decide +kernel
theorem dX5_pairings_55 : decode cX5_pairings 55 = .ok (.invokevirtual 141, 3) := by decide +kernel
theorem dX5_pairings_58 : decode cX5_pairings 58 = .ok (.lreturn, 1) := by decide +kernel
theorem dX5_thing_0 : decode cX5_thing 0 = .ok (.aload_n 0, 1) := by decide +kernel
theorem dX5_thing_1 : decode cX5_thing 1 = .ok (.getfield 45, 3) := by decide +kernel
theorem dX5_thing_4 : decode cX5_thing 4 = .ok (.iconst 0, 1) := by decide +kernel
theorem dX5_thing_5 : decode cX5_thing 5 = .ok (.invokevirtual 58, 3) := by decide +kernel
theorem dX5_thing_8 : decode cX5_thing 8 = .ok (.pop, 1) := by decide +kernel
theorem dX5_thing_9 : decode cX5_thing 9 = .ok (.aload_n 0, 1) := by decide +kernel
theorem dX5_thing_10 : decode cX5_thing 10 = .ok (.getfield 45, 3) := by decide +kernel
theorem dX5_thing_13 : decode cX5_thing 13 = .ok (.iconst 1, 1) := by decide +kernel
theorem dX5_thing_14 : decode cX5_thing 14 = .ok (.invokevirtual 58, 3) := by decide +kernel
theorem dX5_thing_17 : decode cX5_thing 17 = .ok (.ireturn, 1) := by decide +kernel
theorem dX5_tell_0 : decode cX5_tell 0 = .ok (.aload_n 0, 1) := by decide +kernel
theorem dX5_tell_1 : decode cX5_tell 1 = .ok (.getfield 45, 3) := by decide +kernel
theorem dX5_tell_4 : decode cX5_tell 4 = .ok (.iconst 0, 1) := by decide +kernel
theorem dX5_tell_5 : decode cX5_tell 5 = .ok (.iload_n 1, 1) := by decide +kernel
theorem dX5_tell_6 : decode cX5_tell 6 = .ok (.invokevirtual 62, 3) := by decide +kernel
theorem dX5_tell_9 : decode cX5_tell 9 = .ok (.ifCond .eq 15, 3) := by decide +kernel
theorem dX5_tell_12 : decode cX5_tell 12 = .ok (.aload_n 0, 1) := by decide +kernel
theorem dX5_tell_13 : decode cX5_tell 13 = .ok (.getfield 45, 3) := by decide +kernel
theorem dX5_tell_16 : decode cX5_tell 16 = .ok (.iconst 0, 1) := by decide +kernel
theorem dX5_tell_17 : decode cX5_tell 17 = .ok (.iload_n 2, 1) := by decide +kernel
theorem dX5_tell_18 : decode cX5_tell 18 = .ok (.invokevirtual 62, 3) := by decide +kernel
theorem dX5_tell_21 : decode cX5_tell 21 = .ok (.ifCond .ne 5, 3) := by decide +kernel
theorem dX5_tell_24 : decode cX5_tell 24 = .ok (.iconst (-1), 1) := by decide +kernel
theorem dX5_tell_25 : decode cX5_tell 25 = .ok (.ireturn, 1) := by decide +kernel
theorem dX5_tell_26 : decode cX5_tell 26 = .ok (.iload_n 1, 1) := by decide +kernel
theorem dX5_tell_27 : decode cX5_tell 27 = .ok (.iload_n 2, 1) := by decide +kernel
theorem dX5_tell_28 : decode cX5_tell 28 = .ok (.if_icmp .eq 15, 3) := by decide +kernel
theorem dX5_tell_31 : decode cX5_tell 31 = .ok (.aload_n 0, 1) := by decide +kernel
theorem dX5_tell_32 : decode cX5_tell 32 = .ok (.getfield 45, 3) := by decide +kernel
theorem dX5_tell_35 : decode cX5_tell 35 = .ok (.iload_n 2, 1) := by decide +kernel
theorem dX5_tell_36 : decode cX5_tell 36 = .ok (.iload_n 1, 1) := by decide +kernel
theorem dX5_tell_37 : decode cX5_tell 37 = .ok (.invokevirtual 66, 3) := by decide +kernel
theorem dX5_tell_40 : decode cX5_tell 40 = .ok (.ifCond .eq 6, 3) := by decide +kernel
theorem dX5_tell_43 : decode cX5_tell 43 = .ok (.bipush (-3), 2) := by decide +kernel
theorem dX5_tell_45 : decode cX5_tell 45 = .ok (.ireturn, 1) := by decide +kernel
theorem dX5_tell_46 : decode cX5_tell 46 = .ok (.aload_n 0, 1) := by decide +kernel
theorem dX5_tell_47 : decode cX5_tell 47 = .ok (.getfield 45, 3) := by decide +kernel
theorem dX5_tell_50 : decode cX5_tell 50 = .ok (.iload_n 1, 1) := by decide +kernel
theorem dX5_tell_51 : decode cX5_tell 51 = .ok (.iload_n 2, 1) := by decide +kernel
theorem dX5_tell_52 : decode cX5_tell 52 = .ok (.invokevirtual 66, 3) := by decide +kernel
theorem dX5_tell_55 : decode cX5_tell 55 = .ok (.ifCond .eq 5, 3) := by decide +kernel
theorem dX5_tell_58 : decode cX5_tell 58 = .ok (.iconst 0, 1) := by decide +kernel
theorem dX5_tell_59 : decode cX5_tell 59 = .ok (.ireturn, 1) := by decide +kernel
theorem dX5_tell_60 : decode cX5_tell 60 = .ok (.aload_n 0, 1) := by decide +kernel
theorem dX5_tell_61 : decode cX5_tell 61 = .ok (.getfield 45, 3) := by decide +kernel
theorem dX5_tell_64 : decode cX5_tell 64 = .ok (.iconst 1, 1) := by decide +kernel
theorem dX5_tell_65 : decode cX5_tell 65 = .ok (.iload_n 1, 1) := by decide +kernel
theorem dX5_tell_66 : decode cX5_tell 66 = .ok (.invokevirtual 145, 3) := by decide +kernel
theorem dX5_tell_69 : decode cX5_tell 69 = .ok (.lconst 1, 1) := by decide +kernel
theorem dX5_tell_70 : decode cX5_tell 70 = .ok (.iload_n 1, 1) := by decide +kernel
theorem dX5_tell_71 : decode cX5_tell 71 = .ok (.lshl, 1) := by decide +kernel
theorem dX5_tell_72 : decode cX5_tell 72 = .ok (.lor, 1) := by decide +kernel
theorem dX5_tell_73 : decode cX5_tell 73 = .ok (.lstore_n 3, 1) := by decide +kernel
theorem dX5_tell_74 : decode cX5_tell 74 = .ok (.aload_n 0, 1) := by decide +kernel
theorem dX5_tell_75 : decode cX5_tell 75 = .ok (.getfield 45, 3) := by decide +kernel
theorem dX5_tell_78 : decode cX5_tell 78 = .ok (.iconst 0, 1) := by decide +kernel
theorem dX5_tell_79 : decode cX5_tell 79 = .ok (.iload_n 2, 1) := by decide +kernel
theorem dX5_tell_80 : decode cX5_tell 80 = .ok (.invokevirtual 145, 3) := by decide +kernel
theorem dX5_tell_83 : decode cX5_tell 83 = .ok (.lconst 1, 1) := by decide +kernel
theorem dX5_tell_84 : decode cX5_tell 84 = .ok (.iload_n 2, 1) := by decide +kernel
theorem dX5_tell_85 : decode cX5_tell 85 = .ok (.lshl, 1) := by decide +kernel
theorem dX5_tell_86 : decode cX5_tell 86 = .ok (.lor, 1) := by decide +kernel
theorem dX5_tell_87 : decode cX5_tell 87 = .ok (.lstore 5, 2) := by decide +kernel
theorem dX5_tell_89 : decode cX5_tell 89 = .ok (.aload_n 0, 1) := by decide +kernel
theorem dX5_tell_90 : decode cX5_tell 90 = .ok (.getfield 45, 3) := by decide +kernel
theorem dX5_tell_93 : decode cX5_tell 93 = .ok (.lload_n 3, 1) := by decide +kernel
theorem dX5_tell_94 : decode cX5_tell 94 = .ok (.lload 5, 2) := by decide +kernel
theorem dX5_tell_96 : decode cX5_tell 96 = .ok (.invokevirtual 69, 3) := by decide +kernel
theorem dX5_tell_99 : decode cX5_tell 99 = .ok (.iconst 1, 1) := by decide +kernel
theorem dX5_tell_100 : decode cX5_tell 100 = .ok (.ireturn, 1) := by decide +kernel
theorem dX5_below_0 : decode cX5_below 0 = .ok (.aload_n 0, 1) := by decide +kernel
theorem dX5_below_1 : decode cX5_below 1 = .ok (.getfield 45, 3) := by decide +kernel
theorem dX5_below_4 : decode cX5_below 4 = .ok (.iload_n 1, 1) := by decide +kernel
theorem dX5_below_5 : decode cX5_below 5 = .ok (.iload_n 2, 1) := by decide +kernel
theorem dX5_below_6 : decode cX5_below 6 = .ok (.invokevirtual 66, 3) := by decide +kernel
theorem dX5_below_9 : decode cX5_below 9 = .ok (.ireturn, 1) := by decide +kernel
theorem dX5_about_0 : decode cX5_about 0 = .ok (.aload_n 0, 1) := by decide +kernel
theorem dX5_about_1 : decode cX5_about 1 = .ok (.getfield 45, 3) := by decide +kernel
theorem dX5_about_4 : decode cX5_about 4 = .ok (.iconst 0, 1) := by decide +kernel
theorem dX5_about_5 : decode cX5_about 5 = .ok (.iload_n 1, 1) := by decide +kernel
theorem dX5_about_6 : decode cX5_about 6 = .ok (.invokevirtual 62, 3) := by decide +kernel
theorem dX5_about_9 : decode cX5_about 9 = .ok (.ifCond .ne 5, 3) := by decide +kernel
theorem dX5_about_12 : decode cX5_about 12 = .ok (.iconst (-1), 1) := by decide +kernel
theorem dX5_about_13 : decode cX5_about 13 = .ok (.ireturn, 1) := by decide +kernel
theorem dX5_about_14 : decode cX5_about 14 = .ok (.aload_n 0, 1) := by decide +kernel
theorem dX5_about_15 : decode cX5_about 15 = .ok (.getfield 48, 3) := by decide +kernel
theorem dX5_about_18 : decode cX5_about 18 = .ok (.invokevirtual 84, 3) := by decide +kernel
theorem dX5_about_21 : decode cX5_about 21 = .ok (.aload_n 0, 1) := by decide +kernel
theorem dX5_about_22 : decode cX5_about 22 = .ok (.getfield 54, 3) := by decide +kernel
theorem dX5_about_25 : decode cX5_about 25 = .ok (.invokevirtual 87, 3) := by decide +kernel
theorem dX5_about_28 : decode cX5_about 28 = .ok (.iload_n 2, 1) := by decide +kernel
theorem dX5_about_29 : decode cX5_about 29 = .ok (.tableswitch 83 0 4 #[35, 44, 54, 63, 63], 35) := by decide +kernel
theorem dX5_about_64 : decode cX5_about 64 = .ok (.aload_n 0, 1) := by decide +kernel
theorem dX5_about_65 : decode cX5_about 65 = .ok (.getfield 54, 3) := by decide +kernel
theorem dX5_about_68 : decode cX5_about 68 = .ok (.iload_n 1, 1) := by decide +kernel
theorem dX5_about_69 : decode cX5_about 69 = .ok (.invokevirtual 149, 3) := by decide +kernel
theorem dX5_about_72 : decode cX5_about 72 = .ok (.ireturn, 1) := by decide +kernel
theorem dX5_about_73 : decode cX5_about 73 = .ok (.aload_n 0, 1) := by decide +kernel
theorem dX5_about_74 : decode cX5_about 74 = .ok (.getfield 48, 3) := by decide +kernel
theorem dX5_about_77 : decode cX5_about 77 = .ok (.iconst 0, 1) := by decide +kernel
theorem dX5_about_78 : decode cX5_about 78 = .ok (.iload_n 1, 1) := by decide +kernel
theorem dX5_about_79 : decode cX5_about 79 = .ok (.invokevirtual 104, 3) := by decide +kernel
theorem dX5_about_82 : decode cX5_about 82 = .ok (.ireturn, 1) := by decide +kernel
theorem dX5_about_83 : decode cX5_about 83 = .ok (.aload_n 0, 1) := by decide +kernel
theorem dX5_about_84 : decode cX5_about 84 = .ok (.getfield 54, 3) := by decide +kernel
theorem dX5_about_87 : decode cX5_about 87 = .ok (.iload_n 1, 1) := by decide +kernel
theorem dX5_about_88 : decode cX5_about 88 = .ok (.invokevirtual 152, 3) := by decide +kernel
theorem dX5_about_91 : decode cX5_about 91 = .ok (.ireturn, 1) := by decide +kernel
theorem dX5_about_92 : decode cX5_about 92 = .ok (.aload_n 0, 1) := by decide +kernel
theorem dX5_about_93 : decode cX5_about 93 = .ok (.getfield 54, 3) := by decide +kernel
theorem dX5_about_96 : decode cX5_about 96 = .ok (.iload_n 2, 1) := by decide +kernel
theorem dX5_about_97 : decode cX5_about 97 = .ok (.iconst 3, 1) := by decide +kernel
theorem dX5_about_98 : decode cX5_about 98 = .ok (.isub, 1) := by decide +kernel
theorem dX5_about_99 : decode cX5_about 99 = .ok (.iload_n 1, 1) := by decide +kernel
theorem dX5_about_100 : decode cX5_about 100 = .ok (.invokevirtual 155, 3) := by decide +kernel
theorem dX5_about_103 : decode cX5_about 103 = .ok (.ifCond .eq 7, 3) := by decide +kernel
theorem dX5_about_106 : decode cX5_about 106 = .ok (.iconst 1, 1) := by decide +kernel
theorem dX5_about_107 : decode cX5_about 107 = .ok (.goto 4, 3) := by decide +kernel
theorem dX5_about_110 : decode cX5_about 110 = .ok (.iconst 0, 1) := by decide +kernel
theorem dX5_about_111 : decode cX5_about 111 = .ok (.ireturn, 1) := by decide +kernel
theorem dX5_about_112 : decode cX5_about 112 = .ok (.iconst (-1), 1) := by decide +kernel
theorem dX5_about_113 : decode cX5_about 113 = .ok (.ireturn, 1) := by decide +kernel
theorem dX5_clearGraph_0 : decode cX5_clearGraph 0 = .ok (.aload_n 0, 1) := by decide +kernel
theorem dX5_clearGraph_1 : decode cX5_clearGraph 1 = .ok (.getfield 14, 3) := by decide +kernel
theorem dX5_clearGraph_4 : decode cX5_clearGraph 4 = .ok (.iconst 0, 1) := by decide +kernel
theorem dX5_clearGraph_5 : decode cX5_clearGraph 5 = .ok (.invokevirtual 77, 3) := by decide +kernel
theorem dX5_clearGraph_8 : decode cX5_clearGraph 8 = .ok (.aload_n 0, 1) := by decide +kernel
theorem dX5_clearGraph_9 : decode cX5_clearGraph 9 = .ok (.getfield 14, 3) := by decide +kernel
theorem dX5_clearGraph_12 : decode cX5_clearGraph 12 = .ok (.iconst 1, 1) := by decide +kernel
theorem dX5_clearGraph_13 : decode cX5_clearGraph 13 = .ok (.invokevirtual 77, 3) := by decide +kernel
theorem dX5_clearGraph_16 : decode cX5_clearGraph 16 = .ok (.iadd, 1) := by decide +kernel
theorem dX5_clearGraph_17 : decode cX5_clearGraph 17 = .ok (.istore_n 1, 1) := by decide +kernel
theorem dX5_clearGraph_18 : decode cX5_clearGraph 18 = .ok (.aload_n 0, 1) := by decide +kernel
theorem dX5_clearGraph_19 : decode cX5_clearGraph 19 = .ok (.getfield 14, 3) := by decide +kernel
theorem dX5_clearGraph_22 : decode cX5_clearGraph 22 = .ok (.invokevirtual 158, 3) := by decide +kernel
theorem dX5_clearGraph_25 : decode cX5_clearGraph 25 = .ok (.iload_n 1, 1) := by decide +kernel
theorem dX5_clearGraph_26 : decode cX5_clearGraph 26 = .ok (.ireturn, 1) := by decide +kernel
theorem dX5_clearThings_0 : decode cX5_clearThings 0 = .ok (.aload_n 0, 1) := by decide +kernel
theorem dX5_clearThings_1 : decode cX5_clearThings 1 = .ok (.getfield 45, 3) := by decide +kernel
theorem dX5_clearThings_4 : decode cX5_clearThings 4 = .ok (.iconst 0, 1) := by decide +kernel
theorem dX5_clearThings_5 : decode cX5_clearThings 5 = .ok (.invokevirtual 77, 3) := by decide +kernel
theorem dX5_clearThings_8 : decode cX5_clearThings 8 = .ok (.istore_n 1, 1) := by decide +kernel
theorem dX5_clearThings_9 : decode cX5_clearThings 9 = .ok (.aload_n 0, 1) := by decide +kernel
theorem dX5_clearThings_10 : decode cX5_clearThings 10 = .ok (.getfield 45, 3) := by decide +kernel
theorem dX5_clearThings_13 : decode cX5_clearThings 13 = .ok (.invokevirtual 158, 3) := by decide +kernel
theorem dX5_clearThings_16 : decode cX5_clearThings 16 = .ok (.iload_n 1, 1) := by decide +kernel
theorem dX5_clearThings_17 : decode cX5_clearThings 17 = .ok (.ireturn, 1) := by decide +kernel
theorem dX5_isOneOfTwo_0 : decode cX5_isOneOfTwo 0 = .ok (.iload_n 0, 1) := by decide +kernel
theorem dX5_isOneOfTwo_1 : decode cX5_isOneOfTwo 1 = .ok (.ifCond .eq 8, 3) := by decide +kernel
theorem dX5_isOneOfTwo_4 : decode cX5_isOneOfTwo 4 = .ok (.iload_n 0, 1) := by decide +kernel
theorem dX5_isOneOfTwo_5 : decode cX5_isOneOfTwo 5 = .ok (.iconst 1, 1) := by decide +kernel
theorem dX5_isOneOfTwo_6 : decode cX5_isOneOfTwo 6 = .ok (.if_icmp .ne 7, 3) := by decide +kernel
theorem dX5_isOneOfTwo_9 : decode cX5_isOneOfTwo 9 = .ok (.iconst 1, 1) := by decide +kernel
theorem dX5_isOneOfTwo_10 : decode cX5_isOneOfTwo 10 = .ok (.goto 4, 3) := by decide +kernel
theorem dX5_isOneOfTwo_13 : decode cX5_isOneOfTwo 13 = .ok (.iconst 0, 1) := by decide +kernel
theorem dX5_isOneOfTwo_14 : decode cX5_isOneOfTwo 14 = .ok (.ireturn, 1) := by decide +kernel
theorem dX5_contains_0 : decode cX5_contains 0 = .ok (.lload_n 0, 1) := by decide +kernel
theorem dX5_contains_1 : decode cX5_contains 1 = .ok (.iload_n 2, 1) := by decide +kernel
theorem dX5_contains_2 : decode cX5_contains 2 = .ok (.lushr, 1) := by decide +kernel
theorem dX5_contains_3 : decode cX5_contains 3 = .ok (.lconst 1, 1) := by decide +kernel
theorem dX5_contains_4 : decode cX5_contains 4 = .ok (.land, 1) := by decide +kernel
theorem dX5_contains_5 : decode cX5_contains 5 = .ok (.lconst 0, 1) := by decide +kernel
theorem dX5_contains_6 : decode cX5_contains 6 = .ok (.lcmp, 1) := by decide +kernel
theorem dX5_contains_7 : decode cX5_contains 7 = .ok (.ifCond .eq 7, 3) := by decide +kernel
theorem dX5_contains_10 : decode cX5_contains 10 = .ok (.iconst 1, 1) := by decide +kernel
theorem dX5_contains_11 : decode cX5_contains 11 = .ok (.goto 4, 3) := by decide +kernel
theorem dX5_contains_14 : decode cX5_contains 14 = .ok (.iconst 0, 1) := by decide +kernel
theorem dX5_contains_15 : decode cX5_contains 15 = .ok (.ireturn, 1) := by decide +kernel
theorem dX5_lowest_0 : decode cX5_lowest 0 = .ok (.lload_n 0, 1) := by decide +kernel
theorem dX5_lowest_1 : decode cX5_lowest 1 = .ok (.lload_n 0, 1) := by decide +kernel
theorem dX5_lowest_2 : decode cX5_lowest 2 = .ok (.lneg, 1) := by decide +kernel
theorem dX5_lowest_3 : decode cX5_lowest 3 = .ok (.land, 1) := by decide +kernel
theorem dX5_lowest_4 : decode cX5_lowest 4 = .ok (.lconst 1, 1) := by decide +kernel
theorem dX5_lowest_5 : decode cX5_lowest 5 = .ok (.lsub, 1) := by decide +kernel
theorem dX5_lowest_6 : decode cX5_lowest 6 = .ok (.invokestatic 161, 3) := by decide +kernel
theorem dX5_lowest_9 : decode cX5_lowest 9 = .ok (.ireturn, 1) := by decide +kernel
theorem dX6_init_0 : decode cX6_init 0 = .ok (.aload_n 0, 1) := by decide +kernel
theorem dX6_init_1 : decode cX6_init 1 = .ok (.invokespecial 1, 3) := by decide +kernel
theorem dX6_init_4 : decode cX6_init 4 = .ok (.aload_n 0, 1) := by decide +kernel
theorem dX6_init_5 : decode cX6_init 5 = .ok (.sipush 2500, 3) := by decide +kernel
theorem dX6_init_8 : decode cX6_init 8 = .ok (.newarray .boolean, 2) := by decide +kernel
theorem dX6_init_10 : decode cX6_init 10 = .ok (.putfield 7, 3) := by decide +kernel
theorem dX6_init_13 : decode cX6_init 13 = .ok (.aload_n 0, 1) := by decide +kernel
theorem dX6_init_14 : decode cX6_init 14 = .ok (.bipush 50, 2) := by decide +kernel
theorem dX6_init_16 : decode cX6_init 16 = .ok (.newarray .int, 2) := by decide +kernel
theorem dX6_init_18 : decode cX6_init 18 = .ok (.putfield 13, 3) := by decide +kernel
theorem dX6_init_21 : decode cX6_init 21 = .ok (.aload_n 0, 1) := by decide +kernel
theorem dX6_init_22 : decode cX6_init 22 = .ok (.bipush 50, 2) := by decide +kernel
theorem dX6_init_24 : decode cX6_init 24 = .ok (.newarray .int, 2) := by decide +kernel
theorem dX6_init_26 : decode cX6_init 26 = .ok (.putfield 17, 3) := by decide +kernel
theorem dX6_init_29 : decode cX6_init 29 = .ok (.aload_n 0, 1) := by decide +kernel
theorem dX6_init_30 : decode cX6_init 30 = .ok (.bipush 50, 2) := by decide +kernel
theorem dX6_init_32 : decode cX6_init 32 = .ok (.newarray .boolean, 2) := by decide +kernel
theorem dX6_init_34 : decode cX6_init 34 = .ok (.putfield 20, 3) := by decide +kernel
theorem dX6_init_37 : decode cX6_init 37 = .ok (.aload_n 0, 1) := by decide +kernel
theorem dX6_init_38 : decode cX6_init 38 = .ok (.bipush 50, 2) := by decide +kernel
theorem dX6_init_40 : decode cX6_init 40 = .ok (.newarray .boolean, 2) := by decide +kernel
theorem dX6_init_42 : decode cX6_init 42 = .ok (.putfield 23, 3) := by decide +kernel
theorem dX6_init_45 : decode cX6_init 45 = .ok (.aload_n 0, 1) := by decide +kernel
theorem dX6_init_46 : decode cX6_init 46 = .ok (.bipush 50, 2) := by decide +kernel
theorem dX6_init_48 : decode cX6_init 48 = .ok (.newarray .int, 2) := by decide +kernel
theorem dX6_init_50 : decode cX6_init 50 = .ok (.putfield 26, 3) := by decide +kernel
theorem dX6_init_53 : decode cX6_init 53 = .ok (.aload_n 0, 1) := by decide +kernel
theorem dX6_init_54 : decode cX6_init 54 = .ok (.bipush 50, 2) := by decide +kernel
theorem dX6_init_56 : decode cX6_init 56 = .ok (.newarray .int, 2) := by decide +kernel
theorem dX6_init_58 : decode cX6_init 58 = .ok (.putfield 29, 3) := by decide +kernel
theorem dX6_init_61 : decode cX6_init 61 = .ok (.aload_n 0, 1) := by decide +kernel
theorem dX6_init_62 : decode cX6_init 62 = .ok (.bipush 50, 2) := by decide +kernel
theorem dX6_init_64 : decode cX6_init 64 = .ok (.newarray .int, 2) := by decide +kernel
theorem dX6_init_66 : decode cX6_init 66 = .ok (.putfield 32, 3) := by decide +kernel
theorem dX6_init_69 : decode cX6_init 69 = .ok (.aload_n 0, 1) := by decide +kernel
theorem dX6_init_70 : decode cX6_init 70 = .ok (.sipush 2500, 3) := by decide +kernel
theorem dX6_init_73 : decode cX6_init 73 = .ok (.newarray .boolean, 2) := by decide +kernel
theorem dX6_init_75 : decode cX6_init 75 = .ok (.putfield 35, 3) := by decide +kernel
theorem dX6_init_78 : decode cX6_init 78 = .ok (.aload_n 0, 1) := by decide +kernel
theorem dX6_init_79 : decode cX6_init 79 = .ok (.ldc 38, 2) := by decide +kernel
theorem dX6_init_81 : decode cX6_init 81 = .ok (.newarray .long, 2) := by decide +kernel
theorem dX6_init_83 : decode cX6_init 83 = .ok (.putfield 39, 3) := by decide +kernel
theorem dX6_init_86 : decode cX6_init 86 = .ok (.aload_n 0, 1) := by decide +kernel
theorem dX6_init_87 : decode cX6_init 87 = .ok (.sipush 2500, 3) := by decide +kernel
theorem dX6_init_90 : decode cX6_init 90 = .ok (.newarray .boolean, 2) := by decide +kernel
theorem dX6_init_92 : decode cX6_init 92 = .ok (.putfield 43, 3) := by decide +kernel
theorem dX6_init_95 : decode cX6_init 95 = .ok (.aload_n 0, 1) := by decide +kernel
theorem dX6_init_96 : decode cX6_init 96 = .ok (.bipush 40, 2) := by decide +kernel
theorem dX6_init_98 : decode cX6_init 98 = .ok (.newarray .int, 2) := by decide +kernel
theorem dX6_init_100 : decode cX6_init 100 = .ok (.putfield 46, 3) := by decide +kernel
theorem dX6_init_103 : decode cX6_init 103 = .ok (.aload_n 0, 1) := by decide +kernel
theorem dX6_init_104 : decode cX6_init 104 = .ok (.bipush 40, 2) := by decide +kernel
theorem dX6_init_106 : decode cX6_init 106 = .ok (.newarray .int, 2) := by decide +kernel
theorem dX6_init_108 : decode cX6_init 108 = .ok (.putfield 49, 3) := by decide +kernel
theorem dX6_init_111 : decode cX6_init 111 = .ok (.aload_n 0, 1) := by decide +kernel
theorem dX6_init_112 : decode cX6_init 112 = .ok (.bipush 40, 2) := by decide +kernel
theorem dX6_init_114 : decode cX6_init 114 = .ok (.newarray .int, 2) := by decide +kernel
theorem dX6_init_116 : decode cX6_init 116 = .ok (.putfield 52, 3) := by decide +kernel
theorem dX6_init_119 : decode cX6_init 119 = .ok (.aload_n 0, 1) := by decide +kernel
theorem dX6_init_120 : decode cX6_init 120 = .ok (.bipush 40, 2) := by decide +kernel
theorem dX6_init_122 : decode cX6_init 122 = .ok (.newarray .boolean, 2) := by decide +kernel
theorem dX6_init_124 : decode cX6_init 124 = .ok (.putfield 55, 3) := by decide +kernel
theorem dX6_init_127 : decode cX6_init 127 = .ok (.aload_n 0, 1) := by decide +kernel
theorem dX6_init_128 : decode cX6_init 128 = .ok (.bipush 40, 2) := by decide +kernel
theorem dX6_init_130 : decode cX6_init 130 = .ok (.newarray .boolean, 2) := by decide +kernel
theorem dX6_init_132 : decode cX6_init 132 = .ok (.putfield 58, 3) := by decide +kernel
theorem dX6_init_135 : decode cX6_init 135 = .ok (.aload_n 0, 1) := by decide +kernel
theorem dX6_init_136 : decode cX6_init 136 = .ok (.bipush 40, 2) := by decide +kernel
theorem dX6_init_138 : decode cX6_init 138 = .ok (.newarray .boolean, 2) := by decide +kernel
theorem dX6_init_140 : decode cX6_init 140 = .ok (.putfield 61, 3) := by decide +kernel
theorem dX6_init_143 : decode cX6_init 143 = .ok (.aload_n 0, 1) := by decide +kernel
theorem dX6_init_144 : decode cX6_init 144 = .ok (.sipush 2500, 3) := by decide +kernel
theorem dX6_init_147 : decode cX6_init 147 = .ok (.newarray .boolean, 2) := by decide +kernel
theorem dX6_init_149 : decode cX6_init 149 = .ok (.putfield 64, 3) := by decide +kernel
theorem dX6_init_152 : decode cX6_init 152 = .ok (.aload_n 0, 1) := by decide +kernel
theorem dX6_init_153 : decode cX6_init 153 = .ok (.bipush 50, 2) := by decide +kernel
theorem dX6_init_155 : decode cX6_init 155 = .ok (.newarray .boolean, 2) := by decide +kernel
theorem dX6_init_157 : decode cX6_init 157 = .ok (.putfield 67, 3) := by decide +kernel
theorem dX6_init_160 : decode cX6_init 160 = .ok (.aload_n 0, 1) := by decide +kernel
theorem dX6_init_161 : decode cX6_init 161 = .ok (.bipush 50, 2) := by decide +kernel
theorem dX6_init_163 : decode cX6_init 163 = .ok (.newarray .boolean, 2) := by decide +kernel
theorem dX6_init_165 : decode cX6_init 165 = .ok (.putfield 70, 3) := by decide +kernel
theorem dX6_init_168 : decode cX6_init 168 = .ok (.aload_n 0, 1) := by decide +kernel
theorem dX6_init_169 : decode cX6_init 169 = .ok (.bipush 50, 2) := by decide +kernel
theorem dX6_init_171 : decode cX6_init 171 = .ok (.newarray .int, 2) := by decide +kernel
theorem dX6_init_173 : decode cX6_init 173 = .ok (.putfield 73, 3) := by decide +kernel
theorem dX6_init_176 : decode cX6_init 176 = .ok (.aload_n 0, 1) := by decide +kernel
theorem dX6_init_177 : decode cX6_init 177 = .ok (.bipush 50, 2) := by decide +kernel
theorem dX6_init_179 : decode cX6_init 179 = .ok (.newarray .int, 2) := by decide +kernel
theorem dX6_init_181 : decode cX6_init 181 = .ok (.putfield 76, 3) := by decide +kernel
theorem dX6_init_184 : decode cX6_init 184 = .ok (.aload_n 0, 1) := by decide +kernel
theorem dX6_init_185 : decode cX6_init 185 = .ok (.bipush 50, 2) := by decide +kernel
theorem dX6_init_187 : decode cX6_init 187 = .ok (.newarray .int, 2) := by decide +kernel
theorem dX6_init_189 : decode cX6_init 189 = .ok (.putfield 79, 3) := by decide +kernel
theorem dX6_init_192 : decode cX6_init 192 = .ok (.aload_n 0, 1) := by decide +kernel
theorem dX6_init_193 : decode cX6_init 193 = .ok (.bipush 50, 2) := by decide +kernel
theorem dX6_init_195 : decode cX6_init 195 = .ok (.newarray .int, 2) := by decide +kernel
theorem dX6_init_197 : decode cX6_init 197 = .ok (.putfield 82, 3) := by decide +kernel
theorem dX6_init_200 : decode cX6_init 200 = .ok (.aload_n 0, 1) := by decide +kernel
theorem dX6_init_201 : decode cX6_init 201 = .ok (.bipush 50, 2) := by decide +kernel
theorem dX6_init_203 : decode cX6_init 203 = .ok (.newarray .int, 2) := by decide +kernel
theorem dX6_init_205 : decode cX6_init 205 = .ok (.putfield 85, 3) := by decide +kernel
theorem dX6_init_208 : decode cX6_init 208 = .ok (.aload_n 0, 1) := by decide +kernel
theorem dX6_init_209 : decode cX6_init 209 = .ok (.bipush 50, 2) := by decide +kernel
theorem dX6_init_211 : decode cX6_init 211 = .ok (.newarray .int, 2) := by decide +kernel
theorem dX6_init_213 : decode cX6_init 213 = .ok (.putfield 88, 3) := by decide +kernel
theorem dX6_init_216 : decode cX6_init 216 = .ok (.return_, 1) := by decide +kernel
theorem dX6_use_0 : decode cX6_use 0 = .ok (.aload_n 0, 1) := by decide +kernel
theorem dX6_use_1 : decode cX6_use 1 = .ok (.iload_n 2, 1) := by decide +kernel
theorem dX6_use_2 : decode cX6_use 2 = .ok (.putfield 91, 3) := by decide +kernel
theorem dX6_use_5 : decode cX6_use 5 = .ok (.aload_n 0, 1) := by decide +kernel
theorem dX6_use_6 : decode cX6_use 6 = .ok (.iload_n 3, 1) := by decide +kernel
theorem dX6_use_7 : decode cX6_use 7 = .ok (.putfield 95, 3) := by decide +kernel
theorem dX6_use_10 : decode cX6_use 10 = .ok (.iconst 0, 1) := by decide +kernel
theorem dX6_use_11 : decode cX6_use 11 = .ok (.istore 4, 2) := by decide +kernel
theorem dX6_use_13 : decode cX6_use 13 = .ok (.iload 4, 2) := by decide +kernel
theorem dX6_use_15 : decode cX6_use 15 = .ok (.sipush 2500, 3) := by decide +kernel
theorem dX6_use_18 : decode cX6_use 18 = .ok (.if_icmp .ge 20, 3) := by decide +kernel
theorem dX6_use_21 : decode cX6_use 21 = .ok (.aload_n 0, 1) := by decide +kernel
theorem dX6_use_22 : decode cX6_use 22 = .ok (.getfield 64, 3) := by decide +kernel
theorem dX6_use_25 : decode cX6_use 25 = .ok (.iload 4, 2) := by decide +kernel
theorem dX6_use_27 : decode cX6_use 27 = .ok (.aload_n 1, 1) := by decide +kernel
theorem dX6_use_28 : decode cX6_use 28 = .ok (.iload 4, 2) := by decide +kernel
theorem dX6_use_30 : decode cX6_use 30 = .ok (.baload, 1) := by decide +kernel
theorem dX6_use_31 : decode cX6_use 31 = .ok (.bastore, 1) := by decide +kernel
theorem dX6_use_32 : decode cX6_use 32 = .ok (.iinc 4 1, 3) := by decide +kernel
theorem dX6_use_35 : decode cX6_use 35 = .ok (.goto (-22), 3) := by decide +kernel
theorem dX6_use_38 : decode cX6_use 38 = .ok (.iconst 0, 1) := by decide +kernel
theorem dX6_use_39 : decode cX6_use 39 = .ok (.istore 4, 2) := by decide +kernel
theorem dX6_use_41 : decode cX6_use 41 = .ok (.iload 4, 2) := by decide +kernel
theorem dX6_use_43 : decode cX6_use 43 = .ok (.bipush 50, 2) := by decide +kernel
theorem dX6_use_45 : decode cX6_use 45 = .ok (.if_icmp .ge 67, 3) := by decide +kernel
theorem dX6_use_48 : decode cX6_use 48 = .ok (.aload_n 0, 1) := by decide +kernel
theorem dX6_use_49 : decode cX6_use 49 = .ok (.getfield 67, 3) := by decide +kernel
theorem dX6_use_52 : decode cX6_use 52 = .ok (.iload 4, 2) := by decide +kernel
theorem dX6_use_54 : decode cX6_use 54 = .ok (.iload 4, 2) := by decide +kernel
theorem dX6_use_56 : decode cX6_use 56 = .ok (.aload_n 0, 1) := by decide +kernel
theorem dX6_use_57 : decode cX6_use 57 = .ok (.getfield 91, 3) := by decide +kernel
theorem dX6_use_60 : decode cX6_use 60 = .ok (.if_icmp .lt 7, 3) := by decide +kernel
theorem dX6_use_63 : decode cX6_use 63 = .ok (.iconst 1, 1) := by decide +kernel
theorem dX6_use_64 : decode cX6_use 64 = .ok (.goto 4, 3) := by decide +kernel
theorem dX6_use_67 : decode cX6_use 67 = .ok (.iconst 0, 1) := by decide +kernel
theorem dX6_use_68 : decode cX6_use 68 = .ok (.bastore, 1) := by decide +kernel
theorem dX6_use_69 : decode cX6_use 69 = .ok (.aload_n 0, 1) := by decide +kernel
theorem dX6_use_70 : decode cX6_use 70 = .ok (.getfield 70, 3) := by decide +kernel
theorem dX6_use_73 : decode cX6_use 73 = .ok (.iload 4, 2) := by decide +kernel
theorem dX6_use_75 : decode cX6_use 75 = .ok (.iload 4, 2) := by decide +kernel
theorem dX6_use_77 : decode cX6_use 77 = .ok (.aload_n 0, 1) := by decide +kernel
theorem dX6_use_78 : decode cX6_use 78 = .ok (.getfield 95, 3) := by decide +kernel
theorem dX6_use_81 : decode cX6_use 81 = .ok (.if_icmp .lt 7, 3) := by decide +kernel
theorem dX6_use_84 : decode cX6_use 84 = .ok (.iconst 1, 1) := by decide +kernel
theorem dX6_use_85 : decode cX6_use 85 = .ok (.goto 4, 3) := by decide +kernel
theorem dX6_use_88 : decode cX6_use 88 = .ok (.iconst 0, 1) := by decide +kernel
theorem dX6_use_89 : decode cX6_use 89 = .ok (.bastore, 1) := by decide +kernel
theorem dX6_use_90 : decode cX6_use 90 = .ok (.aload_n 0, 1) := by decide +kernel
theorem dX6_use_91 : decode cX6_use 91 = .ok (.getfield 73, 3) := by decide +kernel
theorem dX6_use_94 : decode cX6_use 94 = .ok (.iload 4, 2) := by decide +kernel
theorem dX6_use_96 : decode cX6_use 96 = .ok (.iconst (-1), 1) := by decide +kernel
theorem dX6_use_97 : decode cX6_use 97 = .ok (.iastore, 1) := by decide +kernel
theorem dX6_use_98 : decode cX6_use 98 = .ok (.aload_n 0, 1) := by decide +kernel
theorem dX6_use_99 : decode cX6_use 99 = .ok (.getfield 76, 3) := by decide +kernel
theorem dX6_use_102 : decode cX6_use 102 = .ok (.iload 4, 2) := by decide +kernel
theorem dX6_use_104 : decode cX6_use 104 = .ok (.iconst (-1), 1) := by decide +kernel
theorem dX6_use_105 : decode cX6_use 105 = .ok (.iastore, 1) := by decide +kernel
theorem dX6_use_106 : decode cX6_use 106 = .ok (.iinc 4 1, 3) := by decide +kernel
theorem dX6_use_109 : decode cX6_use 109 = .ok (.goto (-68), 3) := by decide +kernel
theorem dX6_use_112 : decode cX6_use 112 = .ok (.return_, 1) := by decide +kernel
theorem dX6_begin_0 : decode cX6_begin 0 = .ok (.aload_n 0, 1) := by decide +kernel
theorem dX6_begin_1 : decode cX6_begin 1 = .ok (.iconst 0, 1) := by decide +kernel
theorem dX6_begin_2 : decode cX6_begin 2 = .ok (.putfield 98, 3) := by decide +kernel
theorem dX6_begin_5 : decode cX6_begin 5 = .ok (.iconst 0, 1) := by decide +kernel
theorem dX6_begin_6 : decode cX6_begin 6 = .ok (.istore_n 1, 1) := by decide +kernel
theorem dX6_begin_7 : decode cX6_begin 7 = .ok (.iload_n 1, 1) := by decide +kernel
theorem dX6_begin_8 : decode cX6_begin 8 = .ok (.bipush 50, 2) := by decide +kernel
theorem dX6_begin_10 : decode cX6_begin 10 = .ok (.if_icmp .ge 16, 3) := by decide +kernel
theorem dX6_begin_13 : decode cX6_begin 13 = .ok (.aload_n 0, 1) := by decide +kernel
theorem dX6_begin_14 : decode cX6_begin 14 = .ok (.getfield 88, 3) := by decide +kernel
theorem dX6_begin_17 : decode cX6_begin 17 = .ok (.iload_n 1, 1) := by decide +kernel
theorem dX6_begin_18 : decode cX6_begin 18 = .ok (.iconst (-1), 1) := by decide +kernel
theorem dX6_begin_19 : decode cX6_begin 19 = .ok (.iastore, 1) := by decide +kernel
theorem dX6_begin_20 : decode cX6_begin 20 = .ok (.iinc 1 1, 3) := by decide +kernel
theorem dX6_begin_23 : decode cX6_begin 23 = .ok (.goto (-16), 3) := by decide +kernel
theorem dX6_begin_26 : decode cX6_begin 26 = .ok (.iconst 0, 1) := by decide +kernel
theorem dX6_begin_27 : decode cX6_begin 27 = .ok (.istore_n 1, 1) := by decide +kernel
theorem dX6_begin_28 : decode cX6_begin 28 = .ok (.iload_n 1, 1) := by decide +kernel
theorem dX6_begin_29 : decode cX6_begin 29 = .ok (.aload_n 0, 1) := by decide +kernel
theorem dX6_begin_30 : decode cX6_begin 30 = .ok (.getfield 91, 3) := by decide +kernel
theorem dX6_begin_33 : decode cX6_begin 33 = .ok (.if_icmp .ge 47, 3) := by decide +kernel
theorem dX6_begin_36 : decode cX6_begin 36 = .ok (.aload_n 0, 1) := by decide +kernel
theorem dX6_begin_37 : decode cX6_begin 37 = .ok (.getfield 67, 3) := by decide +kernel
theorem dX6_begin_40 : decode cX6_begin 40 = .ok (.iload_n 1, 1) := by decide +kernel
theorem dX6_begin_41 : decode cX6_begin 41 = .ok (.baload, 1) := by decide +kernel
theorem dX6_begin_42 : decode cX6_begin 42 = .ok (.ifCond .ne 32, 3) := by decide +kernel
theorem dX6_begin_45 : decode cX6_begin 45 = .ok (.aload_n 0, 1) := by decide +kernel
theorem dX6_begin_46 : decode cX6_begin 46 = .ok (.getfield 73, 3) := by decide +kernel
theorem dX6_begin_49 : decode cX6_begin 49 = .ok (.iload_n 1, 1) := by decide +kernel
theorem dX6_begin_50 : decode cX6_begin 50 = .ok (.iaload, 1) := by decide +kernel
theorem dX6_begin_51 : decode cX6_begin 51 = .ok (.ifCond .ge 23, 3) := by decide +kernel
theorem dX6_begin_54 : decode cX6_begin 54 = .ok (.aload_n 0, 1) := by decide +kernel
theorem dX6_begin_55 : decode cX6_begin 55 = .ok (.getfield 85, 3) := by decide +kernel
theorem dX6_begin_58 : decode cX6_begin 58 = .ok (.aload_n 0, 1) := by decide +kernel
theorem dX6_begin_59 : decode cX6_begin 59 = .ok (.getfield 98, 3) := by decide +kernel
theorem dX6_begin_62 : decode cX6_begin 62 = .ok (.iload_n 1, 1) := by decide +kernel
theorem dX6_begin_63 : decode cX6_begin 63 = .ok (.iastore, 1) := by decide +kernel
theorem dX6_begin_64 : decode cX6_begin 64 = .ok (.aload_n 0, 1) := by decide +kernel
theorem dX6_begin_65 : decode cX6_begin 65 = .ok (.dup, 1) := by decide +kernel
theorem dX6_begin_66 : decode cX6_begin 66 = .ok (.getfield 98, 3) := by decide +kernel
theorem dX6_begin_69 : decode cX6_begin 69 = .ok (.iconst 1, 1) := by decide +kernel
theorem dX6_begin_70 : decode cX6_begin 70 = .ok (.iadd, 1) := by decide +kernel
theorem dX6_begin_71 : decode cX6_begin 71 = .ok (.putfield 98, 3) := by decide +kernel
theorem dX6_begin_74 : decode cX6_begin 74 = .ok (.iinc 1 1, 3) := by decide +kernel
theorem dX6_begin_77 : decode cX6_begin 77 = .ok (.goto (-49), 3) := by decide +kernel
theorem dX6_begin_80 : decode cX6_begin 80 = .ok (.return_, 1) := by decide +kernel
theorem dX6_flip_0 : decode cX6_flip 0 = .ok (.iload_n 1, 1) := by decide +kernel
theorem dX6_flip_1 : decode cX6_flip 1 = .ok (.istore_n 2, 1) := by decide +kernel
theorem dX6_flip_2 : decode cX6_flip 2 = .ok (.iload_n 2, 1) := by decide +kernel
theorem dX6_flip_3 : decode cX6_flip 3 = .ok (.ifCond .lt 38, 3) := by decide +kernel
theorem dX6_flip_6 : decode cX6_flip 6 = .ok (.aload_n 0, 1) := by decide +kernel
theorem dX6_flip_7 : decode cX6_flip 7 = .ok (.getfield 88, 3) := by decide +kernel
theorem dX6_flip_10 : decode cX6_flip 10 = .ok (.iload_n 2, 1) := by decide +kernel
theorem dX6_flip_11 : decode cX6_flip 11 = .ok (.iaload, 1) := by decide +kernel
theorem dX6_flip_12 : decode cX6_flip 12 = .ok (.istore_n 3, 1) := by decide +kernel
theorem dX6_flip_13 : decode cX6_flip 13 = .ok (.aload_n 0, 1) := by decide +kernel
theorem dX6_flip_14 : decode cX6_flip 14 = .ok (.getfield 73, 3) := by decide +kernel
theorem dX6_flip_17 : decode cX6_flip 17 = .ok (.iload_n 3, 1) := by decide +kernel
theorem dX6_flip_18 : decode cX6_flip 18 = .ok (.iaload, 1) := by decide +kernel
theorem dX6_flip_19 : decode cX6_flip 19 = .ok (.istore 4, 2) := by decide +kernel
theorem dX6_flip_21 : decode cX6_flip 21 = .ok (.aload_n 0, 1) := by decide +kernel
theorem dX6_flip_22 : decode cX6_flip 22 = .ok (.getfield 73, 3) := by decide +kernel
theorem dX6_flip_25 : decode cX6_flip 25 = .ok (.iload_n 3, 1) := by decide +kernel
theorem dX6_flip_26 : decode cX6_flip 26 = .ok (.iload_n 2, 1) := by decide +kernel
theorem dX6_flip_27 : decode cX6_flip 27 = .ok (.iastore, 1) := by decide +kernel
theorem dX6_flip_28 : decode cX6_flip 28 = .ok (.aload_n 0, 1) := by decide +kernel
theorem dX6_flip_29 : decode cX6_flip 29 = .ok (.getfield 76, 3) := by decide +kernel
theorem dX6_flip_32 : decode cX6_flip 32 = .ok (.iload_n 2, 1) := by decide +kernel
theorem dX6_flip_33 : decode cX6_flip 33 = .ok (.iload_n 3, 1) := by decide +kernel
theorem dX6_flip_34 : decode cX6_flip 34 = .ok (.iastore, 1) := by decide +kernel
theorem dX6_flip_35 : decode cX6_flip 35 = .ok (.iload 4, 2) := by decide +kernel
theorem dX6_flip_37 : decode cX6_flip 37 = .ok (.istore_n 2, 1) := by decide +kernel
theorem dX6_flip_38 : decode cX6_flip 38 = .ok (.goto (-36), 3) := by decide +kernel
theorem dX6_flip_41 : decode cX6_flip 41 = .ok (.return_, 1) := by decide +kernel
theorem dX6_grow_0 : decode cX6_grow 0 = .ok (.aload_n 0, 1) := by decide +kernel
theorem dX6_grow_1 : decode cX6_grow 1 = .ok (.invokevirtual 101, 3) := by decide +kernel
theorem dX6_grow_4 : decode cX6_grow 4 = .ok (.iconst 0, 1) := by decide +kernel
theorem dX6_grow_5 : decode cX6_grow 5 = .ok (.istore_n 1, 1) := by decide +kernel
theorem dX6_grow_6 : decode cX6_grow 6 = .ok (.iload_n 1, 1) := by decide +kernel
theorem dX6_grow_7 : decode cX6_grow 7 = .ok (.aload_n 0, 1) := by decide +kernel
theorem dX6_grow_8 : decode cX6_grow 8 = .ok (.getfield 98, 3) := by decide +kernel
theorem dX6_grow_11 : decode cX6_grow 11 = .ok (.if_icmp .ge 112, 3) := by decide +kernel
theorem dX6_grow_14 : decode cX6_grow 14 = .ok (.aload_n 0, 1) := by decide +kernel
theorem dX6_grow_15 : decode cX6_grow 15 = .ok (.getfield 85, 3) := by decide +kernel
theorem dX6_grow_18 : decode cX6_grow 18 = .ok (.iload_n 1, 1) := by decide +kernel
theorem dX6_grow_19 : decode cX6_grow 19 = .ok (.iaload, 1) := by decide +kernel
theorem dX6_grow_20 : decode cX6_grow 20 = .ok (.istore_n 2, 1) := by decide +kernel
theorem dX6_grow_21 : decode cX6_grow 21 = .ok (.iconst 0, 1) := by decide +kernel
theorem dX6_grow_22 : decode cX6_grow 22 = .ok (.istore_n 3, 1) := by decide +kernel
theorem dX6_grow_23 : decode cX6_grow 23 = .ok (.iload_n 3, 1) := by decide +kernel
theorem dX6_grow_24 : decode cX6_grow 24 = .ok (.aload_n 0, 1) := by decide +kernel
theorem dX6_grow_25 : decode cX6_grow 25 = .ok (.getfield 95, 3) := by decide +kernel
theorem dX6_grow_28 : decode cX6_grow 28 = .ok (.if_icmp .ge 89, 3) := by decide +kernel
theorem dX6_grow_31 : decode cX6_grow 31 = .ok (.aload_n 0, 1) := by decide +kernel
theorem dX6_grow_32 : decode cX6_grow 32 = .ok (.getfield 64, 3) := by decide +kernel
theorem dX6_grow_35 : decode cX6_grow 35 = .ok (.bipush 50, 2) := by decide +kernel
theorem dX6_grow_37 : decode cX6_grow 37 = .ok (.iload_n 2, 1) := by decide +kernel
theorem dX6_grow_38 : decode cX6_grow 38 = .ok (.imul, 1) := by decide +kernel
theorem dX6_grow_39 : decode cX6_grow 39 = .ok (.iload_n 3, 1) := by decide +kernel
theorem dX6_grow_40 : decode cX6_grow 40 = .ok (.iadd, 1) := by decide +kernel
theorem dX6_grow_41 : decode cX6_grow 41 = .ok (.baload, 1) := by decide +kernel
theorem dX6_grow_42 : decode cX6_grow 42 = .ok (.ifCond .eq 69, 3) := by decide +kernel
theorem dX6_grow_45 : decode cX6_grow 45 = .ok (.aload_n 0, 1) := by decide +kernel
theorem dX6_grow_46 : decode cX6_grow 46 = .ok (.getfield 70, 3) := by decide +kernel
theorem dX6_grow_49 : decode cX6_grow 49 = .ok (.iload_n 3, 1) := by decide +kernel
theorem dX6_grow_50 : decode cX6_grow 50 = .ok (.baload, 1) := by decide +kernel
theorem dX6_grow_51 : decode cX6_grow 51 = .ok (.ifCond .ne 60, 3) := by decide +kernel
theorem dX6_grow_54 : decode cX6_grow 54 = .ok (.aload_n 0, 1) := by decide +kernel
theorem dX6_grow_55 : decode cX6_grow 55 = .ok (.getfield 88, 3) := by decide +kernel
theorem dX6_grow_58 : decode cX6_grow 58 = .ok (.iload_n 3, 1) := by decide +kernel
theorem dX6_grow_59 : decode cX6_grow 59 = .ok (.iaload, 1) := by decide +kernel
theorem dX6_grow_60 : decode cX6_grow 60 = .ok (.ifCond .ge 51, 3) := by decide +kernel
theorem dX6_grow_63 : decode cX6_grow 63 = .ok (.aload_n 0, 1) := by decide +kernel
theorem dX6_grow_64 : decode cX6_grow 64 = .ok (.getfield 88, 3) := by decide +kernel
theorem dX6_grow_67 : decode cX6_grow 67 = .ok (.iload_n 3, 1) := by decide +kernel
theorem dX6_grow_68 : decode cX6_grow 68 = .ok (.iload_n 2, 1) := by decide +kernel
theorem dX6_grow_69 : decode cX6_grow 69 = .ok (.iastore, 1) := by decide +kernel
theorem dX6_grow_70 : decode cX6_grow 70 = .ok (.aload_n 0, 1) := by decide +kernel
theorem dX6_grow_71 : decode cX6_grow 71 = .ok (.getfield 76, 3) := by decide +kernel
theorem dX6_grow_74 : decode cX6_grow 74 = .ok (.iload_n 3, 1) := by decide +kernel
theorem dX6_grow_75 : decode cX6_grow 75 = .ok (.iaload, 1) := by decide +kernel
theorem dX6_grow_76 : decode cX6_grow 76 = .ok (.ifCond .ge 10, 3) := by decide +kernel
theorem dX6_grow_79 : decode cX6_grow 79 = .ok (.aload_n 0, 1) := by decide +kernel
theorem dX6_grow_80 : decode cX6_grow 80 = .ok (.iload_n 3, 1) := by decide +kernel
theorem dX6_grow_81 : decode cX6_grow 81 = .ok (.invokevirtual 104, 3) := by decide +kernel
theorem dX6_grow_84 : decode cX6_grow 84 = .ok (.iconst 1, 1) := by decide +kernel
theorem dX6_grow_85 : decode cX6_grow 85 = .ok (.ireturn, 1) := by decide +kernel
theorem dX6_grow_86 : decode cX6_grow 86 = .ok (.aload_n 0, 1) := by decide +kernel
theorem dX6_grow_87 : decode cX6_grow 87 = .ok (.getfield 85, 3) := by decide +kernel
theorem dX6_grow_90 : decode cX6_grow 90 = .ok (.aload_n 0, 1) := by decide +kernel
theorem dX6_grow_91 : decode cX6_grow 91 = .ok (.getfield 98, 3) := by decide +kernel
theorem dX6_grow_94 : decode cX6_grow 94 = .ok (.aload_n 0, 1) := by decide +kernel
theorem dX6_grow_95 : decode cX6_grow 95 = .ok (.getfield 76, 3) := by decide +kernel
theorem dX6_grow_98 : decode cX6_grow 98 = .ok (.iload_n 3, 1) := by decide +kernel
theorem dX6_grow_99 : decode cX6_grow 99 = .ok (.iaload, 1) := by decide +kernel
theorem dX6_grow_100 : decode cX6_grow 100 = .ok (.iastore, 1) := by decide +kernel
theorem dX6_grow_101 : decode cX6_grow 101 = .ok (.aload_n 0, 1) := by decide +kernel
theorem dX6_grow_102 : decode cX6_grow 102 = .ok (.dup, 1) := by decide +kernel
theorem dX6_grow_103 : decode cX6_grow 103 = .ok (.getfield 98, 3) := by decide +kernel
theorem dX6_grow_106 : decode cX6_grow 106 = .ok (.iconst 1, 1) := by decide +kernel
theorem dX6_grow_107 : decode cX6_grow 107 = .ok (.iadd, 1) := by decide +kernel
theorem dX6_grow_108 : decode cX6_grow 108 = .ok (.putfield 98, 3) := by decide +kernel
theorem dX6_grow_111 : decode cX6_grow 111 = .ok (.iinc 3 1, 3) := by decide +kernel
theorem dX6_grow_114 : decode cX6_grow 114 = .ok (.goto (-91), 3) := by decide +kernel
theorem dX6_grow_117 : decode cX6_grow 117 = .ok (.iinc 1 1, 3) := by decide +kernel
theorem dX6_grow_120 : decode cX6_grow 120 = .ok (.goto (-114), 3) := by decide +kernel
theorem dX6_grow_123 : decode cX6_grow 123 = .ok (.iconst 0, 1) := by decide +kernel
theorem dX6_grow_124 : decode cX6_grow 124 = .ok (.ireturn, 1) := by decide +kernel
theorem dX6_growAll_0 : decode cX6_growAll 0 = .ok (.iconst 0, 1) := by decide +kernel
theorem dX6_growAll_1 : decode cX6_growAll 1 = .ok (.istore_n 1, 1) := by decide +kernel
theorem dX6_growAll_2 : decode cX6_growAll 2 = .ok (.aload_n 0, 1) := by decide +kernel
theorem dX6_growAll_3 : decode cX6_growAll 3 = .ok (.invokevirtual 108, 3) := by decide +kernel
theorem dX6_growAll_6 : decode cX6_growAll 6 = .ok (.ifCond .eq 9, 3) := by decide +kernel
theorem dX6_growAll_9 : decode cX6_growAll 9 = .ok (.iinc 1 1, 3) := by decide +kernel
theorem dX6_growAll_12 : decode cX6_growAll 12 = .ok (.goto (-10), 3) := by decide +kernel
theorem dX6_growAll_15 : decode cX6_growAll 15 = .ok (.iload_n 1, 1) := by decide +kernel
theorem dX6_growAll_16 : decode cX6_growAll 16 = .ok (.ireturn, 1) := by decide +kernel
theorem dX6_keep_0 : decode cX6_keep 0 = .ok (.iconst 0, 1) := by decide +kernel
theorem dX6_keep_1 : decode cX6_keep 1 = .ok (.istore_n 1, 1) := by decide +kernel
theorem dX6_keep_2 : decode cX6_keep 2 = .ok (.iload_n 1, 1) := by decide +kernel
theorem dX6_keep_3 : decode cX6_keep 3 = .ok (.bipush 50, 2) := by decide +kernel
theorem dX6_keep_5 : decode cX6_keep 5 = .ok (.if_icmp .ge 33, 3) := by decide +kernel
theorem dX6_keep_8 : decode cX6_keep 8 = .ok (.aload_n 0, 1) := by decide +kernel
theorem dX6_keep_9 : decode cX6_keep 9 = .ok (.getfield 79, 3) := by decide +kernel
theorem dX6_keep_12 : decode cX6_keep 12 = .ok (.iload_n 1, 1) := by decide +kernel
theorem dX6_keep_13 : decode cX6_keep 13 = .ok (.aload_n 0, 1) := by decide +kernel
theorem dX6_keep_14 : decode cX6_keep 14 = .ok (.getfield 73, 3) := by decide +kernel
theorem dX6_keep_17 : decode cX6_keep 17 = .ok (.iload_n 1, 1) := by decide +kernel
theorem dX6_keep_18 : decode cX6_keep 18 = .ok (.iaload, 1) := by decide +kernel
theorem dX6_keep_19 : decode cX6_keep 19 = .ok (.iastore, 1) := by decide +kernel
theorem dX6_keep_20 : decode cX6_keep 20 = .ok (.aload_n 0, 1) := by decide +kernel
theorem dX6_keep_21 : decode cX6_keep 21 = .ok (.getfield 82, 3) := by decide +kernel
theorem dX6_keep_24 : decode cX6_keep 24 = .ok (.iload_n 1, 1) := by decide +kernel
theorem dX6_keep_25 : decode cX6_keep 25 = .ok (.aload_n 0, 1) := by decide +kernel
theorem dX6_keep_26 : decode cX6_keep 26 = .ok (.getfield 76, 3) := by decide +kernel
theorem dX6_keep_29 : decode cX6_keep 29 = .ok (.iload_n 1, 1) := by decide +kernel
theorem dX6_keep_30 : decode cX6_keep 30 = .ok (.iaload, 1) := by decide +kernel
theorem dX6_keep_31 : decode cX6_keep 31 = .ok (.iastore, 1) := by decide +kernel
theorem dX6_keep_32 : decode cX6_keep 32 = .ok (.iinc 1 1, 3) := by decide +kernel
theorem dX6_keep_35 : decode cX6_keep 35 = .ok (.goto (-33), 3) := by decide +kernel
theorem dX6_keep_38 : decode cX6_keep 38 = .ok (.return_, 1) := by decide +kernel
theorem dX6_putBack_0 : decode cX6_putBack 0 = .ok (.iconst 0, 1) := by decide +kernel
theorem dX6_putBack_1 : decode cX6_putBack 1 = .ok (.istore_n 1, 1) := by decide +kernel
theorem dX6_putBack_2 : decode cX6_putBack 2 = .ok (.iload_n 1, 1) := by decide +kernel
theorem dX6_putBack_3 : decode cX6_putBack 3 = .ok (.bipush 50, 2) := by decide +kernel
theorem dX6_putBack_5 : decode cX6_putBack 5 = .ok (.if_icmp .ge 33, 3) := by decide +kernel
theorem dX6_putBack_8 : decode cX6_putBack 8 = .ok (.aload_n 0, 1) := by decide +kernel
theorem dX6_putBack_9 : decode cX6_putBack 9 = .ok (.getfield 73, 3) := by decide +kernel
theorem dX6_putBack_12 : decode cX6_putBack 12 = .ok (.iload_n 1, 1) := by decide +kernel
theorem dX6_putBack_13 : decode cX6_putBack 13 = .ok (.aload_n 0, 1) := by decide +kernel
theorem dX6_putBack_14 : decode cX6_putBack 14 = .ok (.getfield 79, 3) := by decide +kernel
theorem dX6_putBack_17 : decode cX6_putBack 17 = .ok (.iload_n 1, 1) := by decide +kernel
theorem dX6_putBack_18 : decode cX6_putBack 18 = .ok (.iaload, 1) := by decide +kernel
theorem dX6_putBack_19 : decode cX6_putBack 19 = .ok (.iastore, 1) := by decide +kernel
theorem dX6_putBack_20 : decode cX6_putBack 20 = .ok (.aload_n 0, 1) := by decide +kernel
theorem dX6_putBack_21 : decode cX6_putBack 21 = .ok (.getfield 76, 3) := by decide +kernel
theorem dX6_putBack_24 : decode cX6_putBack 24 = .ok (.iload_n 1, 1) := by decide +kernel
theorem dX6_putBack_25 : decode cX6_putBack 25 = .ok (.aload_n 0, 1) := by decide +kernel
theorem dX6_putBack_26 : decode cX6_putBack 26 = .ok (.getfield 82, 3) := by decide +kernel
theorem dX6_putBack_29 : decode cX6_putBack 29 = .ok (.iload_n 1, 1) := by decide +kernel
theorem dX6_putBack_30 : decode cX6_putBack 30 = .ok (.iaload, 1) := by decide +kernel
theorem dX6_putBack_31 : decode cX6_putBack 31 = .ok (.iastore, 1) := by decide +kernel
theorem dX6_putBack_32 : decode cX6_putBack 32 = .ok (.iinc 1 1, 3) := by decide +kernel
theorem dX6_putBack_35 : decode cX6_putBack 35 = .ok (.goto (-33), 3) := by decide +kernel
theorem dX6_putBack_38 : decode cX6_putBack 38 = .ok (.return_, 1) := by decide +kernel
theorem dX6_canMiss_0 : decode cX6_canMiss 0 = .ok (.iload_n 1, 1) := by decide +kernel
theorem dX6_canMiss_1 : decode cX6_canMiss 1 = .ok (.ifCond .eq 12, 3) := by decide +kernel
theorem dX6_canMiss_4 : decode cX6_canMiss 4 = .ok (.aload_n 0, 1) := by decide +kernel
theorem dX6_canMiss_5 : decode cX6_canMiss 5 = .ok (.getfield 73, 3) := by decide +kernel
theorem dX6_canMiss_8 : decode cX6_canMiss 8 = .ok (.iload_n 2, 1) := by decide +kernel
theorem dX6_canMiss_9 : decode cX6_canMiss 9 = .ok (.iaload, 1) := by decide +kernel
theorem dX6_canMiss_10 : decode cX6_canMiss 10 = .ok (.goto 9, 3) := by decide +kernel
theorem dX6_canMiss_13 : decode cX6_canMiss 13 = .ok (.aload_n 0, 1) := by decide +kernel
theorem dX6_canMiss_14 : decode cX6_canMiss 14 = .ok (.getfield 76, 3) := by decide +kernel
theorem dX6_canMiss_17 : decode cX6_canMiss 17 = .ok (.iload_n 2, 1) := by decide +kernel
theorem dX6_canMiss_18 : decode cX6_canMiss 18 = .ok (.iaload, 1) := by decide +kernel
theorem dX6_canMiss_19 : decode cX6_canMiss 19 = .ok (.istore_n 3, 1) := by decide +kernel
theorem dX6_canMiss_20 : decode cX6_canMiss 20 = .ok (.iload_n 3, 1) := by decide +kernel
theorem dX6_canMiss_21 : decode cX6_canMiss 21 = .ok (.ifCond .ge 5, 3) := by decide +kernel
theorem dX6_canMiss_24 : decode cX6_canMiss 24 = .ok (.iconst 1, 1) := by decide +kernel
theorem dX6_canMiss_25 : decode cX6_canMiss 25 = .ok (.ireturn, 1) := by decide +kernel
theorem dX6_canMiss_26 : decode cX6_canMiss 26 = .ok (.aload_n 0, 1) := by decide +kernel
theorem dX6_canMiss_27 : decode cX6_canMiss 27 = .ok (.invokevirtual 112, 3) := by decide +kernel
theorem dX6_canMiss_30 : decode cX6_canMiss 30 = .ok (.iload_n 1, 1) := by decide +kernel
theorem dX6_canMiss_31 : decode cX6_canMiss 31 = .ok (.ifCond .eq 27, 3) := by decide +kernel
theorem dX6_canMiss_34 : decode cX6_canMiss 34 = .ok (.aload_n 0, 1) := by decide +kernel
end
section
theorem dX6_canMiss_35 : decode cX6_canMiss 35 = .ok (.getfield 73, 3) := by decide +kernel
theorem dX6_canMiss_38 : decode cX6_canMiss 38 = .ok (.iload_n 2, 1) := by decide +kernel
theorem dX6_canMiss_39 : decode cX6_canMiss 39 = .ok (.iconst (-1), 1) := by decide +kernel
theorem dX6_canMiss_40 : decode cX6_canMiss 40 = .ok (.iastore, 1) := by decide +kernel
theorem dX6_canMiss_41 : decode cX6_canMiss 41 = .ok (.aload_n 0, 1) := by decide +kernel
theorem dX6_canMiss_42 : decode cX6_canMiss 42 = .ok (.getfield 76, 3) := by decide +kernel
theorem dX6_canMiss_45 : decode cX6_canMiss 45 = .ok (.iload_n 3, 1) := by decide +kernel
theorem dX6_canMiss_46 : decode cX6_canMiss 46 = .ok (.iconst (-1), 1) := by decide +kernel
theorem dX6_canMiss_47 : decode cX6_canMiss 47 = .ok (.iastore, 1) := by decide +kernel
theorem dX6_canMiss_48 : decode cX6_canMiss 48 = .ok (.aload_n 0, 1) := by decide +kernel
theorem dX6_canMiss_49 : decode cX6_canMiss 49 = .ok (.getfield 67, 3) := by decide +kernel
theorem dX6_canMiss_52 : decode cX6_canMiss 52 = .ok (.iload_n 2, 1) := by decide +kernel
theorem dX6_canMiss_53 : decode cX6_canMiss 53 = .ok (.iconst 1, 1) := by decide +kernel
theorem dX6_canMiss_54 : decode cX6_canMiss 54 = .ok (.bastore, 1) := by decide +kernel
theorem dX6_canMiss_55 : decode cX6_canMiss 55 = .ok (.goto 24, 3) := by decide +kernel
theorem dX6_canMiss_58 : decode cX6_canMiss 58 = .ok (.aload_n 0, 1) := by decide +kernel
theorem dX6_canMiss_59 : decode cX6_canMiss 59 = .ok (.getfield 76, 3) := by decide +kernel
theorem dX6_canMiss_62 : decode cX6_canMiss 62 = .ok (.iload_n 2, 1) := by decide +kernel
theorem dX6_canMiss_63 : decode cX6_canMiss 63 = .ok (.iconst (-1), 1) := by decide +kernel
theorem dX6_canMiss_64 : decode cX6_canMiss 64 = .ok (.iastore, 1) := by decide +kernel
theorem dX6_canMiss_65 : decode cX6_canMiss 65 = .ok (.aload_n 0, 1) := by decide +kernel
theorem dX6_canMiss_66 : decode cX6_canMiss 66 = .ok (.getfield 73, 3) := by decide +kernel
theorem dX6_canMiss_69 : decode cX6_canMiss 69 = .ok (.iload_n 3, 1) := by decide +kernel
theorem dX6_canMiss_70 : decode cX6_canMiss 70 = .ok (.iconst (-1), 1) := by decide +kernel
theorem dX6_canMiss_71 : decode cX6_canMiss 71 = .ok (.iastore, 1) := by decide +kernel
theorem dX6_canMiss_72 : decode cX6_canMiss 72 = .ok (.aload_n 0, 1) := by decide +kernel
theorem dX6_canMiss_73 : decode cX6_canMiss 73 = .ok (.getfield 70, 3) := by decide +kernel
theorem dX6_canMiss_76 : decode cX6_canMiss 76 = .ok (.iload_n 2, 1) := by decide +kernel
theorem dX6_canMiss_77 : decode cX6_canMiss 77 = .ok (.iconst 1, 1) := by decide +kernel
theorem dX6_canMiss_78 : decode cX6_canMiss 78 = .ok (.bastore, 1) := by decide +kernel
theorem dX6_canMiss_79 : decode cX6_canMiss 79 = .ok (.aload_n 0, 1) := by decide +kernel
theorem dX6_canMiss_80 : decode cX6_canMiss 80 = .ok (.invokevirtual 108, 3) := by decide +kernel
theorem dX6_canMiss_83 : decode cX6_canMiss 83 = .ok (.istore 4, 2) := by decide +kernel
theorem dX6_canMiss_85 : decode cX6_canMiss 85 = .ok (.aload_n 0, 1) := by decide +kernel
theorem dX6_canMiss_86 : decode cX6_canMiss 86 = .ok (.getfield 67, 3) := by decide +kernel
theorem dX6_canMiss_89 : decode cX6_canMiss 89 = .ok (.iload_n 2, 1) := by decide +kernel
theorem dX6_canMiss_90 : decode cX6_canMiss 90 = .ok (.iload_n 1, 1) := by decide +kernel
theorem dX6_canMiss_91 : decode cX6_canMiss 91 = .ok (.ifCond .eq 7, 3) := by decide +kernel
theorem dX6_canMiss_94 : decode cX6_canMiss 94 = .ok (.iconst 0, 1) := by decide +kernel
theorem dX6_canMiss_95 : decode cX6_canMiss 95 = .ok (.goto 9, 3) := by decide +kernel
theorem dX6_canMiss_98 : decode cX6_canMiss 98 = .ok (.aload_n 0, 1) := by decide +kernel
theorem dX6_canMiss_99 : decode cX6_canMiss 99 = .ok (.getfield 67, 3) := by decide +kernel
theorem dX6_canMiss_102 : decode cX6_canMiss 102 = .ok (.iload_n 2, 1) := by decide +kernel
theorem dX6_canMiss_103 : decode cX6_canMiss 103 = .ok (.baload, 1) := by decide +kernel
theorem dX6_canMiss_104 : decode cX6_canMiss 104 = .ok (.bastore, 1) := by decide +kernel
theorem dX6_canMiss_105 : decode cX6_canMiss 105 = .ok (.aload_n 0, 1) := by decide +kernel
theorem dX6_canMiss_106 : decode cX6_canMiss 106 = .ok (.getfield 70, 3) := by decide +kernel
theorem dX6_canMiss_109 : decode cX6_canMiss 109 = .ok (.iload_n 2, 1) := by decide +kernel
theorem dX6_canMiss_110 : decode cX6_canMiss 110 = .ok (.iload_n 1, 1) := by decide +kernel
theorem dX6_canMiss_111 : decode cX6_canMiss 111 = .ok (.ifCond .eq 12, 3) := by decide +kernel
theorem dX6_canMiss_114 : decode cX6_canMiss 114 = .ok (.aload_n 0, 1) := by decide +kernel
theorem dX6_canMiss_115 : decode cX6_canMiss 115 = .ok (.getfield 70, 3) := by decide +kernel
theorem dX6_canMiss_118 : decode cX6_canMiss 118 = .ok (.iload_n 2, 1) := by decide +kernel
theorem dX6_canMiss_119 : decode cX6_canMiss 119 = .ok (.baload, 1) := by decide +kernel
theorem dX6_canMiss_120 : decode cX6_canMiss 120 = .ok (.goto 4, 3) := by decide +kernel
theorem dX6_canMiss_123 : decode cX6_canMiss 123 = .ok (.iconst 0, 1) := by decide +kernel
theorem dX6_canMiss_124 : decode cX6_canMiss 124 = .ok (.bastore, 1) := by decide +kernel
theorem dX6_canMiss_125 : decode cX6_canMiss 125 = .ok (.aload_n 0, 1) := by decide +kernel
theorem dX6_canMiss_126 : decode cX6_canMiss 126 = .ok (.invokevirtual 115, 3) := by decide +kernel
theorem dX6_canMiss_129 : decode cX6_canMiss 129 = .ok (.iload 4, 2) := by decide +kernel
theorem dX6_canMiss_131 : decode cX6_canMiss 131 = .ok (.ireturn, 1) := by decide +kernel
theorem dX6_force_0 : decode cX6_force 0 = .ok (.aload_n 0, 1) := by decide +kernel
theorem dX6_force_1 : decode cX6_force 1 = .ok (.getfield 73, 3) := by decide +kernel
theorem dX6_force_4 : decode cX6_force 4 = .ok (.iload_n 1, 1) := by decide +kernel
theorem dX6_force_5 : decode cX6_force 5 = .ok (.iaload, 1) := by decide +kernel
theorem dX6_force_6 : decode cX6_force 6 = .ok (.iload_n 2, 1) := by decide +kernel
theorem dX6_force_7 : decode cX6_force 7 = .ok (.if_icmp .ne 5, 3) := by decide +kernel
theorem dX6_force_10 : decode cX6_force 10 = .ok (.iconst 1, 1) := by decide +kernel
theorem dX6_force_11 : decode cX6_force 11 = .ok (.ireturn, 1) := by decide +kernel
theorem dX6_force_12 : decode cX6_force 12 = .ok (.aload_n 0, 1) := by decide +kernel
theorem dX6_force_13 : decode cX6_force 13 = .ok (.invokevirtual 112, 3) := by decide +kernel
theorem dX6_force_16 : decode cX6_force 16 = .ok (.iconst (-1), 1) := by decide +kernel
theorem dX6_force_17 : decode cX6_force 17 = .ok (.istore_n 3, 1) := by decide +kernel
theorem dX6_force_18 : decode cX6_force 18 = .ok (.aload_n 0, 1) := by decide +kernel
theorem dX6_force_19 : decode cX6_force 19 = .ok (.getfield 73, 3) := by decide +kernel
theorem dX6_force_22 : decode cX6_force 22 = .ok (.iload_n 1, 1) := by decide +kernel
theorem dX6_force_23 : decode cX6_force 23 = .ok (.iaload, 1) := by decide +kernel
theorem dX6_force_24 : decode cX6_force 24 = .ok (.ifCond .lt 18, 3) := by decide +kernel
theorem dX6_force_27 : decode cX6_force 27 = .ok (.aload_n 0, 1) := by decide +kernel
theorem dX6_force_28 : decode cX6_force 28 = .ok (.getfield 76, 3) := by decide +kernel
theorem dX6_force_31 : decode cX6_force 31 = .ok (.aload_n 0, 1) := by decide +kernel
theorem dX6_force_32 : decode cX6_force 32 = .ok (.getfield 73, 3) := by decide +kernel
theorem dX6_force_35 : decode cX6_force 35 = .ok (.iload_n 1, 1) := by decide +kernel
theorem dX6_force_36 : decode cX6_force 36 = .ok (.iaload, 1) := by decide +kernel
theorem dX6_force_37 : decode cX6_force 37 = .ok (.iconst (-1), 1) := by decide +kernel
theorem dX6_force_38 : decode cX6_force 38 = .ok (.iastore, 1) := by decide +kernel
theorem dX6_force_39 : decode cX6_force 39 = .ok (.iinc 3 1, 3) := by decide +kernel
theorem dX6_force_42 : decode cX6_force 42 = .ok (.aload_n 0, 1) := by decide +kernel
theorem dX6_force_43 : decode cX6_force 43 = .ok (.getfield 76, 3) := by decide +kernel
theorem dX6_force_46 : decode cX6_force 46 = .ok (.iload_n 2, 1) := by decide +kernel
theorem dX6_force_47 : decode cX6_force 47 = .ok (.iaload, 1) := by decide +kernel
theorem dX6_force_48 : decode cX6_force 48 = .ok (.ifCond .lt 18, 3) := by decide +kernel
theorem dX6_force_51 : decode cX6_force 51 = .ok (.aload_n 0, 1) := by decide +kernel
theorem dX6_force_52 : decode cX6_force 52 = .ok (.getfield 73, 3) := by decide +kernel
theorem dX6_force_55 : decode cX6_force 55 = .ok (.aload_n 0, 1) := by decide +kernel
theorem dX6_force_56 : decode cX6_force 56 = .ok (.getfield 76, 3) := by decide +kernel
theorem dX6_force_59 : decode cX6_force 59 = .ok (.iload_n 2, 1) := by decide +kernel
theorem dX6_force_60 : decode cX6_force 60 = .ok (.iaload, 1) := by decide +kernel
theorem dX6_force_61 : decode cX6_force 61 = .ok (.iconst (-1), 1) := by decide +kernel
theorem dX6_force_62 : decode cX6_force 62 = .ok (.iastore, 1) := by decide +kernel
theorem dX6_force_63 : decode cX6_force 63 = .ok (.iinc 3 1, 3) := by decide +kernel
theorem dX6_force_66 : decode cX6_force 66 = .ok (.aload_n 0, 1) := by decide +kernel
theorem dX6_force_67 : decode cX6_force 67 = .ok (.getfield 73, 3) := by decide +kernel
theorem dX6_force_70 : decode cX6_force 70 = .ok (.iload_n 1, 1) := by decide +kernel
theorem dX6_force_71 : decode cX6_force 71 = .ok (.iload_n 2, 1) := by decide +kernel
theorem dX6_force_72 : decode cX6_force 72 = .ok (.iastore, 1) := by decide +kernel
theorem dX6_force_73 : decode cX6_force 73 = .ok (.aload_n 0, 1) := by decide +kernel
theorem dX6_force_74 : decode cX6_force 74 = .ok (.getfield 76, 3) := by decide +kernel
theorem dX6_force_77 : decode cX6_force 77 = .ok (.iload_n 2, 1) := by decide +kernel
theorem dX6_force_78 : decode cX6_force 78 = .ok (.iload_n 1, 1) := by decide +kernel
theorem dX6_force_79 : decode cX6_force 79 = .ok (.iastore, 1) := by decide +kernel
theorem dX6_force_80 : decode cX6_force 80 = .ok (.aload_n 0, 1) := by decide +kernel
theorem dX6_force_81 : decode cX6_force 81 = .ok (.getfield 67, 3) := by decide +kernel
theorem dX6_force_84 : decode cX6_force 84 = .ok (.iload_n 1, 1) := by decide +kernel
theorem dX6_force_85 : decode cX6_force 85 = .ok (.iconst 1, 1) := by decide +kernel
theorem dX6_force_86 : decode cX6_force 86 = .ok (.bastore, 1) := by decide +kernel
theorem dX6_force_87 : decode cX6_force 87 = .ok (.aload_n 0, 1) := by decide +kernel
theorem dX6_force_88 : decode cX6_force 88 = .ok (.getfield 70, 3) := by decide +kernel
theorem dX6_force_91 : decode cX6_force 91 = .ok (.iload_n 2, 1) := by decide +kernel
theorem dX6_force_92 : decode cX6_force 92 = .ok (.iconst 1, 1) := by decide +kernel
theorem dX6_force_93 : decode cX6_force 93 = .ok (.bastore, 1) := by decide +kernel
theorem dX6_force_94 : decode cX6_force 94 = .ok (.iload_n 3, 1) := by decide +kernel
theorem dX6_force_95 : decode cX6_force 95 = .ok (.ifCond .eq 10, 3) := by decide +kernel
theorem dX6_force_98 : decode cX6_force 98 = .ok (.aload_n 0, 1) := by decide +kernel
theorem dX6_force_99 : decode cX6_force 99 = .ok (.invokevirtual 108, 3) := by decide +kernel
theorem dX6_force_102 : decode cX6_force 102 = .ok (.ifCond .eq 7, 3) := by decide +kernel
theorem dX6_force_105 : decode cX6_force 105 = .ok (.iconst 1, 1) := by decide +kernel
theorem dX6_force_106 : decode cX6_force 106 = .ok (.goto 4, 3) := by decide +kernel
theorem dX6_force_109 : decode cX6_force 109 = .ok (.iconst 0, 1) := by decide +kernel
theorem dX6_force_110 : decode cX6_force 110 = .ok (.istore 4, 2) := by decide +kernel
theorem dX6_force_112 : decode cX6_force 112 = .ok (.aload_n 0, 1) := by decide +kernel
theorem dX6_force_113 : decode cX6_force 113 = .ok (.getfield 67, 3) := by decide +kernel
theorem dX6_force_116 : decode cX6_force 116 = .ok (.iload_n 1, 1) := by decide +kernel
theorem dX6_force_117 : decode cX6_force 117 = .ok (.iconst 0, 1) := by decide +kernel
theorem dX6_force_118 : decode cX6_force 118 = .ok (.bastore, 1) := by decide +kernel
theorem dX6_force_119 : decode cX6_force 119 = .ok (.aload_n 0, 1) := by decide +kernel
theorem dX6_force_120 : decode cX6_force 120 = .ok (.getfield 70, 3) := by decide +kernel
theorem dX6_force_123 : decode cX6_force 123 = .ok (.iload_n 2, 1) := by decide +kernel
theorem dX6_force_124 : decode cX6_force 124 = .ok (.iconst 0, 1) := by decide +kernel
theorem dX6_force_125 : decode cX6_force 125 = .ok (.bastore, 1) := by decide +kernel
theorem dX6_force_126 : decode cX6_force 126 = .ok (.iload 4, 2) := by decide +kernel
theorem dX6_force_128 : decode cX6_force 128 = .ok (.ifCond .ne 7, 3) := by decide +kernel
theorem dX6_force_131 : decode cX6_force 131 = .ok (.aload_n 0, 1) := by decide +kernel
theorem dX6_force_132 : decode cX6_force 132 = .ok (.invokevirtual 115, 3) := by decide +kernel
theorem dX6_force_135 : decode cX6_force 135 = .ok (.iload 4, 2) := by decide +kernel
theorem dX6_force_137 : decode cX6_force 137 = .ok (.ireturn, 1) := by decide +kernel
theorem dX6_improve_0 : decode cX6_improve 0 = .ok (.iconst 0, 1) := by decide +kernel
theorem dX6_improve_1 : decode cX6_improve 1 = .ok (.istore_n 1, 1) := by decide +kernel
theorem dX6_improve_2 : decode cX6_improve 2 = .ok (.iload_n 1, 1) := by decide +kernel
theorem dX6_improve_3 : decode cX6_improve 3 = .ok (.aload_n 0, 1) := by decide +kernel
theorem dX6_improve_4 : decode cX6_improve 4 = .ok (.getfield 91, 3) := by decide +kernel
theorem dX6_improve_7 : decode cX6_improve 7 = .ok (.if_icmp .ge 87, 3) := by decide +kernel
theorem dX6_improve_10 : decode cX6_improve 10 = .ok (.iconst 0, 1) := by decide +kernel
theorem dX6_improve_11 : decode cX6_improve 11 = .ok (.istore_n 2, 1) := by decide +kernel
theorem dX6_improve_12 : decode cX6_improve 12 = .ok (.iconst 0, 1) := by decide +kernel
theorem dX6_improve_13 : decode cX6_improve 13 = .ok (.istore_n 3, 1) := by decide +kernel
theorem dX6_improve_14 : decode cX6_improve 14 = .ok (.iload_n 3, 1) := by decide +kernel
theorem dX6_improve_15 : decode cX6_improve 15 = .ok (.aload_n 0, 1) := by decide +kernel
theorem dX6_improve_16 : decode cX6_improve 16 = .ok (.getfield 95, 3) := by decide +kernel
theorem dX6_improve_19 : decode cX6_improve 19 = .ok (.if_icmp .ge 62, 3) := by decide +kernel
theorem dX6_improve_22 : decode cX6_improve 22 = .ok (.iload_n 2, 1) := by decide +kernel
theorem dX6_improve_23 : decode cX6_improve 23 = .ok (.ifCond .ne 58, 3) := by decide +kernel
theorem dX6_improve_26 : decode cX6_improve 26 = .ok (.aload_n 0, 1) := by decide +kernel
theorem dX6_improve_27 : decode cX6_improve 27 = .ok (.getfield 64, 3) := by decide +kernel
theorem dX6_improve_30 : decode cX6_improve 30 = .ok (.bipush 50, 2) := by decide +kernel
theorem dX6_improve_32 : decode cX6_improve 32 = .ok (.iload_n 1, 1) := by decide +kernel
theorem dX6_improve_33 : decode cX6_improve 33 = .ok (.imul, 1) := by decide +kernel
theorem dX6_improve_34 : decode cX6_improve 34 = .ok (.iload_n 3, 1) := by decide +kernel
theorem dX6_improve_35 : decode cX6_improve 35 = .ok (.iadd, 1) := by decide +kernel
theorem dX6_improve_36 : decode cX6_improve 36 = .ok (.baload, 1) := by decide +kernel
theorem dX6_improve_37 : decode cX6_improve 37 = .ok (.ifCond .eq 25, 3) := by decide +kernel
theorem dX6_improve_40 : decode cX6_improve 40 = .ok (.aload_n 0, 1) := by decide +kernel
theorem dX6_improve_41 : decode cX6_improve 41 = .ok (.getfield 70, 3) := by decide +kernel
theorem dX6_improve_44 : decode cX6_improve 44 = .ok (.iload_n 3, 1) := by decide +kernel
theorem dX6_improve_45 : decode cX6_improve 45 = .ok (.baload, 1) := by decide +kernel
theorem dX6_improve_46 : decode cX6_improve 46 = .ok (.ifCond .ne 16, 3) := by decide +kernel
theorem dX6_improve_49 : decode cX6_improve 49 = .ok (.aload_n 0, 1) := by decide +kernel
theorem dX6_improve_50 : decode cX6_improve 50 = .ok (.iload_n 1, 1) := by decide +kernel
theorem dX6_improve_51 : decode cX6_improve 51 = .ok (.iload_n 3, 1) := by decide +kernel
theorem dX6_improve_52 : decode cX6_improve 52 = .ok (.invokevirtual 118, 3) := by decide +kernel
theorem dX6_improve_55 : decode cX6_improve 55 = .ok (.ifCond .eq 7, 3) := by decide +kernel
theorem dX6_improve_58 : decode cX6_improve 58 = .ok (.iconst 1, 1) := by decide +kernel
theorem dX6_improve_59 : decode cX6_improve 59 = .ok (.goto 4, 3) := by decide +kernel
theorem dX6_improve_62 : decode cX6_improve 62 = .ok (.iconst 0, 1) := by decide +kernel
theorem dX6_improve_63 : decode cX6_improve 63 = .ok (.istore_n 2, 1) := by decide +kernel
theorem dX6_improve_64 : decode cX6_improve 64 = .ok (.iload_n 2, 1) := by decide +kernel
theorem dX6_improve_65 : decode cX6_improve 65 = .ok (.ifCond .eq 10, 3) := by decide +kernel
theorem dX6_improve_68 : decode cX6_improve 68 = .ok (.aload_n 0, 1) := by decide +kernel
theorem dX6_improve_69 : decode cX6_improve 69 = .ok (.getfield 70, 3) := by decide +kernel
theorem dX6_improve_72 : decode cX6_improve 72 = .ok (.iload_n 3, 1) := by decide +kernel
theorem dX6_improve_73 : decode cX6_improve 73 = .ok (.iconst 1, 1) := by decide +kernel
theorem dX6_improve_74 : decode cX6_improve 74 = .ok (.bastore, 1) := by decide +kernel
theorem dX6_improve_75 : decode cX6_improve 75 = .ok (.iinc 3 1, 3) := by decide +kernel
theorem dX6_improve_78 : decode cX6_improve 78 = .ok (.goto (-64), 3) := by decide +kernel
theorem dX6_improve_81 : decode cX6_improve 81 = .ok (.aload_n 0, 1) := by decide +kernel
theorem dX6_improve_82 : decode cX6_improve 82 = .ok (.getfield 67, 3) := by decide +kernel
theorem dX6_improve_85 : decode cX6_improve 85 = .ok (.iload_n 1, 1) := by decide +kernel
theorem dX6_improve_86 : decode cX6_improve 86 = .ok (.iconst 1, 1) := by decide +kernel
theorem dX6_improve_87 : decode cX6_improve 87 = .ok (.bastore, 1) := by decide +kernel
theorem dX6_improve_88 : decode cX6_improve 88 = .ok (.iinc 1 1, 3) := by decide +kernel
theorem dX6_improve_91 : decode cX6_improve 91 = .ok (.goto (-89), 3) := by decide +kernel
theorem dX6_improve_94 : decode cX6_improve 94 = .ok (.iconst 0, 1) := by decide +kernel
theorem dX6_improve_95 : decode cX6_improve 95 = .ok (.istore_n 1, 1) := by decide +kernel
theorem dX6_improve_96 : decode cX6_improve 96 = .ok (.iload_n 1, 1) := by decide +kernel
theorem dX6_improve_97 : decode cX6_improve 97 = .ok (.bipush 50, 2) := by decide +kernel
theorem dX6_improve_99 : decode cX6_improve 99 = .ok (.if_icmp .ge 47, 3) := by decide +kernel
theorem dX6_improve_102 : decode cX6_improve 102 = .ok (.aload_n 0, 1) := by decide +kernel
theorem dX6_improve_103 : decode cX6_improve 103 = .ok (.getfield 67, 3) := by decide +kernel
theorem dX6_improve_106 : decode cX6_improve 106 = .ok (.iload_n 1, 1) := by decide +kernel
theorem dX6_improve_107 : decode cX6_improve 107 = .ok (.iload_n 1, 1) := by decide +kernel
theorem dX6_improve_108 : decode cX6_improve 108 = .ok (.aload_n 0, 1) := by decide +kernel
theorem dX6_improve_109 : decode cX6_improve 109 = .ok (.getfield 91, 3) := by decide +kernel
theorem dX6_improve_112 : decode cX6_improve 112 = .ok (.if_icmp .lt 7, 3) := by decide +kernel
theorem dX6_improve_115 : decode cX6_improve 115 = .ok (.iconst 1, 1) := by decide +kernel
theorem dX6_improve_116 : decode cX6_improve 116 = .ok (.goto 4, 3) := by decide +kernel
theorem dX6_improve_119 : decode cX6_improve 119 = .ok (.iconst 0, 1) := by decide +kernel
theorem dX6_improve_120 : decode cX6_improve 120 = .ok (.bastore, 1) := by decide +kernel
theorem dX6_improve_121 : decode cX6_improve 121 = .ok (.aload_n 0, 1) := by decide +kernel
theorem dX6_improve_122 : decode cX6_improve 122 = .ok (.getfield 70, 3) := by decide +kernel
theorem dX6_improve_125 : decode cX6_improve 125 = .ok (.iload_n 1, 1) := by decide +kernel
theorem dX6_improve_126 : decode cX6_improve 126 = .ok (.iload_n 1, 1) := by decide +kernel
theorem dX6_improve_127 : decode cX6_improve 127 = .ok (.aload_n 0, 1) := by decide +kernel
theorem dX6_improve_128 : decode cX6_improve 128 = .ok (.getfield 95, 3) := by decide +kernel
theorem dX6_improve_131 : decode cX6_improve 131 = .ok (.if_icmp .lt 7, 3) := by decide +kernel
theorem dX6_improve_134 : decode cX6_improve 134 = .ok (.iconst 1, 1) := by decide +kernel
theorem dX6_improve_135 : decode cX6_improve 135 = .ok (.goto 4, 3) := by decide +kernel
theorem dX6_improve_138 : decode cX6_improve 138 = .ok (.iconst 0, 1) := by decide +kernel
theorem dX6_improve_139 : decode cX6_improve 139 = .ok (.bastore, 1) := by decide +kernel
theorem dX6_improve_140 : decode cX6_improve 140 = .ok (.iinc 1 1, 3) := by decide +kernel
theorem dX6_improve_143 : decode cX6_improve 143 = .ok (.goto (-47), 3) := by decide +kernel
theorem dX6_improve_146 : decode cX6_improve 146 = .ok (.return_, 1) := by decide +kernel
theorem dX6_work_0 : decode cX6_work 0 = .ok (.aload_n 0, 1) := by decide +kernel
theorem dX6_work_1 : decode cX6_work 1 = .ok (.getfield 122, 3) := by decide +kernel
theorem dX6_work_4 : decode cX6_work 4 = .ok (.ifCond .eq 4, 3) := by decide +kernel
theorem dX6_work_7 : decode cX6_work 7 = .ok (.return_, 1) := by decide +kernel
theorem dX6_work_8 : decode cX6_work 8 = .ok (.aload_n 0, 1) := by decide +kernel
theorem dX6_work_9 : decode cX6_work 9 = .ok (.aload_n 0, 1) := by decide +kernel
theorem dX6_work_10 : decode cX6_work 10 = .ok (.getfield 7, 3) := by decide +kernel
theorem dX6_work_13 : decode cX6_work 13 = .ok (.aload_n 0, 1) := by decide +kernel
theorem dX6_work_14 : decode cX6_work 14 = .ok (.getfield 126, 3) := by decide +kernel
theorem dX6_work_17 : decode cX6_work 17 = .ok (.aload_n 0, 1) := by decide +kernel
theorem dX6_work_18 : decode cX6_work 18 = .ok (.getfield 129, 3) := by decide +kernel
theorem dX6_work_21 : decode cX6_work 21 = .ok (.invokevirtual 132, 3) := by decide +kernel
theorem dX6_work_24 : decode cX6_work 24 = .ok (.aload_n 0, 1) := by decide +kernel
theorem dX6_work_25 : decode cX6_work 25 = .ok (.invokevirtual 136, 3) := by decide +kernel
theorem dX6_work_28 : decode cX6_work 28 = .ok (.istore_n 1, 1) := by decide +kernel
theorem dX6_work_29 : decode cX6_work 29 = .ok (.aload_n 0, 1) := by decide +kernel
theorem dX6_work_30 : decode cX6_work 30 = .ok (.iconst 1, 1) := by decide +kernel
theorem dX6_work_31 : decode cX6_work 31 = .ok (.putfield 122, 3) := by decide +kernel
theorem dX6_work_34 : decode cX6_work 34 = .ok (.aload_n 0, 1) := by decide +kernel
theorem dX6_work_35 : decode cX6_work 35 = .ok (.iconst 0, 1) := by decide +kernel
theorem dX6_work_36 : decode cX6_work 36 = .ok (.putfield 140, 3) := by decide +kernel
theorem dX6_work_39 : decode cX6_work 39 = .ok (.aload_n 0, 1) := by decide +kernel
theorem dX6_work_40 : decode cX6_work 40 = .ok (.iload_n 1, 1) := by decide +kernel
theorem dX6_work_41 : decode cX6_work 41 = .ok (.putfield 143, 3) := by decide +kernel
theorem dX6_work_44 : decode cX6_work 44 = .ok (.iconst 0, 1) := by decide +kernel
theorem dX6_work_45 : decode cX6_work 45 = .ok (.istore_n 2, 1) := by decide +kernel
theorem dX6_work_46 : decode cX6_work 46 = .ok (.iload_n 2, 1) := by decide +kernel
theorem dX6_work_47 : decode cX6_work 47 = .ok (.aload_n 0, 1) := by decide +kernel
theorem dX6_work_48 : decode cX6_work 48 = .ok (.getfield 126, 3) := by decide +kernel
theorem dX6_work_51 : decode cX6_work 51 = .ok (.if_icmp .ge 21, 3) := by decide +kernel
theorem dX6_work_54 : decode cX6_work 54 = .ok (.aload_n 0, 1) := by decide +kernel
theorem dX6_work_55 : decode cX6_work 55 = .ok (.getfield 20, 3) := by decide +kernel
theorem dX6_work_58 : decode cX6_work 58 = .ok (.iload_n 2, 1) := by decide +kernel
theorem dX6_work_59 : decode cX6_work 59 = .ok (.aload_n 0, 1) := by decide +kernel
theorem dX6_work_60 : decode cX6_work 60 = .ok (.iconst 1, 1) := by decide +kernel
theorem dX6_work_61 : decode cX6_work 61 = .ok (.iload_n 2, 1) := by decide +kernel
theorem dX6_work_62 : decode cX6_work 62 = .ok (.invokevirtual 146, 3) := by decide +kernel
theorem dX6_work_65 : decode cX6_work 65 = .ok (.bastore, 1) := by decide +kernel
theorem dX6_work_66 : decode cX6_work 66 = .ok (.iinc 2 1, 3) := by decide +kernel
theorem dX6_work_69 : decode cX6_work 69 = .ok (.goto (-23), 3) := by decide +kernel
theorem dX6_work_72 : decode cX6_work 72 = .ok (.iconst 0, 1) := by decide +kernel
theorem dX6_work_73 : decode cX6_work 73 = .ok (.istore_n 2, 1) := by decide +kernel
theorem dX6_work_74 : decode cX6_work 74 = .ok (.iload_n 2, 1) := by decide +kernel
theorem dX6_work_75 : decode cX6_work 75 = .ok (.aload_n 0, 1) := by decide +kernel
theorem dX6_work_76 : decode cX6_work 76 = .ok (.getfield 129, 3) := by decide +kernel
theorem dX6_work_79 : decode cX6_work 79 = .ok (.if_icmp .ge 21, 3) := by decide +kernel
theorem dX6_work_82 : decode cX6_work 82 = .ok (.aload_n 0, 1) := by decide +kernel
theorem dX6_work_83 : decode cX6_work 83 = .ok (.getfield 23, 3) := by decide +kernel
theorem dX6_work_86 : decode cX6_work 86 = .ok (.iload_n 2, 1) := by decide +kernel
theorem dX6_work_87 : decode cX6_work 87 = .ok (.aload_n 0, 1) := by decide +kernel
theorem dX6_work_88 : decode cX6_work 88 = .ok (.iconst 0, 1) := by decide +kernel
theorem dX6_work_89 : decode cX6_work 89 = .ok (.iload_n 2, 1) := by decide +kernel
theorem dX6_work_90 : decode cX6_work 90 = .ok (.invokevirtual 146, 3) := by decide +kernel
theorem dX6_work_93 : decode cX6_work 93 = .ok (.bastore, 1) := by decide +kernel
theorem dX6_work_94 : decode cX6_work 94 = .ok (.iinc 2 1, 3) := by decide +kernel
theorem dX6_work_97 : decode cX6_work 97 = .ok (.goto (-23), 3) := by decide +kernel
theorem dX6_work_100 : decode cX6_work 100 = .ok (.aload_n 0, 1) := by decide +kernel
theorem dX6_work_101 : decode cX6_work 101 = .ok (.invokevirtual 150, 3) := by decide +kernel
theorem dX6_work_104 : decode cX6_work 104 = .ok (.aload_n 0, 1) := by decide +kernel
theorem dX6_work_105 : decode cX6_work 105 = .ok (.invokevirtual 153, 3) := by decide +kernel
theorem dX6_work_108 : decode cX6_work 108 = .ok (.iconst 0, 1) := by decide +kernel
theorem dX6_work_109 : decode cX6_work 109 = .ok (.istore_n 2, 1) := by decide +kernel
theorem dX6_work_110 : decode cX6_work 110 = .ok (.iload_n 2, 1) := by decide +kernel
theorem dX6_work_111 : decode cX6_work 111 = .ok (.bipush 50, 2) := by decide +kernel
theorem dX6_work_113 : decode cX6_work 113 = .ok (.if_icmp .ge 33, 3) := by decide +kernel
theorem dX6_work_116 : decode cX6_work 116 = .ok (.aload_n 0, 1) := by decide +kernel
theorem dX6_work_117 : decode cX6_work 117 = .ok (.getfield 13, 3) := by decide +kernel
theorem dX6_work_120 : decode cX6_work 120 = .ok (.iload_n 2, 1) := by decide +kernel
theorem dX6_work_121 : decode cX6_work 121 = .ok (.aload_n 0, 1) := by decide +kernel
theorem dX6_work_122 : decode cX6_work 122 = .ok (.getfield 73, 3) := by decide +kernel
theorem dX6_work_125 : decode cX6_work 125 = .ok (.iload_n 2, 1) := by decide +kernel
theorem dX6_work_126 : decode cX6_work 126 = .ok (.iaload, 1) := by decide +kernel
theorem dX6_work_127 : decode cX6_work 127 = .ok (.iastore, 1) := by decide +kernel
theorem dX6_work_128 : decode cX6_work 128 = .ok (.aload_n 0, 1) := by decide +kernel
theorem dX6_work_129 : decode cX6_work 129 = .ok (.getfield 17, 3) := by decide +kernel
theorem dX6_work_132 : decode cX6_work 132 = .ok (.iload_n 2, 1) := by decide +kernel
theorem dX6_work_133 : decode cX6_work 133 = .ok (.aload_n 0, 1) := by decide +kernel
theorem dX6_work_134 : decode cX6_work 134 = .ok (.getfield 76, 3) := by decide +kernel
theorem dX6_work_137 : decode cX6_work 137 = .ok (.iload_n 2, 1) := by decide +kernel
theorem dX6_work_138 : decode cX6_work 138 = .ok (.iaload, 1) := by decide +kernel
theorem dX6_work_139 : decode cX6_work 139 = .ok (.iastore, 1) := by decide +kernel
theorem dX6_work_140 : decode cX6_work 140 = .ok (.iinc 2 1, 3) := by decide +kernel
theorem dX6_work_143 : decode cX6_work 143 = .ok (.goto (-33), 3) := by decide +kernel
theorem dX6_work_146 : decode cX6_work 146 = .ok (.aload_n 0, 1) := by decide +kernel
theorem dX6_work_147 : decode cX6_work 147 = .ok (.invokevirtual 156, 3) := by decide +kernel
theorem dX6_work_150 : decode cX6_work 150 = .ok (.return_, 1) := by decide +kernel
theorem dX6_parts_0 : decode cX6_parts 0 = .ok (.iconst 0, 1) := by decide +kernel
theorem dX6_parts_1 : decode cX6_parts 1 = .ok (.istore_n 1, 1) := by decide +kernel
theorem dX6_parts_2 : decode cX6_parts 2 = .ok (.iload_n 1, 1) := by decide +kernel
theorem dX6_parts_3 : decode cX6_parts 3 = .ok (.aload_n 0, 1) := by decide +kernel
theorem dX6_parts_4 : decode cX6_parts 4 = .ok (.getfield 126, 3) := by decide +kernel
theorem dX6_parts_7 : decode cX6_parts 7 = .ok (.if_icmp .ge 84, 3) := by decide +kernel
theorem dX6_parts_10 : decode cX6_parts 10 = .ok (.aload_n 0, 1) := by decide +kernel
theorem dX6_parts_11 : decode cX6_parts 11 = .ok (.getfield 26, 3) := by decide +kernel
theorem dX6_parts_14 : decode cX6_parts 14 = .ok (.iload_n 1, 1) := by decide +kernel
theorem dX6_parts_15 : decode cX6_parts 15 = .ok (.aload_n 0, 1) := by decide +kernel
theorem dX6_parts_16 : decode cX6_parts 16 = .ok (.getfield 20, 3) := by decide +kernel
theorem dX6_parts_19 : decode cX6_parts 19 = .ok (.iload_n 1, 1) := by decide +kernel
theorem dX6_parts_20 : decode cX6_parts 20 = .ok (.baload, 1) := by decide +kernel
theorem dX6_parts_21 : decode cX6_parts 21 = .ok (.ifCond .eq 7, 3) := by decide +kernel
theorem dX6_parts_24 : decode cX6_parts 24 = .ok (.iconst 0, 1) := by decide +kernel
theorem dX6_parts_25 : decode cX6_parts 25 = .ok (.goto 4, 3) := by decide +kernel
theorem dX6_parts_28 : decode cX6_parts 28 = .ok (.iconst 1, 1) := by decide +kernel
theorem dX6_parts_29 : decode cX6_parts 29 = .ok (.iastore, 1) := by decide +kernel
theorem dX6_parts_30 : decode cX6_parts 30 = .ok (.iconst 0, 1) := by decide +kernel
theorem dX6_parts_31 : decode cX6_parts 31 = .ok (.istore_n 2, 1) := by decide +kernel
theorem dX6_parts_32 : decode cX6_parts 32 = .ok (.iload_n 2, 1) := by decide +kernel
theorem dX6_parts_33 : decode cX6_parts 33 = .ok (.aload_n 0, 1) := by decide +kernel
theorem dX6_parts_34 : decode cX6_parts 34 = .ok (.getfield 129, 3) := by decide +kernel
theorem dX6_parts_37 : decode cX6_parts 37 = .ok (.if_icmp .ge 48, 3) := by decide +kernel
theorem dX6_parts_40 : decode cX6_parts 40 = .ok (.aload_n 0, 1) := by decide +kernel
theorem dX6_parts_41 : decode cX6_parts 41 = .ok (.getfield 26, 3) := by decide +kernel
theorem dX6_parts_44 : decode cX6_parts 44 = .ok (.iload_n 1, 1) := by decide +kernel
theorem dX6_parts_45 : decode cX6_parts 45 = .ok (.aload_n 0, 1) := by decide +kernel
theorem dX6_parts_46 : decode cX6_parts 46 = .ok (.getfield 7, 3) := by decide +kernel
theorem dX6_parts_49 : decode cX6_parts 49 = .ok (.bipush 50, 2) := by decide +kernel
theorem dX6_parts_51 : decode cX6_parts 51 = .ok (.iload_n 1, 1) := by decide +kernel
theorem dX6_parts_52 : decode cX6_parts 52 = .ok (.imul, 1) := by decide +kernel
theorem dX6_parts_53 : decode cX6_parts 53 = .ok (.iload_n 2, 1) := by decide +kernel
theorem dX6_parts_54 : decode cX6_parts 54 = .ok (.iadd, 1) := by decide +kernel
theorem dX6_parts_55 : decode cX6_parts 55 = .ok (.baload, 1) := by decide +kernel
theorem dX6_parts_56 : decode cX6_parts 56 = .ok (.ifCond .eq 16, 3) := by decide +kernel
theorem dX6_parts_59 : decode cX6_parts 59 = .ok (.aload_n 0, 1) := by decide +kernel
theorem dX6_parts_60 : decode cX6_parts 60 = .ok (.getfield 23, 3) := by decide +kernel
theorem dX6_parts_63 : decode cX6_parts 63 = .ok (.iload_n 2, 1) := by decide +kernel
theorem dX6_parts_64 : decode cX6_parts 64 = .ok (.baload, 1) := by decide +kernel
theorem dX6_parts_65 : decode cX6_parts 65 = .ok (.ifCond .eq 7, 3) := by decide +kernel
theorem dX6_parts_68 : decode cX6_parts 68 = .ok (.iconst 2, 1) := by decide +kernel
theorem dX6_parts_69 : decode cX6_parts 69 = .ok (.goto 9, 3) := by decide +kernel
theorem dX6_parts_72 : decode cX6_parts 72 = .ok (.aload_n 0, 1) := by decide +kernel
theorem dX6_parts_73 : decode cX6_parts 73 = .ok (.getfield 26, 3) := by decide +kernel
theorem dX6_parts_76 : decode cX6_parts 76 = .ok (.iload_n 1, 1) := by decide +kernel
theorem dX6_parts_77 : decode cX6_parts 77 = .ok (.iaload, 1) := by decide +kernel
theorem dX6_parts_78 : decode cX6_parts 78 = .ok (.iastore, 1) := by decide +kernel
theorem dX6_parts_79 : decode cX6_parts 79 = .ok (.iinc 2 1, 3) := by decide +kernel
theorem dX6_parts_82 : decode cX6_parts 82 = .ok (.goto (-50), 3) := by decide +kernel
theorem dX6_parts_85 : decode cX6_parts 85 = .ok (.iinc 1 1, 3) := by decide +kernel
theorem dX6_parts_88 : decode cX6_parts 88 = .ok (.goto (-86), 3) := by decide +kernel
theorem dX6_parts_91 : decode cX6_parts 91 = .ok (.iconst 0, 1) := by decide +kernel
theorem dX6_parts_92 : decode cX6_parts 92 = .ok (.istore_n 1, 1) := by decide +kernel
theorem dX6_parts_93 : decode cX6_parts 93 = .ok (.iload_n 1, 1) := by decide +kernel
theorem dX6_parts_94 : decode cX6_parts 94 = .ok (.aload_n 0, 1) := by decide +kernel
theorem dX6_parts_95 : decode cX6_parts 95 = .ok (.getfield 129, 3) := by decide +kernel
theorem dX6_parts_98 : decode cX6_parts 98 = .ok (.if_icmp .ge 84, 3) := by decide +kernel
theorem dX6_parts_101 : decode cX6_parts 101 = .ok (.aload_n 0, 1) := by decide +kernel
theorem dX6_parts_102 : decode cX6_parts 102 = .ok (.getfield 29, 3) := by decide +kernel
theorem dX6_parts_105 : decode cX6_parts 105 = .ok (.iload_n 1, 1) := by decide +kernel
theorem dX6_parts_106 : decode cX6_parts 106 = .ok (.aload_n 0, 1) := by decide +kernel
theorem dX6_parts_107 : decode cX6_parts 107 = .ok (.getfield 23, 3) := by decide +kernel
theorem dX6_parts_110 : decode cX6_parts 110 = .ok (.iload_n 1, 1) := by decide +kernel
theorem dX6_parts_111 : decode cX6_parts 111 = .ok (.baload, 1) := by decide +kernel
theorem dX6_parts_112 : decode cX6_parts 112 = .ok (.ifCond .eq 7, 3) := by decide +kernel
theorem dX6_parts_115 : decode cX6_parts 115 = .ok (.iconst 2, 1) := by decide +kernel
theorem dX6_parts_116 : decode cX6_parts 116 = .ok (.goto 4, 3) := by decide +kernel
theorem dX6_parts_119 : decode cX6_parts 119 = .ok (.iconst 1, 1) := by decide +kernel
theorem dX6_parts_120 : decode cX6_parts 120 = .ok (.iastore, 1) := by decide +kernel
theorem dX6_parts_121 : decode cX6_parts 121 = .ok (.iconst 0, 1) := by decide +kernel
theorem dX6_parts_122 : decode cX6_parts 122 = .ok (.istore_n 2, 1) := by decide +kernel
theorem dX6_parts_123 : decode cX6_parts 123 = .ok (.iload_n 2, 1) := by decide +kernel
theorem dX6_parts_124 : decode cX6_parts 124 = .ok (.aload_n 0, 1) := by decide +kernel
theorem dX6_parts_125 : decode cX6_parts 125 = .ok (.getfield 126, 3) := by decide +kernel
theorem dX6_parts_128 : decode cX6_parts 128 = .ok (.if_icmp .ge 48, 3) := by decide +kernel
theorem dX6_parts_131 : decode cX6_parts 131 = .ok (.aload_n 0, 1) := by decide +kernel
theorem dX6_parts_132 : decode cX6_parts 132 = .ok (.getfield 29, 3) := by decide +kernel
theorem dX6_parts_135 : decode cX6_parts 135 = .ok (.iload_n 1, 1) := by decide +kernel
theorem dX6_parts_136 : decode cX6_parts 136 = .ok (.aload_n 0, 1) := by decide +kernel
theorem dX6_parts_137 : decode cX6_parts 137 = .ok (.getfield 7, 3) := by decide +kernel
theorem dX6_parts_140 : decode cX6_parts 140 = .ok (.bipush 50, 2) := by decide +kernel
theorem dX6_parts_142 : decode cX6_parts 142 = .ok (.iload_n 2, 1) := by decide +kernel
theorem dX6_parts_143 : decode cX6_parts 143 = .ok (.imul, 1) := by decide +kernel
theorem dX6_parts_144 : decode cX6_parts 144 = .ok (.iload_n 1, 1) := by decide +kernel
theorem dX6_parts_145 : decode cX6_parts 145 = .ok (.iadd, 1) := by decide +kernel
theorem dX6_parts_146 : decode cX6_parts 146 = .ok (.baload, 1) := by decide +kernel
theorem dX6_parts_147 : decode cX6_parts 147 = .ok (.ifCond .eq 16, 3) := by decide +kernel
theorem dX6_parts_150 : decode cX6_parts 150 = .ok (.aload_n 0, 1) := by decide +kernel
theorem dX6_parts_151 : decode cX6_parts 151 = .ok (.getfield 20, 3) := by decide +kernel
theorem dX6_parts_154 : decode cX6_parts 154 = .ok (.iload_n 2, 1) := by decide +kernel
theorem dX6_parts_155 : decode cX6_parts 155 = .ok (.baload, 1) := by decide +kernel
theorem dX6_parts_156 : decode cX6_parts 156 = .ok (.ifCond .eq 7, 3) := by decide +kernel
theorem dX6_parts_159 : decode cX6_parts 159 = .ok (.iconst 0, 1) := by decide +kernel
theorem dX6_parts_160 : decode cX6_parts 160 = .ok (.goto 9, 3) := by decide +kernel
theorem dX6_parts_163 : decode cX6_parts 163 = .ok (.aload_n 0, 1) := by decide +kernel
theorem dX6_parts_164 : decode cX6_parts 164 = .ok (.getfield 29, 3) := by decide +kernel
theorem dX6_parts_167 : decode cX6_parts 167 = .ok (.iload_n 1, 1) := by decide +kernel
theorem dX6_parts_168 : decode cX6_parts 168 = .ok (.iaload, 1) := by decide +kernel
theorem dX6_parts_169 : decode cX6_parts 169 = .ok (.iastore, 1) := by decide +kernel
theorem dX6_parts_170 : decode cX6_parts 170 = .ok (.iinc 2 1, 3) := by decide +kernel
theorem dX6_parts_173 : decode cX6_parts 173 = .ok (.goto (-50), 3) := by decide +kernel
theorem dX6_parts_176 : decode cX6_parts 176 = .ok (.iinc 1 1, 3) := by decide +kernel
theorem dX6_parts_179 : decode cX6_parts 179 = .ok (.goto (-86), 3) := by decide +kernel
theorem dX6_parts_182 : decode cX6_parts 182 = .ok (.return_, 1) := by decide +kernel
theorem dX6_blocks_0 : decode cX6_blocks 0 = .ok (.iconst 0, 1) := by decide +kernel
theorem dX6_blocks_1 : decode cX6_blocks 1 = .ok (.istore_n 1, 1) := by decide +kernel
theorem dX6_blocks_2 : decode cX6_blocks 2 = .ok (.iload_n 1, 1) := by decide +kernel
theorem dX6_blocks_3 : decode cX6_blocks 3 = .ok (.sipush 2500, 3) := by decide +kernel
theorem dX6_blocks_6 : decode cX6_blocks 6 = .ok (.if_icmp .ge 16, 3) := by decide +kernel
theorem dX6_blocks_9 : decode cX6_blocks 9 = .ok (.aload_n 0, 1) := by decide +kernel
theorem dX6_blocks_10 : decode cX6_blocks 10 = .ok (.getfield 35, 3) := by decide +kernel
theorem dX6_blocks_13 : decode cX6_blocks 13 = .ok (.iload_n 1, 1) := by decide +kernel
theorem dX6_blocks_14 : decode cX6_blocks 14 = .ok (.iconst 0, 1) := by decide +kernel
theorem dX6_blocks_15 : decode cX6_blocks 15 = .ok (.bastore, 1) := by decide +kernel
theorem dX6_blocks_16 : decode cX6_blocks 16 = .ok (.iinc 1 1, 3) := by decide +kernel
theorem dX6_blocks_19 : decode cX6_blocks 19 = .ok (.goto (-17), 3) := by decide +kernel
theorem dX6_blocks_22 : decode cX6_blocks 22 = .ok (.iconst 0, 1) := by decide +kernel
theorem dX6_blocks_23 : decode cX6_blocks 23 = .ok (.istore_n 1, 1) := by decide +kernel
theorem dX6_blocks_24 : decode cX6_blocks 24 = .ok (.iload_n 1, 1) := by decide +kernel
theorem dX6_blocks_25 : decode cX6_blocks 25 = .ok (.aload_n 0, 1) := by decide +kernel
theorem dX6_blocks_26 : decode cX6_blocks 26 = .ok (.getfield 126, 3) := by decide +kernel
theorem dX6_blocks_29 : decode cX6_blocks 29 = .ok (.if_icmp .ge 77, 3) := by decide +kernel
theorem dX6_blocks_32 : decode cX6_blocks 32 = .ok (.aload_n 0, 1) := by decide +kernel
theorem dX6_blocks_33 : decode cX6_blocks 33 = .ok (.getfield 35, 3) := by decide +kernel
theorem dX6_blocks_36 : decode cX6_blocks 36 = .ok (.bipush 50, 2) := by decide +kernel
theorem dX6_blocks_38 : decode cX6_blocks 38 = .ok (.iload_n 1, 1) := by decide +kernel
theorem dX6_blocks_39 : decode cX6_blocks 39 = .ok (.imul, 1) := by decide +kernel
theorem dX6_blocks_40 : decode cX6_blocks 40 = .ok (.iload_n 1, 1) := by decide +kernel
theorem dX6_blocks_41 : decode cX6_blocks 41 = .ok (.iadd, 1) := by decide +kernel
theorem dX6_blocks_42 : decode cX6_blocks 42 = .ok (.iconst 1, 1) := by decide +kernel
theorem dX6_blocks_43 : decode cX6_blocks 43 = .ok (.bastore, 1) := by decide +kernel
theorem dX6_blocks_44 : decode cX6_blocks 44 = .ok (.iconst 0, 1) := by decide +kernel
theorem dX6_blocks_45 : decode cX6_blocks 45 = .ok (.istore_n 2, 1) := by decide +kernel
theorem dX6_blocks_46 : decode cX6_blocks 46 = .ok (.iload_n 2, 1) := by decide +kernel
theorem dX6_blocks_47 : decode cX6_blocks 47 = .ok (.aload_n 0, 1) := by decide +kernel
theorem dX6_blocks_48 : decode cX6_blocks 48 = .ok (.getfield 129, 3) := by decide +kernel
theorem dX6_blocks_51 : decode cX6_blocks 51 = .ok (.if_icmp .ge 49, 3) := by decide +kernel
theorem dX6_blocks_54 : decode cX6_blocks 54 = .ok (.aload_n 0, 1) := by decide +kernel
theorem dX6_blocks_55 : decode cX6_blocks 55 = .ok (.getfield 7, 3) := by decide +kernel
theorem dX6_blocks_58 : decode cX6_blocks 58 = .ok (.bipush 50, 2) := by decide +kernel
theorem dX6_blocks_60 : decode cX6_blocks 60 = .ok (.iload_n 1, 1) := by decide +kernel
theorem dX6_blocks_61 : decode cX6_blocks 61 = .ok (.imul, 1) := by decide +kernel
theorem dX6_blocks_62 : decode cX6_blocks 62 = .ok (.iload_n 2, 1) := by decide +kernel
theorem dX6_blocks_63 : decode cX6_blocks 63 = .ok (.iadd, 1) := by decide +kernel
theorem dX6_blocks_64 : decode cX6_blocks 64 = .ok (.baload, 1) := by decide +kernel
theorem dX6_blocks_65 : decode cX6_blocks 65 = .ok (.ifCond .eq 29, 3) := by decide +kernel
theorem dX6_blocks_68 : decode cX6_blocks 68 = .ok (.aload_n 0, 1) := by decide +kernel
theorem dX6_blocks_69 : decode cX6_blocks 69 = .ok (.getfield 17, 3) := by decide +kernel
theorem dX6_blocks_72 : decode cX6_blocks 72 = .ok (.iload_n 2, 1) := by decide +kernel
theorem dX6_blocks_73 : decode cX6_blocks 73 = .ok (.iaload, 1) := by decide +kernel
theorem dX6_blocks_74 : decode cX6_blocks 74 = .ok (.ifCond .lt 20, 3) := by decide +kernel
theorem dX6_blocks_77 : decode cX6_blocks 77 = .ok (.aload_n 0, 1) := by decide +kernel
theorem dX6_blocks_78 : decode cX6_blocks 78 = .ok (.getfield 35, 3) := by decide +kernel
theorem dX6_blocks_81 : decode cX6_blocks 81 = .ok (.bipush 50, 2) := by decide +kernel
theorem dX6_blocks_83 : decode cX6_blocks 83 = .ok (.iload_n 1, 1) := by decide +kernel
theorem dX6_blocks_84 : decode cX6_blocks 84 = .ok (.imul, 1) := by decide +kernel
theorem dX6_blocks_85 : decode cX6_blocks 85 = .ok (.aload_n 0, 1) := by decide +kernel
theorem dX6_blocks_86 : decode cX6_blocks 86 = .ok (.getfield 17, 3) := by decide +kernel
theorem dX6_blocks_89 : decode cX6_blocks 89 = .ok (.iload_n 2, 1) := by decide +kernel
theorem dX6_blocks_90 : decode cX6_blocks 90 = .ok (.iaload, 1) := by decide +kernel
theorem dX6_blocks_91 : decode cX6_blocks 91 = .ok (.iadd, 1) := by decide +kernel
theorem dX6_blocks_92 : decode cX6_blocks 92 = .ok (.iconst 1, 1) := by decide +kernel
theorem dX6_blocks_93 : decode cX6_blocks 93 = .ok (.bastore, 1) := by decide +kernel
theorem dX6_blocks_94 : decode cX6_blocks 94 = .ok (.iinc 2 1, 3) := by decide +kernel
theorem dX6_blocks_97 : decode cX6_blocks 97 = .ok (.goto (-51), 3) := by decide +kernel
theorem dX6_blocks_100 : decode cX6_blocks 100 = .ok (.iinc 1 1, 3) := by decide +kernel
theorem dX6_blocks_103 : decode cX6_blocks 103 = .ok (.goto (-79), 3) := by decide +kernel
theorem dX6_blocks_106 : decode cX6_blocks 106 = .ok (.iconst 0, 1) := by decide +kernel
theorem dX6_blocks_107 : decode cX6_blocks 107 = .ok (.istore_n 1, 1) := by decide +kernel
theorem dX6_blocks_108 : decode cX6_blocks 108 = .ok (.iload_n 1, 1) := by decide +kernel
theorem dX6_blocks_109 : decode cX6_blocks 109 = .ok (.aload_n 0, 1) := by decide +kernel
theorem dX6_blocks_110 : decode cX6_blocks 110 = .ok (.getfield 126, 3) := by decide +kernel
theorem dX6_blocks_113 : decode cX6_blocks 113 = .ok (.if_icmp .ge 99, 3) := by decide +kernel
theorem dX6_blocks_116 : decode cX6_blocks 116 = .ok (.iconst 0, 1) := by decide +kernel
theorem dX6_blocks_117 : decode cX6_blocks 117 = .ok (.istore_n 2, 1) := by decide +kernel
theorem dX6_blocks_118 : decode cX6_blocks 118 = .ok (.iload_n 2, 1) := by decide +kernel
theorem dX6_blocks_119 : decode cX6_blocks 119 = .ok (.aload_n 0, 1) := by decide +kernel
theorem dX6_blocks_120 : decode cX6_blocks 120 = .ok (.getfield 126, 3) := by decide +kernel
theorem dX6_blocks_123 : decode cX6_blocks 123 = .ok (.if_icmp .ge 83, 3) := by decide +kernel
theorem dX6_blocks_126 : decode cX6_blocks 126 = .ok (.iconst 0, 1) := by decide +kernel
theorem dX6_blocks_127 : decode cX6_blocks 127 = .ok (.istore_n 3, 1) := by decide +kernel
theorem dX6_blocks_128 : decode cX6_blocks 128 = .ok (.iload_n 3, 1) := by decide +kernel
theorem dX6_blocks_129 : decode cX6_blocks 129 = .ok (.aload_n 0, 1) := by decide +kernel
theorem dX6_blocks_130 : decode cX6_blocks 130 = .ok (.getfield 126, 3) := by decide +kernel
theorem dX6_blocks_133 : decode cX6_blocks 133 = .ok (.if_icmp .ge 67, 3) := by decide +kernel
theorem dX6_blocks_136 : decode cX6_blocks 136 = .ok (.aload_n 0, 1) := by decide +kernel
theorem dX6_blocks_137 : decode cX6_blocks 137 = .ok (.getfield 35, 3) := by decide +kernel
theorem dX6_blocks_140 : decode cX6_blocks 140 = .ok (.bipush 50, 2) := by decide +kernel
theorem dX6_blocks_142 : decode cX6_blocks 142 = .ok (.iload_n 2, 1) := by decide +kernel
theorem dX6_blocks_143 : decode cX6_blocks 143 = .ok (.imul, 1) := by decide +kernel
theorem dX6_blocks_144 : decode cX6_blocks 144 = .ok (.iload_n 1, 1) := by decide +kernel
theorem dX6_blocks_145 : decode cX6_blocks 145 = .ok (.iadd, 1) := by decide +kernel
theorem dX6_blocks_146 : decode cX6_blocks 146 = .ok (.baload, 1) := by decide +kernel
theorem dX6_blocks_147 : decode cX6_blocks 147 = .ok (.ifCond .eq 53, 3) := by decide +kernel
theorem dX6_blocks_150 : decode cX6_blocks 150 = .ok (.aload_n 0, 1) := by decide +kernel
theorem dX6_blocks_151 : decode cX6_blocks 151 = .ok (.getfield 35, 3) := by decide +kernel
theorem dX6_blocks_154 : decode cX6_blocks 154 = .ok (.bipush 50, 2) := by decide +kernel
theorem dX6_blocks_156 : decode cX6_blocks 156 = .ok (.iload_n 2, 1) := by decide +kernel
theorem dX6_blocks_157 : decode cX6_blocks 157 = .ok (.imul, 1) := by decide +kernel
theorem dX6_blocks_158 : decode cX6_blocks 158 = .ok (.iload_n 3, 1) := by decide +kernel
theorem dX6_blocks_159 : decode cX6_blocks 159 = .ok (.iadd, 1) := by decide +kernel
theorem dX6_blocks_160 : decode cX6_blocks 160 = .ok (.aload_n 0, 1) := by decide +kernel
theorem dX6_blocks_161 : decode cX6_blocks 161 = .ok (.getfield 35, 3) := by decide +kernel
theorem dX6_blocks_164 : decode cX6_blocks 164 = .ok (.bipush 50, 2) := by decide +kernel
theorem dX6_blocks_166 : decode cX6_blocks 166 = .ok (.iload_n 2, 1) := by decide +kernel
theorem dX6_blocks_167 : decode cX6_blocks 167 = .ok (.imul, 1) := by decide +kernel
theorem dX6_blocks_168 : decode cX6_blocks 168 = .ok (.iload_n 3, 1) := by decide +kernel
theorem dX6_blocks_169 : decode cX6_blocks 169 = .ok (.iadd, 1) := by decide +kernel
theorem dX6_blocks_170 : decode cX6_blocks 170 = .ok (.baload, 1) := by decide +kernel
theorem dX6_blocks_171 : decode cX6_blocks 171 = .ok (.ifCond .ne 17, 3) := by decide +kernel
theorem dX6_blocks_174 : decode cX6_blocks 174 = .ok (.aload_n 0, 1) := by decide +kernel
theorem dX6_blocks_175 : decode cX6_blocks 175 = .ok (.getfield 35, 3) := by decide +kernel
theorem dX6_blocks_178 : decode cX6_blocks 178 = .ok (.bipush 50, 2) := by decide +kernel
theorem dX6_blocks_180 : decode cX6_blocks 180 = .ok (.iload_n 1, 1) := by decide +kernel
theorem dX6_blocks_181 : decode cX6_blocks 181 = .ok (.imul, 1) := by decide +kernel
theorem dX6_blocks_182 : decode cX6_blocks 182 = .ok (.iload_n 3, 1) := by decide +kernel
theorem dX6_blocks_183 : decode cX6_blocks 183 = .ok (.iadd, 1) := by decide +kernel
theorem dX6_blocks_184 : decode cX6_blocks 184 = .ok (.baload, 1) := by decide +kernel
theorem dX6_blocks_185 : decode cX6_blocks 185 = .ok (.ifCond .eq 7, 3) := by decide +kernel
theorem dX6_blocks_188 : decode cX6_blocks 188 = .ok (.iconst 1, 1) := by decide +kernel
theorem dX6_blocks_189 : decode cX6_blocks 189 = .ok (.goto 4, 3) := by decide +kernel
theorem dX6_blocks_192 : decode cX6_blocks 192 = .ok (.iconst 0, 1) := by decide +kernel
theorem dX6_blocks_193 : decode cX6_blocks 193 = .ok (.bastore, 1) := by decide +kernel
theorem dX6_blocks_194 : decode cX6_blocks 194 = .ok (.iinc 3 1, 3) := by decide +kernel
theorem dX6_blocks_197 : decode cX6_blocks 197 = .ok (.goto (-69), 3) := by decide +kernel
theorem dX6_blocks_200 : decode cX6_blocks 200 = .ok (.iinc 2 1, 3) := by decide +kernel
theorem dX6_blocks_203 : decode cX6_blocks 203 = .ok (.goto (-85), 3) := by decide +kernel
theorem dX6_blocks_206 : decode cX6_blocks 206 = .ok (.iinc 1 1, 3) := by decide +kernel
theorem dX6_blocks_209 : decode cX6_blocks 209 = .ok (.goto (-101), 3) := by decide +kernel
theorem dX6_blocks_212 : decode cX6_blocks 212 = .ok (.aload_n 0, 1) := by decide +kernel
theorem dX6_blocks_213 : decode cX6_blocks 213 = .ok (.iconst 0, 1) := by decide +kernel
theorem dX6_blocks_214 : decode cX6_blocks 214 = .ok (.putfield 159, 3) := by decide +kernel
theorem dX6_blocks_217 : decode cX6_blocks 217 = .ok (.iconst 0, 1) := by decide +kernel
theorem dX6_blocks_218 : decode cX6_blocks 218 = .ok (.istore_n 1, 1) := by decide +kernel
theorem dX6_blocks_219 : decode cX6_blocks 219 = .ok (.iload_n 1, 1) := by decide +kernel
theorem dX6_blocks_220 : decode cX6_blocks 220 = .ok (.aload_n 0, 1) := by decide +kernel
theorem dX6_blocks_221 : decode cX6_blocks 221 = .ok (.getfield 126, 3) := by decide +kernel
theorem dX6_blocks_224 : decode cX6_blocks 224 = .ok (.if_icmp .ge 137, 3) := by decide +kernel
theorem dX6_blocks_227 : decode cX6_blocks 227 = .ok (.aload_n 0, 1) := by decide +kernel
theorem dX6_blocks_228 : decode cX6_blocks 228 = .ok (.getfield 32, 3) := by decide +kernel
theorem dX6_blocks_231 : decode cX6_blocks 231 = .ok (.iload_n 1, 1) := by decide +kernel
theorem dX6_blocks_232 : decode cX6_blocks 232 = .ok (.iconst (-1), 1) := by decide +kernel
theorem dX6_blocks_233 : decode cX6_blocks 233 = .ok (.iastore, 1) := by decide +kernel
theorem dX6_blocks_234 : decode cX6_blocks 234 = .ok (.iconst 0, 1) := by decide +kernel
theorem dX6_blocks_235 : decode cX6_blocks 235 = .ok (.istore_n 2, 1) := by decide +kernel
theorem dX6_blocks_236 : decode cX6_blocks 236 = .ok (.iload_n 2, 1) := by decide +kernel
theorem dX6_blocks_237 : decode cX6_blocks 237 = .ok (.iload_n 1, 1) := by decide +kernel
theorem dX6_blocks_238 : decode cX6_blocks 238 = .ok (.if_icmp .ge 78, 3) := by decide +kernel
theorem dX6_blocks_241 : decode cX6_blocks 241 = .ok (.aload_n 0, 1) := by decide +kernel
theorem dX6_blocks_242 : decode cX6_blocks 242 = .ok (.getfield 26, 3) := by decide +kernel
theorem dX6_blocks_245 : decode cX6_blocks 245 = .ok (.iload_n 1, 1) := by decide +kernel
theorem dX6_blocks_246 : decode cX6_blocks 246 = .ok (.iaload, 1) := by decide +kernel
theorem dX6_blocks_247 : decode cX6_blocks 247 = .ok (.iconst 1, 1) := by decide +kernel
theorem dX6_blocks_248 : decode cX6_blocks 248 = .ok (.if_icmp .ne 68, 3) := by decide +kernel
theorem dX6_blocks_251 : decode cX6_blocks 251 = .ok (.aload_n 0, 1) := by decide +kernel
theorem dX6_blocks_252 : decode cX6_blocks 252 = .ok (.getfield 32, 3) := by decide +kernel
theorem dX6_blocks_255 : decode cX6_blocks 255 = .ok (.iload_n 1, 1) := by decide +kernel
theorem dX6_blocks_256 : decode cX6_blocks 256 = .ok (.iaload, 1) := by decide +kernel
theorem dX6_blocks_257 : decode cX6_blocks 257 = .ok (.ifCond .ge 59, 3) := by decide +kernel
theorem dX6_blocks_260 : decode cX6_blocks 260 = .ok (.aload_n 0, 1) := by decide +kernel
theorem dX6_blocks_261 : decode cX6_blocks 261 = .ok (.getfield 26, 3) := by decide +kernel
theorem dX6_blocks_264 : decode cX6_blocks 264 = .ok (.iload_n 2, 1) := by decide +kernel
theorem dX6_blocks_265 : decode cX6_blocks 265 = .ok (.iaload, 1) := by decide +kernel
theorem dX6_blocks_266 : decode cX6_blocks 266 = .ok (.iconst 1, 1) := by decide +kernel
theorem dX6_blocks_267 : decode cX6_blocks 267 = .ok (.if_icmp .ne 43, 3) := by decide +kernel
theorem dX6_blocks_270 : decode cX6_blocks 270 = .ok (.aload_n 0, 1) := by decide +kernel
theorem dX6_blocks_271 : decode cX6_blocks 271 = .ok (.getfield 35, 3) := by decide +kernel
theorem dX6_blocks_274 : decode cX6_blocks 274 = .ok (.bipush 50, 2) := by decide +kernel
theorem dX6_blocks_276 : decode cX6_blocks 276 = .ok (.iload_n 2, 1) := by decide +kernel
theorem dX6_blocks_277 : decode cX6_blocks 277 = .ok (.imul, 1) := by decide +kernel
theorem dX6_blocks_278 : decode cX6_blocks 278 = .ok (.iload_n 1, 1) := by decide +kernel
theorem dX6_blocks_279 : decode cX6_blocks 279 = .ok (.iadd, 1) := by decide +kernel
theorem dX6_blocks_280 : decode cX6_blocks 280 = .ok (.baload, 1) := by decide +kernel
theorem dX6_blocks_281 : decode cX6_blocks 281 = .ok (.ifCond .eq 29, 3) := by decide +kernel
theorem dX6_blocks_284 : decode cX6_blocks 284 = .ok (.aload_n 0, 1) := by decide +kernel
theorem dX6_blocks_285 : decode cX6_blocks 285 = .ok (.getfield 35, 3) := by decide +kernel
theorem dX6_blocks_288 : decode cX6_blocks 288 = .ok (.bipush 50, 2) := by decide +kernel
theorem dX6_blocks_290 : decode cX6_blocks 290 = .ok (.iload_n 1, 1) := by decide +kernel
theorem dX6_blocks_291 : decode cX6_blocks 291 = .ok (.imul, 1) := by decide +kernel
theorem dX6_blocks_292 : decode cX6_blocks 292 = .ok (.iload_n 2, 1) := by decide +kernel
theorem dX6_blocks_293 : decode cX6_blocks 293 = .ok (.iadd, 1) := by decide +kernel
theorem dX6_blocks_294 : decode cX6_blocks 294 = .ok (.baload, 1) := by decide +kernel
theorem dX6_blocks_295 : decode cX6_blocks 295 = .ok (.ifCond .eq 15, 3) := by decide +kernel
theorem dX6_blocks_298 : decode cX6_blocks 298 = .ok (.aload_n 0, 1) := by decide +kernel
theorem dX6_blocks_299 : decode cX6_blocks 299 = .ok (.getfield 32, 3) := by decide +kernel
theorem dX6_blocks_302 : decode cX6_blocks 302 = .ok (.iload_n 1, 1) := by decide +kernel
theorem dX6_blocks_303 : decode cX6_blocks 303 = .ok (.aload_n 0, 1) := by decide +kernel
theorem dX6_blocks_304 : decode cX6_blocks 304 = .ok (.getfield 32, 3) := by decide +kernel
theorem dX6_blocks_307 : decode cX6_blocks 307 = .ok (.iload_n 2, 1) := by decide +kernel
theorem dX6_blocks_308 : decode cX6_blocks 308 = .ok (.iaload, 1) := by decide +kernel
theorem dX6_blocks_309 : decode cX6_blocks 309 = .ok (.iastore, 1) := by decide +kernel
theorem dX6_blocks_310 : decode cX6_blocks 310 = .ok (.iinc 2 1, 3) := by decide +kernel
theorem dX6_blocks_313 : decode cX6_blocks 313 = .ok (.goto (-77), 3) := by decide +kernel
theorem dX6_blocks_316 : decode cX6_blocks 316 = .ok (.aload_n 0, 1) := by decide +kernel
theorem dX6_blocks_317 : decode cX6_blocks 317 = .ok (.getfield 26, 3) := by decide +kernel
theorem dX6_blocks_320 : decode cX6_blocks 320 = .ok (.iload_n 1, 1) := by decide +kernel
theorem dX6_blocks_321 : decode cX6_blocks 321 = .ok (.iaload, 1) := by decide +kernel
theorem dX6_blocks_322 : decode cX6_blocks 322 = .ok (.iconst 1, 1) := by decide +kernel
theorem dX6_blocks_323 : decode cX6_blocks 323 = .ok (.if_icmp .ne 32, 3) := by decide +kernel
theorem dX6_blocks_326 : decode cX6_blocks 326 = .ok (.aload_n 0, 1) := by decide +kernel
theorem dX6_blocks_327 : decode cX6_blocks 327 = .ok (.getfield 32, 3) := by decide +kernel
theorem dX6_blocks_330 : decode cX6_blocks 330 = .ok (.iload_n 1, 1) := by decide +kernel
theorem dX6_blocks_331 : decode cX6_blocks 331 = .ok (.iaload, 1) := by decide +kernel
theorem dX6_blocks_332 : decode cX6_blocks 332 = .ok (.ifCond .ge 23, 3) := by decide +kernel
theorem dX6_blocks_335 : decode cX6_blocks 335 = .ok (.aload_n 0, 1) := by decide +kernel
theorem dX6_blocks_336 : decode cX6_blocks 336 = .ok (.getfield 32, 3) := by decide +kernel
theorem dX6_blocks_339 : decode cX6_blocks 339 = .ok (.iload_n 1, 1) := by decide +kernel
theorem dX6_blocks_340 : decode cX6_blocks 340 = .ok (.aload_n 0, 1) := by decide +kernel
theorem dX6_blocks_341 : decode cX6_blocks 341 = .ok (.getfield 159, 3) := by decide +kernel
theorem dX6_blocks_344 : decode cX6_blocks 344 = .ok (.iastore, 1) := by decide +kernel
theorem dX6_blocks_345 : decode cX6_blocks 345 = .ok (.aload_n 0, 1) := by decide +kernel
theorem dX6_blocks_346 : decode cX6_blocks 346 = .ok (.dup, 1) := by decide +kernel
theorem dX6_blocks_347 : decode cX6_blocks 347 = .ok (.getfield 159, 3) := by decide +kernel
theorem dX6_blocks_350 : decode cX6_blocks 350 = .ok (.iconst 1, 1) := by decide +kernel
theorem dX6_blocks_351 : decode cX6_blocks 351 = .ok (.iadd, 1) := by decide +kernel
theorem dX6_blocks_352 : decode cX6_blocks 352 = .ok (.putfield 159, 3) := by decide +kernel
theorem dX6_blocks_355 : decode cX6_blocks 355 = .ok (.iinc 1 1, 3) := by decide +kernel
theorem dX6_blocks_358 : decode cX6_blocks 358 = .ok (.goto (-139), 3) := by decide +kernel
theorem dX6_blocks_361 : decode cX6_blocks 361 = .ok (.return_, 1) := by decide +kernel
theorem dX6_isNode_0 : decode cX6_isNode 0 = .ok (.iload_n 2, 1) := by decide +kernel
theorem dX6_isNode_1 : decode cX6_isNode 1 = .ok (.ifCond .lt 32, 3) := by decide +kernel
theorem dX6_isNode_4 : decode cX6_isNode 4 = .ok (.iload_n 1, 1) := by decide +kernel
theorem dX6_isNode_5 : decode cX6_isNode 5 = .ok (.ifCond .ne 11, 3) := by decide +kernel
theorem dX6_isNode_8 : decode cX6_isNode 8 = .ok (.iload_n 2, 1) := by decide +kernel
theorem dX6_isNode_9 : decode cX6_isNode 9 = .ok (.aload_n 0, 1) := by decide +kernel
theorem dX6_isNode_10 : decode cX6_isNode 10 = .ok (.getfield 126, 3) := by decide +kernel
theorem dX6_isNode_13 : decode cX6_isNode 13 = .ok (.if_icmp .lt 16, 3) := by decide +kernel
theorem dX6_isNode_16 : decode cX6_isNode 16 = .ok (.iload_n 1, 1) := by decide +kernel
theorem dX6_isNode_17 : decode cX6_isNode 17 = .ok (.iconst 1, 1) := by decide +kernel
theorem dX6_isNode_18 : decode cX6_isNode 18 = .ok (.if_icmp .ne 15, 3) := by decide +kernel
theorem dX6_isNode_21 : decode cX6_isNode 21 = .ok (.iload_n 2, 1) := by decide +kernel
theorem dX6_isNode_22 : decode cX6_isNode 22 = .ok (.aload_n 0, 1) := by decide +kernel
theorem dX6_isNode_23 : decode cX6_isNode 23 = .ok (.getfield 129, 3) := by decide +kernel
theorem dX6_isNode_26 : decode cX6_isNode 26 = .ok (.if_icmp .ge 7, 3) := by decide +kernel
theorem dX6_isNode_29 : decode cX6_isNode 29 = .ok (.iconst 1, 1) := by decide +kernel
theorem dX6_isNode_30 : decode cX6_isNode 30 = .ok (.goto 4, 3) := by decide +kernel
theorem dX6_isNode_33 : decode cX6_isNode 33 = .ok (.iconst 0, 1) := by decide +kernel
theorem dX6_isNode_34 : decode cX6_isNode 34 = .ok (.ireturn, 1) := by decide +kernel
theorem dX6_node_0 : decode cX6_node 0 = .ok (.iload_n 1, 1) := by decide +kernel
theorem dX6_node_1 : decode cX6_node 1 = .ok (.ifCond .eq 10, 3) := by decide +kernel
theorem dX6_node_4 : decode cX6_node 4 = .ok (.iload_n 1, 1) := by decide +kernel
theorem dX6_node_5 : decode cX6_node 5 = .ok (.iconst 1, 1) := by decide +kernel
theorem dX6_node_6 : decode cX6_node 6 = .ok (.if_icmp .eq 5, 3) := by decide +kernel
theorem dX6_node_9 : decode cX6_node 9 = .ok (.iconst (-1), 1) := by decide +kernel
theorem dX6_node_10 : decode cX6_node 10 = .ok (.ireturn, 1) := by decide +kernel
theorem dX6_node_11 : decode cX6_node 11 = .ok (.iload_n 1, 1) := by decide +kernel
theorem dX6_node_12 : decode cX6_node 12 = .ok (.ifCond .ne 10, 3) := by decide +kernel
theorem dX6_node_15 : decode cX6_node 15 = .ok (.aload_n 0, 1) := by decide +kernel
theorem dX6_node_16 : decode cX6_node 16 = .ok (.getfield 126, 3) := by decide +kernel
theorem dX6_node_19 : decode cX6_node 19 = .ok (.goto 7, 3) := by decide +kernel
theorem dX6_node_22 : decode cX6_node 22 = .ok (.aload_n 0, 1) := by decide +kernel
theorem dX6_node_23 : decode cX6_node 23 = .ok (.getfield 129, 3) := by decide +kernel
theorem dX6_node_26 : decode cX6_node 26 = .ok (.bipush 50, 2) := by decide +kernel
theorem dX6_node_28 : decode cX6_node 28 = .ok (.if_icmp .ne 6, 3) := by decide +kernel
theorem dX6_node_31 : decode cX6_node 31 = .ok (.bipush (-2), 2) := by decide +kernel
theorem dX6_node_33 : decode cX6_node 33 = .ok (.ireturn, 1) := by decide +kernel
theorem dX6_node_34 : decode cX6_node 34 = .ok (.aload_n 0, 1) := by decide +kernel
theorem dX6_node_35 : decode cX6_node 35 = .ok (.iconst 0, 1) := by decide +kernel
theorem dX6_node_36 : decode cX6_node 36 = .ok (.putfield 122, 3) := by decide +kernel
theorem dX6_node_39 : decode cX6_node 39 = .ok (.iload_n 1, 1) := by decide +kernel
theorem dX6_node_40 : decode cX6_node 40 = .ok (.ifCond .ne 20, 3) := by decide +kernel
theorem dX6_node_43 : decode cX6_node 43 = .ok (.aload_n 0, 1) := by decide +kernel
theorem dX6_node_44 : decode cX6_node 44 = .ok (.dup, 1) := by decide +kernel
theorem dX6_node_45 : decode cX6_node 45 = .ok (.getfield 126, 3) := by decide +kernel
theorem dX6_node_48 : decode cX6_node 48 = .ok (.iconst 1, 1) := by decide +kernel
theorem dX6_node_49 : decode cX6_node 49 = .ok (.iadd, 1) := by decide +kernel
theorem dX6_node_50 : decode cX6_node 50 = .ok (.putfield 126, 3) := by decide +kernel
theorem dX6_node_53 : decode cX6_node 53 = .ok (.aload_n 0, 1) := by decide +kernel
theorem dX6_node_54 : decode cX6_node 54 = .ok (.getfield 126, 3) := by decide +kernel
theorem dX6_node_57 : decode cX6_node 57 = .ok (.iconst 1, 1) := by decide +kernel
theorem dX6_node_58 : decode cX6_node 58 = .ok (.isub, 1) := by decide +kernel
theorem dX6_node_59 : decode cX6_node 59 = .ok (.ireturn, 1) := by decide +kernel
theorem dX6_node_60 : decode cX6_node 60 = .ok (.aload_n 0, 1) := by decide +kernel
theorem dX6_node_61 : decode cX6_node 61 = .ok (.dup, 1) := by decide +kernel
theorem dX6_node_62 : decode cX6_node 62 = .ok (.getfield 129, 3) := by decide +kernel
theorem dX6_node_65 : decode cX6_node 65 = .ok (.iconst 1, 1) := by decide +kernel
theorem dX6_node_66 : decode cX6_node 66 = .ok (.iadd, 1) := by decide +kernel
theorem dX6_node_67 : decode cX6_node 67 = .ok (.putfield 129, 3) := by decide +kernel
theorem dX6_node_70 : decode cX6_node 70 = .ok (.aload_n 0, 1) := by decide +kernel
theorem dX6_node_71 : decode cX6_node 71 = .ok (.getfield 129, 3) := by decide +kernel
theorem dX6_node_74 : decode cX6_node 74 = .ok (.iconst 1, 1) := by decide +kernel
theorem dX6_node_75 : decode cX6_node 75 = .ok (.isub, 1) := by decide +kernel
theorem dX6_node_76 : decode cX6_node 76 = .ok (.ireturn, 1) := by decide +kernel
theorem dX6_edge_0 : decode cX6_edge 0 = .ok (.aload_n 0, 1) := by decide +kernel
theorem dX6_edge_1 : decode cX6_edge 1 = .ok (.iconst 0, 1) := by decide +kernel
theorem dX6_edge_2 : decode cX6_edge 2 = .ok (.iload_n 1, 1) := by decide +kernel
theorem dX6_edge_3 : decode cX6_edge 3 = .ok (.invokevirtual 161, 3) := by decide +kernel
theorem dX6_edge_6 : decode cX6_edge 6 = .ok (.ifCond .eq 12, 3) := by decide +kernel
theorem dX6_edge_9 : decode cX6_edge 9 = .ok (.aload_n 0, 1) := by decide +kernel
theorem dX6_edge_10 : decode cX6_edge 10 = .ok (.iconst 1, 1) := by decide +kernel
theorem dX6_edge_11 : decode cX6_edge 11 = .ok (.iload_n 2, 1) := by decide +kernel
theorem dX6_edge_12 : decode cX6_edge 12 = .ok (.invokevirtual 161, 3) := by decide +kernel
theorem dX6_edge_15 : decode cX6_edge 15 = .ok (.ifCond .ne 5, 3) := by decide +kernel
theorem dX6_edge_18 : decode cX6_edge 18 = .ok (.iconst (-1), 1) := by decide +kernel
theorem dX6_edge_19 : decode cX6_edge 19 = .ok (.ireturn, 1) := by decide +kernel
theorem dX6_edge_20 : decode cX6_edge 20 = .ok (.aload_n 0, 1) := by decide +kernel
theorem dX6_edge_21 : decode cX6_edge 21 = .ok (.getfield 7, 3) := by decide +kernel
theorem dX6_edge_24 : decode cX6_edge 24 = .ok (.bipush 50, 2) := by decide +kernel
theorem dX6_edge_26 : decode cX6_edge 26 = .ok (.iload_n 1, 1) := by decide +kernel
theorem dX6_edge_27 : decode cX6_edge 27 = .ok (.imul, 1) := by decide +kernel
theorem dX6_edge_28 : decode cX6_edge 28 = .ok (.iload_n 2, 1) := by decide +kernel
theorem dX6_edge_29 : decode cX6_edge 29 = .ok (.iadd, 1) := by decide +kernel
theorem dX6_edge_30 : decode cX6_edge 30 = .ok (.baload, 1) := by decide +kernel
theorem dX6_edge_31 : decode cX6_edge 31 = .ok (.iload_n 3, 1) := by decide +kernel
theorem dX6_edge_32 : decode cX6_edge 32 = .ok (.if_icmp .eq 7, 3) := by decide +kernel
theorem dX6_edge_35 : decode cX6_edge 35 = .ok (.iconst 1, 1) := by decide +kernel
theorem dX6_edge_36 : decode cX6_edge 36 = .ok (.goto 4, 3) := by decide +kernel
theorem dX6_edge_39 : decode cX6_edge 39 = .ok (.iconst 0, 1) := by decide +kernel
theorem dX6_edge_40 : decode cX6_edge 40 = .ok (.istore 4, 2) := by decide +kernel
theorem dX6_edge_42 : decode cX6_edge 42 = .ok (.aload_n 0, 1) := by decide +kernel
theorem dX6_edge_43 : decode cX6_edge 43 = .ok (.getfield 7, 3) := by decide +kernel
theorem dX6_edge_46 : decode cX6_edge 46 = .ok (.bipush 50, 2) := by decide +kernel
theorem dX6_edge_48 : decode cX6_edge 48 = .ok (.iload_n 1, 1) := by decide +kernel
theorem dX6_edge_49 : decode cX6_edge 49 = .ok (.imul, 1) := by decide +kernel
theorem dX6_edge_50 : decode cX6_edge 50 = .ok (.iload_n 2, 1) := by decide +kernel
theorem dX6_edge_51 : decode cX6_edge 51 = .ok (.iadd, 1) := by decide +kernel
theorem dX6_edge_52 : decode cX6_edge 52 = .ok (.iload_n 3, 1) := by decide +kernel
theorem dX6_edge_53 : decode cX6_edge 53 = .ok (.bastore, 1) := by decide +kernel
theorem dX6_edge_54 : decode cX6_edge 54 = .ok (.aload_n 0, 1) := by decide +kernel
theorem dX6_edge_55 : decode cX6_edge 55 = .ok (.aload_n 0, 1) := by decide +kernel
theorem dX6_edge_56 : decode cX6_edge 56 = .ok (.getfield 122, 3) := by decide +kernel
theorem dX6_edge_59 : decode cX6_edge 59 = .ok (.ifCond .eq 12, 3) := by decide +kernel
theorem dX6_edge_62 : decode cX6_edge 62 = .ok (.iload 4, 2) := by decide +kernel
theorem dX6_edge_64 : decode cX6_edge 64 = .ok (.ifCond .ne 7, 3) := by decide +kernel
theorem dX6_edge_67 : decode cX6_edge 67 = .ok (.iconst 1, 1) := by decide +kernel
theorem dX6_edge_68 : decode cX6_edge 68 = .ok (.goto 4, 3) := by decide +kernel
theorem dX6_edge_71 : decode cX6_edge 71 = .ok (.iconst 0, 1) := by decide +kernel
theorem dX6_edge_72 : decode cX6_edge 72 = .ok (.putfield 122, 3) := by decide +kernel
theorem dX6_edge_75 : decode cX6_edge 75 = .ok (.iload 4, 2) := by decide +kernel
theorem dX6_edge_77 : decode cX6_edge 77 = .ok (.ifCond .eq 7, 3) := by decide +kernel
theorem dX6_edge_80 : decode cX6_edge 80 = .ok (.iconst 1, 1) := by decide +kernel
theorem dX6_edge_81 : decode cX6_edge 81 = .ok (.goto 4, 3) := by decide +kernel
theorem dX6_edge_84 : decode cX6_edge 84 = .ok (.iconst 0, 1) := by decide +kernel
theorem dX6_edge_85 : decode cX6_edge 85 = .ok (.ireturn, 1) := by decide +kernel
theorem dX6_edgesMany_0 : decode cX6_edgesMany 0 = .ok (.iconst 0, 1) := by decide +kernel
theorem dX6_edgesMany_1 : decode cX6_edgesMany 1 = .ok (.istore_n 1, 1) := by decide +kernel
theorem dX6_edgesMany_2 : decode cX6_edgesMany 2 = .ok (.iconst 0, 1) := by decide +kernel
theorem dX6_edgesMany_3 : decode cX6_edgesMany 3 = .ok (.istore_n 2, 1) := by decide +kernel
theorem dX6_edgesMany_4 : decode cX6_edgesMany 4 = .ok (.iload_n 2, 1) := by decide +kernel
theorem dX6_edgesMany_5 : decode cX6_edgesMany 5 = .ok (.sipush 2500, 3) := by decide +kernel
theorem dX6_edgesMany_8 : decode cX6_edgesMany 8 = .ok (.if_icmp .ge 26, 3) := by decide +kernel
theorem dX6_edgesMany_11 : decode cX6_edgesMany 11 = .ok (.aload_n 0, 1) := by decide +kernel
theorem dX6_edgesMany_12 : decode cX6_edgesMany 12 = .ok (.getfield 7, 3) := by decide +kernel
theorem dX6_edgesMany_15 : decode cX6_edgesMany 15 = .ok (.iload_n 2, 1) := by decide +kernel
theorem dX6_edgesMany_16 : decode cX6_edgesMany 16 = .ok (.baload, 1) := by decide +kernel
theorem dX6_edgesMany_17 : decode cX6_edgesMany 17 = .ok (.ifCond .eq 9, 3) := by decide +kernel
theorem dX6_edgesMany_20 : decode cX6_edgesMany 20 = .ok (.iload_n 1, 1) := by decide +kernel
theorem dX6_edgesMany_21 : decode cX6_edgesMany 21 = .ok (.iconst 1, 1) := by decide +kernel
theorem dX6_edgesMany_22 : decode cX6_edgesMany 22 = .ok (.iadd, 1) := by decide +kernel
theorem dX6_edgesMany_23 : decode cX6_edgesMany 23 = .ok (.goto 4, 3) := by decide +kernel
theorem dX6_edgesMany_26 : decode cX6_edgesMany 26 = .ok (.iload_n 1, 1) := by decide +kernel
theorem dX6_edgesMany_27 : decode cX6_edgesMany 27 = .ok (.istore_n 1, 1) := by decide +kernel
theorem dX6_edgesMany_28 : decode cX6_edgesMany 28 = .ok (.iinc 2 1, 3) := by decide +kernel
theorem dX6_edgesMany_31 : decode cX6_edgesMany 31 = .ok (.goto (-27), 3) := by decide +kernel
theorem dX6_edgesMany_34 : decode cX6_edgesMany 34 = .ok (.iload_n 1, 1) := by decide +kernel
theorem dX6_edgesMany_35 : decode cX6_edgesMany 35 = .ok (.ireturn, 1) := by decide +kernel
theorem dX6_inPart_0 : decode cX6_inPart 0 = .ok (.iconst 0, 1) := by decide +kernel
theorem dX6_inPart_1 : decode cX6_inPart 1 = .ok (.istore_n 2, 1) := by decide +kernel
theorem dX6_inPart_2 : decode cX6_inPart 2 = .ok (.iconst 0, 1) := by decide +kernel
theorem dX6_inPart_3 : decode cX6_inPart 3 = .ok (.istore_n 3, 1) := by decide +kernel
theorem dX6_inPart_4 : decode cX6_inPart 4 = .ok (.iload_n 3, 1) := by decide +kernel
theorem dX6_inPart_5 : decode cX6_inPart 5 = .ok (.aload_n 0, 1) := by decide +kernel
theorem dX6_inPart_6 : decode cX6_inPart 6 = .ok (.getfield 126, 3) := by decide +kernel
theorem dX6_inPart_9 : decode cX6_inPart 9 = .ok (.if_icmp .ge 27, 3) := by decide +kernel
theorem dX6_inPart_12 : decode cX6_inPart 12 = .ok (.aload_n 0, 1) := by decide +kernel
theorem dX6_inPart_13 : decode cX6_inPart 13 = .ok (.getfield 26, 3) := by decide +kernel
theorem dX6_inPart_16 : decode cX6_inPart 16 = .ok (.iload_n 3, 1) := by decide +kernel
theorem dX6_inPart_17 : decode cX6_inPart 17 = .ok (.iaload, 1) := by decide +kernel
theorem dX6_inPart_18 : decode cX6_inPart 18 = .ok (.iload_n 1, 1) := by decide +kernel
theorem dX6_inPart_19 : decode cX6_inPart 19 = .ok (.if_icmp .ne 9, 3) := by decide +kernel
theorem dX6_inPart_22 : decode cX6_inPart 22 = .ok (.iload_n 2, 1) := by decide +kernel
theorem dX6_inPart_23 : decode cX6_inPart 23 = .ok (.iconst 1, 1) := by decide +kernel
theorem dX6_inPart_24 : decode cX6_inPart 24 = .ok (.iadd, 1) := by decide +kernel
theorem dX6_inPart_25 : decode cX6_inPart 25 = .ok (.goto 4, 3) := by decide +kernel
theorem dX6_inPart_28 : decode cX6_inPart 28 = .ok (.iload_n 2, 1) := by decide +kernel
theorem dX6_inPart_29 : decode cX6_inPart 29 = .ok (.istore_n 2, 1) := by decide +kernel
theorem dX6_inPart_30 : decode cX6_inPart 30 = .ok (.iinc 3 1, 3) := by decide +kernel
theorem dX6_inPart_33 : decode cX6_inPart 33 = .ok (.goto (-29), 3) := by decide +kernel
theorem dX6_inPart_36 : decode cX6_inPart 36 = .ok (.iconst 0, 1) := by decide +kernel
theorem dX6_inPart_37 : decode cX6_inPart 37 = .ok (.istore_n 3, 1) := by decide +kernel
theorem dX6_inPart_38 : decode cX6_inPart 38 = .ok (.iload_n 3, 1) := by decide +kernel
theorem dX6_inPart_39 : decode cX6_inPart 39 = .ok (.aload_n 0, 1) := by decide +kernel
theorem dX6_inPart_40 : decode cX6_inPart 40 = .ok (.getfield 129, 3) := by decide +kernel
theorem dX6_inPart_43 : decode cX6_inPart 43 = .ok (.if_icmp .ge 27, 3) := by decide +kernel
theorem dX6_inPart_46 : decode cX6_inPart 46 = .ok (.aload_n 0, 1) := by decide +kernel
theorem dX6_inPart_47 : decode cX6_inPart 47 = .ok (.getfield 29, 3) := by decide +kernel
theorem dX6_inPart_50 : decode cX6_inPart 50 = .ok (.iload_n 3, 1) := by decide +kernel
theorem dX6_inPart_51 : decode cX6_inPart 51 = .ok (.iaload, 1) := by decide +kernel
theorem dX6_inPart_52 : decode cX6_inPart 52 = .ok (.iload_n 1, 1) := by decide +kernel
theorem dX6_inPart_53 : decode cX6_inPart 53 = .ok (.if_icmp .ne 9, 3) := by decide +kernel
theorem dX6_inPart_56 : decode cX6_inPart 56 = .ok (.iload_n 2, 1) := by decide +kernel
theorem dX6_inPart_57 : decode cX6_inPart 57 = .ok (.iconst 1, 1) := by decide +kernel
theorem dX6_inPart_58 : decode cX6_inPart 58 = .ok (.iadd, 1) := by decide +kernel
theorem dX6_inPart_59 : decode cX6_inPart 59 = .ok (.goto 4, 3) := by decide +kernel
theorem dX6_inPart_62 : decode cX6_inPart 62 = .ok (.iload_n 2, 1) := by decide +kernel
theorem dX6_inPart_63 : decode cX6_inPart 63 = .ok (.istore_n 2, 1) := by decide +kernel
theorem dX6_inPart_64 : decode cX6_inPart 64 = .ok (.iinc 3 1, 3) := by decide +kernel
theorem dX6_inPart_67 : decode cX6_inPart 67 = .ok (.goto (-29), 3) := by decide +kernel
theorem dX6_inPart_70 : decode cX6_inPart 70 = .ok (.iload_n 2, 1) := by decide +kernel
theorem dX6_inPart_71 : decode cX6_inPart 71 = .ok (.ireturn, 1) := by decide +kernel
theorem dX6_count_0 : decode cX6_count 0 = .ok (.iload_n 1, 1) := by decide +kernel
theorem dX6_count_1 : decode cX6_count 1 = .ok (.ifCond .lt 9, 3) := by decide +kernel
theorem dX6_count_4 : decode cX6_count 4 = .ok (.iload_n 1, 1) := by decide +kernel
theorem dX6_count_5 : decode cX6_count 5 = .ok (.bipush 11, 2) := by decide +kernel
theorem dX6_count_7 : decode cX6_count 7 = .ok (.if_icmp .le 5, 3) := by decide +kernel
theorem dX6_count_10 : decode cX6_count 10 = .ok (.iconst (-1), 1) := by decide +kernel
theorem dX6_count_11 : decode cX6_count 11 = .ok (.ireturn, 1) := by decide +kernel
theorem dX6_count_12 : decode cX6_count 12 = .ok (.iload_n 1, 1) := by decide +kernel
theorem dX6_count_13 : decode cX6_count 13 = .ok (.bipush 8, 2) := by decide +kernel
theorem dX6_count_15 : decode cX6_count 15 = .ok (.if_icmp .le 10, 3) := by decide +kernel
theorem dX6_count_18 : decode cX6_count 18 = .ok (.aload_n 0, 1) := by decide +kernel
theorem dX6_count_19 : decode cX6_count 19 = .ok (.invokevirtual 164, 3) := by decide +kernel
theorem dX6_count_22 : decode cX6_count 22 = .ok (.goto 7, 3) := by decide +kernel
theorem dX6_count_25 : decode cX6_count 25 = .ok (.aload_n 0, 1) := by decide +kernel
theorem dX6_count_26 : decode cX6_count 26 = .ok (.invokevirtual 167, 3) := by decide +kernel
theorem dX6_count_29 : decode cX6_count 29 = .ok (.iload_n 1, 1) := by decide +kernel
theorem dX6_count_30 : decode cX6_count 30 = .ok (.tableswitch 111 0 10 #[58, 63, 68, 73, 78, 88, 88, 88, 96, 101, 106], 58) := by decide +kernel
theorem dX6_count_88 : decode cX6_count 88 = .ok (.aload_n 0, 1) := by decide +kernel
theorem dX6_count_89 : decode cX6_count 89 = .ok (.getfield 126, 3) := by decide +kernel
theorem dX6_count_92 : decode cX6_count 92 = .ok (.ireturn, 1) := by decide +kernel
theorem dX6_count_93 : decode cX6_count 93 = .ok (.aload_n 0, 1) := by decide +kernel
theorem dX6_count_94 : decode cX6_count 94 = .ok (.getfield 129, 3) := by decide +kernel
theorem dX6_count_97 : decode cX6_count 97 = .ok (.ireturn, 1) := by decide +kernel
theorem dX6_count_98 : decode cX6_count 98 = .ok (.aload_n 0, 1) := by decide +kernel
theorem dX6_count_99 : decode cX6_count 99 = .ok (.invokevirtual 170, 3) := by decide +kernel
theorem dX6_count_102 : decode cX6_count 102 = .ok (.ireturn, 1) := by decide +kernel
theorem dX6_count_103 : decode cX6_count 103 = .ok (.aload_n 0, 1) := by decide +kernel
theorem dX6_count_104 : decode cX6_count 104 = .ok (.getfield 143, 3) := by decide +kernel
theorem dX6_count_107 : decode cX6_count 107 = .ok (.ireturn, 1) := by decide +kernel
theorem dX6_count_108 : decode cX6_count 108 = .ok (.aload_n 0, 1) := by decide +kernel
theorem dX6_count_109 : decode cX6_count 109 = .ok (.getfield 126, 3) := by decide +kernel
theorem dX6_count_112 : decode cX6_count 112 = .ok (.aload_n 0, 1) := by decide +kernel
theorem dX6_count_113 : decode cX6_count 113 = .ok (.getfield 143, 3) := by decide +kernel
theorem dX6_count_116 : decode cX6_count 116 = .ok (.isub, 1) := by decide +kernel
theorem dX6_count_117 : decode cX6_count 117 = .ok (.ireturn, 1) := by decide +kernel
theorem dX6_count_118 : decode cX6_count 118 = .ok (.aload_n 0, 1) := by decide +kernel
theorem dX6_count_119 : decode cX6_count 119 = .ok (.iload_n 1, 1) := by decide +kernel
theorem dX6_count_120 : decode cX6_count 120 = .ok (.iconst 5, 1) := by decide +kernel
theorem dX6_count_121 : decode cX6_count 121 = .ok (.isub, 1) := by decide +kernel
theorem dX6_count_122 : decode cX6_count 122 = .ok (.invokevirtual 173, 3) := by decide +kernel
theorem dX6_count_125 : decode cX6_count 125 = .ok (.ireturn, 1) := by decide +kernel
theorem dX6_count_126 : decode cX6_count 126 = .ok (.aload_n 0, 1) := by decide +kernel
theorem dX6_count_127 : decode cX6_count 127 = .ok (.getfield 159, 3) := by decide +kernel
theorem dX6_count_130 : decode cX6_count 130 = .ok (.ireturn, 1) := by decide +kernel
theorem dX6_count_131 : decode cX6_count 131 = .ok (.aload_n 0, 1) := by decide +kernel
theorem dX6_count_132 : decode cX6_count 132 = .ok (.getfield 177, 3) := by decide +kernel
theorem dX6_count_135 : decode cX6_count 135 = .ok (.ireturn, 1) := by decide +kernel
theorem dX6_count_136 : decode cX6_count 136 = .ok (.aload_n 0, 1) := by decide +kernel
theorem dX6_count_137 : decode cX6_count 137 = .ok (.getfield 180, 3) := by decide +kernel
theorem dX6_count_140 : decode cX6_count 140 = .ok (.ireturn, 1) := by decide +kernel
theorem dX6_count_141 : decode cX6_count 141 = .ok (.iconst 0, 1) := by decide +kernel
theorem dX6_count_142 : decode cX6_count 142 = .ok (.istore_n 2, 1) := by decide +kernel
theorem dX6_count_143 : decode cX6_count 143 = .ok (.iconst 0, 1) := by decide +kernel
theorem dX6_count_144 : decode cX6_count 144 = .ok (.istore_n 3, 1) := by decide +kernel
theorem dX6_count_145 : decode cX6_count 145 = .ok (.iload_n 3, 1) := by decide +kernel
theorem dX6_count_146 : decode cX6_count 146 = .ok (.aload_n 0, 1) := by decide +kernel
theorem dX6_count_147 : decode cX6_count 147 = .ok (.getfield 177, 3) := by decide +kernel
theorem dX6_count_150 : decode cX6_count 150 = .ok (.if_icmp .ge 34, 3) := by decide +kernel
theorem dX6_count_153 : decode cX6_count 153 = .ok (.aload_n 0, 1) := by decide +kernel
theorem dX6_count_154 : decode cX6_count 154 = .ok (.getfield 52, 3) := by decide +kernel
theorem dX6_count_157 : decode cX6_count 157 = .ok (.iload_n 3, 1) := by decide +kernel
theorem dX6_count_158 : decode cX6_count 158 = .ok (.iaload, 1) := by decide +kernel
theorem dX6_count_159 : decode cX6_count 159 = .ok (.iconst 1, 1) := by decide +kernel
theorem dX6_count_160 : decode cX6_count 160 = .ok (.iadd, 1) := by decide +kernel
theorem dX6_count_161 : decode cX6_count 161 = .ok (.iload_n 2, 1) := by decide +kernel
theorem dX6_count_162 : decode cX6_count 162 = .ok (.if_icmp .le 14, 3) := by decide +kernel
theorem dX6_count_165 : decode cX6_count 165 = .ok (.aload_n 0, 1) := by decide +kernel
theorem dX6_count_166 : decode cX6_count 166 = .ok (.getfield 52, 3) := by decide +kernel
theorem dX6_count_169 : decode cX6_count 169 = .ok (.iload_n 3, 1) := by decide +kernel
theorem dX6_count_170 : decode cX6_count 170 = .ok (.iaload, 1) := by decide +kernel
theorem dX6_count_171 : decode cX6_count 171 = .ok (.iconst 1, 1) := by decide +kernel
theorem dX6_count_172 : decode cX6_count 172 = .ok (.iadd, 1) := by decide +kernel
theorem dX6_count_173 : decode cX6_count 173 = .ok (.goto 4, 3) := by decide +kernel
theorem dX6_count_176 : decode cX6_count 176 = .ok (.iload_n 2, 1) := by decide +kernel
theorem dX6_count_177 : decode cX6_count 177 = .ok (.istore_n 2, 1) := by decide +kernel
theorem dX6_count_178 : decode cX6_count 178 = .ok (.iinc 3 1, 3) := by decide +kernel
theorem dX6_count_181 : decode cX6_count 181 = .ok (.goto (-36), 3) := by decide +kernel
theorem dX6_count_184 : decode cX6_count 184 = .ok (.iload_n 2, 1) := by decide +kernel
theorem dX6_count_185 : decode cX6_count 185 = .ok (.ireturn, 1) := by decide +kernel
theorem dX6_has_0 : decode cX6_has 0 = .ok (.aload_n 0, 1) := by decide +kernel
theorem dX6_has_1 : decode cX6_has 1 = .ok (.iconst 0, 1) := by decide +kernel
theorem dX6_has_2 : decode cX6_has 2 = .ok (.iload_n 1, 1) := by decide +kernel
theorem dX6_has_3 : decode cX6_has 3 = .ok (.invokevirtual 161, 3) := by decide +kernel
theorem dX6_has_6 : decode cX6_has 6 = .ok (.ifCond .eq 30, 3) := by decide +kernel
theorem dX6_has_9 : decode cX6_has 9 = .ok (.aload_n 0, 1) := by decide +kernel
theorem dX6_has_10 : decode cX6_has 10 = .ok (.iconst 1, 1) := by decide +kernel
theorem dX6_has_11 : decode cX6_has 11 = .ok (.iload_n 2, 1) := by decide +kernel
theorem dX6_has_12 : decode cX6_has 12 = .ok (.invokevirtual 161, 3) := by decide +kernel
theorem dX6_has_15 : decode cX6_has 15 = .ok (.ifCond .eq 21, 3) := by decide +kernel
theorem dX6_has_18 : decode cX6_has 18 = .ok (.aload_n 0, 1) := by decide +kernel
theorem dX6_has_19 : decode cX6_has 19 = .ok (.getfield 7, 3) := by decide +kernel
theorem dX6_has_22 : decode cX6_has 22 = .ok (.bipush 50, 2) := by decide +kernel
theorem dX6_has_24 : decode cX6_has 24 = .ok (.iload_n 1, 1) := by decide +kernel
theorem dX6_has_25 : decode cX6_has 25 = .ok (.imul, 1) := by decide +kernel
theorem dX6_has_26 : decode cX6_has 26 = .ok (.iload_n 2, 1) := by decide +kernel
theorem dX6_has_27 : decode cX6_has 27 = .ok (.iadd, 1) := by decide +kernel
theorem dX6_has_28 : decode cX6_has 28 = .ok (.baload, 1) := by decide +kernel
theorem dX6_has_29 : decode cX6_has 29 = .ok (.ifCond .eq 7, 3) := by decide +kernel
theorem dX6_has_32 : decode cX6_has 32 = .ok (.iconst 1, 1) := by decide +kernel
theorem dX6_has_33 : decode cX6_has 33 = .ok (.goto 4, 3) := by decide +kernel
theorem dX6_has_36 : decode cX6_has 36 = .ok (.iconst 0, 1) := by decide +kernel
theorem dX6_has_37 : decode cX6_has 37 = .ok (.ireturn, 1) := by decide +kernel
theorem dX6_partner_0 : decode cX6_partner 0 = .ok (.aload_n 0, 1) := by decide +kernel
theorem dX6_partner_1 : decode cX6_partner 1 = .ok (.iload_n 1, 1) := by decide +kernel
theorem dX6_partner_2 : decode cX6_partner 2 = .ok (.iload_n 2, 1) := by decide +kernel
theorem dX6_partner_3 : decode cX6_partner 3 = .ok (.invokevirtual 161, 3) := by decide +kernel
theorem dX6_partner_6 : decode cX6_partner 6 = .ok (.ifCond .ne 5, 3) := by decide +kernel
theorem dX6_partner_9 : decode cX6_partner 9 = .ok (.iconst (-1), 1) := by decide +kernel
theorem dX6_partner_10 : decode cX6_partner 10 = .ok (.ireturn, 1) := by decide +kernel
theorem dX6_partner_11 : decode cX6_partner 11 = .ok (.aload_n 0, 1) := by decide +kernel
theorem dX6_partner_12 : decode cX6_partner 12 = .ok (.invokevirtual 167, 3) := by decide +kernel
theorem dX6_partner_15 : decode cX6_partner 15 = .ok (.iload_n 1, 1) := by decide +kernel
theorem dX6_partner_16 : decode cX6_partner 16 = .ok (.ifCond .ne 12, 3) := by decide +kernel
theorem dX6_partner_19 : decode cX6_partner 19 = .ok (.aload_n 0, 1) := by decide +kernel
theorem dX6_partner_20 : decode cX6_partner 20 = .ok (.getfield 13, 3) := by decide +kernel
theorem dX6_partner_23 : decode cX6_partner 23 = .ok (.iload_n 2, 1) := by decide +kernel
theorem dX6_partner_24 : decode cX6_partner 24 = .ok (.iaload, 1) := by decide +kernel
theorem dX6_partner_25 : decode cX6_partner 25 = .ok (.goto 9, 3) := by decide +kernel
theorem dX6_partner_28 : decode cX6_partner 28 = .ok (.aload_n 0, 1) := by decide +kernel
theorem dX6_partner_29 : decode cX6_partner 29 = .ok (.getfield 17, 3) := by decide +kernel
theorem dX6_partner_32 : decode cX6_partner 32 = .ok (.iload_n 2, 1) := by decide +kernel
theorem dX6_partner_33 : decode cX6_partner 33 = .ok (.iaload, 1) := by decide +kernel
theorem dX6_partner_34 : decode cX6_partner 34 = .ok (.istore_n 3, 1) := by decide +kernel
theorem dX6_partner_35 : decode cX6_partner 35 = .ok (.iload_n 3, 1) := by decide +kernel
theorem dX6_partner_36 : decode cX6_partner 36 = .ok (.ifCond .ge 8, 3) := by decide +kernel
theorem dX6_partner_39 : decode cX6_partner 39 = .ok (.bipush (-3), 2) := by decide +kernel
theorem dX6_partner_41 : decode cX6_partner 41 = .ok (.goto 4, 3) := by decide +kernel
theorem dX6_partner_44 : decode cX6_partner 44 = .ok (.iload_n 3, 1) := by decide +kernel
theorem dX6_partner_45 : decode cX6_partner 45 = .ok (.ireturn, 1) := by decide +kernel
theorem dX6_edgeIs_0 : decode cX6_edgeIs 0 = .ok (.aload_n 0, 1) := by decide +kernel
theorem dX6_edgeIs_1 : decode cX6_edgeIs 1 = .ok (.iload_n 1, 1) := by decide +kernel
theorem dX6_edgeIs_2 : decode cX6_edgeIs 2 = .ok (.iload_n 2, 1) := by decide +kernel
theorem dX6_edgeIs_3 : decode cX6_edgeIs 3 = .ok (.invokevirtual 183, 3) := by decide +kernel
theorem dX6_edgeIs_6 : decode cX6_edgeIs 6 = .ok (.ifCond .ne 5, 3) := by decide +kernel
theorem dX6_edgeIs_9 : decode cX6_edgeIs 9 = .ok (.iconst (-1), 1) := by decide +kernel
theorem dX6_edgeIs_10 : decode cX6_edgeIs 10 = .ok (.ireturn, 1) := by decide +kernel
theorem dX6_edgeIs_11 : decode cX6_edgeIs 11 = .ok (.aload_n 0, 1) := by decide +kernel
theorem dX6_edgeIs_12 : decode cX6_edgeIs 12 = .ok (.invokevirtual 167, 3) := by decide +kernel
theorem dX6_edgeIs_15 : decode cX6_edgeIs 15 = .ok (.aload_n 0, 1) := by decide +kernel
theorem dX6_edgeIs_16 : decode cX6_edgeIs 16 = .ok (.aload_n 0, 1) := by decide +kernel
theorem dX6_edgeIs_17 : decode cX6_edgeIs 17 = .ok (.getfield 7, 3) := by decide +kernel
theorem dX6_edgeIs_20 : decode cX6_edgeIs 20 = .ok (.aload_n 0, 1) := by decide +kernel
theorem dX6_edgeIs_21 : decode cX6_edgeIs 21 = .ok (.getfield 126, 3) := by decide +kernel
theorem dX6_edgeIs_24 : decode cX6_edgeIs 24 = .ok (.aload_n 0, 1) := by decide +kernel
theorem dX6_edgeIs_25 : decode cX6_edgeIs 25 = .ok (.getfield 129, 3) := by decide +kernel
theorem dX6_edgeIs_28 : decode cX6_edgeIs 28 = .ok (.invokevirtual 132, 3) := by decide +kernel
theorem dX6_edgeIs_31 : decode cX6_edgeIs 31 = .ok (.aload_n 0, 1) := by decide +kernel
theorem dX6_edgeIs_32 : decode cX6_edgeIs 32 = .ok (.invokevirtual 136, 3) := by decide +kernel
theorem dX6_edgeIs_35 : decode cX6_edgeIs 35 = .ok (.istore_n 3, 1) := by decide +kernel
theorem dX6_edgeIs_36 : decode cX6_edgeIs 36 = .ok (.aload_n 0, 1) := by decide +kernel
theorem dX6_edgeIs_37 : decode cX6_edgeIs 37 = .ok (.iload_n 1, 1) := by decide +kernel
theorem dX6_edgeIs_38 : decode cX6_edgeIs 38 = .ok (.iload_n 2, 1) := by decide +kernel
theorem dX6_edgeIs_39 : decode cX6_edgeIs 39 = .ok (.invokevirtual 118, 3) := by decide +kernel
theorem dX6_edgeIs_42 : decode cX6_edgeIs 42 = .ok (.ifCond .ne 5, 3) := by decide +kernel
theorem dX6_edgeIs_45 : decode cX6_edgeIs 45 = .ok (.iconst 0, 1) := by decide +kernel
theorem dX6_edgeIs_46 : decode cX6_edgeIs 46 = .ok (.ireturn, 1) := by decide +kernel
theorem dX6_edgeIs_47 : decode cX6_edgeIs 47 = .ok (.aload_n 0, 1) := by decide +kernel
theorem dX6_edgeIs_48 : decode cX6_edgeIs 48 = .ok (.getfield 64, 3) := by decide +kernel
theorem dX6_edgeIs_51 : decode cX6_edgeIs 51 = .ok (.bipush 50, 2) := by decide +kernel
theorem dX6_edgeIs_53 : decode cX6_edgeIs 53 = .ok (.iload_n 1, 1) := by decide +kernel
theorem dX6_edgeIs_54 : decode cX6_edgeIs 54 = .ok (.imul, 1) := by decide +kernel
theorem dX6_edgeIs_55 : decode cX6_edgeIs 55 = .ok (.iload_n 2, 1) := by decide +kernel
theorem dX6_edgeIs_56 : decode cX6_edgeIs 56 = .ok (.iadd, 1) := by decide +kernel
theorem dX6_edgeIs_57 : decode cX6_edgeIs 57 = .ok (.iconst 0, 1) := by decide +kernel
theorem dX6_edgeIs_58 : decode cX6_edgeIs 58 = .ok (.bastore, 1) := by decide +kernel
theorem dX6_edgeIs_59 : decode cX6_edgeIs 59 = .ok (.aload_n 0, 1) := by decide +kernel
theorem dX6_edgeIs_60 : decode cX6_edgeIs 60 = .ok (.getfield 73, 3) := by decide +kernel
theorem dX6_edgeIs_63 : decode cX6_edgeIs 63 = .ok (.iload_n 1, 1) := by decide +kernel
theorem dX6_edgeIs_64 : decode cX6_edgeIs 64 = .ok (.iconst (-1), 1) := by decide +kernel
theorem dX6_edgeIs_65 : decode cX6_edgeIs 65 = .ok (.iastore, 1) := by decide +kernel
theorem dX6_edgeIs_66 : decode cX6_edgeIs 66 = .ok (.aload_n 0, 1) := by decide +kernel
theorem dX6_edgeIs_67 : decode cX6_edgeIs 67 = .ok (.getfield 76, 3) := by decide +kernel
theorem dX6_edgeIs_70 : decode cX6_edgeIs 70 = .ok (.iload_n 2, 1) := by decide +kernel
theorem dX6_edgeIs_71 : decode cX6_edgeIs 71 = .ok (.iconst (-1), 1) := by decide +kernel
theorem dX6_edgeIs_72 : decode cX6_edgeIs 72 = .ok (.iastore, 1) := by decide +kernel
theorem dX6_edgeIs_73 : decode cX6_edgeIs 73 = .ok (.aload_n 0, 1) := by decide +kernel
theorem dX6_edgeIs_74 : decode cX6_edgeIs 74 = .ok (.invokevirtual 108, 3) := by decide +kernel
theorem dX6_edgeIs_77 : decode cX6_edgeIs 77 = .ok (.ifCond .eq 7, 3) := by decide +kernel
theorem dX6_edgeIs_80 : decode cX6_edgeIs 80 = .ok (.iconst 1, 1) := by decide +kernel
theorem dX6_edgeIs_81 : decode cX6_edgeIs 81 = .ok (.goto 4, 3) := by decide +kernel
theorem dX6_edgeIs_84 : decode cX6_edgeIs 84 = .ok (.iconst 2, 1) := by decide +kernel
theorem dX6_edgeIs_85 : decode cX6_edgeIs 85 = .ok (.ireturn, 1) := by decide +kernel
end
section
theorem dX6_nodeIs_0 : decode cX6_nodeIs 0 = .ok (.aload_n 0, 1) := by decide +kernel
theorem dX6_nodeIs_1 : decode cX6_nodeIs 1 = .ok (.iload_n 1, 1) := by decide +kernel
theorem dX6_nodeIs_2 : decode cX6_nodeIs 2 = .ok (.iload_n 2, 1) := by decide +kernel
theorem dX6_nodeIs_3 : decode cX6_nodeIs 3 = .ok (.invokevirtual 161, 3) := by decide +kernel
theorem dX6_nodeIs_6 : decode cX6_nodeIs 6 = .ok (.ifCond .ne 5, 3) := by decide +kernel
theorem dX6_nodeIs_9 : decode cX6_nodeIs 9 = .ok (.iconst (-1), 1) := by decide +kernel
theorem dX6_nodeIs_10 : decode cX6_nodeIs 10 = .ok (.ireturn, 1) := by decide +kernel
theorem dX6_nodeIs_11 : decode cX6_nodeIs 11 = .ok (.aload_n 0, 1) := by decide +kernel
theorem dX6_nodeIs_12 : decode cX6_nodeIs 12 = .ok (.invokevirtual 167, 3) := by decide +kernel
theorem dX6_nodeIs_15 : decode cX6_nodeIs 15 = .ok (.iload_n 1, 1) := by decide +kernel
theorem dX6_nodeIs_16 : decode cX6_nodeIs 16 = .ok (.ifCond .ne 15, 3) := by decide +kernel
theorem dX6_nodeIs_19 : decode cX6_nodeIs 19 = .ok (.aload_n 0, 1) := by decide +kernel
theorem dX6_nodeIs_20 : decode cX6_nodeIs 20 = .ok (.getfield 20, 3) := by decide +kernel
theorem dX6_nodeIs_23 : decode cX6_nodeIs 23 = .ok (.iload_n 2, 1) := by decide +kernel
theorem dX6_nodeIs_24 : decode cX6_nodeIs 24 = .ok (.baload, 1) := by decide +kernel
theorem dX6_nodeIs_25 : decode cX6_nodeIs 25 = .ok (.ifCond .eq 19, 3) := by decide +kernel
theorem dX6_nodeIs_28 : decode cX6_nodeIs 28 = .ok (.goto 12, 3) := by decide +kernel
theorem dX6_nodeIs_31 : decode cX6_nodeIs 31 = .ok (.aload_n 0, 1) := by decide +kernel
theorem dX6_nodeIs_32 : decode cX6_nodeIs 32 = .ok (.getfield 23, 3) := by decide +kernel
theorem dX6_nodeIs_35 : decode cX6_nodeIs 35 = .ok (.iload_n 2, 1) := by decide +kernel
theorem dX6_nodeIs_36 : decode cX6_nodeIs 36 = .ok (.baload, 1) := by decide +kernel
theorem dX6_nodeIs_37 : decode cX6_nodeIs 37 = .ok (.ifCond .eq 7, 3) := by decide +kernel
theorem dX6_nodeIs_40 : decode cX6_nodeIs 40 = .ok (.iconst 0, 1) := by decide +kernel
theorem dX6_nodeIs_41 : decode cX6_nodeIs 41 = .ok (.goto 4, 3) := by decide +kernel
theorem dX6_nodeIs_44 : decode cX6_nodeIs 44 = .ok (.iconst 1, 1) := by decide +kernel
theorem dX6_nodeIs_45 : decode cX6_nodeIs 45 = .ok (.ireturn, 1) := by decide +kernel
theorem dX6_meetsMissed_0 : decode cX6_meetsMissed 0 = .ok (.iconst 0, 1) := by decide +kernel
theorem dX6_meetsMissed_1 : decode cX6_meetsMissed 1 = .ok (.istore_n 3, 1) := by decide +kernel
theorem dX6_meetsMissed_2 : decode cX6_meetsMissed 2 = .ok (.iconst 0, 1) := by decide +kernel
theorem dX6_meetsMissed_3 : decode cX6_meetsMissed 3 = .ok (.istore 4, 2) := by decide +kernel
theorem dX6_meetsMissed_5 : decode cX6_meetsMissed 5 = .ok (.iload 4, 2) := by decide +kernel
theorem dX6_meetsMissed_7 : decode cX6_meetsMissed 7 = .ok (.iload_n 1, 1) := by decide +kernel
theorem dX6_meetsMissed_8 : decode cX6_meetsMissed 8 = .ok (.ifCond .ne 10, 3) := by decide +kernel
theorem dX6_meetsMissed_11 : decode cX6_meetsMissed 11 = .ok (.aload_n 0, 1) := by decide +kernel
theorem dX6_meetsMissed_12 : decode cX6_meetsMissed 12 = .ok (.getfield 129, 3) := by decide +kernel
theorem dX6_meetsMissed_15 : decode cX6_meetsMissed 15 = .ok (.goto 7, 3) := by decide +kernel
theorem dX6_meetsMissed_18 : decode cX6_meetsMissed 18 = .ok (.aload_n 0, 1) := by decide +kernel
theorem dX6_meetsMissed_19 : decode cX6_meetsMissed 19 = .ok (.getfield 126, 3) := by decide +kernel
theorem dX6_meetsMissed_22 : decode cX6_meetsMissed 22 = .ok (.if_icmp .ge 84, 3) := by decide +kernel
theorem dX6_meetsMissed_25 : decode cX6_meetsMissed 25 = .ok (.iload_n 1, 1) := by decide +kernel
theorem dX6_meetsMissed_26 : decode cX6_meetsMissed 26 = .ok (.ifCond .ne 18, 3) := by decide +kernel
theorem dX6_meetsMissed_29 : decode cX6_meetsMissed 29 = .ok (.aload_n 0, 1) := by decide +kernel
theorem dX6_meetsMissed_30 : decode cX6_meetsMissed 30 = .ok (.getfield 7, 3) := by decide +kernel
theorem dX6_meetsMissed_33 : decode cX6_meetsMissed 33 = .ok (.bipush 50, 2) := by decide +kernel
theorem dX6_meetsMissed_35 : decode cX6_meetsMissed 35 = .ok (.iload_n 2, 1) := by decide +kernel
theorem dX6_meetsMissed_36 : decode cX6_meetsMissed 36 = .ok (.imul, 1) := by decide +kernel
theorem dX6_meetsMissed_37 : decode cX6_meetsMissed 37 = .ok (.iload 4, 2) := by decide +kernel
theorem dX6_meetsMissed_39 : decode cX6_meetsMissed 39 = .ok (.iadd, 1) := by decide +kernel
theorem dX6_meetsMissed_40 : decode cX6_meetsMissed 40 = .ok (.baload, 1) := by decide +kernel
theorem dX6_meetsMissed_41 : decode cX6_meetsMissed 41 = .ok (.goto 15, 3) := by decide +kernel
theorem dX6_meetsMissed_44 : decode cX6_meetsMissed 44 = .ok (.aload_n 0, 1) := by decide +kernel
theorem dX6_meetsMissed_45 : decode cX6_meetsMissed 45 = .ok (.getfield 7, 3) := by decide +kernel
theorem dX6_meetsMissed_48 : decode cX6_meetsMissed 48 = .ok (.bipush 50, 2) := by decide +kernel
theorem dX6_meetsMissed_50 : decode cX6_meetsMissed 50 = .ok (.iload 4, 2) := by decide +kernel
theorem dX6_meetsMissed_52 : decode cX6_meetsMissed 52 = .ok (.imul, 1) := by decide +kernel
theorem dX6_meetsMissed_53 : decode cX6_meetsMissed 53 = .ok (.iload_n 2, 1) := by decide +kernel
theorem dX6_meetsMissed_54 : decode cX6_meetsMissed 54 = .ok (.iadd, 1) := by decide +kernel
theorem dX6_meetsMissed_55 : decode cX6_meetsMissed 55 = .ok (.baload, 1) := by decide +kernel
theorem dX6_meetsMissed_56 : decode cX6_meetsMissed 56 = .ok (.istore 5, 2) := by decide +kernel
theorem dX6_meetsMissed_58 : decode cX6_meetsMissed 58 = .ok (.iload_n 3, 1) := by decide +kernel
theorem dX6_meetsMissed_59 : decode cX6_meetsMissed 59 = .ok (.ifCond .ne 35, 3) := by decide +kernel
theorem dX6_meetsMissed_62 : decode cX6_meetsMissed 62 = .ok (.iload 5, 2) := by decide +kernel
theorem dX6_meetsMissed_64 : decode cX6_meetsMissed 64 = .ok (.ifCond .eq 34, 3) := by decide +kernel
theorem dX6_meetsMissed_67 : decode cX6_meetsMissed 67 = .ok (.iload_n 1, 1) := by decide +kernel
theorem dX6_meetsMissed_68 : decode cX6_meetsMissed 68 = .ok (.ifCond .ne 16, 3) := by decide +kernel
theorem dX6_meetsMissed_71 : decode cX6_meetsMissed 71 = .ok (.aload_n 0, 1) := by decide +kernel
theorem dX6_meetsMissed_72 : decode cX6_meetsMissed 72 = .ok (.getfield 23, 3) := by decide +kernel
theorem dX6_meetsMissed_75 : decode cX6_meetsMissed 75 = .ok (.iload 4, 2) := by decide +kernel
theorem dX6_meetsMissed_77 : decode cX6_meetsMissed 77 = .ok (.baload, 1) := by decide +kernel
theorem dX6_meetsMissed_78 : decode cX6_meetsMissed 78 = .ok (.ifCond .eq 20, 3) := by decide +kernel
theorem dX6_meetsMissed_81 : decode cX6_meetsMissed 81 = .ok (.goto 13, 3) := by decide +kernel
theorem dX6_meetsMissed_84 : decode cX6_meetsMissed 84 = .ok (.aload_n 0, 1) := by decide +kernel
theorem dX6_meetsMissed_85 : decode cX6_meetsMissed 85 = .ok (.getfield 20, 3) := by decide +kernel
theorem dX6_meetsMissed_88 : decode cX6_meetsMissed 88 = .ok (.iload 4, 2) := by decide +kernel
theorem dX6_meetsMissed_90 : decode cX6_meetsMissed 90 = .ok (.baload, 1) := by decide +kernel
theorem dX6_meetsMissed_91 : decode cX6_meetsMissed 91 = .ok (.ifCond .eq 7, 3) := by decide +kernel
theorem dX6_meetsMissed_94 : decode cX6_meetsMissed 94 = .ok (.iconst 1, 1) := by decide +kernel
theorem dX6_meetsMissed_95 : decode cX6_meetsMissed 95 = .ok (.goto 4, 3) := by decide +kernel
theorem dX6_meetsMissed_98 : decode cX6_meetsMissed 98 = .ok (.iconst 0, 1) := by decide +kernel
theorem dX6_meetsMissed_99 : decode cX6_meetsMissed 99 = .ok (.istore_n 3, 1) := by decide +kernel
theorem dX6_meetsMissed_100 : decode cX6_meetsMissed 100 = .ok (.iinc 4 1, 3) := by decide +kernel
theorem dX6_meetsMissed_103 : decode cX6_meetsMissed 103 = .ok (.goto (-98), 3) := by decide +kernel
theorem dX6_meetsMissed_106 : decode cX6_meetsMissed 106 = .ok (.iload_n 3, 1) := by decide +kernel
theorem dX6_meetsMissed_107 : decode cX6_meetsMissed 107 = .ok (.ireturn, 1) := by decide +kernel
theorem dX6_covers_0 : decode cX6_covers 0 = .ok (.iload_n 1, 1) := by decide +kernel
theorem dX6_covers_1 : decode cX6_covers 1 = .ok (.iload_n 2, 1) := by decide +kernel
theorem dX6_covers_2 : decode cX6_covers 2 = .ok (.if_icmp .ne 39, 3) := by decide +kernel
theorem dX6_covers_5 : decode cX6_covers 5 = .ok (.iload_n 2, 1) := by decide +kernel
theorem dX6_covers_6 : decode cX6_covers 6 = .ok (.ifCond .ne 20, 3) := by decide +kernel
theorem dX6_covers_9 : decode cX6_covers 9 = .ok (.aload_n 0, 1) := by decide +kernel
theorem dX6_covers_10 : decode cX6_covers 10 = .ok (.getfield 20, 3) := by decide +kernel
theorem dX6_covers_13 : decode cX6_covers 13 = .ok (.iload_n 3, 1) := by decide +kernel
theorem dX6_covers_14 : decode cX6_covers 14 = .ok (.baload, 1) := by decide +kernel
theorem dX6_covers_15 : decode cX6_covers 15 = .ok (.ifCond .ne 7, 3) := by decide +kernel
theorem dX6_covers_18 : decode cX6_covers 18 = .ok (.iconst 1, 1) := by decide +kernel
theorem dX6_covers_19 : decode cX6_covers 19 = .ok (.goto 21, 3) := by decide +kernel
theorem dX6_covers_22 : decode cX6_covers 22 = .ok (.iconst 0, 1) := by decide +kernel
theorem dX6_covers_23 : decode cX6_covers 23 = .ok (.goto 17, 3) := by decide +kernel
theorem dX6_covers_26 : decode cX6_covers 26 = .ok (.aload_n 0, 1) := by decide +kernel
theorem dX6_covers_27 : decode cX6_covers 27 = .ok (.getfield 23, 3) := by decide +kernel
theorem dX6_covers_30 : decode cX6_covers 30 = .ok (.iload_n 3, 1) := by decide +kernel
theorem dX6_covers_31 : decode cX6_covers 31 = .ok (.baload, 1) := by decide +kernel
theorem dX6_covers_32 : decode cX6_covers 32 = .ok (.ifCond .ne 7, 3) := by decide +kernel
theorem dX6_covers_35 : decode cX6_covers 35 = .ok (.iconst 1, 1) := by decide +kernel
theorem dX6_covers_36 : decode cX6_covers 36 = .ok (.goto 4, 3) := by decide +kernel
theorem dX6_covers_39 : decode cX6_covers 39 = .ok (.iconst 0, 1) := by decide +kernel
theorem dX6_covers_40 : decode cX6_covers 40 = .ok (.ireturn, 1) := by decide +kernel
theorem dX6_covers_41 : decode cX6_covers 41 = .ok (.aload_n 0, 1) := by decide +kernel
theorem dX6_covers_42 : decode cX6_covers 42 = .ok (.iload_n 2, 1) := by decide +kernel
theorem dX6_covers_43 : decode cX6_covers 43 = .ok (.iload_n 3, 1) := by decide +kernel
theorem dX6_covers_44 : decode cX6_covers 44 = .ok (.invokevirtual 186, 3) := by decide +kernel
theorem dX6_covers_47 : decode cX6_covers 47 = .ok (.ireturn, 1) := by decide +kernel
theorem dX6_cover_0 : decode cX6_cover 0 = .ok (.iload_n 1, 1) := by decide +kernel
theorem dX6_cover_1 : decode cX6_cover 1 = .ok (.ifCond .eq 8, 3) := by decide +kernel
theorem dX6_cover_4 : decode cX6_cover 4 = .ok (.iload_n 1, 1) := by decide +kernel
theorem dX6_cover_5 : decode cX6_cover 5 = .ok (.iconst 1, 1) := by decide +kernel
theorem dX6_cover_6 : decode cX6_cover 6 = .ok (.if_icmp .ne 12, 3) := by decide +kernel
theorem dX6_cover_9 : decode cX6_cover 9 = .ok (.aload_n 0, 1) := by decide +kernel
theorem dX6_cover_10 : decode cX6_cover 10 = .ok (.iload_n 2, 1) := by decide +kernel
theorem dX6_cover_11 : decode cX6_cover 11 = .ok (.iload_n 3, 1) := by decide +kernel
theorem dX6_cover_12 : decode cX6_cover 12 = .ok (.invokevirtual 161, 3) := by decide +kernel
theorem dX6_cover_15 : decode cX6_cover 15 = .ok (.ifCond .ne 5, 3) := by decide +kernel
theorem dX6_cover_18 : decode cX6_cover 18 = .ok (.iconst (-1), 1) := by decide +kernel
theorem dX6_cover_19 : decode cX6_cover 19 = .ok (.ireturn, 1) := by decide +kernel
theorem dX6_cover_20 : decode cX6_cover 20 = .ok (.aload_n 0, 1) := by decide +kernel
theorem dX6_cover_21 : decode cX6_cover 21 = .ok (.invokevirtual 167, 3) := by decide +kernel
theorem dX6_cover_24 : decode cX6_cover 24 = .ok (.aload_n 0, 1) := by decide +kernel
theorem dX6_cover_25 : decode cX6_cover 25 = .ok (.iload_n 1, 1) := by decide +kernel
theorem dX6_cover_26 : decode cX6_cover 26 = .ok (.iload_n 2, 1) := by decide +kernel
theorem dX6_cover_27 : decode cX6_cover 27 = .ok (.iload_n 3, 1) := by decide +kernel
theorem dX6_cover_28 : decode cX6_cover 28 = .ok (.invokevirtual 189, 3) := by decide +kernel
theorem dX6_cover_31 : decode cX6_cover 31 = .ok (.ifCond .eq 7, 3) := by decide +kernel
theorem dX6_cover_34 : decode cX6_cover 34 = .ok (.iconst 1, 1) := by decide +kernel
theorem dX6_cover_35 : decode cX6_cover 35 = .ok (.goto 4, 3) := by decide +kernel
theorem dX6_cover_38 : decode cX6_cover 38 = .ok (.iconst 0, 1) := by decide +kernel
theorem dX6_cover_39 : decode cX6_cover 39 = .ok (.ireturn, 1) := by decide +kernel
theorem dX6_hall_0 : decode cX6_hall 0 = .ok (.iload_n 1, 1) := by decide +kernel
theorem dX6_hall_1 : decode cX6_hall 1 = .ok (.ifCond .eq 8, 3) := by decide +kernel
theorem dX6_hall_4 : decode cX6_hall 4 = .ok (.iload_n 1, 1) := by decide +kernel
theorem dX6_hall_5 : decode cX6_hall 5 = .ok (.iconst 1, 1) := by decide +kernel
theorem dX6_hall_6 : decode cX6_hall 6 = .ok (.if_icmp .ne 12, 3) := by decide +kernel
theorem dX6_hall_9 : decode cX6_hall 9 = .ok (.aload_n 0, 1) := by decide +kernel
theorem dX6_hall_10 : decode cX6_hall 10 = .ok (.iconst 0, 1) := by decide +kernel
theorem dX6_hall_11 : decode cX6_hall 11 = .ok (.iload_n 2, 1) := by decide +kernel
theorem dX6_hall_12 : decode cX6_hall 12 = .ok (.invokevirtual 161, 3) := by decide +kernel
theorem dX6_hall_15 : decode cX6_hall 15 = .ok (.ifCond .ne 5, 3) := by decide +kernel
theorem dX6_hall_18 : decode cX6_hall 18 = .ok (.iconst (-1), 1) := by decide +kernel
theorem dX6_hall_19 : decode cX6_hall 19 = .ok (.ireturn, 1) := by decide +kernel
theorem dX6_hall_20 : decode cX6_hall 20 = .ok (.aload_n 0, 1) := by decide +kernel
theorem dX6_hall_21 : decode cX6_hall 21 = .ok (.invokevirtual 167, 3) := by decide +kernel
theorem dX6_hall_24 : decode cX6_hall 24 = .ok (.aload_n 0, 1) := by decide +kernel
theorem dX6_hall_25 : decode cX6_hall 25 = .ok (.iload_n 1, 1) := by decide +kernel
theorem dX6_hall_26 : decode cX6_hall 26 = .ok (.iconst 0, 1) := by decide +kernel
theorem dX6_hall_27 : decode cX6_hall 27 = .ok (.iload_n 2, 1) := by decide +kernel
theorem dX6_hall_28 : decode cX6_hall 28 = .ok (.invokevirtual 189, 3) := by decide +kernel
theorem dX6_hall_31 : decode cX6_hall 31 = .ok (.ifCond .eq 7, 3) := by decide +kernel
theorem dX6_hall_34 : decode cX6_hall 34 = .ok (.iconst 0, 1) := by decide +kernel
theorem dX6_hall_35 : decode cX6_hall 35 = .ok (.goto 4, 3) := by decide +kernel
theorem dX6_hall_38 : decode cX6_hall 38 = .ok (.iconst 1, 1) := by decide +kernel
theorem dX6_hall_39 : decode cX6_hall 39 = .ok (.ireturn, 1) := by decide +kernel
theorem dX6_part_0 : decode cX6_part 0 = .ok (.aload_n 0, 1) := by decide +kernel
theorem dX6_part_1 : decode cX6_part 1 = .ok (.iload_n 1, 1) := by decide +kernel
theorem dX6_part_2 : decode cX6_part 2 = .ok (.iload_n 2, 1) := by decide +kernel
theorem dX6_part_3 : decode cX6_part 3 = .ok (.invokevirtual 161, 3) := by decide +kernel
theorem dX6_part_6 : decode cX6_part 6 = .ok (.ifCond .ne 5, 3) := by decide +kernel
theorem dX6_part_9 : decode cX6_part 9 = .ok (.iconst (-1), 1) := by decide +kernel
theorem dX6_part_10 : decode cX6_part 10 = .ok (.ireturn, 1) := by decide +kernel
theorem dX6_part_11 : decode cX6_part 11 = .ok (.aload_n 0, 1) := by decide +kernel
theorem dX6_part_12 : decode cX6_part 12 = .ok (.invokevirtual 167, 3) := by decide +kernel
theorem dX6_part_15 : decode cX6_part 15 = .ok (.iload_n 1, 1) := by decide +kernel
theorem dX6_part_16 : decode cX6_part 16 = .ok (.ifCond .ne 12, 3) := by decide +kernel
theorem dX6_part_19 : decode cX6_part 19 = .ok (.aload_n 0, 1) := by decide +kernel
theorem dX6_part_20 : decode cX6_part 20 = .ok (.getfield 26, 3) := by decide +kernel
theorem dX6_part_23 : decode cX6_part 23 = .ok (.iload_n 2, 1) := by decide +kernel
theorem dX6_part_24 : decode cX6_part 24 = .ok (.iaload, 1) := by decide +kernel
theorem dX6_part_25 : decode cX6_part 25 = .ok (.goto 9, 3) := by decide +kernel
theorem dX6_part_28 : decode cX6_part 28 = .ok (.aload_n 0, 1) := by decide +kernel
theorem dX6_part_29 : decode cX6_part 29 = .ok (.getfield 29, 3) := by decide +kernel
theorem dX6_part_32 : decode cX6_part 32 = .ok (.iload_n 2, 1) := by decide +kernel
theorem dX6_part_33 : decode cX6_part 33 = .ok (.iaload, 1) := by decide +kernel
theorem dX6_part_34 : decode cX6_part 34 = .ok (.ireturn, 1) := by decide +kernel
theorem dX6_block_0 : decode cX6_block 0 = .ok (.aload_n 0, 1) := by decide +kernel
theorem dX6_block_1 : decode cX6_block 1 = .ok (.iload_n 1, 1) := by decide +kernel
theorem dX6_block_2 : decode cX6_block 2 = .ok (.iload_n 2, 1) := by decide +kernel
theorem dX6_block_3 : decode cX6_block 3 = .ok (.invokevirtual 161, 3) := by decide +kernel
theorem dX6_block_6 : decode cX6_block 6 = .ok (.ifCond .ne 5, 3) := by decide +kernel
theorem dX6_block_9 : decode cX6_block 9 = .ok (.iconst (-1), 1) := by decide +kernel
theorem dX6_block_10 : decode cX6_block 10 = .ok (.ireturn, 1) := by decide +kernel
theorem dX6_block_11 : decode cX6_block 11 = .ok (.aload_n 0, 1) := by decide +kernel
theorem dX6_block_12 : decode cX6_block 12 = .ok (.invokevirtual 167, 3) := by decide +kernel
theorem dX6_block_15 : decode cX6_block 15 = .ok (.iload_n 1, 1) := by decide +kernel
theorem dX6_block_16 : decode cX6_block 16 = .ok (.ifCond .ne 12, 3) := by decide +kernel
theorem dX6_block_19 : decode cX6_block 19 = .ok (.aload_n 0, 1) := by decide +kernel
theorem dX6_block_20 : decode cX6_block 20 = .ok (.getfield 26, 3) := by decide +kernel
theorem dX6_block_23 : decode cX6_block 23 = .ok (.iload_n 2, 1) := by decide +kernel
theorem dX6_block_24 : decode cX6_block 24 = .ok (.iaload, 1) := by decide +kernel
theorem dX6_block_25 : decode cX6_block 25 = .ok (.goto 9, 3) := by decide +kernel
theorem dX6_block_28 : decode cX6_block 28 = .ok (.aload_n 0, 1) := by decide +kernel
theorem dX6_block_29 : decode cX6_block 29 = .ok (.getfield 29, 3) := by decide +kernel
theorem dX6_block_32 : decode cX6_block 32 = .ok (.iload_n 2, 1) := by decide +kernel
theorem dX6_block_33 : decode cX6_block 33 = .ok (.iaload, 1) := by decide +kernel
theorem dX6_block_34 : decode cX6_block 34 = .ok (.istore_n 3, 1) := by decide +kernel
theorem dX6_block_35 : decode cX6_block 35 = .ok (.iload_n 3, 1) := by decide +kernel
theorem dX6_block_36 : decode cX6_block 36 = .ok (.iconst 1, 1) := by decide +kernel
theorem dX6_block_37 : decode cX6_block 37 = .ok (.if_icmp .eq 8, 3) := by decide +kernel
theorem dX6_block_40 : decode cX6_block 40 = .ok (.bipush (-3), 2) := by decide +kernel
theorem dX6_block_42 : decode cX6_block 42 = .ok (.goto 22, 3) := by decide +kernel
theorem dX6_block_45 : decode cX6_block 45 = .ok (.aload_n 0, 1) := by decide +kernel
theorem dX6_block_46 : decode cX6_block 46 = .ok (.getfield 32, 3) := by decide +kernel
theorem dX6_block_49 : decode cX6_block 49 = .ok (.iload_n 1, 1) := by decide +kernel
theorem dX6_block_50 : decode cX6_block 50 = .ok (.ifCond .ne 7, 3) := by decide +kernel
theorem dX6_block_53 : decode cX6_block 53 = .ok (.iload_n 2, 1) := by decide +kernel
theorem dX6_block_54 : decode cX6_block 54 = .ok (.goto 9, 3) := by decide +kernel
theorem dX6_block_57 : decode cX6_block 57 = .ok (.aload_n 0, 1) := by decide +kernel
theorem dX6_block_58 : decode cX6_block 58 = .ok (.getfield 17, 3) := by decide +kernel
theorem dX6_block_61 : decode cX6_block 61 = .ok (.iload_n 2, 1) := by decide +kernel
theorem dX6_block_62 : decode cX6_block 62 = .ok (.iaload, 1) := by decide +kernel
theorem dX6_block_63 : decode cX6_block 63 = .ok (.iaload, 1) := by decide +kernel
theorem dX6_block_64 : decode cX6_block 64 = .ok (.ireturn, 1) := by decide +kernel
theorem dX6_leads_0 : decode cX6_leads 0 = .ok (.aload_n 0, 1) := by decide +kernel
theorem dX6_leads_1 : decode cX6_leads 1 = .ok (.invokevirtual 167, 3) := by decide +kernel
theorem dX6_leads_4 : decode cX6_leads 4 = .ok (.iload_n 1, 1) := by decide +kernel
theorem dX6_leads_5 : decode cX6_leads 5 = .ok (.ifCond .lt 23, 3) := by decide +kernel
theorem dX6_leads_8 : decode cX6_leads 8 = .ok (.iload_n 1, 1) := by decide +kernel
theorem dX6_leads_9 : decode cX6_leads 9 = .ok (.aload_n 0, 1) := by decide +kernel
theorem dX6_leads_10 : decode cX6_leads 10 = .ok (.getfield 159, 3) := by decide +kernel
theorem dX6_leads_13 : decode cX6_leads 13 = .ok (.if_icmp .ge 15, 3) := by decide +kernel
theorem dX6_leads_16 : decode cX6_leads 16 = .ok (.iload_n 2, 1) := by decide +kernel
theorem dX6_leads_17 : decode cX6_leads 17 = .ok (.ifCond .lt 11, 3) := by decide +kernel
theorem dX6_leads_20 : decode cX6_leads 20 = .ok (.iload_n 2, 1) := by decide +kernel
theorem dX6_leads_21 : decode cX6_leads 21 = .ok (.aload_n 0, 1) := by decide +kernel
theorem dX6_leads_22 : decode cX6_leads 22 = .ok (.getfield 159, 3) := by decide +kernel
theorem dX6_leads_25 : decode cX6_leads 25 = .ok (.if_icmp .lt 5, 3) := by decide +kernel
theorem dX6_leads_28 : decode cX6_leads 28 = .ok (.iconst (-1), 1) := by decide +kernel
theorem dX6_leads_29 : decode cX6_leads 29 = .ok (.ireturn, 1) := by decide +kernel
theorem dX6_leads_30 : decode cX6_leads 30 = .ok (.iload_n 1, 1) := by decide +kernel
theorem dX6_leads_31 : decode cX6_leads 31 = .ok (.iload_n 2, 1) := by decide +kernel
theorem dX6_leads_32 : decode cX6_leads 32 = .ok (.if_icmp .ne 5, 3) := by decide +kernel
theorem dX6_leads_35 : decode cX6_leads 35 = .ok (.iconst 0, 1) := by decide +kernel
theorem dX6_leads_36 : decode cX6_leads 36 = .ok (.ireturn, 1) := by decide +kernel
theorem dX6_leads_37 : decode cX6_leads 37 = .ok (.iconst 0, 1) := by decide +kernel
theorem dX6_leads_38 : decode cX6_leads 38 = .ok (.istore_n 3, 1) := by decide +kernel
theorem dX6_leads_39 : decode cX6_leads 39 = .ok (.iconst 0, 1) := by decide +kernel
theorem dX6_leads_40 : decode cX6_leads 40 = .ok (.istore 4, 2) := by decide +kernel
theorem dX6_leads_42 : decode cX6_leads 42 = .ok (.iload 4, 2) := by decide +kernel
theorem dX6_leads_44 : decode cX6_leads 44 = .ok (.aload_n 0, 1) := by decide +kernel
theorem dX6_leads_45 : decode cX6_leads 45 = .ok (.getfield 126, 3) := by decide +kernel
theorem dX6_leads_48 : decode cX6_leads 48 = .ok (.if_icmp .ge 75, 3) := by decide +kernel
theorem dX6_leads_51 : decode cX6_leads 51 = .ok (.iconst 0, 1) := by decide +kernel
theorem dX6_leads_52 : decode cX6_leads 52 = .ok (.istore 5, 2) := by decide +kernel
theorem dX6_leads_54 : decode cX6_leads 54 = .ok (.iload 5, 2) := by decide +kernel
theorem dX6_leads_56 : decode cX6_leads 56 = .ok (.aload_n 0, 1) := by decide +kernel
theorem dX6_leads_57 : decode cX6_leads 57 = .ok (.getfield 126, 3) := by decide +kernel
theorem dX6_leads_60 : decode cX6_leads 60 = .ok (.if_icmp .ge 57, 3) := by decide +kernel
theorem dX6_leads_63 : decode cX6_leads 63 = .ok (.iload_n 3, 1) := by decide +kernel
theorem dX6_leads_64 : decode cX6_leads 64 = .ok (.ifCond .ne 41, 3) := by decide +kernel
theorem dX6_leads_67 : decode cX6_leads 67 = .ok (.aload_n 0, 1) := by decide +kernel
theorem dX6_leads_68 : decode cX6_leads 68 = .ok (.getfield 32, 3) := by decide +kernel
theorem dX6_leads_71 : decode cX6_leads 71 = .ok (.iload 4, 2) := by decide +kernel
theorem dX6_leads_73 : decode cX6_leads 73 = .ok (.iaload, 1) := by decide +kernel
theorem dX6_leads_74 : decode cX6_leads 74 = .ok (.iload_n 1, 1) := by decide +kernel
theorem dX6_leads_75 : decode cX6_leads 75 = .ok (.if_icmp .ne 34, 3) := by decide +kernel
theorem dX6_leads_78 : decode cX6_leads 78 = .ok (.aload_n 0, 1) := by decide +kernel
theorem dX6_leads_79 : decode cX6_leads 79 = .ok (.getfield 32, 3) := by decide +kernel
theorem dX6_leads_82 : decode cX6_leads 82 = .ok (.iload 5, 2) := by decide +kernel
theorem dX6_leads_84 : decode cX6_leads 84 = .ok (.iaload, 1) := by decide +kernel
theorem dX6_leads_85 : decode cX6_leads 85 = .ok (.iload_n 2, 1) := by decide +kernel
theorem dX6_leads_86 : decode cX6_leads 86 = .ok (.if_icmp .ne 23, 3) := by decide +kernel
theorem dX6_leads_89 : decode cX6_leads 89 = .ok (.aload_n 0, 1) := by decide +kernel
theorem dX6_leads_90 : decode cX6_leads 90 = .ok (.getfield 35, 3) := by decide +kernel
theorem dX6_leads_93 : decode cX6_leads 93 = .ok (.bipush 50, 2) := by decide +kernel
theorem dX6_leads_95 : decode cX6_leads 95 = .ok (.iload 4, 2) := by decide +kernel
theorem dX6_leads_97 : decode cX6_leads 97 = .ok (.imul, 1) := by decide +kernel
theorem dX6_leads_98 : decode cX6_leads 98 = .ok (.iload 5, 2) := by decide +kernel
theorem dX6_leads_100 : decode cX6_leads 100 = .ok (.iadd, 1) := by decide +kernel
theorem dX6_leads_101 : decode cX6_leads 101 = .ok (.baload, 1) := by decide +kernel
theorem dX6_leads_102 : decode cX6_leads 102 = .ok (.ifCond .eq 7, 3) := by decide +kernel
theorem dX6_leads_105 : decode cX6_leads 105 = .ok (.iconst 1, 1) := by decide +kernel
theorem dX6_leads_106 : decode cX6_leads 106 = .ok (.goto 4, 3) := by decide +kernel
theorem dX6_leads_109 : decode cX6_leads 109 = .ok (.iconst 0, 1) := by decide +kernel
theorem dX6_leads_110 : decode cX6_leads 110 = .ok (.istore_n 3, 1) := by decide +kernel
theorem dX6_leads_111 : decode cX6_leads 111 = .ok (.iinc 5 1, 3) := by decide +kernel
theorem dX6_leads_114 : decode cX6_leads 114 = .ok (.goto (-60), 3) := by decide +kernel
theorem dX6_leads_117 : decode cX6_leads 117 = .ok (.iinc 4 1, 3) := by decide +kernel
theorem dX6_leads_120 : decode cX6_leads 120 = .ok (.goto (-78), 3) := by decide +kernel
theorem dX6_leads_123 : decode cX6_leads 123 = .ok (.iload_n 3, 1) := by decide +kernel
theorem dX6_leads_124 : decode cX6_leads 124 = .ok (.ifCond .eq 7, 3) := by decide +kernel
theorem dX6_leads_127 : decode cX6_leads 127 = .ok (.iconst 1, 1) := by decide +kernel
theorem dX6_leads_128 : decode cX6_leads 128 = .ok (.goto 4, 3) := by decide +kernel
theorem dX6_leads_131 : decode cX6_leads 131 = .ok (.iconst 0, 1) := by decide +kernel
theorem dX6_leads_132 : decode cX6_leads 132 = .ok (.ireturn, 1) := by decide +kernel
theorem dX6_bits_0 : decode cX6_bits 0 = .ok (.iconst 0, 1) := by decide +kernel
theorem dX6_bits_1 : decode cX6_bits 1 = .ok (.istore_n 1, 1) := by decide +kernel
theorem dX6_bits_2 : decode cX6_bits 2 = .ok (.iload_n 0, 1) := by decide +kernel
theorem dX6_bits_3 : decode cX6_bits 3 = .ok (.istore_n 2, 1) := by decide +kernel
theorem dX6_bits_4 : decode cX6_bits 4 = .ok (.iload_n 2, 1) := by decide +kernel
theorem dX6_bits_5 : decode cX6_bits 5 = .ok (.ifCond .le 16, 3) := by decide +kernel
theorem dX6_bits_8 : decode cX6_bits 8 = .ok (.iload_n 1, 1) := by decide +kernel
theorem dX6_bits_9 : decode cX6_bits 9 = .ok (.iload_n 2, 1) := by decide +kernel
theorem dX6_bits_10 : decode cX6_bits 10 = .ok (.iconst 1, 1) := by decide +kernel
theorem dX6_bits_11 : decode cX6_bits 11 = .ok (.iand, 1) := by decide +kernel
theorem dX6_bits_12 : decode cX6_bits 12 = .ok (.iadd, 1) := by decide +kernel
theorem dX6_bits_13 : decode cX6_bits 13 = .ok (.istore_n 1, 1) := by decide +kernel
theorem dX6_bits_14 : decode cX6_bits 14 = .ok (.iload_n 2, 1) := by decide +kernel
theorem dX6_bits_15 : decode cX6_bits 15 = .ok (.iconst 1, 1) := by decide +kernel
theorem dX6_bits_16 : decode cX6_bits 16 = .ok (.ishr, 1) := by decide +kernel
theorem dX6_bits_17 : decode cX6_bits 17 = .ok (.istore_n 2, 1) := by decide +kernel
theorem dX6_bits_18 : decode cX6_bits 18 = .ok (.goto (-14), 3) := by decide +kernel
theorem dX6_bits_21 : decode cX6_bits 21 = .ok (.iload_n 1, 1) := by decide +kernel
theorem dX6_bits_22 : decode cX6_bits 22 = .ok (.ireturn, 1) := by decide +kernel
theorem dX6_pairings_0 : decode cX6_pairings 0 = .ok (.aload_n 0, 1) := by decide +kernel
theorem dX6_pairings_1 : decode cX6_pairings 1 = .ok (.getfield 126, 3) := by decide +kernel
theorem dX6_pairings_4 : decode cX6_pairings 4 = .ok (.bipush 16, 2) := by decide +kernel
theorem dX6_pairings_6 : decode cX6_pairings 6 = .ok (.if_icmp .gt 12, 3) := by decide +kernel
theorem dX6_pairings_9 : decode cX6_pairings 9 = .ok (.aload_n 0, 1) := by decide +kernel
theorem dX6_pairings_10 : decode cX6_pairings 10 = .ok (.getfield 129, 3) := by decide +kernel
theorem dX6_pairings_13 : decode cX6_pairings 13 = .ok (.bipush 16, 2) := by decide +kernel
theorem dX6_pairings_15 : decode cX6_pairings 15 = .ok (.if_icmp .le 7, 3) := by decide +kernel
theorem dX6_pairings_18 : decode cX6_pairings 18 = .ok (.ldc2_w 193, 3) := by decide +kernel
theorem dX6_pairings_21 : decode cX6_pairings 21 = .ok (.lreturn, 1) := by decide +kernel
theorem dX6_pairings_22 : decode cX6_pairings 22 = .ok (.aload_n 0, 1) := by decide +kernel
theorem dX6_pairings_23 : decode cX6_pairings 23 = .ok (.invokevirtual 167, 3) := by decide +kernel
theorem dX6_pairings_26 : decode cX6_pairings 26 = .ok (.aload_n 0, 1) := by decide +kernel
theorem dX6_pairings_27 : decode cX6_pairings 27 = .ok (.getfield 140, 3) := by decide +kernel
theorem dX6_pairings_30 : decode cX6_pairings 30 = .ok (.ifCond .eq 8, 3) := by decide +kernel
theorem dX6_pairings_33 : decode cX6_pairings 33 = .ok (.aload_n 0, 1) := by decide +kernel
theorem dX6_pairings_34 : decode cX6_pairings 34 = .ok (.getfield 195, 3) := by decide +kernel
theorem dX6_pairings_37 : decode cX6_pairings 37 = .ok (.lreturn, 1) := by decide +kernel
theorem dX6_pairings_38 : decode cX6_pairings 38 = .ok (.iconst 1, 1) := by decide +kernel
theorem dX6_pairings_39 : decode cX6_pairings 39 = .ok (.aload_n 0, 1) := by decide +kernel
theorem dX6_pairings_40 : decode cX6_pairings 40 = .ok (.getfield 129, 3) := by decide +kernel
theorem dX6_pairings_43 : decode cX6_pairings 43 = .ok (.ishl, 1) := by decide +kernel
theorem dX6_pairings_44 : decode cX6_pairings 44 = .ok (.istore_n 1, 1) := by decide +kernel
theorem dX6_pairings_45 : decode cX6_pairings 45 = .ok (.iconst 0, 1) := by decide +kernel
theorem dX6_pairings_46 : decode cX6_pairings 46 = .ok (.istore_n 2, 1) := by decide +kernel
theorem dX6_pairings_47 : decode cX6_pairings 47 = .ok (.iload_n 2, 1) := by decide +kernel
theorem dX6_pairings_48 : decode cX6_pairings 48 = .ok (.iload_n 1, 1) := by decide +kernel
theorem dX6_pairings_49 : decode cX6_pairings 49 = .ok (.if_icmp .ge 24, 3) := by decide +kernel
theorem dX6_pairings_52 : decode cX6_pairings 52 = .ok (.aload_n 0, 1) := by decide +kernel
theorem dX6_pairings_53 : decode cX6_pairings 53 = .ok (.getfield 39, 3) := by decide +kernel
theorem dX6_pairings_56 : decode cX6_pairings 56 = .ok (.iload_n 2, 1) := by decide +kernel
theorem dX6_pairings_57 : decode cX6_pairings 57 = .ok (.iload_n 2, 1) := by decide +kernel
theorem dX6_pairings_58 : decode cX6_pairings 58 = .ok (.ifCond .ne 7, 3) := by decide +kernel
theorem dX6_pairings_61 : decode cX6_pairings 61 = .ok (.lconst 1, 1) := by decide +kernel
theorem dX6_pairings_62 : decode cX6_pairings 62 = .ok (.goto 4, 3) := by decide +kernel
theorem dX6_pairings_65 : decode cX6_pairings 65 = .ok (.lconst 0, 1) := by decide +kernel
theorem dX6_pairings_66 : decode cX6_pairings 66 = .ok (.lastore, 1) := by decide +kernel
theorem dX6_pairings_67 : decode cX6_pairings 67 = .ok (.iinc 2 1, 3) := by decide +kernel
theorem dX6_pairings_70 : decode cX6_pairings 70 = .ok (.goto (-23), 3) := by decide +kernel
theorem dX6_pairings_73 : decode cX6_pairings 73 = .ok (.iconst 0, 1) := by decide +kernel
theorem dX6_pairings_74 : decode cX6_pairings 74 = .ok (.istore_n 2, 1) := by decide +kernel
theorem dX6_pairings_75 : decode cX6_pairings 75 = .ok (.iload_n 2, 1) := by decide +kernel
theorem dX6_pairings_76 : decode cX6_pairings 76 = .ok (.aload_n 0, 1) := by decide +kernel
theorem dX6_pairings_77 : decode cX6_pairings 77 = .ok (.getfield 126, 3) := by decide +kernel
theorem dX6_pairings_80 : decode cX6_pairings 80 = .ok (.if_icmp .ge 105, 3) := by decide +kernel
theorem dX6_pairings_83 : decode cX6_pairings 83 = .ok (.iload_n 1, 1) := by decide +kernel
theorem dX6_pairings_84 : decode cX6_pairings 84 = .ok (.iconst 1, 1) := by decide +kernel
theorem dX6_pairings_85 : decode cX6_pairings 85 = .ok (.isub, 1) := by decide +kernel
theorem dX6_pairings_86 : decode cX6_pairings 86 = .ok (.istore_n 3, 1) := by decide +kernel
theorem dX6_pairings_87 : decode cX6_pairings 87 = .ok (.iload_n 3, 1) := by decide +kernel
theorem dX6_pairings_88 : decode cX6_pairings 88 = .ok (.ifCond .lt 91, 3) := by decide +kernel
theorem dX6_pairings_91 : decode cX6_pairings 91 = .ok (.iconst 0, 1) := by decide +kernel
theorem dX6_pairings_92 : decode cX6_pairings 92 = .ok (.istore 4, 2) := by decide +kernel
theorem dX6_pairings_94 : decode cX6_pairings 94 = .ok (.iload 4, 2) := by decide +kernel
theorem dX6_pairings_96 : decode cX6_pairings 96 = .ok (.aload_n 0, 1) := by decide +kernel
theorem dX6_pairings_97 : decode cX6_pairings 97 = .ok (.getfield 129, 3) := by decide +kernel
theorem dX6_pairings_100 : decode cX6_pairings 100 = .ok (.if_icmp .ge 73, 3) := by decide +kernel
theorem dX6_pairings_103 : decode cX6_pairings 103 = .ok (.aload_n 0, 1) := by decide +kernel
theorem dX6_pairings_104 : decode cX6_pairings 104 = .ok (.getfield 39, 3) := by decide +kernel
theorem dX6_pairings_107 : decode cX6_pairings 107 = .ok (.iload_n 3, 1) := by decide +kernel
theorem dX6_pairings_108 : decode cX6_pairings 108 = .ok (.laload, 1) := by decide +kernel
theorem dX6_pairings_109 : decode cX6_pairings 109 = .ok (.lconst 0, 1) := by decide +kernel
theorem dX6_pairings_110 : decode cX6_pairings 110 = .ok (.lcmp, 1) := by decide +kernel
theorem dX6_pairings_111 : decode cX6_pairings 111 = .ok (.ifCond .le 62, 3) := by decide +kernel
theorem dX6_pairings_114 : decode cX6_pairings 114 = .ok (.aload_n 0, 1) := by decide +kernel
theorem dX6_pairings_115 : decode cX6_pairings 115 = .ok (.getfield 7, 3) := by decide +kernel
theorem dX6_pairings_118 : decode cX6_pairings 118 = .ok (.bipush 50, 2) := by decide +kernel
theorem dX6_pairings_120 : decode cX6_pairings 120 = .ok (.iload_n 2, 1) := by decide +kernel
theorem dX6_pairings_121 : decode cX6_pairings 121 = .ok (.imul, 1) := by decide +kernel
theorem dX6_pairings_122 : decode cX6_pairings 122 = .ok (.iload 4, 2) := by decide +kernel
theorem dX6_pairings_124 : decode cX6_pairings 124 = .ok (.iadd, 1) := by decide +kernel
theorem dX6_pairings_125 : decode cX6_pairings 125 = .ok (.baload, 1) := by decide +kernel
theorem dX6_pairings_126 : decode cX6_pairings 126 = .ok (.ifCond .eq 41, 3) := by decide +kernel
theorem dX6_pairings_129 : decode cX6_pairings 129 = .ok (.iload_n 3, 1) := by decide +kernel
theorem dX6_pairings_130 : decode cX6_pairings 130 = .ok (.iload 4, 2) := by decide +kernel
theorem dX6_pairings_132 : decode cX6_pairings 132 = .ok (.ishr, 1) := by decide +kernel
theorem dX6_pairings_133 : decode cX6_pairings 133 = .ok (.iconst 1, 1) := by decide +kernel
theorem dX6_pairings_134 : decode cX6_pairings 134 = .ok (.iand, 1) := by decide +kernel
theorem dX6_pairings_135 : decode cX6_pairings 135 = .ok (.ifCond .ne 32, 3) := by decide +kernel
theorem dX6_pairings_138 : decode cX6_pairings 138 = .ok (.aload_n 0, 1) := by decide +kernel
theorem dX6_pairings_139 : decode cX6_pairings 139 = .ok (.getfield 39, 3) := by decide +kernel
theorem dX6_pairings_142 : decode cX6_pairings 142 = .ok (.iload_n 3, 1) := by decide +kernel
theorem dX6_pairings_143 : decode cX6_pairings 143 = .ok (.iconst 1, 1) := by decide +kernel
theorem dX6_pairings_144 : decode cX6_pairings 144 = .ok (.iload 4, 2) := by decide +kernel
theorem dX6_pairings_146 : decode cX6_pairings 146 = .ok (.ishl, 1) := by decide +kernel
theorem dX6_pairings_147 : decode cX6_pairings 147 = .ok (.ior, 1) := by decide +kernel
theorem dX6_pairings_148 : decode cX6_pairings 148 = .ok (.aload_n 0, 1) := by decide +kernel
theorem dX6_pairings_149 : decode cX6_pairings 149 = .ok (.getfield 39, 3) := by decide +kernel
theorem dX6_pairings_152 : decode cX6_pairings 152 = .ok (.iload_n 3, 1) := by decide +kernel
theorem dX6_pairings_153 : decode cX6_pairings 153 = .ok (.iconst 1, 1) := by decide +kernel
theorem dX6_pairings_154 : decode cX6_pairings 154 = .ok (.iload 4, 2) := by decide +kernel
theorem dX6_pairings_156 : decode cX6_pairings 156 = .ok (.ishl, 1) := by decide +kernel
theorem dX6_pairings_157 : decode cX6_pairings 157 = .ok (.ior, 1) := by decide +kernel
theorem dX6_pairings_158 : decode cX6_pairings 158 = .ok (.laload, 1) := by decide +kernel
theorem dX6_pairings_159 : decode cX6_pairings 159 = .ok (.aload_n 0, 1) := by decide +kernel
theorem dX6_pairings_160 : decode cX6_pairings 160 = .ok (.getfield 39, 3) := by decide +kernel
theorem dX6_pairings_163 : decode cX6_pairings 163 = .ok (.iload_n 3, 1) := by decide +kernel
theorem dX6_pairings_164 : decode cX6_pairings 164 = .ok (.laload, 1) := by decide +kernel
theorem dX6_pairings_165 : decode cX6_pairings 165 = .ok (.ladd, 1) := by decide +kernel
theorem dX6_pairings_166 : decode cX6_pairings 166 = .ok (.lastore, 1) := by decide +kernel
theorem dX6_pairings_167 : decode cX6_pairings 167 = .ok (.iinc 4 1, 3) := by decide +kernel
theorem dX6_pairings_170 : decode cX6_pairings 170 = .ok (.goto (-76), 3) := by decide +kernel
theorem dX6_pairings_173 : decode cX6_pairings 173 = .ok (.iinc 3 (-1), 3) := by decide +kernel
theorem dX6_pairings_176 : decode cX6_pairings 176 = .ok (.goto (-89), 3) := by decide +kernel
theorem dX6_pairings_179 : decode cX6_pairings 179 = .ok (.iinc 2 1, 3) := by decide +kernel
theorem dX6_pairings_182 : decode cX6_pairings 182 = .ok (.goto (-107), 3) := by decide +kernel
theorem dX6_pairings_185 : decode cX6_pairings 185 = .ok (.aload_n 0, 1) := by decide +kernel
theorem dX6_pairings_186 : decode cX6_pairings 186 = .ok (.lconst 0, 1) := by decide +kernel
theorem dX6_pairings_187 : decode cX6_pairings 187 = .ok (.putfield 195, 3) := by decide +kernel
theorem dX6_pairings_190 : decode cX6_pairings 190 = .ok (.iconst 0, 1) := by decide +kernel
theorem dX6_pairings_191 : decode cX6_pairings 191 = .ok (.istore_n 2, 1) := by decide +kernel
theorem dX6_pairings_192 : decode cX6_pairings 192 = .ok (.iload_n 2, 1) := by decide +kernel
theorem dX6_pairings_193 : decode cX6_pairings 193 = .ok (.iload_n 1, 1) := by decide +kernel
theorem dX6_pairings_194 : decode cX6_pairings 194 = .ok (.if_icmp .ge 42, 3) := by decide +kernel
theorem dX6_pairings_197 : decode cX6_pairings 197 = .ok (.aload_n 0, 1) := by decide +kernel
theorem dX6_pairings_198 : decode cX6_pairings 198 = .ok (.iload_n 2, 1) := by decide +kernel
theorem dX6_pairings_199 : decode cX6_pairings 199 = .ok (.invokestatic 199, 3) := by decide +kernel
theorem dX6_pairings_202 : decode cX6_pairings 202 = .ok (.aload_n 0, 1) := by decide +kernel
theorem dX6_pairings_203 : decode cX6_pairings 203 = .ok (.getfield 143, 3) := by decide +kernel
theorem dX6_pairings_206 : decode cX6_pairings 206 = .ok (.if_icmp .ne 17, 3) := by decide +kernel
theorem dX6_pairings_209 : decode cX6_pairings 209 = .ok (.aload_n 0, 1) := by decide +kernel
theorem dX6_pairings_210 : decode cX6_pairings 210 = .ok (.getfield 195, 3) := by decide +kernel
theorem dX6_pairings_213 : decode cX6_pairings 213 = .ok (.aload_n 0, 1) := by decide +kernel
theorem dX6_pairings_214 : decode cX6_pairings 214 = .ok (.getfield 39, 3) := by decide +kernel
theorem dX6_pairings_217 : decode cX6_pairings 217 = .ok (.iload_n 2, 1) := by decide +kernel
theorem dX6_pairings_218 : decode cX6_pairings 218 = .ok (.laload, 1) := by decide +kernel
theorem dX6_pairings_219 : decode cX6_pairings 219 = .ok (.ladd, 1) := by decide +kernel
theorem dX6_pairings_220 : decode cX6_pairings 220 = .ok (.goto 7, 3) := by decide +kernel
theorem dX6_pairings_223 : decode cX6_pairings 223 = .ok (.aload_n 0, 1) := by decide +kernel
theorem dX6_pairings_224 : decode cX6_pairings 224 = .ok (.getfield 195, 3) := by decide +kernel
theorem dX6_pairings_227 : decode cX6_pairings 227 = .ok (.putfield 195, 3) := by decide +kernel
theorem dX6_pairings_230 : decode cX6_pairings 230 = .ok (.iinc 2 1, 3) := by decide +kernel
theorem dX6_pairings_233 : decode cX6_pairings 233 = .ok (.goto (-41), 3) := by decide +kernel
theorem dX6_pairings_236 : decode cX6_pairings 236 = .ok (.aload_n 0, 1) := by decide +kernel
theorem dX6_pairings_237 : decode cX6_pairings 237 = .ok (.iconst 1, 1) := by decide +kernel
theorem dX6_pairings_238 : decode cX6_pairings 238 = .ok (.putfield 140, 3) := by decide +kernel
theorem dX6_pairings_241 : decode cX6_pairings 241 = .ok (.aload_n 0, 1) := by decide +kernel
theorem dX6_pairings_242 : decode cX6_pairings 242 = .ok (.getfield 195, 3) := by decide +kernel
theorem dX6_pairings_245 : decode cX6_pairings 245 = .ok (.lreturn, 1) := by decide +kernel
theorem dX6_thing_0 : decode cX6_thing 0 = .ok (.aload_n 0, 1) := by decide +kernel
theorem dX6_thing_1 : decode cX6_thing 1 = .ok (.getfield 177, 3) := by decide +kernel
theorem dX6_thing_4 : decode cX6_thing 4 = .ok (.bipush 40, 2) := by decide +kernel
theorem dX6_thing_6 : decode cX6_thing 6 = .ok (.if_icmp .ne 6, 3) := by decide +kernel
theorem dX6_thing_9 : decode cX6_thing 9 = .ok (.bipush (-2), 2) := by decide +kernel
theorem dX6_thing_11 : decode cX6_thing 11 = .ok (.ireturn, 1) := by decide +kernel
theorem dX6_thing_12 : decode cX6_thing 12 = .ok (.aload_n 0, 1) := by decide +kernel
theorem dX6_thing_13 : decode cX6_thing 13 = .ok (.dup, 1) := by decide +kernel
theorem dX6_thing_14 : decode cX6_thing 14 = .ok (.getfield 177, 3) := by decide +kernel
theorem dX6_thing_17 : decode cX6_thing 17 = .ok (.iconst 1, 1) := by decide +kernel
theorem dX6_thing_18 : decode cX6_thing 18 = .ok (.iadd, 1) := by decide +kernel
theorem dX6_thing_19 : decode cX6_thing 19 = .ok (.putfield 177, 3) := by decide +kernel
theorem dX6_thing_22 : decode cX6_thing 22 = .ok (.aload_n 0, 1) := by decide +kernel
theorem dX6_thing_23 : decode cX6_thing 23 = .ok (.iconst 0, 1) := by decide +kernel
theorem dX6_thing_24 : decode cX6_thing 24 = .ok (.putfield 202, 3) := by decide +kernel
theorem dX6_thing_27 : decode cX6_thing 27 = .ok (.aload_n 0, 1) := by decide +kernel
theorem dX6_thing_28 : decode cX6_thing 28 = .ok (.getfield 177, 3) := by decide +kernel
theorem dX6_thing_31 : decode cX6_thing 31 = .ok (.iconst 1, 1) := by decide +kernel
theorem dX6_thing_32 : decode cX6_thing 32 = .ok (.isub, 1) := by decide +kernel
theorem dX6_thing_33 : decode cX6_thing 33 = .ok (.ireturn, 1) := by decide +kernel
theorem dX6_tell_0 : decode cX6_tell 0 = .ok (.iload_n 1, 1) := by decide +kernel
theorem dX6_tell_1 : decode cX6_tell 1 = .ok (.ifCond .lt 23, 3) := by decide +kernel
theorem dX6_tell_4 : decode cX6_tell 4 = .ok (.iload_n 1, 1) := by decide +kernel
theorem dX6_tell_5 : decode cX6_tell 5 = .ok (.aload_n 0, 1) := by decide +kernel
theorem dX6_tell_6 : decode cX6_tell 6 = .ok (.getfield 177, 3) := by decide +kernel
theorem dX6_tell_9 : decode cX6_tell 9 = .ok (.if_icmp .ge 15, 3) := by decide +kernel
theorem dX6_tell_12 : decode cX6_tell 12 = .ok (.iload_n 2, 1) := by decide +kernel
theorem dX6_tell_13 : decode cX6_tell 13 = .ok (.ifCond .lt 11, 3) := by decide +kernel
theorem dX6_tell_16 : decode cX6_tell 16 = .ok (.iload_n 2, 1) := by decide +kernel
theorem dX6_tell_17 : decode cX6_tell 17 = .ok (.aload_n 0, 1) := by decide +kernel
theorem dX6_tell_18 : decode cX6_tell 18 = .ok (.getfield 177, 3) := by decide +kernel
theorem dX6_tell_21 : decode cX6_tell 21 = .ok (.if_icmp .lt 5, 3) := by decide +kernel
theorem dX6_tell_24 : decode cX6_tell 24 = .ok (.iconst (-1), 1) := by decide +kernel
theorem dX6_tell_25 : decode cX6_tell 25 = .ok (.ireturn, 1) := by decide +kernel
theorem dX6_tell_26 : decode cX6_tell 26 = .ok (.iload_n 1, 1) := by decide +kernel
theorem dX6_tell_27 : decode cX6_tell 27 = .ok (.iload_n 2, 1) := by decide +kernel
theorem dX6_tell_28 : decode cX6_tell 28 = .ok (.if_icmp .eq 17, 3) := by decide +kernel
theorem dX6_tell_31 : decode cX6_tell 31 = .ok (.aload_n 0, 1) := by decide +kernel
theorem dX6_tell_32 : decode cX6_tell 32 = .ok (.getfield 43, 3) := by decide +kernel
theorem dX6_tell_35 : decode cX6_tell 35 = .ok (.bipush 50, 2) := by decide +kernel
theorem dX6_tell_37 : decode cX6_tell 37 = .ok (.iload_n 2, 1) := by decide +kernel
theorem dX6_tell_38 : decode cX6_tell 38 = .ok (.imul, 1) := by decide +kernel
theorem dX6_tell_39 : decode cX6_tell 39 = .ok (.iload_n 1, 1) := by decide +kernel
theorem dX6_tell_40 : decode cX6_tell 40 = .ok (.iadd, 1) := by decide +kernel
theorem dX6_tell_41 : decode cX6_tell 41 = .ok (.baload, 1) := by decide +kernel
theorem dX6_tell_42 : decode cX6_tell 42 = .ok (.ifCond .eq 6, 3) := by decide +kernel
theorem dX6_tell_45 : decode cX6_tell 45 = .ok (.bipush (-3), 2) := by decide +kernel
theorem dX6_tell_47 : decode cX6_tell 47 = .ok (.ireturn, 1) := by decide +kernel
theorem dX6_tell_48 : decode cX6_tell 48 = .ok (.aload_n 0, 1) := by decide +kernel
theorem dX6_tell_49 : decode cX6_tell 49 = .ok (.getfield 43, 3) := by decide +kernel
theorem dX6_tell_52 : decode cX6_tell 52 = .ok (.bipush 50, 2) := by decide +kernel
theorem dX6_tell_54 : decode cX6_tell 54 = .ok (.iload_n 1, 1) := by decide +kernel
theorem dX6_tell_55 : decode cX6_tell 55 = .ok (.imul, 1) := by decide +kernel
theorem dX6_tell_56 : decode cX6_tell 56 = .ok (.iload_n 2, 1) := by decide +kernel
theorem dX6_tell_57 : decode cX6_tell 57 = .ok (.iadd, 1) := by decide +kernel
theorem dX6_tell_58 : decode cX6_tell 58 = .ok (.baload, 1) := by decide +kernel
theorem dX6_tell_59 : decode cX6_tell 59 = .ok (.ifCond .eq 5, 3) := by decide +kernel
theorem dX6_tell_62 : decode cX6_tell 62 = .ok (.iconst 0, 1) := by decide +kernel
theorem dX6_tell_63 : decode cX6_tell 63 = .ok (.ireturn, 1) := by decide +kernel
theorem dX6_tell_64 : decode cX6_tell 64 = .ok (.iconst 0, 1) := by decide +kernel
theorem dX6_tell_65 : decode cX6_tell 65 = .ok (.istore_n 3, 1) := by decide +kernel
theorem dX6_tell_66 : decode cX6_tell 66 = .ok (.iload_n 3, 1) := by decide +kernel
theorem dX6_tell_67 : decode cX6_tell 67 = .ok (.aload_n 0, 1) := by decide +kernel
theorem dX6_tell_68 : decode cX6_tell 68 = .ok (.getfield 177, 3) := by decide +kernel
theorem dX6_tell_71 : decode cX6_tell 71 = .ok (.if_icmp .ge 80, 3) := by decide +kernel
theorem dX6_tell_74 : decode cX6_tell 74 = .ok (.iconst 0, 1) := by decide +kernel
theorem dX6_tell_75 : decode cX6_tell 75 = .ok (.istore 4, 2) := by decide +kernel
theorem dX6_tell_77 : decode cX6_tell 77 = .ok (.iload 4, 2) := by decide +kernel
theorem dX6_tell_79 : decode cX6_tell 79 = .ok (.aload_n 0, 1) := by decide +kernel
theorem dX6_tell_80 : decode cX6_tell 80 = .ok (.getfield 177, 3) := by decide +kernel
theorem dX6_tell_83 : decode cX6_tell 83 = .ok (.if_icmp .ge 62, 3) := by decide +kernel
theorem dX6_tell_86 : decode cX6_tell 86 = .ok (.iload_n 3, 1) := by decide +kernel
theorem dX6_tell_87 : decode cX6_tell 87 = .ok (.iload_n 1, 1) := by decide +kernel
theorem dX6_tell_88 : decode cX6_tell 88 = .ok (.if_icmp .eq 17, 3) := by decide +kernel
theorem dX6_tell_91 : decode cX6_tell 91 = .ok (.aload_n 0, 1) := by decide +kernel
theorem dX6_tell_92 : decode cX6_tell 92 = .ok (.getfield 43, 3) := by decide +kernel
theorem dX6_tell_95 : decode cX6_tell 95 = .ok (.bipush 50, 2) := by decide +kernel
theorem dX6_tell_97 : decode cX6_tell 97 = .ok (.iload_n 3, 1) := by decide +kernel
theorem dX6_tell_98 : decode cX6_tell 98 = .ok (.imul, 1) := by decide +kernel
theorem dX6_tell_99 : decode cX6_tell 99 = .ok (.iload_n 1, 1) := by decide +kernel
theorem dX6_tell_100 : decode cX6_tell 100 = .ok (.iadd, 1) := by decide +kernel
theorem dX6_tell_101 : decode cX6_tell 101 = .ok (.baload, 1) := by decide +kernel
theorem dX6_tell_102 : decode cX6_tell 102 = .ok (.ifCond .eq 43, 3) := by decide +kernel
theorem dX6_tell_105 : decode cX6_tell 105 = .ok (.iload 4, 2) := by decide +kernel
theorem dX6_tell_107 : decode cX6_tell 107 = .ok (.iload_n 2, 1) := by decide +kernel
theorem dX6_tell_108 : decode cX6_tell 108 = .ok (.if_icmp .eq 18, 3) := by decide +kernel
theorem dX6_tell_111 : decode cX6_tell 111 = .ok (.aload_n 0, 1) := by decide +kernel
theorem dX6_tell_112 : decode cX6_tell 112 = .ok (.getfield 43, 3) := by decide +kernel
theorem dX6_tell_115 : decode cX6_tell 115 = .ok (.bipush 50, 2) := by decide +kernel
theorem dX6_tell_117 : decode cX6_tell 117 = .ok (.iload_n 2, 1) := by decide +kernel
theorem dX6_tell_118 : decode cX6_tell 118 = .ok (.imul, 1) := by decide +kernel
theorem dX6_tell_119 : decode cX6_tell 119 = .ok (.iload 4, 2) := by decide +kernel
theorem dX6_tell_121 : decode cX6_tell 121 = .ok (.iadd, 1) := by decide +kernel
theorem dX6_tell_122 : decode cX6_tell 122 = .ok (.baload, 1) := by decide +kernel
theorem dX6_tell_123 : decode cX6_tell 123 = .ok (.ifCond .eq 16, 3) := by decide +kernel
theorem dX6_tell_126 : decode cX6_tell 126 = .ok (.aload_n 0, 1) := by decide +kernel
theorem dX6_tell_127 : decode cX6_tell 127 = .ok (.getfield 43, 3) := by decide +kernel
theorem dX6_tell_130 : decode cX6_tell 130 = .ok (.bipush 50, 2) := by decide +kernel
theorem dX6_tell_132 : decode cX6_tell 132 = .ok (.iload_n 3, 1) := by decide +kernel
theorem dX6_tell_133 : decode cX6_tell 133 = .ok (.imul, 1) := by decide +kernel
theorem dX6_tell_134 : decode cX6_tell 134 = .ok (.iload 4, 2) := by decide +kernel
theorem dX6_tell_136 : decode cX6_tell 136 = .ok (.iadd, 1) := by decide +kernel
theorem dX6_tell_137 : decode cX6_tell 137 = .ok (.iconst 1, 1) := by decide +kernel
theorem dX6_tell_138 : decode cX6_tell 138 = .ok (.bastore, 1) := by decide +kernel
theorem dX6_tell_139 : decode cX6_tell 139 = .ok (.iinc 4 1, 3) := by decide +kernel
theorem dX6_tell_142 : decode cX6_tell 142 = .ok (.goto (-65), 3) := by decide +kernel
theorem dX6_tell_145 : decode cX6_tell 145 = .ok (.iinc 3 1, 3) := by decide +kernel
theorem dX6_tell_148 : decode cX6_tell 148 = .ok (.goto (-82), 3) := by decide +kernel
theorem dX6_tell_151 : decode cX6_tell 151 = .ok (.aload_n 0, 1) := by decide +kernel
theorem dX6_tell_152 : decode cX6_tell 152 = .ok (.iconst 0, 1) := by decide +kernel
theorem dX6_tell_153 : decode cX6_tell 153 = .ok (.putfield 202, 3) := by decide +kernel
theorem dX6_tell_156 : decode cX6_tell 156 = .ok (.iconst 1, 1) := by decide +kernel
theorem dX6_tell_157 : decode cX6_tell 157 = .ok (.ireturn, 1) := by decide +kernel
theorem dX6_below_0 : decode cX6_below 0 = .ok (.iload_n 1, 1) := by decide +kernel
theorem dX6_below_1 : decode cX6_below 1 = .ok (.ifCond .lt 41, 3) := by decide +kernel
theorem dX6_below_4 : decode cX6_below 4 = .ok (.iload_n 1, 1) := by decide +kernel
theorem dX6_below_5 : decode cX6_below 5 = .ok (.aload_n 0, 1) := by decide +kernel
theorem dX6_below_6 : decode cX6_below 6 = .ok (.getfield 177, 3) := by decide +kernel
theorem dX6_below_9 : decode cX6_below 9 = .ok (.if_icmp .ge 33, 3) := by decide +kernel
theorem dX6_below_12 : decode cX6_below 12 = .ok (.iload_n 2, 1) := by decide +kernel
theorem dX6_below_13 : decode cX6_below 13 = .ok (.ifCond .lt 29, 3) := by decide +kernel
theorem dX6_below_16 : decode cX6_below 16 = .ok (.iload_n 2, 1) := by decide +kernel
theorem dX6_below_17 : decode cX6_below 17 = .ok (.aload_n 0, 1) := by decide +kernel
theorem dX6_below_18 : decode cX6_below 18 = .ok (.getfield 177, 3) := by decide +kernel
theorem dX6_below_21 : decode cX6_below 21 = .ok (.if_icmp .ge 21, 3) := by decide +kernel
theorem dX6_below_24 : decode cX6_below 24 = .ok (.aload_n 0, 1) := by decide +kernel
theorem dX6_below_25 : decode cX6_below 25 = .ok (.getfield 43, 3) := by decide +kernel
theorem dX6_below_28 : decode cX6_below 28 = .ok (.bipush 50, 2) := by decide +kernel
theorem dX6_below_30 : decode cX6_below 30 = .ok (.iload_n 1, 1) := by decide +kernel
theorem dX6_below_31 : decode cX6_below 31 = .ok (.imul, 1) := by decide +kernel
theorem dX6_below_32 : decode cX6_below 32 = .ok (.iload_n 2, 1) := by decide +kernel
theorem dX6_below_33 : decode cX6_below 33 = .ok (.iadd, 1) := by decide +kernel
theorem dX6_below_34 : decode cX6_below 34 = .ok (.baload, 1) := by decide +kernel
theorem dX6_below_35 : decode cX6_below 35 = .ok (.ifCond .eq 7, 3) := by decide +kernel
theorem dX6_below_38 : decode cX6_below 38 = .ok (.iconst 1, 1) := by decide +kernel
theorem dX6_below_39 : decode cX6_below 39 = .ok (.goto 4, 3) := by decide +kernel
theorem dX6_below_42 : decode cX6_below 42 = .ok (.iconst 0, 1) := by decide +kernel
theorem dX6_below_43 : decode cX6_below 43 = .ok (.ireturn, 1) := by decide +kernel
theorem dX6_widthBeside_0 : decode cX6_widthBeside 0 = .ok (.aload_n 0, 1) := by decide +kernel
theorem dX6_widthBeside_1 : decode cX6_widthBeside 1 = .ok (.aload_n 0, 1) := by decide +kernel
theorem dX6_widthBeside_2 : decode cX6_widthBeside 2 = .ok (.getfield 43, 3) := by decide +kernel
theorem dX6_widthBeside_5 : decode cX6_widthBeside 5 = .ok (.aload_n 0, 1) := by decide +kernel
theorem dX6_widthBeside_6 : decode cX6_widthBeside 6 = .ok (.getfield 177, 3) := by decide +kernel
theorem dX6_widthBeside_9 : decode cX6_widthBeside 9 = .ok (.aload_n 0, 1) := by decide +kernel
theorem dX6_widthBeside_10 : decode cX6_widthBeside 10 = .ok (.getfield 177, 3) := by decide +kernel
theorem dX6_widthBeside_13 : decode cX6_widthBeside 13 = .ok (.invokevirtual 132, 3) := by decide +kernel
theorem dX6_widthBeside_16 : decode cX6_widthBeside 16 = .ok (.aload_n 0, 1) := by decide +kernel
theorem dX6_widthBeside_17 : decode cX6_widthBeside 17 = .ok (.getfield 177, 3) := by decide +kernel
theorem dX6_widthBeside_20 : decode cX6_widthBeside 20 = .ok (.istore_n 2, 1) := by decide +kernel
theorem dX6_widthBeside_21 : decode cX6_widthBeside 21 = .ok (.iconst 0, 1) := by decide +kernel
theorem dX6_widthBeside_22 : decode cX6_widthBeside 22 = .ok (.istore_n 3, 1) := by decide +kernel
theorem dX6_widthBeside_23 : decode cX6_widthBeside 23 = .ok (.iload_n 3, 1) := by decide +kernel
theorem dX6_widthBeside_24 : decode cX6_widthBeside 24 = .ok (.aload_n 0, 1) := by decide +kernel
theorem dX6_widthBeside_25 : decode cX6_widthBeside 25 = .ok (.getfield 177, 3) := by decide +kernel
theorem dX6_widthBeside_28 : decode cX6_widthBeside 28 = .ok (.if_icmp .ge 63, 3) := by decide +kernel
theorem dX6_widthBeside_31 : decode cX6_widthBeside 31 = .ok (.iload_n 1, 1) := by decide +kernel
theorem dX6_widthBeside_32 : decode cX6_widthBeside 32 = .ok (.ifCond .lt 59, 3) := by decide +kernel
theorem dX6_widthBeside_35 : decode cX6_widthBeside 35 = .ok (.iload_n 3, 1) := by decide +kernel
theorem dX6_widthBeside_36 : decode cX6_widthBeside 36 = .ok (.iload_n 1, 1) := by decide +kernel
theorem dX6_widthBeside_37 : decode cX6_widthBeside 37 = .ok (.if_icmp .eq 31, 3) := by decide +kernel
theorem dX6_widthBeside_40 : decode cX6_widthBeside 40 = .ok (.aload_n 0, 1) := by decide +kernel
theorem dX6_widthBeside_41 : decode cX6_widthBeside 41 = .ok (.getfield 43, 3) := by decide +kernel
theorem dX6_widthBeside_44 : decode cX6_widthBeside 44 = .ok (.bipush 50, 2) := by decide +kernel
theorem dX6_widthBeside_46 : decode cX6_widthBeside 46 = .ok (.iload_n 3, 1) := by decide +kernel
theorem dX6_widthBeside_47 : decode cX6_widthBeside 47 = .ok (.imul, 1) := by decide +kernel
theorem dX6_widthBeside_48 : decode cX6_widthBeside 48 = .ok (.iload_n 1, 1) := by decide +kernel
theorem dX6_widthBeside_49 : decode cX6_widthBeside 49 = .ok (.iadd, 1) := by decide +kernel
theorem dX6_widthBeside_50 : decode cX6_widthBeside 50 = .ok (.baload, 1) := by decide +kernel
theorem dX6_widthBeside_51 : decode cX6_widthBeside 51 = .ok (.ifCond .ne 17, 3) := by decide +kernel
theorem dX6_widthBeside_54 : decode cX6_widthBeside 54 = .ok (.aload_n 0, 1) := by decide +kernel
theorem dX6_widthBeside_55 : decode cX6_widthBeside 55 = .ok (.getfield 43, 3) := by decide +kernel
theorem dX6_widthBeside_58 : decode cX6_widthBeside 58 = .ok (.bipush 50, 2) := by decide +kernel
theorem dX6_widthBeside_60 : decode cX6_widthBeside 60 = .ok (.iload_n 1, 1) := by decide +kernel
theorem dX6_widthBeside_61 : decode cX6_widthBeside 61 = .ok (.imul, 1) := by decide +kernel
theorem dX6_widthBeside_62 : decode cX6_widthBeside 62 = .ok (.iload_n 3, 1) := by decide +kernel
theorem dX6_widthBeside_63 : decode cX6_widthBeside 63 = .ok (.iadd, 1) := by decide +kernel
theorem dX6_widthBeside_64 : decode cX6_widthBeside 64 = .ok (.baload, 1) := by decide +kernel
theorem dX6_widthBeside_65 : decode cX6_widthBeside 65 = .ok (.ifCond .eq 20, 3) := by decide +kernel
theorem dX6_widthBeside_68 : decode cX6_widthBeside 68 = .ok (.aload_n 0, 1) := by decide +kernel
theorem dX6_widthBeside_69 : decode cX6_widthBeside 69 = .ok (.getfield 67, 3) := by decide +kernel
theorem dX6_widthBeside_72 : decode cX6_widthBeside 72 = .ok (.iload_n 3, 1) := by decide +kernel
theorem dX6_widthBeside_73 : decode cX6_widthBeside 73 = .ok (.iconst 1, 1) := by decide +kernel
theorem dX6_widthBeside_74 : decode cX6_widthBeside 74 = .ok (.bastore, 1) := by decide +kernel
theorem dX6_widthBeside_75 : decode cX6_widthBeside 75 = .ok (.aload_n 0, 1) := by decide +kernel
theorem dX6_widthBeside_76 : decode cX6_widthBeside 76 = .ok (.getfield 70, 3) := by decide +kernel
theorem dX6_widthBeside_79 : decode cX6_widthBeside 79 = .ok (.iload_n 3, 1) := by decide +kernel
theorem dX6_widthBeside_80 : decode cX6_widthBeside 80 = .ok (.iconst 1, 1) := by decide +kernel
theorem dX6_widthBeside_81 : decode cX6_widthBeside 81 = .ok (.bastore, 1) := by decide +kernel
theorem dX6_widthBeside_82 : decode cX6_widthBeside 82 = .ok (.iinc 2 (-1), 3) := by decide +kernel
theorem dX6_widthBeside_85 : decode cX6_widthBeside 85 = .ok (.iinc 3 1, 3) := by decide +kernel
theorem dX6_widthBeside_88 : decode cX6_widthBeside 88 = .ok (.goto (-65), 3) := by decide +kernel
theorem dX6_widthBeside_91 : decode cX6_widthBeside 91 = .ok (.iload_n 2, 1) := by decide +kernel
theorem dX6_widthBeside_92 : decode cX6_widthBeside 92 = .ok (.aload_n 0, 1) := by decide +kernel
theorem dX6_widthBeside_93 : decode cX6_widthBeside 93 = .ok (.invokevirtual 136, 3) := by decide +kernel
theorem dX6_widthBeside_96 : decode cX6_widthBeside 96 = .ok (.isub, 1) := by decide +kernel
theorem dX6_widthBeside_97 : decode cX6_widthBeside 97 = .ok (.ireturn, 1) := by decide +kernel
theorem dX6_workThings_0 : decode cX6_workThings 0 = .ok (.aload_n 0, 1) := by decide +kernel
theorem dX6_workThings_1 : decode cX6_workThings 1 = .ok (.getfield 202, 3) := by decide +kernel
theorem dX6_workThings_4 : decode cX6_workThings 4 = .ok (.ifCond .eq 4, 3) := by decide +kernel
theorem dX6_workThings_7 : decode cX6_workThings 7 = .ok (.return_, 1) := by decide +kernel
theorem dX6_workThings_8 : decode cX6_workThings 8 = .ok (.aload_n 0, 1) := by decide +kernel
theorem dX6_workThings_9 : decode cX6_workThings 9 = .ok (.iconst 1, 1) := by decide +kernel
theorem dX6_workThings_10 : decode cX6_workThings 10 = .ok (.putfield 202, 3) := by decide +kernel
theorem dX6_workThings_13 : decode cX6_workThings 13 = .ok (.aload_n 0, 1) := by decide +kernel
theorem dX6_workThings_14 : decode cX6_workThings 14 = .ok (.aload_n 0, 1) := by decide +kernel
theorem dX6_workThings_15 : decode cX6_workThings 15 = .ok (.iconst (-1), 1) := by decide +kernel
theorem dX6_workThings_16 : decode cX6_workThings 16 = .ok (.invokevirtual 205, 3) := by decide +kernel
theorem dX6_workThings_19 : decode cX6_workThings 19 = .ok (.putfield 180, 3) := by decide +kernel
theorem dX6_workThings_22 : decode cX6_workThings 22 = .ok (.aload_n 0, 1) := by decide +kernel
theorem dX6_workThings_23 : decode cX6_workThings 23 = .ok (.invokevirtual 153, 3) := by decide +kernel
theorem dX6_workThings_26 : decode cX6_workThings 26 = .ok (.iconst 0, 1) := by decide +kernel
theorem dX6_workThings_27 : decode cX6_workThings 27 = .ok (.istore_n 1, 1) := by decide +kernel
theorem dX6_workThings_28 : decode cX6_workThings 28 = .ok (.iload_n 1, 1) := by decide +kernel
theorem dX6_workThings_29 : decode cX6_workThings 29 = .ok (.aload_n 0, 1) := by decide +kernel
theorem dX6_workThings_30 : decode cX6_workThings 30 = .ok (.getfield 177, 3) := by decide +kernel
theorem dX6_workThings_33 : decode cX6_workThings 33 = .ok (.if_icmp .ge 28, 3) := by decide +kernel
theorem dX6_workThings_36 : decode cX6_workThings 36 = .ok (.aload_n 0, 1) := by decide +kernel
theorem dX6_workThings_37 : decode cX6_workThings 37 = .ok (.getfield 46, 3) := by decide +kernel
theorem dX6_workThings_40 : decode cX6_workThings 40 = .ok (.iload_n 1, 1) := by decide +kernel
theorem dX6_workThings_41 : decode cX6_workThings 41 = .ok (.aload_n 0, 1) := by decide +kernel
theorem dX6_workThings_42 : decode cX6_workThings 42 = .ok (.getfield 73, 3) := by decide +kernel
theorem dX6_workThings_45 : decode cX6_workThings 45 = .ok (.iload_n 1, 1) := by decide +kernel
theorem dX6_workThings_46 : decode cX6_workThings 46 = .ok (.iaload, 1) := by decide +kernel
theorem dX6_workThings_47 : decode cX6_workThings 47 = .ok (.iastore, 1) := by decide +kernel
theorem dX6_workThings_48 : decode cX6_workThings 48 = .ok (.aload_n 0, 1) := by decide +kernel
theorem dX6_workThings_49 : decode cX6_workThings 49 = .ok (.getfield 49, 3) := by decide +kernel
theorem dX6_workThings_52 : decode cX6_workThings 52 = .ok (.iload_n 1, 1) := by decide +kernel
theorem dX6_workThings_53 : decode cX6_workThings 53 = .ok (.iconst (-1), 1) := by decide +kernel
theorem dX6_workThings_54 : decode cX6_workThings 54 = .ok (.iastore, 1) := by decide +kernel
theorem dX6_workThings_55 : decode cX6_workThings 55 = .ok (.iinc 1 1, 3) := by decide +kernel
theorem dX6_workThings_58 : decode cX6_workThings 58 = .ok (.goto (-30), 3) := by decide +kernel
theorem dX6_workThings_61 : decode cX6_workThings 61 = .ok (.iconst 0, 1) := by decide +kernel
theorem dX6_workThings_62 : decode cX6_workThings 62 = .ok (.istore_n 1, 1) := by decide +kernel
theorem dX6_workThings_63 : decode cX6_workThings 63 = .ok (.iconst 0, 1) := by decide +kernel
theorem dX6_workThings_64 : decode cX6_workThings 64 = .ok (.istore_n 2, 1) := by decide +kernel
theorem dX6_workThings_65 : decode cX6_workThings 65 = .ok (.iload_n 2, 1) := by decide +kernel
theorem dX6_workThings_66 : decode cX6_workThings 66 = .ok (.aload_n 0, 1) := by decide +kernel
theorem dX6_workThings_67 : decode cX6_workThings 67 = .ok (.getfield 177, 3) := by decide +kernel
theorem dX6_workThings_70 : decode cX6_workThings 70 = .ok (.if_icmp .ge 44, 3) := by decide +kernel
theorem dX6_workThings_73 : decode cX6_workThings 73 = .ok (.aload_n 0, 1) := by decide +kernel
theorem dX6_workThings_74 : decode cX6_workThings 74 = .ok (.getfield 76, 3) := by decide +kernel
theorem dX6_workThings_77 : decode cX6_workThings 77 = .ok (.iload_n 2, 1) := by decide +kernel
theorem dX6_workThings_78 : decode cX6_workThings 78 = .ok (.iaload, 1) := by decide +kernel
theorem dX6_workThings_79 : decode cX6_workThings 79 = .ok (.ifCond .ge 29, 3) := by decide +kernel
theorem dX6_workThings_82 : decode cX6_workThings 82 = .ok (.iload_n 2, 1) := by decide +kernel
theorem dX6_workThings_83 : decode cX6_workThings 83 = .ok (.istore_n 3, 1) := by decide +kernel
theorem dX6_workThings_84 : decode cX6_workThings 84 = .ok (.iload_n 3, 1) := by decide +kernel
theorem dX6_workThings_85 : decode cX6_workThings 85 = .ok (.ifCond .lt 20, 3) := by decide +kernel
theorem dX6_workThings_88 : decode cX6_workThings 88 = .ok (.aload_n 0, 1) := by decide +kernel
theorem dX6_workThings_89 : decode cX6_workThings 89 = .ok (.getfield 49, 3) := by decide +kernel
theorem dX6_workThings_92 : decode cX6_workThings 92 = .ok (.iload_n 3, 1) := by decide +kernel
theorem dX6_workThings_93 : decode cX6_workThings 93 = .ok (.iload_n 1, 1) := by decide +kernel
theorem dX6_workThings_94 : decode cX6_workThings 94 = .ok (.iastore, 1) := by decide +kernel
theorem dX6_workThings_95 : decode cX6_workThings 95 = .ok (.aload_n 0, 1) := by decide +kernel
theorem dX6_workThings_96 : decode cX6_workThings 96 = .ok (.getfield 46, 3) := by decide +kernel
theorem dX6_workThings_99 : decode cX6_workThings 99 = .ok (.iload_n 3, 1) := by decide +kernel
theorem dX6_workThings_100 : decode cX6_workThings 100 = .ok (.iaload, 1) := by decide +kernel
theorem dX6_workThings_101 : decode cX6_workThings 101 = .ok (.istore_n 3, 1) := by decide +kernel
theorem dX6_workThings_102 : decode cX6_workThings 102 = .ok (.goto (-18), 3) := by decide +kernel
theorem dX6_workThings_105 : decode cX6_workThings 105 = .ok (.iinc 1 1, 3) := by decide +kernel
theorem dX6_workThings_108 : decode cX6_workThings 108 = .ok (.iinc 2 1, 3) := by decide +kernel
theorem dX6_workThings_111 : decode cX6_workThings 111 = .ok (.goto (-46), 3) := by decide +kernel
theorem dX6_workThings_114 : decode cX6_workThings 114 = .ok (.aload_n 0, 1) := by decide +kernel
theorem dX6_workThings_115 : decode cX6_workThings 115 = .ok (.invokevirtual 208, 3) := by decide +kernel
theorem dX6_workThings_118 : decode cX6_workThings 118 = .ok (.iconst 0, 1) := by decide +kernel
theorem dX6_workThings_119 : decode cX6_workThings 119 = .ok (.istore_n 2, 1) := by decide +kernel
theorem dX6_workThings_120 : decode cX6_workThings 120 = .ok (.iload_n 2, 1) := by decide +kernel
theorem dX6_workThings_121 : decode cX6_workThings 121 = .ok (.aload_n 0, 1) := by decide +kernel
theorem dX6_workThings_122 : decode cX6_workThings 122 = .ok (.getfield 177, 3) := by decide +kernel
theorem dX6_workThings_125 : decode cX6_workThings 125 = .ok (.if_icmp .ge 46, 3) := by decide +kernel
theorem dX6_workThings_128 : decode cX6_workThings 128 = .ok (.aload_n 0, 1) := by decide +kernel
theorem dX6_workThings_129 : decode cX6_workThings 129 = .ok (.getfield 55, 3) := by decide +kernel
theorem dX6_workThings_132 : decode cX6_workThings 132 = .ok (.iload_n 2, 1) := by decide +kernel
theorem dX6_workThings_133 : decode cX6_workThings 133 = .ok (.aload_n 0, 1) := by decide +kernel
theorem dX6_workThings_134 : decode cX6_workThings 134 = .ok (.iload_n 2, 1) := by decide +kernel
theorem dX6_workThings_135 : decode cX6_workThings 135 = .ok (.invokevirtual 205, 3) := by decide +kernel
theorem dX6_workThings_138 : decode cX6_workThings 138 = .ok (.aload_n 0, 1) := by decide +kernel
theorem dX6_workThings_139 : decode cX6_workThings 139 = .ok (.getfield 180, 3) := by decide +kernel
theorem dX6_workThings_142 : decode cX6_workThings 142 = .ok (.iconst 1, 1) := by decide +kernel
theorem dX6_workThings_143 : decode cX6_workThings 143 = .ok (.isub, 1) := by decide +kernel
theorem dX6_workThings_144 : decode cX6_workThings 144 = .ok (.if_icmp .ne 7, 3) := by decide +kernel
theorem dX6_workThings_147 : decode cX6_workThings 147 = .ok (.iconst 1, 1) := by decide +kernel
theorem dX6_workThings_148 : decode cX6_workThings 148 = .ok (.goto 4, 3) := by decide +kernel
theorem dX6_workThings_151 : decode cX6_workThings 151 = .ok (.iconst 0, 1) := by decide +kernel
theorem dX6_workThings_152 : decode cX6_workThings 152 = .ok (.bastore, 1) := by decide +kernel
theorem dX6_workThings_153 : decode cX6_workThings 153 = .ok (.aload_n 0, 1) := by decide +kernel
theorem dX6_workThings_154 : decode cX6_workThings 154 = .ok (.getfield 58, 3) := by decide +kernel
theorem dX6_workThings_157 : decode cX6_workThings 157 = .ok (.iload_n 2, 1) := by decide +kernel
theorem dX6_workThings_158 : decode cX6_workThings 158 = .ok (.aload_n 0, 1) := by decide +kernel
theorem dX6_workThings_159 : decode cX6_workThings 159 = .ok (.getfield 55, 3) := by decide +kernel
theorem dX6_workThings_162 : decode cX6_workThings 162 = .ok (.iload_n 2, 1) := by decide +kernel
theorem dX6_workThings_163 : decode cX6_workThings 163 = .ok (.baload, 1) := by decide +kernel
theorem dX6_workThings_164 : decode cX6_workThings 164 = .ok (.bastore, 1) := by decide +kernel
theorem dX6_workThings_165 : decode cX6_workThings 165 = .ok (.iinc 2 1, 3) := by decide +kernel
theorem dX6_workThings_168 : decode cX6_workThings 168 = .ok (.goto (-48), 3) := by decide +kernel
theorem dX6_workThings_171 : decode cX6_workThings 171 = .ok (.aload_n 0, 1) := by decide +kernel
theorem dX6_workThings_172 : decode cX6_workThings 172 = .ok (.invokevirtual 211, 3) := by decide +kernel
theorem dX6_workThings_175 : decode cX6_workThings 175 = .ok (.return_, 1) := by decide +kernel
theorem dX6_levels_0 : decode cX6_levels 0 = .ok (.iconst 0, 1) := by decide +kernel
theorem dX6_levels_1 : decode cX6_levels 1 = .ok (.istore_n 1, 1) := by decide +kernel
theorem dX6_levels_2 : decode cX6_levels 2 = .ok (.iload_n 1, 1) := by decide +kernel
theorem dX6_levels_3 : decode cX6_levels 3 = .ok (.aload_n 0, 1) := by decide +kernel
theorem dX6_levels_4 : decode cX6_levels 4 = .ok (.getfield 177, 3) := by decide +kernel
theorem dX6_levels_7 : decode cX6_levels 7 = .ok (.if_icmp .ge 16, 3) := by decide +kernel
theorem dX6_levels_10 : decode cX6_levels 10 = .ok (.aload_n 0, 1) := by decide +kernel
theorem dX6_levels_11 : decode cX6_levels 11 = .ok (.getfield 52, 3) := by decide +kernel
theorem dX6_levels_14 : decode cX6_levels 14 = .ok (.iload_n 1, 1) := by decide +kernel
theorem dX6_levels_15 : decode cX6_levels 15 = .ok (.iconst 0, 1) := by decide +kernel
theorem dX6_levels_16 : decode cX6_levels 16 = .ok (.iastore, 1) := by decide +kernel
theorem dX6_levels_17 : decode cX6_levels 17 = .ok (.iinc 1 1, 3) := by decide +kernel
theorem dX6_levels_20 : decode cX6_levels 20 = .ok (.goto (-18), 3) := by decide +kernel
theorem dX6_levels_23 : decode cX6_levels 23 = .ok (.iconst 0, 1) := by decide +kernel
theorem dX6_levels_24 : decode cX6_levels 24 = .ok (.istore_n 1, 1) := by decide +kernel
theorem dX6_levels_25 : decode cX6_levels 25 = .ok (.iload_n 1, 1) := by decide +kernel
theorem dX6_levels_26 : decode cX6_levels 26 = .ok (.aload_n 0, 1) := by decide +kernel
theorem dX6_levels_27 : decode cX6_levels 27 = .ok (.getfield 177, 3) := by decide +kernel
theorem dX6_levels_30 : decode cX6_levels 30 = .ok (.if_icmp .ge 84, 3) := by decide +kernel
theorem dX6_levels_33 : decode cX6_levels 33 = .ok (.iconst 0, 1) := by decide +kernel
theorem dX6_levels_34 : decode cX6_levels 34 = .ok (.istore_n 2, 1) := by decide +kernel
theorem dX6_levels_35 : decode cX6_levels 35 = .ok (.iload_n 2, 1) := by decide +kernel
theorem dX6_levels_36 : decode cX6_levels 36 = .ok (.aload_n 0, 1) := by decide +kernel
theorem dX6_levels_37 : decode cX6_levels 37 = .ok (.getfield 177, 3) := by decide +kernel
theorem dX6_levels_40 : decode cX6_levels 40 = .ok (.if_icmp .ge 68, 3) := by decide +kernel
theorem dX6_levels_43 : decode cX6_levels 43 = .ok (.iconst 0, 1) := by decide +kernel
theorem dX6_levels_44 : decode cX6_levels 44 = .ok (.istore_n 3, 1) := by decide +kernel
theorem dX6_levels_45 : decode cX6_levels 45 = .ok (.iload_n 3, 1) := by decide +kernel
theorem dX6_levels_46 : decode cX6_levels 46 = .ok (.aload_n 0, 1) := by decide +kernel
theorem dX6_levels_47 : decode cX6_levels 47 = .ok (.getfield 177, 3) := by decide +kernel
theorem dX6_levels_50 : decode cX6_levels 50 = .ok (.if_icmp .ge 52, 3) := by decide +kernel
theorem dX6_levels_53 : decode cX6_levels 53 = .ok (.aload_n 0, 1) := by decide +kernel
theorem dX6_levels_54 : decode cX6_levels 54 = .ok (.getfield 43, 3) := by decide +kernel
theorem dX6_levels_57 : decode cX6_levels 57 = .ok (.bipush 50, 2) := by decide +kernel
theorem dX6_levels_59 : decode cX6_levels 59 = .ok (.iload_n 2, 1) := by decide +kernel
theorem dX6_levels_60 : decode cX6_levels 60 = .ok (.imul, 1) := by decide +kernel
theorem dX6_levels_61 : decode cX6_levels 61 = .ok (.iload_n 3, 1) := by decide +kernel
theorem dX6_levels_62 : decode cX6_levels 62 = .ok (.iadd, 1) := by decide +kernel
theorem dX6_levels_63 : decode cX6_levels 63 = .ok (.baload, 1) := by decide +kernel
theorem dX6_levels_64 : decode cX6_levels 64 = .ok (.ifCond .eq 32, 3) := by decide +kernel
theorem dX6_levels_67 : decode cX6_levels 67 = .ok (.aload_n 0, 1) := by decide +kernel
theorem dX6_levels_68 : decode cX6_levels 68 = .ok (.getfield 52, 3) := by decide +kernel
theorem dX6_levels_71 : decode cX6_levels 71 = .ok (.iload_n 3, 1) := by decide +kernel
theorem dX6_levels_72 : decode cX6_levels 72 = .ok (.iaload, 1) := by decide +kernel
theorem dX6_levels_73 : decode cX6_levels 73 = .ok (.aload_n 0, 1) := by decide +kernel
theorem dX6_levels_74 : decode cX6_levels 74 = .ok (.getfield 52, 3) := by decide +kernel
theorem dX6_levels_77 : decode cX6_levels 77 = .ok (.iload_n 2, 1) := by decide +kernel
theorem dX6_levels_78 : decode cX6_levels 78 = .ok (.iaload, 1) := by decide +kernel
theorem dX6_levels_79 : decode cX6_levels 79 = .ok (.if_icmp .gt 17, 3) := by decide +kernel
theorem dX6_levels_82 : decode cX6_levels 82 = .ok (.aload_n 0, 1) := by decide +kernel
theorem dX6_levels_83 : decode cX6_levels 83 = .ok (.getfield 52, 3) := by decide +kernel
theorem dX6_levels_86 : decode cX6_levels 86 = .ok (.iload_n 3, 1) := by decide +kernel
theorem dX6_levels_87 : decode cX6_levels 87 = .ok (.aload_n 0, 1) := by decide +kernel
theorem dX6_levels_88 : decode cX6_levels 88 = .ok (.getfield 52, 3) := by decide +kernel
theorem dX6_levels_91 : decode cX6_levels 91 = .ok (.iload_n 2, 1) := by decide +kernel
theorem dX6_levels_92 : decode cX6_levels 92 = .ok (.iaload, 1) := by decide +kernel
theorem dX6_levels_93 : decode cX6_levels 93 = .ok (.iconst 1, 1) := by decide +kernel
theorem dX6_levels_94 : decode cX6_levels 94 = .ok (.iadd, 1) := by decide +kernel
theorem dX6_levels_95 : decode cX6_levels 95 = .ok (.iastore, 1) := by decide +kernel
theorem dX6_levels_96 : decode cX6_levels 96 = .ok (.iinc 3 1, 3) := by decide +kernel
theorem dX6_levels_99 : decode cX6_levels 99 = .ok (.goto (-54), 3) := by decide +kernel
theorem dX6_levels_102 : decode cX6_levels 102 = .ok (.iinc 2 1, 3) := by decide +kernel
theorem dX6_levels_105 : decode cX6_levels 105 = .ok (.goto (-70), 3) := by decide +kernel
theorem dX6_levels_108 : decode cX6_levels 108 = .ok (.iinc 1 1, 3) := by decide +kernel
theorem dX6_levels_111 : decode cX6_levels 111 = .ok (.goto (-86), 3) := by decide +kernel
theorem dX6_levels_114 : decode cX6_levels 114 = .ok (.return_, 1) := by decide +kernel
theorem dX6_ends_0 : decode cX6_ends 0 = .ok (.iconst 0, 1) := by decide +kernel
theorem dX6_ends_1 : decode cX6_ends 1 = .ok (.istore_n 1, 1) := by decide +kernel
theorem dX6_ends_2 : decode cX6_ends 2 = .ok (.iload_n 1, 1) := by decide +kernel
theorem dX6_ends_3 : decode cX6_ends 3 = .ok (.aload_n 0, 1) := by decide +kernel
theorem dX6_ends_4 : decode cX6_ends 4 = .ok (.getfield 177, 3) := by decide +kernel
theorem dX6_ends_7 : decode cX6_ends 7 = .ok (.if_icmp .ge 21, 3) := by decide +kernel
theorem dX6_ends_10 : decode cX6_ends 10 = .ok (.aload_n 0, 1) := by decide +kernel
theorem dX6_ends_11 : decode cX6_ends 11 = .ok (.getfield 61, 3) := by decide +kernel
theorem dX6_ends_14 : decode cX6_ends 14 = .ok (.iload_n 1, 1) := by decide +kernel
theorem dX6_ends_15 : decode cX6_ends 15 = .ok (.aload_n 0, 1) := by decide +kernel
theorem dX6_ends_16 : decode cX6_ends 16 = .ok (.getfield 55, 3) := by decide +kernel
theorem dX6_ends_19 : decode cX6_ends 19 = .ok (.iload_n 1, 1) := by decide +kernel
theorem dX6_ends_20 : decode cX6_ends 20 = .ok (.baload, 1) := by decide +kernel
theorem dX6_ends_21 : decode cX6_ends 21 = .ok (.bastore, 1) := by decide +kernel
theorem dX6_ends_22 : decode cX6_ends 22 = .ok (.iinc 1 1, 3) := by decide +kernel
theorem dX6_ends_25 : decode cX6_ends 25 = .ok (.goto (-23), 3) := by decide +kernel
theorem dX6_ends_28 : decode cX6_ends 28 = .ok (.iconst 0, 1) := by decide +kernel
theorem dX6_ends_29 : decode cX6_ends 29 = .ok (.istore_n 1, 1) := by decide +kernel
theorem dX6_ends_30 : decode cX6_ends 30 = .ok (.iload_n 1, 1) := by decide +kernel
theorem dX6_ends_31 : decode cX6_ends 31 = .ok (.aload_n 0, 1) := by decide +kernel
theorem dX6_ends_32 : decode cX6_ends 32 = .ok (.getfield 177, 3) := by decide +kernel
theorem dX6_ends_35 : decode cX6_ends 35 = .ok (.if_icmp .ge 85, 3) := by decide +kernel
theorem dX6_ends_38 : decode cX6_ends 38 = .ok (.iconst 0, 1) := by decide +kernel
theorem dX6_ends_39 : decode cX6_ends 39 = .ok (.istore_n 2, 1) := by decide +kernel
theorem dX6_ends_40 : decode cX6_ends 40 = .ok (.iload_n 2, 1) := by decide +kernel
theorem dX6_ends_41 : decode cX6_ends 41 = .ok (.aload_n 0, 1) := by decide +kernel
theorem dX6_ends_42 : decode cX6_ends 42 = .ok (.getfield 177, 3) := by decide +kernel
theorem dX6_ends_45 : decode cX6_ends 45 = .ok (.if_icmp .ge 69, 3) := by decide +kernel
theorem dX6_ends_48 : decode cX6_ends 48 = .ok (.aload_n 0, 1) := by decide +kernel
theorem dX6_ends_49 : decode cX6_ends 49 = .ok (.getfield 61, 3) := by decide +kernel
theorem dX6_ends_52 : decode cX6_ends 52 = .ok (.iload_n 2, 1) := by decide +kernel
theorem dX6_ends_53 : decode cX6_ends 53 = .ok (.baload, 1) := by decide +kernel
theorem dX6_ends_54 : decode cX6_ends 54 = .ok (.ifCond .eq 24, 3) := by decide +kernel
theorem dX6_ends_57 : decode cX6_ends 57 = .ok (.aload_n 0, 1) := by decide +kernel
theorem dX6_ends_58 : decode cX6_ends 58 = .ok (.getfield 43, 3) := by decide +kernel
theorem dX6_ends_61 : decode cX6_ends 61 = .ok (.bipush 50, 2) := by decide +kernel
theorem dX6_ends_63 : decode cX6_ends 63 = .ok (.iload_n 2, 1) := by decide +kernel
theorem dX6_ends_64 : decode cX6_ends 64 = .ok (.imul, 1) := by decide +kernel
theorem dX6_ends_65 : decode cX6_ends 65 = .ok (.iload_n 1, 1) := by decide +kernel
theorem dX6_ends_66 : decode cX6_ends 66 = .ok (.iadd, 1) := by decide +kernel
theorem dX6_ends_67 : decode cX6_ends 67 = .ok (.baload, 1) := by decide +kernel
theorem dX6_ends_68 : decode cX6_ends 68 = .ok (.ifCond .eq 10, 3) := by decide +kernel
theorem dX6_ends_71 : decode cX6_ends 71 = .ok (.aload_n 0, 1) := by decide +kernel
theorem dX6_ends_72 : decode cX6_ends 72 = .ok (.getfield 55, 3) := by decide +kernel
theorem dX6_ends_75 : decode cX6_ends 75 = .ok (.iload_n 1, 1) := by decide +kernel
theorem dX6_ends_76 : decode cX6_ends 76 = .ok (.iconst 0, 1) := by decide +kernel
theorem dX6_ends_77 : decode cX6_ends 77 = .ok (.bastore, 1) := by decide +kernel
theorem dX6_ends_78 : decode cX6_ends 78 = .ok (.aload_n 0, 1) := by decide +kernel
theorem dX6_ends_79 : decode cX6_ends 79 = .ok (.getfield 61, 3) := by decide +kernel
theorem dX6_ends_82 : decode cX6_ends 82 = .ok (.iload_n 2, 1) := by decide +kernel
theorem dX6_ends_83 : decode cX6_ends 83 = .ok (.baload, 1) := by decide +kernel
theorem dX6_ends_84 : decode cX6_ends 84 = .ok (.ifCond .eq 24, 3) := by decide +kernel
theorem dX6_ends_87 : decode cX6_ends 87 = .ok (.aload_n 0, 1) := by decide +kernel
theorem dX6_ends_88 : decode cX6_ends 88 = .ok (.getfield 43, 3) := by decide +kernel
theorem dX6_ends_91 : decode cX6_ends 91 = .ok (.bipush 50, 2) := by decide +kernel
theorem dX6_ends_93 : decode cX6_ends 93 = .ok (.iload_n 1, 1) := by decide +kernel
theorem dX6_ends_94 : decode cX6_ends 94 = .ok (.imul, 1) := by decide +kernel
theorem dX6_ends_95 : decode cX6_ends 95 = .ok (.iload_n 2, 1) := by decide +kernel
theorem dX6_ends_96 : decode cX6_ends 96 = .ok (.iadd, 1) := by decide +kernel
theorem dX6_ends_97 : decode cX6_ends 97 = .ok (.baload, 1) := by decide +kernel
theorem dX6_ends_98 : decode cX6_ends 98 = .ok (.ifCond .eq 10, 3) := by decide +kernel
theorem dX6_ends_101 : decode cX6_ends 101 = .ok (.aload_n 0, 1) := by decide +kernel
theorem dX6_ends_102 : decode cX6_ends 102 = .ok (.getfield 58, 3) := by decide +kernel
theorem dX6_ends_105 : decode cX6_ends 105 = .ok (.iload_n 1, 1) := by decide +kernel
theorem dX6_ends_106 : decode cX6_ends 106 = .ok (.iconst 0, 1) := by decide +kernel
theorem dX6_ends_107 : decode cX6_ends 107 = .ok (.bastore, 1) := by decide +kernel
theorem dX6_ends_108 : decode cX6_ends 108 = .ok (.iinc 2 1, 3) := by decide +kernel
theorem dX6_ends_111 : decode cX6_ends 111 = .ok (.goto (-71), 3) := by decide +kernel
theorem dX6_ends_114 : decode cX6_ends 114 = .ok (.iinc 1 1, 3) := by decide +kernel
theorem dX6_ends_117 : decode cX6_ends 117 = .ok (.goto (-87), 3) := by decide +kernel
theorem dX6_ends_120 : decode cX6_ends 120 = .ok (.return_, 1) := by decide +kernel
theorem dX6_about_0 : decode cX6_about 0 = .ok (.iload_n 1, 1) := by decide +kernel
theorem dX6_about_1 : decode cX6_about 1 = .ok (.ifCond .lt 20, 3) := by decide +kernel
theorem dX6_about_4 : decode cX6_about 4 = .ok (.iload_n 1, 1) := by decide +kernel
theorem dX6_about_5 : decode cX6_about 5 = .ok (.aload_n 0, 1) := by decide +kernel
theorem dX6_about_6 : decode cX6_about 6 = .ok (.getfield 177, 3) := by decide +kernel
theorem dX6_about_9 : decode cX6_about 9 = .ok (.if_icmp .ge 12, 3) := by decide +kernel
theorem dX6_about_12 : decode cX6_about 12 = .ok (.iload_n 2, 1) := by decide +kernel
theorem dX6_about_13 : decode cX6_about 13 = .ok (.ifCond .lt 8, 3) := by decide +kernel
theorem dX6_about_16 : decode cX6_about 16 = .ok (.iload_n 2, 1) := by decide +kernel
theorem dX6_about_17 : decode cX6_about 17 = .ok (.iconst 4, 1) := by decide +kernel
theorem dX6_about_18 : decode cX6_about 18 = .ok (.if_icmp .le 5, 3) := by decide +kernel
theorem dX6_about_21 : decode cX6_about 21 = .ok (.iconst (-1), 1) := by decide +kernel
theorem dX6_about_22 : decode cX6_about 22 = .ok (.ireturn, 1) := by decide +kernel
theorem dX6_about_23 : decode cX6_about 23 = .ok (.aload_n 0, 1) := by decide +kernel
theorem dX6_about_24 : decode cX6_about 24 = .ok (.invokevirtual 164, 3) := by decide +kernel
theorem dX6_about_27 : decode cX6_about 27 = .ok (.iload_n 2, 1) := by decide +kernel
theorem dX6_about_28 : decode cX6_about 28 = .ok (.tableswitch 82 0 3 #[32, 39, 60, 67], 32) := by decide +kernel
theorem dX6_about_60 : decode cX6_about 60 = .ok (.aload_n 0, 1) := by decide +kernel
theorem dX6_about_61 : decode cX6_about 61 = .ok (.getfield 49, 3) := by decide +kernel
theorem dX6_about_64 : decode cX6_about 64 = .ok (.iload_n 1, 1) := by decide +kernel
theorem dX6_about_65 : decode cX6_about 65 = .ok (.iaload, 1) := by decide +kernel
theorem dX6_about_66 : decode cX6_about 66 = .ok (.ireturn, 1) := by decide +kernel
theorem dX6_about_67 : decode cX6_about 67 = .ok (.aload_n 0, 1) := by decide +kernel
theorem dX6_about_68 : decode cX6_about 68 = .ok (.getfield 46, 3) := by decide +kernel
theorem dX6_about_71 : decode cX6_about 71 = .ok (.iload_n 1, 1) := by decide +kernel
theorem dX6_about_72 : decode cX6_about 72 = .ok (.iaload, 1) := by decide +kernel
theorem dX6_about_73 : decode cX6_about 73 = .ok (.ifCond .ge 8, 3) := by decide +kernel
theorem dX6_about_76 : decode cX6_about 76 = .ok (.bipush (-3), 2) := by decide +kernel
theorem dX6_about_78 : decode cX6_about 78 = .ok (.goto 9, 3) := by decide +kernel
theorem dX6_about_81 : decode cX6_about 81 = .ok (.aload_n 0, 1) := by decide +kernel
theorem dX6_about_82 : decode cX6_about 82 = .ok (.getfield 46, 3) := by decide +kernel
theorem dX6_about_85 : decode cX6_about 85 = .ok (.iload_n 1, 1) := by decide +kernel
theorem dX6_about_86 : decode cX6_about 86 = .ok (.iaload, 1) := by decide +kernel
theorem dX6_about_87 : decode cX6_about 87 = .ok (.ireturn, 1) := by decide +kernel
theorem dX6_about_88 : decode cX6_about 88 = .ok (.aload_n 0, 1) := by decide +kernel
theorem dX6_about_89 : decode cX6_about 89 = .ok (.getfield 52, 3) := by decide +kernel
theorem dX6_about_92 : decode cX6_about 92 = .ok (.iload_n 1, 1) := by decide +kernel
theorem dX6_about_93 : decode cX6_about 93 = .ok (.iaload, 1) := by decide +kernel
theorem dX6_about_94 : decode cX6_about 94 = .ok (.ireturn, 1) := by decide +kernel
theorem dX6_about_95 : decode cX6_about 95 = .ok (.aload_n 0, 1) := by decide +kernel
theorem dX6_about_96 : decode cX6_about 96 = .ok (.getfield 55, 3) := by decide +kernel
theorem dX6_about_99 : decode cX6_about 99 = .ok (.iload_n 1, 1) := by decide +kernel
theorem dX6_about_100 : decode cX6_about 100 = .ok (.baload, 1) := by decide +kernel
theorem dX6_about_101 : decode cX6_about 101 = .ok (.ifCond .eq 7, 3) := by decide +kernel
theorem dX6_about_104 : decode cX6_about 104 = .ok (.iconst 1, 1) := by decide +kernel
theorem dX6_about_105 : decode cX6_about 105 = .ok (.goto 4, 3) := by decide +kernel
theorem dX6_about_108 : decode cX6_about 108 = .ok (.iconst 0, 1) := by decide +kernel
theorem dX6_about_109 : decode cX6_about 109 = .ok (.ireturn, 1) := by decide +kernel
theorem dX6_about_110 : decode cX6_about 110 = .ok (.aload_n 0, 1) := by decide +kernel
theorem dX6_about_111 : decode cX6_about 111 = .ok (.getfield 58, 3) := by decide +kernel
theorem dX6_about_114 : decode cX6_about 114 = .ok (.iload_n 1, 1) := by decide +kernel
theorem dX6_about_115 : decode cX6_about 115 = .ok (.baload, 1) := by decide +kernel
theorem dX6_about_116 : decode cX6_about 116 = .ok (.ifCond .eq 7, 3) := by decide +kernel
theorem dX6_about_119 : decode cX6_about 119 = .ok (.iconst 1, 1) := by decide +kernel
theorem dX6_about_120 : decode cX6_about 120 = .ok (.goto 4, 3) := by decide +kernel
theorem dX6_about_123 : decode cX6_about 123 = .ok (.iconst 0, 1) := by decide +kernel
theorem dX6_about_124 : decode cX6_about 124 = .ok (.ireturn, 1) := by decide +kernel
theorem dX6_clearGraph_0 : decode cX6_clearGraph 0 = .ok (.aload_n 0, 1) := by decide +kernel
theorem dX6_clearGraph_1 : decode cX6_clearGraph 1 = .ok (.getfield 126, 3) := by decide +kernel
theorem dX6_clearGraph_4 : decode cX6_clearGraph 4 = .ok (.aload_n 0, 1) := by decide +kernel
theorem dX6_clearGraph_5 : decode cX6_clearGraph 5 = .ok (.getfield 129, 3) := by decide +kernel
theorem dX6_clearGraph_8 : decode cX6_clearGraph 8 = .ok (.iadd, 1) := by decide +kernel
theorem dX6_clearGraph_9 : decode cX6_clearGraph 9 = .ok (.istore_n 1, 1) := by decide +kernel
theorem dX6_clearGraph_10 : decode cX6_clearGraph 10 = .ok (.aload_n 0, 1) := by decide +kernel
theorem dX6_clearGraph_11 : decode cX6_clearGraph 11 = .ok (.iconst 0, 1) := by decide +kernel
theorem dX6_clearGraph_12 : decode cX6_clearGraph 12 = .ok (.putfield 126, 3) := by decide +kernel
theorem dX6_clearGraph_15 : decode cX6_clearGraph 15 = .ok (.aload_n 0, 1) := by decide +kernel
theorem dX6_clearGraph_16 : decode cX6_clearGraph 16 = .ok (.iconst 0, 1) := by decide +kernel
theorem dX6_clearGraph_17 : decode cX6_clearGraph 17 = .ok (.putfield 129, 3) := by decide +kernel
theorem dX6_clearGraph_20 : decode cX6_clearGraph 20 = .ok (.aload_n 0, 1) := by decide +kernel
theorem dX6_clearGraph_21 : decode cX6_clearGraph 21 = .ok (.iconst 0, 1) := by decide +kernel
theorem dX6_clearGraph_22 : decode cX6_clearGraph 22 = .ok (.putfield 122, 3) := by decide +kernel
theorem dX6_clearGraph_25 : decode cX6_clearGraph 25 = .ok (.iconst 0, 1) := by decide +kernel
theorem dX6_clearGraph_26 : decode cX6_clearGraph 26 = .ok (.istore_n 2, 1) := by decide +kernel
theorem dX6_clearGraph_27 : decode cX6_clearGraph 27 = .ok (.iload_n 2, 1) := by decide +kernel
theorem dX6_clearGraph_28 : decode cX6_clearGraph 28 = .ok (.sipush 2500, 3) := by decide +kernel
theorem dX6_clearGraph_31 : decode cX6_clearGraph 31 = .ok (.if_icmp .ge 16, 3) := by decide +kernel
theorem dX6_clearGraph_34 : decode cX6_clearGraph 34 = .ok (.aload_n 0, 1) := by decide +kernel
theorem dX6_clearGraph_35 : decode cX6_clearGraph 35 = .ok (.getfield 7, 3) := by decide +kernel
theorem dX6_clearGraph_38 : decode cX6_clearGraph 38 = .ok (.iload_n 2, 1) := by decide +kernel
theorem dX6_clearGraph_39 : decode cX6_clearGraph 39 = .ok (.iconst 0, 1) := by decide +kernel
theorem dX6_clearGraph_40 : decode cX6_clearGraph 40 = .ok (.bastore, 1) := by decide +kernel
theorem dX6_clearGraph_41 : decode cX6_clearGraph 41 = .ok (.iinc 2 1, 3) := by decide +kernel
theorem dX6_clearGraph_44 : decode cX6_clearGraph 44 = .ok (.goto (-17), 3) := by decide +kernel
theorem dX6_clearGraph_47 : decode cX6_clearGraph 47 = .ok (.iload_n 1, 1) := by decide +kernel
theorem dX6_clearGraph_48 : decode cX6_clearGraph 48 = .ok (.ireturn, 1) := by decide +kernel
theorem dX6_clearThings_0 : decode cX6_clearThings 0 = .ok (.aload_n 0, 1) := by decide +kernel
theorem dX6_clearThings_1 : decode cX6_clearThings 1 = .ok (.getfield 177, 3) := by decide +kernel
theorem dX6_clearThings_4 : decode cX6_clearThings 4 = .ok (.istore_n 1, 1) := by decide +kernel
theorem dX6_clearThings_5 : decode cX6_clearThings 5 = .ok (.aload_n 0, 1) := by decide +kernel
theorem dX6_clearThings_6 : decode cX6_clearThings 6 = .ok (.iconst 0, 1) := by decide +kernel
theorem dX6_clearThings_7 : decode cX6_clearThings 7 = .ok (.putfield 177, 3) := by decide +kernel
theorem dX6_clearThings_10 : decode cX6_clearThings 10 = .ok (.aload_n 0, 1) := by decide +kernel
theorem dX6_clearThings_11 : decode cX6_clearThings 11 = .ok (.iconst 0, 1) := by decide +kernel
theorem dX6_clearThings_12 : decode cX6_clearThings 12 = .ok (.putfield 202, 3) := by decide +kernel
theorem dX6_clearThings_15 : decode cX6_clearThings 15 = .ok (.iconst 0, 1) := by decide +kernel
theorem dX6_clearThings_16 : decode cX6_clearThings 16 = .ok (.istore_n 2, 1) := by decide +kernel
theorem dX6_clearThings_17 : decode cX6_clearThings 17 = .ok (.iload_n 2, 1) := by decide +kernel
theorem dX6_clearThings_18 : decode cX6_clearThings 18 = .ok (.sipush 2500, 3) := by decide +kernel
theorem dX6_clearThings_21 : decode cX6_clearThings 21 = .ok (.if_icmp .ge 16, 3) := by decide +kernel
theorem dX6_clearThings_24 : decode cX6_clearThings 24 = .ok (.aload_n 0, 1) := by decide +kernel
theorem dX6_clearThings_25 : decode cX6_clearThings 25 = .ok (.getfield 43, 3) := by decide +kernel
theorem dX6_clearThings_28 : decode cX6_clearThings 28 = .ok (.iload_n 2, 1) := by decide +kernel
theorem dX6_clearThings_29 : decode cX6_clearThings 29 = .ok (.iconst 0, 1) := by decide +kernel
theorem dX6_clearThings_30 : decode cX6_clearThings 30 = .ok (.bastore, 1) := by decide +kernel
theorem dX6_clearThings_31 : decode cX6_clearThings 31 = .ok (.iinc 2 1, 3) := by decide +kernel
theorem dX6_clearThings_34 : decode cX6_clearThings 34 = .ok (.goto (-17), 3) := by decide +kernel
theorem dX6_clearThings_37 : decode cX6_clearThings 37 = .ok (.iload_n 1, 1) := by decide +kernel
theorem dX6_clearThings_38 : decode cX6_clearThings 38 = .ok (.ireturn, 1) := by decide +kernel
theorem dJ6_bitCount_0f7a4_0 : decode cJ6_bitCount_0f7a4 0 = .ok (.iload_n 0, 1) := by decide +kernel
theorem dJ6_bitCount_0f7a4_1 : decode cJ6_bitCount_0f7a4 1 = .ok (.iload_n 0, 1) := by decide +kernel
theorem dJ6_bitCount_0f7a4_2 : decode cJ6_bitCount_0f7a4 2 = .ok (.iconst 1, 1) := by decide +kernel
theorem dJ6_bitCount_0f7a4_3 : decode cJ6_bitCount_0f7a4 3 = .ok (.iushr, 1) := by decide +kernel
theorem dJ6_bitCount_0f7a4_4 : decode cJ6_bitCount_0f7a4 4 = .ok (.ldc_w 265, 3) := by decide +kernel
theorem dJ6_bitCount_0f7a4_7 : decode cJ6_bitCount_0f7a4 7 = .ok (.iand, 1) := by decide +kernel
theorem dJ6_bitCount_0f7a4_8 : decode cJ6_bitCount_0f7a4 8 = .ok (.isub, 1) := by decide +kernel
end
section
theorem dJ6_bitCount_0f7a4_9 : decode cJ6_bitCount_0f7a4 9 = .ok (.istore_n 0, 1) := by decide +kernel
theorem dJ6_bitCount_0f7a4_10 : decode cJ6_bitCount_0f7a4 10 = .ok (.iload_n 0, 1) := by decide +kernel
theorem dJ6_bitCount_0f7a4_11 : decode cJ6_bitCount_0f7a4 11 = .ok (.ldc_w 266, 3) := by decide +kernel
theorem dJ6_bitCount_0f7a4_14 : decode cJ6_bitCount_0f7a4 14 = .ok (.iand, 1) := by decide +kernel
theorem dJ6_bitCount_0f7a4_15 : decode cJ6_bitCount_0f7a4 15 = .ok (.iload_n 0, 1) := by decide +kernel
theorem dJ6_bitCount_0f7a4_16 : decode cJ6_bitCount_0f7a4 16 = .ok (.iconst 2, 1) := by decide +kernel
theorem dJ6_bitCount_0f7a4_17 : decode cJ6_bitCount_0f7a4 17 = .ok (.iushr, 1) := by decide +kernel
theorem dJ6_bitCount_0f7a4_18 : decode cJ6_bitCount_0f7a4 18 = .ok (.ldc_w 266, 3) := by decide +kernel
theorem dJ6_bitCount_0f7a4_21 : decode cJ6_bitCount_0f7a4 21 = .ok (.iand, 1) := by decide +kernel
theorem dJ6_bitCount_0f7a4_22 : decode cJ6_bitCount_0f7a4 22 = .ok (.iadd, 1) := by decide +kernel
theorem dJ6_bitCount_0f7a4_23 : decode cJ6_bitCount_0f7a4 23 = .ok (.istore_n 0, 1) := by decide +kernel
theorem dJ6_bitCount_0f7a4_24 : decode cJ6_bitCount_0f7a4 24 = .ok (.iload_n 0, 1) := by decide +kernel
theorem dJ6_bitCount_0f7a4_25 : decode cJ6_bitCount_0f7a4 25 = .ok (.iload_n 0, 1) := by decide +kernel
theorem dJ6_bitCount_0f7a4_26 : decode cJ6_bitCount_0f7a4 26 = .ok (.iconst 4, 1) := by decide +kernel
theorem dJ6_bitCount_0f7a4_27 : decode cJ6_bitCount_0f7a4 27 = .ok (.iushr, 1) := by decide +kernel
theorem dJ6_bitCount_0f7a4_28 : decode cJ6_bitCount_0f7a4 28 = .ok (.iadd, 1) := by decide +kernel
theorem dJ6_bitCount_0f7a4_29 : decode cJ6_bitCount_0f7a4 29 = .ok (.ldc_w 267, 3) := by decide +kernel
theorem dJ6_bitCount_0f7a4_32 : decode cJ6_bitCount_0f7a4 32 = .ok (.iand, 1) := by decide +kernel
theorem dJ6_bitCount_0f7a4_33 : decode cJ6_bitCount_0f7a4 33 = .ok (.istore_n 0, 1) := by decide +kernel
theorem dJ6_bitCount_0f7a4_34 : decode cJ6_bitCount_0f7a4 34 = .ok (.iload_n 0, 1) := by decide +kernel
theorem dJ6_bitCount_0f7a4_35 : decode cJ6_bitCount_0f7a4 35 = .ok (.iload_n 0, 1) := by decide +kernel
theorem dJ6_bitCount_0f7a4_36 : decode cJ6_bitCount_0f7a4 36 = .ok (.bipush 8, 2) := by decide +kernel
theorem dJ6_bitCount_0f7a4_38 : decode cJ6_bitCount_0f7a4 38 = .ok (.iushr, 1) := by decide +kernel
theorem dJ6_bitCount_0f7a4_39 : decode cJ6_bitCount_0f7a4 39 = .ok (.iadd, 1) := by decide +kernel
theorem dJ6_bitCount_0f7a4_40 : decode cJ6_bitCount_0f7a4 40 = .ok (.istore_n 0, 1) := by decide +kernel
theorem dJ6_bitCount_0f7a4_41 : decode cJ6_bitCount_0f7a4 41 = .ok (.iload_n 0, 1) := by decide +kernel
theorem dJ6_bitCount_0f7a4_42 : decode cJ6_bitCount_0f7a4 42 = .ok (.iload_n 0, 1) := by decide +kernel
theorem dJ6_bitCount_0f7a4_43 : decode cJ6_bitCount_0f7a4 43 = .ok (.bipush 16, 2) := by decide +kernel
theorem dJ6_bitCount_0f7a4_45 : decode cJ6_bitCount_0f7a4 45 = .ok (.iushr, 1) := by decide +kernel
theorem dJ6_bitCount_0f7a4_46 : decode cJ6_bitCount_0f7a4 46 = .ok (.iadd, 1) := by decide +kernel
theorem dJ6_bitCount_0f7a4_47 : decode cJ6_bitCount_0f7a4 47 = .ok (.istore_n 0, 1) := by decide +kernel
theorem dJ6_bitCount_0f7a4_48 : decode cJ6_bitCount_0f7a4 48 = .ok (.iload_n 0, 1) := by decide +kernel
theorem dJ6_bitCount_0f7a4_49 : decode cJ6_bitCount_0f7a4 49 = .ok (.bipush 63, 2) := by decide +kernel
theorem dJ6_bitCount_0f7a4_51 : decode cJ6_bitCount_0f7a4 51 = .ok (.iand, 1) := by decide +kernel
theorem dJ6_bitCount_0f7a4_52 : decode cJ6_bitCount_0f7a4 52 = .ok (.ireturn, 1) := by decide +kernel
theorem dJ13_bitCount_95d88_0 : decode cJ13_bitCount_95d88 0 = .ok (.lload_n 0, 1) := by decide +kernel
theorem dJ13_bitCount_95d88_1 : decode cJ13_bitCount_95d88 1 = .ok (.lload_n 0, 1) := by decide +kernel
theorem dJ13_bitCount_95d88_2 : decode cJ13_bitCount_95d88 2 = .ok (.iconst 1, 1) := by decide +kernel
theorem dJ13_bitCount_95d88_3 : decode cJ13_bitCount_95d88 3 = .ok (.lushr, 1) := by decide +kernel
theorem dJ13_bitCount_95d88_4 : decode cJ13_bitCount_95d88 4 = .ok (.ldc2_w 314, 3) := by decide +kernel
theorem dJ13_bitCount_95d88_7 : decode cJ13_bitCount_95d88 7 = .ok (.land, 1) := by decide +kernel
theorem dJ13_bitCount_95d88_8 : decode cJ13_bitCount_95d88 8 = .ok (.lsub, 1) := by decide +kernel
theorem dJ13_bitCount_95d88_9 : decode cJ13_bitCount_95d88 9 = .ok (.lstore_n 0, 1) := by decide +kernel
theorem dJ13_bitCount_95d88_10 : decode cJ13_bitCount_95d88 10 = .ok (.lload_n 0, 1) := by decide +kernel
theorem dJ13_bitCount_95d88_11 : decode cJ13_bitCount_95d88 11 = .ok (.ldc2_w 316, 3) := by decide +kernel
theorem dJ13_bitCount_95d88_14 : decode cJ13_bitCount_95d88 14 = .ok (.land, 1) := by decide +kernel
theorem dJ13_bitCount_95d88_15 : decode cJ13_bitCount_95d88 15 = .ok (.lload_n 0, 1) := by decide +kernel
theorem dJ13_bitCount_95d88_16 : decode cJ13_bitCount_95d88 16 = .ok (.iconst 2, 1) := by decide +kernel
theorem dJ13_bitCount_95d88_17 : decode cJ13_bitCount_95d88 17 = .ok (.lushr, 1) := by decide +kernel
theorem dJ13_bitCount_95d88_18 : decode cJ13_bitCount_95d88 18 = .ok (.ldc2_w 316, 3) := by decide +kernel
theorem dJ13_bitCount_95d88_21 : decode cJ13_bitCount_95d88 21 = .ok (.land, 1) := by decide +kernel
theorem dJ13_bitCount_95d88_22 : decode cJ13_bitCount_95d88 22 = .ok (.ladd, 1) := by decide +kernel
theorem dJ13_bitCount_95d88_23 : decode cJ13_bitCount_95d88 23 = .ok (.lstore_n 0, 1) := by decide +kernel
theorem dJ13_bitCount_95d88_24 : decode cJ13_bitCount_95d88 24 = .ok (.lload_n 0, 1) := by decide +kernel
theorem dJ13_bitCount_95d88_25 : decode cJ13_bitCount_95d88 25 = .ok (.lload_n 0, 1) := by decide +kernel
theorem dJ13_bitCount_95d88_26 : decode cJ13_bitCount_95d88 26 = .ok (.iconst 4, 1) := by decide +kernel
theorem dJ13_bitCount_95d88_27 : decode cJ13_bitCount_95d88 27 = .ok (.lushr, 1) := by decide +kernel
theorem dJ13_bitCount_95d88_28 : decode cJ13_bitCount_95d88 28 = .ok (.ladd, 1) := by decide +kernel
theorem dJ13_bitCount_95d88_29 : decode cJ13_bitCount_95d88 29 = .ok (.ldc2_w 318, 3) := by decide +kernel
theorem dJ13_bitCount_95d88_32 : decode cJ13_bitCount_95d88 32 = .ok (.land, 1) := by decide +kernel
theorem dJ13_bitCount_95d88_33 : decode cJ13_bitCount_95d88 33 = .ok (.lstore_n 0, 1) := by decide +kernel
theorem dJ13_bitCount_95d88_34 : decode cJ13_bitCount_95d88 34 = .ok (.lload_n 0, 1) := by decide +kernel
theorem dJ13_bitCount_95d88_35 : decode cJ13_bitCount_95d88 35 = .ok (.lload_n 0, 1) := by decide +kernel
theorem dJ13_bitCount_95d88_36 : decode cJ13_bitCount_95d88 36 = .ok (.bipush 8, 2) := by decide +kernel
theorem dJ13_bitCount_95d88_38 : decode cJ13_bitCount_95d88 38 = .ok (.lushr, 1) := by decide +kernel
theorem dJ13_bitCount_95d88_39 : decode cJ13_bitCount_95d88 39 = .ok (.ladd, 1) := by decide +kernel
theorem dJ13_bitCount_95d88_40 : decode cJ13_bitCount_95d88 40 = .ok (.lstore_n 0, 1) := by decide +kernel
theorem dJ13_bitCount_95d88_41 : decode cJ13_bitCount_95d88 41 = .ok (.lload_n 0, 1) := by decide +kernel
theorem dJ13_bitCount_95d88_42 : decode cJ13_bitCount_95d88 42 = .ok (.lload_n 0, 1) := by decide +kernel
theorem dJ13_bitCount_95d88_43 : decode cJ13_bitCount_95d88 43 = .ok (.bipush 16, 2) := by decide +kernel
theorem dJ13_bitCount_95d88_45 : decode cJ13_bitCount_95d88 45 = .ok (.lushr, 1) := by decide +kernel
theorem dJ13_bitCount_95d88_46 : decode cJ13_bitCount_95d88 46 = .ok (.ladd, 1) := by decide +kernel
theorem dJ13_bitCount_95d88_47 : decode cJ13_bitCount_95d88 47 = .ok (.lstore_n 0, 1) := by decide +kernel
theorem dJ13_bitCount_95d88_48 : decode cJ13_bitCount_95d88 48 = .ok (.lload_n 0, 1) := by decide +kernel
theorem dJ13_bitCount_95d88_49 : decode cJ13_bitCount_95d88 49 = .ok (.lload_n 0, 1) := by decide +kernel
theorem dJ13_bitCount_95d88_50 : decode cJ13_bitCount_95d88 50 = .ok (.bipush 32, 2) := by decide +kernel
theorem dJ13_bitCount_95d88_52 : decode cJ13_bitCount_95d88 52 = .ok (.lushr, 1) := by decide +kernel
theorem dJ13_bitCount_95d88_53 : decode cJ13_bitCount_95d88 53 = .ok (.ladd, 1) := by decide +kernel
theorem dJ13_bitCount_95d88_54 : decode cJ13_bitCount_95d88 54 = .ok (.lstore_n 0, 1) := by decide +kernel
theorem dJ13_bitCount_95d88_55 : decode cJ13_bitCount_95d88 55 = .ok (.lload_n 0, 1) := by decide +kernel
theorem dJ13_bitCount_95d88_56 : decode cJ13_bitCount_95d88 56 = .ok (.l2i, 1) := by decide +kernel
theorem dJ13_bitCount_95d88_57 : decode cJ13_bitCount_95d88 57 = .ok (.bipush 127, 2) := by decide +kernel
theorem dJ13_bitCount_95d88_59 : decode cJ13_bitCount_95d88 59 = .ok (.iand, 1) := by decide +kernel
theorem dJ13_bitCount_95d88_60 : decode cJ13_bitCount_95d88 60 = .ok (.ireturn, 1) := by decide +kernel
theorem dJ9_min_7cf53_0 : decode cJ9_min_7cf53 0 = .ok (.iload_n 0, 1) := by decide +kernel
theorem dJ9_min_7cf53_1 : decode cJ9_min_7cf53 1 = .ok (.iload_n 1, 1) := by decide +kernel
theorem dJ9_min_7cf53_2 : decode cJ9_min_7cf53 2 = .ok (.if_icmp .gt 7, 3) := by decide +kernel
theorem dJ9_min_7cf53_5 : decode cJ9_min_7cf53 5 = .ok (.iload_n 0, 1) := by decide +kernel
theorem dJ9_min_7cf53_6 : decode cJ9_min_7cf53 6 = .ok (.goto 4, 3) := by decide +kernel
theorem dJ9_min_7cf53_9 : decode cJ9_min_7cf53 9 = .ok (.iload_n 1, 1) := by decide +kernel
theorem dJ9_min_7cf53_10 : decode cJ9_min_7cf53 10 = .ok (.ireturn, 1) := by decide +kernel
theorem dJ7_fill_d0a16_0 : decode cJ7_fill_d0a16 0 = .ok (.iconst 0, 1) := by decide +kernel
theorem dJ7_fill_d0a16_1 : decode cJ7_fill_d0a16 1 = .ok (.istore_n 3, 1) := by decide +kernel
theorem dJ7_fill_d0a16_2 : decode cJ7_fill_d0a16 2 = .ok (.aload_n 0, 1) := by decide +kernel
theorem dJ7_fill_d0a16_3 : decode cJ7_fill_d0a16 3 = .ok (.arraylength, 1) := by decide +kernel
theorem dJ7_fill_d0a16_4 : decode cJ7_fill_d0a16 4 = .ok (.istore 4, 2) := by decide +kernel
theorem dJ7_fill_d0a16_6 : decode cJ7_fill_d0a16 6 = .ok (.iload_n 3, 1) := by decide +kernel
theorem dJ7_fill_d0a16_7 : decode cJ7_fill_d0a16 7 = .ok (.iload 4, 2) := by decide +kernel
theorem dJ7_fill_d0a16_9 : decode cJ7_fill_d0a16 9 = .ok (.if_icmp .ge 13, 3) := by decide +kernel
theorem dJ7_fill_d0a16_12 : decode cJ7_fill_d0a16 12 = .ok (.aload_n 0, 1) := by decide +kernel
theorem dJ7_fill_d0a16_13 : decode cJ7_fill_d0a16 13 = .ok (.iload_n 3, 1) := by decide +kernel
theorem dJ7_fill_d0a16_14 : decode cJ7_fill_d0a16 14 = .ok (.lload_n 1, 1) := by decide +kernel
theorem dJ7_fill_d0a16_15 : decode cJ7_fill_d0a16 15 = .ok (.lastore, 1) := by decide +kernel
theorem dJ7_fill_d0a16_16 : decode cJ7_fill_d0a16 16 = .ok (.iinc 3 1, 3) := by decide +kernel
theorem dJ7_fill_d0a16_19 : decode cJ7_fill_d0a16 19 = .ok (.goto (-13), 3) := by decide +kernel
theorem dJ7_fill_d0a16_22 : decode cJ7_fill_d0a16 22 = .ok (.return_, 1) := by decide +kernel
theorem dJ7_fill_53178_0 : decode cJ7_fill_53178 0 = .ok (.iconst 0, 1) := by decide +kernel
theorem dJ7_fill_53178_1 : decode cJ7_fill_53178 1 = .ok (.istore_n 2, 1) := by decide +kernel
theorem dJ7_fill_53178_2 : decode cJ7_fill_53178 2 = .ok (.aload_n 0, 1) := by decide +kernel
theorem dJ7_fill_53178_3 : decode cJ7_fill_53178 3 = .ok (.arraylength, 1) := by decide +kernel
theorem dJ7_fill_53178_4 : decode cJ7_fill_53178 4 = .ok (.istore_n 3, 1) := by decide +kernel
theorem dJ7_fill_53178_5 : decode cJ7_fill_53178 5 = .ok (.iload_n 2, 1) := by decide +kernel
theorem dJ7_fill_53178_6 : decode cJ7_fill_53178 6 = .ok (.iload_n 3, 1) := by decide +kernel
theorem dJ7_fill_53178_7 : decode cJ7_fill_53178 7 = .ok (.if_icmp .ge 13, 3) := by decide +kernel
theorem dJ7_fill_53178_10 : decode cJ7_fill_53178 10 = .ok (.aload_n 0, 1) := by decide +kernel
theorem dJ7_fill_53178_11 : decode cJ7_fill_53178 11 = .ok (.iload_n 2, 1) := by decide +kernel
theorem dJ7_fill_53178_12 : decode cJ7_fill_53178 12 = .ok (.iload_n 1, 1) := by decide +kernel
theorem dJ7_fill_53178_13 : decode cJ7_fill_53178 13 = .ok (.iastore, 1) := by decide +kernel
theorem dJ7_fill_53178_14 : decode cJ7_fill_53178 14 = .ok (.iinc 2 1, 3) := by decide +kernel
theorem dJ7_fill_53178_17 : decode cJ7_fill_53178 17 = .ok (.goto (-12), 3) := by decide +kernel
theorem dJ7_fill_53178_20 : decode cJ7_fill_53178 20 = .ok (.return_, 1) := by decide +kernel
theorem dL_law_0 : decode cL_law 0 = .ok (.new 7, 3) := by decide +kernel
theorem dL_law_3 : decode cL_law 3 = .ok (.dup, 1) := by decide +kernel
theorem dL_law_4 : decode cL_law 4 = .ok (.invokespecial 9, 3) := by decide +kernel
theorem dL_law_7 : decode cL_law 7 = .ok (.astore_n 1, 1) := by decide +kernel
theorem dL_law_8 : decode cL_law 8 = .ok (.new 10, 3) := by decide +kernel
theorem dL_law_11 : decode cL_law 11 = .ok (.dup, 1) := by decide +kernel
theorem dL_law_12 : decode cL_law 12 = .ok (.invokespecial 12, 3) := by decide +kernel
theorem dL_law_15 : decode cL_law 15 = .ok (.astore_n 2, 1) := by decide +kernel
theorem dL_law_16 : decode cL_law 16 = .ok (.iconst 0, 1) := by decide +kernel
theorem dL_law_17 : decode cL_law 17 = .ok (.istore_n 3, 1) := by decide +kernel
theorem dL_law_18 : decode cL_law 18 = .ok (.iload_n 3, 1) := by decide +kernel
theorem dL_law_19 : decode cL_law 19 = .ok (.aload_n 0, 1) := by decide +kernel
theorem dL_law_20 : decode cL_law 20 = .ok (.arraylength, 1) := by decide +kernel
theorem dL_law_21 : decode cL_law 21 = .ok (.iconst 4, 1) := by decide +kernel
theorem dL_law_22 : decode cL_law 22 = .ok (.isub, 1) := by decide +kernel
theorem dL_law_23 : decode cL_law 23 = .ok (.if_icmp .gt 671, 3) := by decide +kernel
theorem dL_law_26 : decode cL_law 26 = .ok (.aload_n 0, 1) := by decide +kernel
theorem dL_law_27 : decode cL_law 27 = .ok (.iload_n 3, 1) := by decide +kernel
theorem dL_law_28 : decode cL_law 28 = .ok (.iaload, 1) := by decide +kernel
theorem dL_law_29 : decode cL_law 29 = .ok (.bipush 31, 2) := by decide +kernel
theorem dL_law_31 : decode cL_law 31 = .ok (.iand, 1) := by decide +kernel
theorem dL_law_32 : decode cL_law 32 = .ok (.tableswitch 656 0 18 #[92, 115, 174, 197, 230, 263, 296, 329, 372, 405, 438, 471, 504, 518, 531, 564, 597, 630, 643], 92) := by decide +kernel
theorem dL_law_124 : decode cL_law 124 = .ok (.aload_n 1, 1) := by decide +kernel
theorem dL_law_125 : decode cL_law 125 = .ok (.aload_n 0, 1) := by decide +kernel
theorem dL_law_126 : decode cL_law 126 = .ok (.iload_n 3, 1) := by decide +kernel
theorem dL_law_127 : decode cL_law 127 = .ok (.iconst 1, 1) := by decide +kernel
theorem dL_law_128 : decode cL_law 128 = .ok (.iadd, 1) := by decide +kernel
theorem dL_law_129 : decode cL_law 129 = .ok (.iaload, 1) := by decide +kernel
theorem dL_law_130 : decode cL_law 130 = .ok (.invokevirtual 13, 3) := by decide +kernel
theorem dL_law_133 : decode cL_law 133 = .ok (.aload_n 2, 1) := by decide +kernel
theorem dL_law_134 : decode cL_law 134 = .ok (.aload_n 0, 1) := by decide +kernel
theorem dL_law_135 : decode cL_law 135 = .ok (.iload_n 3, 1) := by decide +kernel
theorem dL_law_136 : decode cL_law 136 = .ok (.iconst 1, 1) := by decide +kernel
theorem dL_law_137 : decode cL_law 137 = .ok (.iadd, 1) := by decide +kernel
theorem dL_law_138 : decode cL_law 138 = .ok (.iaload, 1) := by decide +kernel
theorem dL_law_139 : decode cL_law 139 = .ok (.invokevirtual 17, 3) := by decide +kernel
theorem dL_law_142 : decode cL_law 142 = .ok (.if_icmp .eq 546, 3) := by decide +kernel
theorem dL_law_145 : decode cL_law 145 = .ok (.iconst 0, 1) := by decide +kernel
theorem dL_law_146 : decode cL_law 146 = .ok (.ireturn, 1) := by decide +kernel
theorem dL_law_147 : decode cL_law 147 = .ok (.aload_n 1, 1) := by decide +kernel
theorem dL_law_148 : decode cL_law 148 = .ok (.aload_n 0, 1) := by decide +kernel
theorem dL_law_149 : decode cL_law 149 = .ok (.iload_n 3, 1) := by decide +kernel
theorem dL_law_150 : decode cL_law 150 = .ok (.iconst 1, 1) := by decide +kernel
theorem dL_law_151 : decode cL_law 151 = .ok (.iadd, 1) := by decide +kernel
theorem dL_law_152 : decode cL_law 152 = .ok (.iaload, 1) := by decide +kernel
theorem dL_law_153 : decode cL_law 153 = .ok (.aload_n 0, 1) := by decide +kernel
theorem dL_law_154 : decode cL_law 154 = .ok (.iload_n 3, 1) := by decide +kernel
theorem dL_law_155 : decode cL_law 155 = .ok (.iconst 2, 1) := by decide +kernel
theorem dL_law_156 : decode cL_law 156 = .ok (.iadd, 1) := by decide +kernel
theorem dL_law_157 : decode cL_law 157 = .ok (.iaload, 1) := by decide +kernel
theorem dL_law_158 : decode cL_law 158 = .ok (.aload_n 0, 1) := by decide +kernel
theorem dL_law_159 : decode cL_law 159 = .ok (.iload_n 3, 1) := by decide +kernel
theorem dL_law_160 : decode cL_law 160 = .ok (.iconst 3, 1) := by decide +kernel
theorem dL_law_161 : decode cL_law 161 = .ok (.iadd, 1) := by decide +kernel
theorem dL_law_162 : decode cL_law 162 = .ok (.iaload, 1) := by decide +kernel
theorem dL_law_163 : decode cL_law 163 = .ok (.ifCond .eq 7, 3) := by decide +kernel
theorem dL_law_166 : decode cL_law 166 = .ok (.iconst 1, 1) := by decide +kernel
theorem dL_law_167 : decode cL_law 167 = .ok (.goto 4, 3) := by decide +kernel
theorem dL_law_170 : decode cL_law 170 = .ok (.iconst 0, 1) := by decide +kernel
theorem dL_law_171 : decode cL_law 171 = .ok (.invokevirtual 18, 3) := by decide +kernel
theorem dL_law_174 : decode cL_law 174 = .ok (.aload_n 2, 1) := by decide +kernel
theorem dL_law_175 : decode cL_law 175 = .ok (.aload_n 0, 1) := by decide +kernel
theorem dL_law_176 : decode cL_law 176 = .ok (.iload_n 3, 1) := by decide +kernel
theorem dL_law_177 : decode cL_law 177 = .ok (.iconst 1, 1) := by decide +kernel
theorem dL_law_178 : decode cL_law 178 = .ok (.iadd, 1) := by decide +kernel
theorem dL_law_179 : decode cL_law 179 = .ok (.iaload, 1) := by decide +kernel
theorem dL_law_180 : decode cL_law 180 = .ok (.aload_n 0, 1) := by decide +kernel
theorem dL_law_181 : decode cL_law 181 = .ok (.iload_n 3, 1) := by decide +kernel
theorem dL_law_182 : decode cL_law 182 = .ok (.iconst 2, 1) := by decide +kernel
theorem dL_law_183 : decode cL_law 183 = .ok (.iadd, 1) := by decide +kernel
theorem dL_law_184 : decode cL_law 184 = .ok (.iaload, 1) := by decide +kernel
theorem dL_law_185 : decode cL_law 185 = .ok (.aload_n 0, 1) := by decide +kernel
theorem dL_law_186 : decode cL_law 186 = .ok (.iload_n 3, 1) := by decide +kernel
theorem dL_law_187 : decode cL_law 187 = .ok (.iconst 3, 1) := by decide +kernel
theorem dL_law_188 : decode cL_law 188 = .ok (.iadd, 1) := by decide +kernel
theorem dL_law_189 : decode cL_law 189 = .ok (.iaload, 1) := by decide +kernel
theorem dL_law_190 : decode cL_law 190 = .ok (.ifCond .eq 7, 3) := by decide +kernel
theorem dL_law_193 : decode cL_law 193 = .ok (.iconst 1, 1) := by decide +kernel
theorem dL_law_194 : decode cL_law 194 = .ok (.goto 4, 3) := by decide +kernel
theorem dL_law_197 : decode cL_law 197 = .ok (.iconst 0, 1) := by decide +kernel
theorem dL_law_198 : decode cL_law 198 = .ok (.invokevirtual 22, 3) := by decide +kernel
theorem dL_law_201 : decode cL_law 201 = .ok (.if_icmp .eq 487, 3) := by decide +kernel
theorem dL_law_204 : decode cL_law 204 = .ok (.iconst 0, 1) := by decide +kernel
theorem dL_law_205 : decode cL_law 205 = .ok (.ireturn, 1) := by decide +kernel
theorem dL_law_206 : decode cL_law 206 = .ok (.aload_n 1, 1) := by decide +kernel
theorem dL_law_207 : decode cL_law 207 = .ok (.aload_n 0, 1) := by decide +kernel
theorem dL_law_208 : decode cL_law 208 = .ok (.iload_n 3, 1) := by decide +kernel
theorem dL_law_209 : decode cL_law 209 = .ok (.iconst 1, 1) := by decide +kernel
theorem dL_law_210 : decode cL_law 210 = .ok (.iadd, 1) := by decide +kernel
theorem dL_law_211 : decode cL_law 211 = .ok (.iaload, 1) := by decide +kernel
theorem dL_law_212 : decode cL_law 212 = .ok (.invokevirtual 23, 3) := by decide +kernel
theorem dL_law_215 : decode cL_law 215 = .ok (.aload_n 2, 1) := by decide +kernel
theorem dL_law_216 : decode cL_law 216 = .ok (.aload_n 0, 1) := by decide +kernel
theorem dL_law_217 : decode cL_law 217 = .ok (.iload_n 3, 1) := by decide +kernel
theorem dL_law_218 : decode cL_law 218 = .ok (.iconst 1, 1) := by decide +kernel
theorem dL_law_219 : decode cL_law 219 = .ok (.iadd, 1) := by decide +kernel
theorem dL_law_220 : decode cL_law 220 = .ok (.iaload, 1) := by decide +kernel
theorem dL_law_221 : decode cL_law 221 = .ok (.invokevirtual 26, 3) := by decide +kernel
theorem dL_law_224 : decode cL_law 224 = .ok (.if_icmp .eq 464, 3) := by decide +kernel
theorem dL_law_227 : decode cL_law 227 = .ok (.iconst 0, 1) := by decide +kernel
theorem dL_law_228 : decode cL_law 228 = .ok (.ireturn, 1) := by decide +kernel
theorem dL_law_229 : decode cL_law 229 = .ok (.aload_n 1, 1) := by decide +kernel
theorem dL_law_230 : decode cL_law 230 = .ok (.aload_n 0, 1) := by decide +kernel
theorem dL_law_231 : decode cL_law 231 = .ok (.iload_n 3, 1) := by decide +kernel
theorem dL_law_232 : decode cL_law 232 = .ok (.iconst 1, 1) := by decide +kernel
theorem dL_law_233 : decode cL_law 233 = .ok (.iadd, 1) := by decide +kernel
theorem dL_law_234 : decode cL_law 234 = .ok (.iaload, 1) := by decide +kernel
theorem dL_law_235 : decode cL_law 235 = .ok (.aload_n 0, 1) := by decide +kernel
theorem dL_law_236 : decode cL_law 236 = .ok (.iload_n 3, 1) := by decide +kernel
theorem dL_law_237 : decode cL_law 237 = .ok (.iconst 2, 1) := by decide +kernel
theorem dL_law_238 : decode cL_law 238 = .ok (.iadd, 1) := by decide +kernel
theorem dL_law_239 : decode cL_law 239 = .ok (.iaload, 1) := by decide +kernel
theorem dL_law_240 : decode cL_law 240 = .ok (.invokevirtual 27, 3) := by decide +kernel
theorem dL_law_243 : decode cL_law 243 = .ok (.aload_n 2, 1) := by decide +kernel
theorem dL_law_244 : decode cL_law 244 = .ok (.aload_n 0, 1) := by decide +kernel
theorem dL_law_245 : decode cL_law 245 = .ok (.iload_n 3, 1) := by decide +kernel
theorem dL_law_246 : decode cL_law 246 = .ok (.iconst 1, 1) := by decide +kernel
theorem dL_law_247 : decode cL_law 247 = .ok (.iadd, 1) := by decide +kernel
theorem dL_law_248 : decode cL_law 248 = .ok (.iaload, 1) := by decide +kernel
theorem dL_law_249 : decode cL_law 249 = .ok (.aload_n 0, 1) := by decide +kernel
theorem dL_law_250 : decode cL_law 250 = .ok (.iload_n 3, 1) := by decide +kernel
theorem dL_law_251 : decode cL_law 251 = .ok (.iconst 2, 1) := by decide +kernel
theorem dL_law_252 : decode cL_law 252 = .ok (.iadd, 1) := by decide +kernel
theorem dL_law_253 : decode cL_law 253 = .ok (.iaload, 1) := by decide +kernel
theorem dL_law_254 : decode cL_law 254 = .ok (.invokevirtual 31, 3) := by decide +kernel
theorem dL_law_257 : decode cL_law 257 = .ok (.if_icmp .eq 431, 3) := by decide +kernel
theorem dL_law_260 : decode cL_law 260 = .ok (.iconst 0, 1) := by decide +kernel
theorem dL_law_261 : decode cL_law 261 = .ok (.ireturn, 1) := by decide +kernel
theorem dL_law_262 : decode cL_law 262 = .ok (.aload_n 1, 1) := by decide +kernel
theorem dL_law_263 : decode cL_law 263 = .ok (.aload_n 0, 1) := by decide +kernel
theorem dL_law_264 : decode cL_law 264 = .ok (.iload_n 3, 1) := by decide +kernel
theorem dL_law_265 : decode cL_law 265 = .ok (.iconst 1, 1) := by decide +kernel
theorem dL_law_266 : decode cL_law 266 = .ok (.iadd, 1) := by decide +kernel
theorem dL_law_267 : decode cL_law 267 = .ok (.iaload, 1) := by decide +kernel
theorem dL_law_268 : decode cL_law 268 = .ok (.aload_n 0, 1) := by decide +kernel
theorem dL_law_269 : decode cL_law 269 = .ok (.iload_n 3, 1) := by decide +kernel
theorem dL_law_270 : decode cL_law 270 = .ok (.iconst 2, 1) := by decide +kernel
theorem dL_law_271 : decode cL_law 271 = .ok (.iadd, 1) := by decide +kernel
theorem dL_law_272 : decode cL_law 272 = .ok (.iaload, 1) := by decide +kernel
theorem dL_law_273 : decode cL_law 273 = .ok (.invokevirtual 32, 3) := by decide +kernel
theorem dL_law_276 : decode cL_law 276 = .ok (.aload_n 2, 1) := by decide +kernel
theorem dL_law_277 : decode cL_law 277 = .ok (.aload_n 0, 1) := by decide +kernel
theorem dL_law_278 : decode cL_law 278 = .ok (.iload_n 3, 1) := by decide +kernel
theorem dL_law_279 : decode cL_law 279 = .ok (.iconst 1, 1) := by decide +kernel
theorem dL_law_280 : decode cL_law 280 = .ok (.iadd, 1) := by decide +kernel
theorem dL_law_281 : decode cL_law 281 = .ok (.iaload, 1) := by decide +kernel
theorem dL_law_282 : decode cL_law 282 = .ok (.aload_n 0, 1) := by decide +kernel
theorem dL_law_283 : decode cL_law 283 = .ok (.iload_n 3, 1) := by decide +kernel
theorem dL_law_284 : decode cL_law 284 = .ok (.iconst 2, 1) := by decide +kernel
theorem dL_law_285 : decode cL_law 285 = .ok (.iadd, 1) := by decide +kernel
theorem dL_law_286 : decode cL_law 286 = .ok (.iaload, 1) := by decide +kernel
theorem dL_law_287 : decode cL_law 287 = .ok (.invokevirtual 36, 3) := by decide +kernel
theorem dL_law_290 : decode cL_law 290 = .ok (.if_icmp .eq 398, 3) := by decide +kernel
theorem dL_law_293 : decode cL_law 293 = .ok (.iconst 0, 1) := by decide +kernel
theorem dL_law_294 : decode cL_law 294 = .ok (.ireturn, 1) := by decide +kernel
theorem dL_law_295 : decode cL_law 295 = .ok (.aload_n 1, 1) := by decide +kernel
theorem dL_law_296 : decode cL_law 296 = .ok (.aload_n 0, 1) := by decide +kernel
theorem dL_law_297 : decode cL_law 297 = .ok (.iload_n 3, 1) := by decide +kernel
theorem dL_law_298 : decode cL_law 298 = .ok (.iconst 1, 1) := by decide +kernel
theorem dL_law_299 : decode cL_law 299 = .ok (.iadd, 1) := by decide +kernel
theorem dL_law_300 : decode cL_law 300 = .ok (.iaload, 1) := by decide +kernel
theorem dL_law_301 : decode cL_law 301 = .ok (.aload_n 0, 1) := by decide +kernel
theorem dL_law_302 : decode cL_law 302 = .ok (.iload_n 3, 1) := by decide +kernel
theorem dL_law_303 : decode cL_law 303 = .ok (.iconst 2, 1) := by decide +kernel
theorem dL_law_304 : decode cL_law 304 = .ok (.iadd, 1) := by decide +kernel
theorem dL_law_305 : decode cL_law 305 = .ok (.iaload, 1) := by decide +kernel
theorem dL_law_306 : decode cL_law 306 = .ok (.invokevirtual 37, 3) := by decide +kernel
theorem dL_law_309 : decode cL_law 309 = .ok (.aload_n 2, 1) := by decide +kernel
theorem dL_law_310 : decode cL_law 310 = .ok (.aload_n 0, 1) := by decide +kernel
theorem dL_law_311 : decode cL_law 311 = .ok (.iload_n 3, 1) := by decide +kernel
theorem dL_law_312 : decode cL_law 312 = .ok (.iconst 1, 1) := by decide +kernel
theorem dL_law_313 : decode cL_law 313 = .ok (.iadd, 1) := by decide +kernel
theorem dL_law_314 : decode cL_law 314 = .ok (.iaload, 1) := by decide +kernel
theorem dL_law_315 : decode cL_law 315 = .ok (.aload_n 0, 1) := by decide +kernel
theorem dL_law_316 : decode cL_law 316 = .ok (.iload_n 3, 1) := by decide +kernel
theorem dL_law_317 : decode cL_law 317 = .ok (.iconst 2, 1) := by decide +kernel
theorem dL_law_318 : decode cL_law 318 = .ok (.iadd, 1) := by decide +kernel
theorem dL_law_319 : decode cL_law 319 = .ok (.iaload, 1) := by decide +kernel
theorem dL_law_320 : decode cL_law 320 = .ok (.invokevirtual 40, 3) := by decide +kernel
theorem dL_law_323 : decode cL_law 323 = .ok (.if_icmp .eq 365, 3) := by decide +kernel
theorem dL_law_326 : decode cL_law 326 = .ok (.iconst 0, 1) := by decide +kernel
theorem dL_law_327 : decode cL_law 327 = .ok (.ireturn, 1) := by decide +kernel
theorem dL_law_328 : decode cL_law 328 = .ok (.aload_n 1, 1) := by decide +kernel
theorem dL_law_329 : decode cL_law 329 = .ok (.aload_n 0, 1) := by decide +kernel
theorem dL_law_330 : decode cL_law 330 = .ok (.iload_n 3, 1) := by decide +kernel
theorem dL_law_331 : decode cL_law 331 = .ok (.iconst 1, 1) := by decide +kernel
theorem dL_law_332 : decode cL_law 332 = .ok (.iadd, 1) := by decide +kernel
theorem dL_law_333 : decode cL_law 333 = .ok (.iaload, 1) := by decide +kernel
theorem dL_law_334 : decode cL_law 334 = .ok (.aload_n 0, 1) := by decide +kernel
theorem dL_law_335 : decode cL_law 335 = .ok (.iload_n 3, 1) := by decide +kernel
theorem dL_law_336 : decode cL_law 336 = .ok (.iconst 2, 1) := by decide +kernel
theorem dL_law_337 : decode cL_law 337 = .ok (.iadd, 1) := by decide +kernel
theorem dL_law_338 : decode cL_law 338 = .ok (.iaload, 1) := by decide +kernel
theorem dL_law_339 : decode cL_law 339 = .ok (.invokevirtual 41, 3) := by decide +kernel
theorem dL_law_342 : decode cL_law 342 = .ok (.aload_n 2, 1) := by decide +kernel
theorem dL_law_343 : decode cL_law 343 = .ok (.aload_n 0, 1) := by decide +kernel
theorem dL_law_344 : decode cL_law 344 = .ok (.iload_n 3, 1) := by decide +kernel
theorem dL_law_345 : decode cL_law 345 = .ok (.iconst 1, 1) := by decide +kernel
theorem dL_law_346 : decode cL_law 346 = .ok (.iadd, 1) := by decide +kernel
theorem dL_law_347 : decode cL_law 347 = .ok (.iaload, 1) := by decide +kernel
theorem dL_law_348 : decode cL_law 348 = .ok (.aload_n 0, 1) := by decide +kernel
theorem dL_law_349 : decode cL_law 349 = .ok (.iload_n 3, 1) := by decide +kernel
theorem dL_law_350 : decode cL_law 350 = .ok (.iconst 2, 1) := by decide +kernel
theorem dL_law_351 : decode cL_law 351 = .ok (.iadd, 1) := by decide +kernel
theorem dL_law_352 : decode cL_law 352 = .ok (.iaload, 1) := by decide +kernel
theorem dL_law_353 : decode cL_law 353 = .ok (.invokevirtual 44, 3) := by decide +kernel
theorem dL_law_356 : decode cL_law 356 = .ok (.if_icmp .eq 332, 3) := by decide +kernel
theorem dL_law_359 : decode cL_law 359 = .ok (.iconst 0, 1) := by decide +kernel
theorem dL_law_360 : decode cL_law 360 = .ok (.ireturn, 1) := by decide +kernel
theorem dL_law_361 : decode cL_law 361 = .ok (.aload_n 1, 1) := by decide +kernel
theorem dL_law_362 : decode cL_law 362 = .ok (.aload_n 0, 1) := by decide +kernel
theorem dL_law_363 : decode cL_law 363 = .ok (.iload_n 3, 1) := by decide +kernel
theorem dL_law_364 : decode cL_law 364 = .ok (.iconst 1, 1) := by decide +kernel
theorem dL_law_365 : decode cL_law 365 = .ok (.iadd, 1) := by decide +kernel
theorem dL_law_366 : decode cL_law 366 = .ok (.iaload, 1) := by decide +kernel
theorem dL_law_367 : decode cL_law 367 = .ok (.aload_n 0, 1) := by decide +kernel
theorem dL_law_368 : decode cL_law 368 = .ok (.iload_n 3, 1) := by decide +kernel
theorem dL_law_369 : decode cL_law 369 = .ok (.iconst 2, 1) := by decide +kernel
theorem dL_law_370 : decode cL_law 370 = .ok (.iadd, 1) := by decide +kernel
theorem dL_law_371 : decode cL_law 371 = .ok (.iaload, 1) := by decide +kernel
theorem dL_law_372 : decode cL_law 372 = .ok (.aload_n 0, 1) := by decide +kernel
theorem dL_law_373 : decode cL_law 373 = .ok (.iload_n 3, 1) := by decide +kernel
theorem dL_law_374 : decode cL_law 374 = .ok (.iconst 3, 1) := by decide +kernel
theorem dL_law_375 : decode cL_law 375 = .ok (.iadd, 1) := by decide +kernel
theorem dL_law_376 : decode cL_law 376 = .ok (.iaload, 1) := by decide +kernel
theorem dL_law_377 : decode cL_law 377 = .ok (.invokevirtual 45, 3) := by decide +kernel
theorem dL_law_380 : decode cL_law 380 = .ok (.aload_n 2, 1) := by decide +kernel
theorem dL_law_381 : decode cL_law 381 = .ok (.aload_n 0, 1) := by decide +kernel
theorem dL_law_382 : decode cL_law 382 = .ok (.iload_n 3, 1) := by decide +kernel
theorem dL_law_383 : decode cL_law 383 = .ok (.iconst 1, 1) := by decide +kernel
theorem dL_law_384 : decode cL_law 384 = .ok (.iadd, 1) := by decide +kernel
theorem dL_law_385 : decode cL_law 385 = .ok (.iaload, 1) := by decide +kernel
theorem dL_law_386 : decode cL_law 386 = .ok (.aload_n 0, 1) := by decide +kernel
theorem dL_law_387 : decode cL_law 387 = .ok (.iload_n 3, 1) := by decide +kernel
theorem dL_law_388 : decode cL_law 388 = .ok (.iconst 2, 1) := by decide +kernel
theorem dL_law_389 : decode cL_law 389 = .ok (.iadd, 1) := by decide +kernel
theorem dL_law_390 : decode cL_law 390 = .ok (.iaload, 1) := by decide +kernel
theorem dL_law_391 : decode cL_law 391 = .ok (.aload_n 0, 1) := by decide +kernel
theorem dL_law_392 : decode cL_law 392 = .ok (.iload_n 3, 1) := by decide +kernel
theorem dL_law_393 : decode cL_law 393 = .ok (.iconst 3, 1) := by decide +kernel
theorem dL_law_394 : decode cL_law 394 = .ok (.iadd, 1) := by decide +kernel
theorem dL_law_395 : decode cL_law 395 = .ok (.iaload, 1) := by decide +kernel
theorem dL_law_396 : decode cL_law 396 = .ok (.invokevirtual 49, 3) := by decide +kernel
theorem dL_law_399 : decode cL_law 399 = .ok (.if_icmp .eq 289, 3) := by decide +kernel
theorem dL_law_402 : decode cL_law 402 = .ok (.iconst 0, 1) := by decide +kernel
theorem dL_law_403 : decode cL_law 403 = .ok (.ireturn, 1) := by decide +kernel
theorem dL_law_404 : decode cL_law 404 = .ok (.aload_n 1, 1) := by decide +kernel
theorem dL_law_405 : decode cL_law 405 = .ok (.aload_n 0, 1) := by decide +kernel
theorem dL_law_406 : decode cL_law 406 = .ok (.iload_n 3, 1) := by decide +kernel
theorem dL_law_407 : decode cL_law 407 = .ok (.iconst 1, 1) := by decide +kernel
theorem dL_law_408 : decode cL_law 408 = .ok (.iadd, 1) := by decide +kernel
theorem dL_law_409 : decode cL_law 409 = .ok (.iaload, 1) := by decide +kernel
theorem dL_law_410 : decode cL_law 410 = .ok (.aload_n 0, 1) := by decide +kernel
theorem dL_law_411 : decode cL_law 411 = .ok (.iload_n 3, 1) := by decide +kernel
theorem dL_law_412 : decode cL_law 412 = .ok (.iconst 2, 1) := by decide +kernel
theorem dL_law_413 : decode cL_law 413 = .ok (.iadd, 1) := by decide +kernel
theorem dL_law_414 : decode cL_law 414 = .ok (.iaload, 1) := by decide +kernel
theorem dL_law_415 : decode cL_law 415 = .ok (.invokevirtual 50, 3) := by decide +kernel
theorem dL_law_418 : decode cL_law 418 = .ok (.aload_n 2, 1) := by decide +kernel
theorem dL_law_419 : decode cL_law 419 = .ok (.aload_n 0, 1) := by decide +kernel
theorem dL_law_420 : decode cL_law 420 = .ok (.iload_n 3, 1) := by decide +kernel
theorem dL_law_421 : decode cL_law 421 = .ok (.iconst 1, 1) := by decide +kernel
theorem dL_law_422 : decode cL_law 422 = .ok (.iadd, 1) := by decide +kernel
theorem dL_law_423 : decode cL_law 423 = .ok (.iaload, 1) := by decide +kernel
theorem dL_law_424 : decode cL_law 424 = .ok (.aload_n 0, 1) := by decide +kernel
theorem dL_law_425 : decode cL_law 425 = .ok (.iload_n 3, 1) := by decide +kernel
theorem dL_law_426 : decode cL_law 426 = .ok (.iconst 2, 1) := by decide +kernel
theorem dL_law_427 : decode cL_law 427 = .ok (.iadd, 1) := by decide +kernel
theorem dL_law_428 : decode cL_law 428 = .ok (.iaload, 1) := by decide +kernel
theorem dL_law_429 : decode cL_law 429 = .ok (.invokevirtual 53, 3) := by decide +kernel
theorem dL_law_432 : decode cL_law 432 = .ok (.if_icmp .eq 256, 3) := by decide +kernel
theorem dL_law_435 : decode cL_law 435 = .ok (.iconst 0, 1) := by decide +kernel
theorem dL_law_436 : decode cL_law 436 = .ok (.ireturn, 1) := by decide +kernel
theorem dL_law_437 : decode cL_law 437 = .ok (.aload_n 1, 1) := by decide +kernel
theorem dL_law_438 : decode cL_law 438 = .ok (.aload_n 0, 1) := by decide +kernel
theorem dL_law_439 : decode cL_law 439 = .ok (.iload_n 3, 1) := by decide +kernel
theorem dL_law_440 : decode cL_law 440 = .ok (.iconst 1, 1) := by decide +kernel
theorem dL_law_441 : decode cL_law 441 = .ok (.iadd, 1) := by decide +kernel
theorem dL_law_442 : decode cL_law 442 = .ok (.iaload, 1) := by decide +kernel
theorem dL_law_443 : decode cL_law 443 = .ok (.aload_n 0, 1) := by decide +kernel
theorem dL_law_444 : decode cL_law 444 = .ok (.iload_n 3, 1) := by decide +kernel
theorem dL_law_445 : decode cL_law 445 = .ok (.iconst 2, 1) := by decide +kernel
theorem dL_law_446 : decode cL_law 446 = .ok (.iadd, 1) := by decide +kernel
theorem dL_law_447 : decode cL_law 447 = .ok (.iaload, 1) := by decide +kernel
theorem dL_law_448 : decode cL_law 448 = .ok (.invokevirtual 54, 3) := by decide +kernel
theorem dL_law_451 : decode cL_law 451 = .ok (.aload_n 2, 1) := by decide +kernel
theorem dL_law_452 : decode cL_law 452 = .ok (.aload_n 0, 1) := by decide +kernel
theorem dL_law_453 : decode cL_law 453 = .ok (.iload_n 3, 1) := by decide +kernel
theorem dL_law_454 : decode cL_law 454 = .ok (.iconst 1, 1) := by decide +kernel
theorem dL_law_455 : decode cL_law 455 = .ok (.iadd, 1) := by decide +kernel
theorem dL_law_456 : decode cL_law 456 = .ok (.iaload, 1) := by decide +kernel
theorem dL_law_457 : decode cL_law 457 = .ok (.aload_n 0, 1) := by decide +kernel
theorem dL_law_458 : decode cL_law 458 = .ok (.iload_n 3, 1) := by decide +kernel
theorem dL_law_459 : decode cL_law 459 = .ok (.iconst 2, 1) := by decide +kernel
theorem dL_law_460 : decode cL_law 460 = .ok (.iadd, 1) := by decide +kernel
theorem dL_law_461 : decode cL_law 461 = .ok (.iaload, 1) := by decide +kernel
theorem dL_law_462 : decode cL_law 462 = .ok (.invokevirtual 57, 3) := by decide +kernel
theorem dL_law_465 : decode cL_law 465 = .ok (.if_icmp .eq 223, 3) := by decide +kernel
theorem dL_law_468 : decode cL_law 468 = .ok (.iconst 0, 1) := by decide +kernel
theorem dL_law_469 : decode cL_law 469 = .ok (.ireturn, 1) := by decide +kernel
theorem dL_law_470 : decode cL_law 470 = .ok (.aload_n 1, 1) := by decide +kernel
theorem dL_law_471 : decode cL_law 471 = .ok (.aload_n 0, 1) := by decide +kernel
theorem dL_law_472 : decode cL_law 472 = .ok (.iload_n 3, 1) := by decide +kernel
theorem dL_law_473 : decode cL_law 473 = .ok (.iconst 1, 1) := by decide +kernel
theorem dL_law_474 : decode cL_law 474 = .ok (.iadd, 1) := by decide +kernel
theorem dL_law_475 : decode cL_law 475 = .ok (.iaload, 1) := by decide +kernel
theorem dL_law_476 : decode cL_law 476 = .ok (.aload_n 0, 1) := by decide +kernel
theorem dL_law_477 : decode cL_law 477 = .ok (.iload_n 3, 1) := by decide +kernel
theorem dL_law_478 : decode cL_law 478 = .ok (.iconst 2, 1) := by decide +kernel
theorem dL_law_479 : decode cL_law 479 = .ok (.iadd, 1) := by decide +kernel
theorem dL_law_480 : decode cL_law 480 = .ok (.iaload, 1) := by decide +kernel
theorem dL_law_481 : decode cL_law 481 = .ok (.invokevirtual 58, 3) := by decide +kernel
theorem dL_law_484 : decode cL_law 484 = .ok (.aload_n 2, 1) := by decide +kernel
theorem dL_law_485 : decode cL_law 485 = .ok (.aload_n 0, 1) := by decide +kernel
theorem dL_law_486 : decode cL_law 486 = .ok (.iload_n 3, 1) := by decide +kernel
theorem dL_law_487 : decode cL_law 487 = .ok (.iconst 1, 1) := by decide +kernel
theorem dL_law_488 : decode cL_law 488 = .ok (.iadd, 1) := by decide +kernel
theorem dL_law_489 : decode cL_law 489 = .ok (.iaload, 1) := by decide +kernel
theorem dL_law_490 : decode cL_law 490 = .ok (.aload_n 0, 1) := by decide +kernel
theorem dL_law_491 : decode cL_law 491 = .ok (.iload_n 3, 1) := by decide +kernel
theorem dL_law_492 : decode cL_law 492 = .ok (.iconst 2, 1) := by decide +kernel
theorem dL_law_493 : decode cL_law 493 = .ok (.iadd, 1) := by decide +kernel
theorem dL_law_494 : decode cL_law 494 = .ok (.iaload, 1) := by decide +kernel
theorem dL_law_495 : decode cL_law 495 = .ok (.invokevirtual 61, 3) := by decide +kernel
theorem dL_law_498 : decode cL_law 498 = .ok (.if_icmp .eq 190, 3) := by decide +kernel
theorem dL_law_501 : decode cL_law 501 = .ok (.iconst 0, 1) := by decide +kernel
theorem dL_law_502 : decode cL_law 502 = .ok (.ireturn, 1) := by decide +kernel
theorem dL_law_503 : decode cL_law 503 = .ok (.aload_n 1, 1) := by decide +kernel
theorem dL_law_504 : decode cL_law 504 = .ok (.aload_n 0, 1) := by decide +kernel
theorem dL_law_505 : decode cL_law 505 = .ok (.iload_n 3, 1) := by decide +kernel
theorem dL_law_506 : decode cL_law 506 = .ok (.iconst 1, 1) := by decide +kernel
theorem dL_law_507 : decode cL_law 507 = .ok (.iadd, 1) := by decide +kernel
theorem dL_law_508 : decode cL_law 508 = .ok (.iaload, 1) := by decide +kernel
theorem dL_law_509 : decode cL_law 509 = .ok (.aload_n 0, 1) := by decide +kernel
theorem dL_law_510 : decode cL_law 510 = .ok (.iload_n 3, 1) := by decide +kernel
theorem dL_law_511 : decode cL_law 511 = .ok (.iconst 2, 1) := by decide +kernel
theorem dL_law_512 : decode cL_law 512 = .ok (.iadd, 1) := by decide +kernel
theorem dL_law_513 : decode cL_law 513 = .ok (.iaload, 1) := by decide +kernel
theorem dL_law_514 : decode cL_law 514 = .ok (.invokevirtual 62, 3) := by decide +kernel
theorem dL_law_517 : decode cL_law 517 = .ok (.aload_n 2, 1) := by decide +kernel
theorem dL_law_518 : decode cL_law 518 = .ok (.aload_n 0, 1) := by decide +kernel
theorem dL_law_519 : decode cL_law 519 = .ok (.iload_n 3, 1) := by decide +kernel
theorem dL_law_520 : decode cL_law 520 = .ok (.iconst 1, 1) := by decide +kernel
theorem dL_law_521 : decode cL_law 521 = .ok (.iadd, 1) := by decide +kernel
theorem dL_law_522 : decode cL_law 522 = .ok (.iaload, 1) := by decide +kernel
theorem dL_law_523 : decode cL_law 523 = .ok (.aload_n 0, 1) := by decide +kernel
theorem dL_law_524 : decode cL_law 524 = .ok (.iload_n 3, 1) := by decide +kernel
theorem dL_law_525 : decode cL_law 525 = .ok (.iconst 2, 1) := by decide +kernel
theorem dL_law_526 : decode cL_law 526 = .ok (.iadd, 1) := by decide +kernel
theorem dL_law_527 : decode cL_law 527 = .ok (.iaload, 1) := by decide +kernel
theorem dL_law_528 : decode cL_law 528 = .ok (.invokevirtual 65, 3) := by decide +kernel
theorem dL_law_531 : decode cL_law 531 = .ok (.if_icmp .eq 157, 3) := by decide +kernel
theorem dL_law_534 : decode cL_law 534 = .ok (.iconst 0, 1) := by decide +kernel
theorem dL_law_535 : decode cL_law 535 = .ok (.ireturn, 1) := by decide +kernel
theorem dL_law_536 : decode cL_law 536 = .ok (.aload_n 1, 1) := by decide +kernel
theorem dL_law_537 : decode cL_law 537 = .ok (.invokevirtual 66, 3) := by decide +kernel
theorem dL_law_540 : decode cL_law 540 = .ok (.aload_n 2, 1) := by decide +kernel
theorem dL_law_541 : decode cL_law 541 = .ok (.invokevirtual 70, 3) := by decide +kernel
theorem dL_law_544 : decode cL_law 544 = .ok (.lcmp, 1) := by decide +kernel
theorem dL_law_545 : decode cL_law 545 = .ok (.ifCond .eq 143, 3) := by decide +kernel
theorem dL_law_548 : decode cL_law 548 = .ok (.iconst 0, 1) := by decide +kernel
theorem dL_law_549 : decode cL_law 549 = .ok (.ireturn, 1) := by decide +kernel
theorem dL_law_550 : decode cL_law 550 = .ok (.aload_n 1, 1) := by decide +kernel
theorem dL_law_551 : decode cL_law 551 = .ok (.invokevirtual 71, 3) := by decide +kernel
theorem dL_law_554 : decode cL_law 554 = .ok (.aload_n 2, 1) := by decide +kernel
theorem dL_law_555 : decode cL_law 555 = .ok (.invokevirtual 75, 3) := by decide +kernel
theorem dL_law_558 : decode cL_law 558 = .ok (.if_icmp .eq 130, 3) := by decide +kernel
theorem dL_law_561 : decode cL_law 561 = .ok (.iconst 0, 1) := by decide +kernel
theorem dL_law_562 : decode cL_law 562 = .ok (.ireturn, 1) := by decide +kernel
theorem dL_law_563 : decode cL_law 563 = .ok (.aload_n 1, 1) := by decide +kernel
theorem dL_law_564 : decode cL_law 564 = .ok (.aload_n 0, 1) := by decide +kernel
theorem dL_law_565 : decode cL_law 565 = .ok (.iload_n 3, 1) := by decide +kernel
theorem dL_law_566 : decode cL_law 566 = .ok (.iconst 1, 1) := by decide +kernel
theorem dL_law_567 : decode cL_law 567 = .ok (.iadd, 1) := by decide +kernel
theorem dL_law_568 : decode cL_law 568 = .ok (.iaload, 1) := by decide +kernel
theorem dL_law_569 : decode cL_law 569 = .ok (.aload_n 0, 1) := by decide +kernel
theorem dL_law_570 : decode cL_law 570 = .ok (.iload_n 3, 1) := by decide +kernel
theorem dL_law_571 : decode cL_law 571 = .ok (.iconst 2, 1) := by decide +kernel
theorem dL_law_572 : decode cL_law 572 = .ok (.iadd, 1) := by decide +kernel
theorem dL_law_573 : decode cL_law 573 = .ok (.iaload, 1) := by decide +kernel
theorem dL_law_574 : decode cL_law 574 = .ok (.invokevirtual 76, 3) := by decide +kernel
theorem dL_law_577 : decode cL_law 577 = .ok (.aload_n 2, 1) := by decide +kernel
theorem dL_law_578 : decode cL_law 578 = .ok (.aload_n 0, 1) := by decide +kernel
theorem dL_law_579 : decode cL_law 579 = .ok (.iload_n 3, 1) := by decide +kernel
theorem dL_law_580 : decode cL_law 580 = .ok (.iconst 1, 1) := by decide +kernel
theorem dL_law_581 : decode cL_law 581 = .ok (.iadd, 1) := by decide +kernel
theorem dL_law_582 : decode cL_law 582 = .ok (.iaload, 1) := by decide +kernel
theorem dL_law_583 : decode cL_law 583 = .ok (.aload_n 0, 1) := by decide +kernel
theorem dL_law_584 : decode cL_law 584 = .ok (.iload_n 3, 1) := by decide +kernel
theorem dL_law_585 : decode cL_law 585 = .ok (.iconst 2, 1) := by decide +kernel
theorem dL_law_586 : decode cL_law 586 = .ok (.iadd, 1) := by decide +kernel
theorem dL_law_587 : decode cL_law 587 = .ok (.iaload, 1) := by decide +kernel
theorem dL_law_588 : decode cL_law 588 = .ok (.invokevirtual 79, 3) := by decide +kernel
theorem dL_law_591 : decode cL_law 591 = .ok (.if_icmp .eq 97, 3) := by decide +kernel
theorem dL_law_594 : decode cL_law 594 = .ok (.iconst 0, 1) := by decide +kernel
theorem dL_law_595 : decode cL_law 595 = .ok (.ireturn, 1) := by decide +kernel
theorem dL_law_596 : decode cL_law 596 = .ok (.aload_n 1, 1) := by decide +kernel
theorem dL_law_597 : decode cL_law 597 = .ok (.aload_n 0, 1) := by decide +kernel
theorem dL_law_598 : decode cL_law 598 = .ok (.iload_n 3, 1) := by decide +kernel
theorem dL_law_599 : decode cL_law 599 = .ok (.iconst 1, 1) := by decide +kernel
theorem dL_law_600 : decode cL_law 600 = .ok (.iadd, 1) := by decide +kernel
theorem dL_law_601 : decode cL_law 601 = .ok (.iaload, 1) := by decide +kernel
theorem dL_law_602 : decode cL_law 602 = .ok (.aload_n 0, 1) := by decide +kernel
theorem dL_law_603 : decode cL_law 603 = .ok (.iload_n 3, 1) := by decide +kernel
theorem dL_law_604 : decode cL_law 604 = .ok (.iconst 2, 1) := by decide +kernel
theorem dL_law_605 : decode cL_law 605 = .ok (.iadd, 1) := by decide +kernel
theorem dL_law_606 : decode cL_law 606 = .ok (.iaload, 1) := by decide +kernel
theorem dL_law_607 : decode cL_law 607 = .ok (.invokevirtual 80, 3) := by decide +kernel
theorem dL_law_610 : decode cL_law 610 = .ok (.aload_n 2, 1) := by decide +kernel
theorem dL_law_611 : decode cL_law 611 = .ok (.aload_n 0, 1) := by decide +kernel
theorem dL_law_612 : decode cL_law 612 = .ok (.iload_n 3, 1) := by decide +kernel
theorem dL_law_613 : decode cL_law 613 = .ok (.iconst 1, 1) := by decide +kernel
theorem dL_law_614 : decode cL_law 614 = .ok (.iadd, 1) := by decide +kernel
theorem dL_law_615 : decode cL_law 615 = .ok (.iaload, 1) := by decide +kernel
theorem dL_law_616 : decode cL_law 616 = .ok (.aload_n 0, 1) := by decide +kernel
theorem dL_law_617 : decode cL_law 617 = .ok (.iload_n 3, 1) := by decide +kernel
theorem dL_law_618 : decode cL_law 618 = .ok (.iconst 2, 1) := by decide +kernel
theorem dL_law_619 : decode cL_law 619 = .ok (.iadd, 1) := by decide +kernel
theorem dL_law_620 : decode cL_law 620 = .ok (.iaload, 1) := by decide +kernel
theorem dL_law_621 : decode cL_law 621 = .ok (.invokevirtual 83, 3) := by decide +kernel
theorem dL_law_624 : decode cL_law 624 = .ok (.if_icmp .eq 64, 3) := by decide +kernel
theorem dL_law_627 : decode cL_law 627 = .ok (.iconst 0, 1) := by decide +kernel
theorem dL_law_628 : decode cL_law 628 = .ok (.ireturn, 1) := by decide +kernel
theorem dL_law_629 : decode cL_law 629 = .ok (.aload_n 1, 1) := by decide +kernel
theorem dL_law_630 : decode cL_law 630 = .ok (.aload_n 0, 1) := by decide +kernel
theorem dL_law_631 : decode cL_law 631 = .ok (.iload_n 3, 1) := by decide +kernel
theorem dL_law_632 : decode cL_law 632 = .ok (.iconst 1, 1) := by decide +kernel
theorem dL_law_633 : decode cL_law 633 = .ok (.iadd, 1) := by decide +kernel
theorem dL_law_634 : decode cL_law 634 = .ok (.iaload, 1) := by decide +kernel
theorem dL_law_635 : decode cL_law 635 = .ok (.aload_n 0, 1) := by decide +kernel
theorem dL_law_636 : decode cL_law 636 = .ok (.iload_n 3, 1) := by decide +kernel
theorem dL_law_637 : decode cL_law 637 = .ok (.iconst 2, 1) := by decide +kernel
theorem dL_law_638 : decode cL_law 638 = .ok (.iadd, 1) := by decide +kernel
theorem dL_law_639 : decode cL_law 639 = .ok (.iaload, 1) := by decide +kernel
theorem dL_law_640 : decode cL_law 640 = .ok (.invokevirtual 84, 3) := by decide +kernel
theorem dL_law_643 : decode cL_law 643 = .ok (.aload_n 2, 1) := by decide +kernel
theorem dL_law_644 : decode cL_law 644 = .ok (.aload_n 0, 1) := by decide +kernel
theorem dL_law_645 : decode cL_law 645 = .ok (.iload_n 3, 1) := by decide +kernel
theorem dL_law_646 : decode cL_law 646 = .ok (.iconst 1, 1) := by decide +kernel
theorem dL_law_647 : decode cL_law 647 = .ok (.iadd, 1) := by decide +kernel
theorem dL_law_648 : decode cL_law 648 = .ok (.iaload, 1) := by decide +kernel
theorem dL_law_649 : decode cL_law 649 = .ok (.aload_n 0, 1) := by decide +kernel
theorem dL_law_650 : decode cL_law 650 = .ok (.iload_n 3, 1) := by decide +kernel
theorem dL_law_651 : decode cL_law 651 = .ok (.iconst 2, 1) := by decide +kernel
theorem dL_law_652 : decode cL_law 652 = .ok (.iadd, 1) := by decide +kernel
theorem dL_law_653 : decode cL_law 653 = .ok (.iaload, 1) := by decide +kernel
theorem dL_law_654 : decode cL_law 654 = .ok (.invokevirtual 87, 3) := by decide +kernel
theorem dL_law_657 : decode cL_law 657 = .ok (.if_icmp .eq 31, 3) := by decide +kernel
theorem dL_law_660 : decode cL_law 660 = .ok (.iconst 0, 1) := by decide +kernel
theorem dL_law_661 : decode cL_law 661 = .ok (.ireturn, 1) := by decide +kernel
theorem dL_law_662 : decode cL_law 662 = .ok (.aload_n 1, 1) := by decide +kernel
theorem dL_law_663 : decode cL_law 663 = .ok (.invokevirtual 88, 3) := by decide +kernel
theorem dL_law_666 : decode cL_law 666 = .ok (.aload_n 2, 1) := by decide +kernel
theorem dL_law_667 : decode cL_law 667 = .ok (.invokevirtual 91, 3) := by decide +kernel
theorem dL_law_670 : decode cL_law 670 = .ok (.if_icmp .eq 18, 3) := by decide +kernel
theorem dL_law_673 : decode cL_law 673 = .ok (.iconst 0, 1) := by decide +kernel
theorem dL_law_674 : decode cL_law 674 = .ok (.ireturn, 1) := by decide +kernel
theorem dL_law_675 : decode cL_law 675 = .ok (.aload_n 1, 1) := by decide +kernel
theorem dL_law_676 : decode cL_law 676 = .ok (.invokevirtual 92, 3) := by decide +kernel
theorem dL_law_679 : decode cL_law 679 = .ok (.aload_n 2, 1) := by decide +kernel
theorem dL_law_680 : decode cL_law 680 = .ok (.invokevirtual 95, 3) := by decide +kernel
theorem dL_law_683 : decode cL_law 683 = .ok (.if_icmp .eq 5, 3) := by decide +kernel
theorem dL_law_686 : decode cL_law 686 = .ok (.iconst 0, 1) := by decide +kernel
theorem dL_law_687 : decode cL_law 687 = .ok (.ireturn, 1) := by decide +kernel
theorem dL_law_688 : decode cL_law 688 = .ok (.iinc 3 4, 3) := by decide +kernel
theorem dL_law_691 : decode cL_law 691 = .ok (.goto (-673), 3) := by decide +kernel
theorem dL_law_694 : decode cL_law 694 = .ok (.iconst 1, 1) := by decide +kernel
theorem dL_law_695 : decode cL_law 695 = .ok (.ireturn, 1) := by decide +kernel
end
section
/-! THE MACHINE AS A PURE ONE: a heap of planes (kinds, lengths, ints, longs, references), a judgement RR for a point of a method, Ev for a call, a row an instruction -/
abbrev PH : Type := (Nat → Nat) × (Nat → Nat) × (Nat → Nat → Int32) × (Nat → Nat → Int64) × (Nat → Nat → Nat) × Nat × Nat
def hK (h : PH) : Nat → Nat := h.1
def hL (h : PH) : Nat → Nat := h.2.1
def hI (h : PH) : Nat → Nat → Int32 := h.2.2.1
def hJ (h : PH) : Nat → Nat → Int64 := h.2.2.2.1
def hR (h : PH) : Nat → Nat → Nat := h.2.2.2.2.1
def hN (h : PH) : Nat := h.2.2.2.2.2.1
def hS (h : PH) : Nat := h.2.2.2.2.2.2
def u2 {α : Type} (f : Nat → Nat → α) (a k : Nat) (v : α) : Nat → Nat → α := fun b j => if b = a ∧ j = k then v else f b j
def u1 {α : Type} (f : Nat → α) (a : Nat) (v : α) : Nat → α := fun b => if b = a then v else f b
def sI (h : PH) (a k : Nat) (v : Int32) : PH := (hK h, hL h, u2 (hI h) a k v, hJ h, hR h, hN h, hS h)
def sJ (h : PH) (a k : Nat) (v : Int64) : PH := (hK h, hL h, hI h, u2 (hJ h) a k v, hR h, hN h, hS h)
def sR (h : PH) (a k : Nat) (v : Nat) : PH := (hK h, hL h, hI h, hJ h, u2 (hR h) a k v, hN h, hS h)
/-- a new cell of kind kd with n places, all 0 -/
def nA (h : PH) (kd n : Nat) : PH := (u1 (hK h) (hN h) kd, u1 (hL h) (hN h) n, u1 (hI h) (hN h) (fun _ => 0), u1 (hJ h) (hN h) (fun _ => 0), u1 (hR h) (hN h) (fun _ => 0), hN h + 1, hS h + n)
def rv (x : Nat) : Value := if x = 0 then .null else .ref x
/-- what stands at place k of the cell a, by the type of that place -/
def fv (ty : FieldType) (h : PH) (a k : Nat) : Value := match ty with
  | .int => .int (hI h a k)
  | .boolean => .int (hI h a k)
  | .long => .long (hJ h a k)
  | _ => rv (hR h a k)
/-- kinds: 1 the script; 2 int[], 3 long[], 4 boolean[], 5 int[][], 6 long[][]; 10 + c an object of class c -/
def ak (kd : Nat) : Option FieldType := match kd with
  | 2 => some .int
  | 3 => some .long
  | 4 => some .boolean
  | 5 => some (.array .int)
  | 6 => some (.array .long)
  | _ => none
def tyL : List (Nat → FieldType) := [tyX0, tyX1, tyX2, tyX3, tyX4, tyX5, tyX6]
/-- the cell a of the real heap is what the planes say -/
def cR (D : va_G) (base : Nat) (s : State) (h : PH) (H : Heap) (a : Nat) : Prop :=
  (hK h a = 1 → va_X a (hL h a) (hI h a) s H) ∧
  (∀ ty, ak (hK h a) = some ty → base ≤ a ∧ ∃ cA : ClassId, H[a]? = some (arrV cA (hL h a) (fun j => fv ty h a j)) ∧ ArrOfT s cA ty) ∧
  (∀ (c : Nat) (q : vw_C) (t : Nat → FieldType), hK h a = 10 + c → vwCl[c]? = some q → tyL[c]? = some t → base ≤ a ∧ t_OB a (D.1 c) q.2.2 (D.2 c) H (fun k => fv (t k) h a k))
def isNest : Cond → Bool
  | .methodLinkNest _ _ _ _ => true
  | _ => false
/-- the tables' words at a state -/
def TB (D : va_G) (s : State) : Prop :=
  (∀ w ∈ lw_tbl, goodWord w = true → ∀ A : Array Value, w.before A s = true) ∧ (∀ w ∈ lw_tbl, isNest w = true → w.before #[] s = true) ∧
  (∀ (ty : FieldType) (A : Array Value), ty = .int ∨ ty = .long → (Cond.arrayOver (.array ty)).before A s = true) ∧ va_K D vwCl [] s
/-- a method: name, bytes, locals, answer, frames and locals' words below it -/
abbrev MI : Type := MethodName × ByteArray × Nat × Option FieldType × Nat × Nat
/-- launch, classes' numbers, first own address -/
abbrev GG : Type := Launch × va_G × Nat
def MC (G : GG) (nc ns : Nat) (y : MI) (p : Program) (R : Room) (s : State) (m : MethodId) (meth : Method) (c : Code) (c0 s0 : Nat) : Prop :=
  p.tables.exec = Jvm.exec ∧ c.code = y.2.1 ∧ c.maxLocals = y.2.2.1 ∧ s.vm.findClass y.1.cls = some m.cls ∧ TB G.2.1 s ∧ meth.name = y.1.name ∧ meth.sig.returnType = y.2.2.2.1 ∧ meth.locks = false ∧
  y.2.2.2.2.1 ≤ R.frames ∧ y.2.2.2.2.2 ≤ R.locals ∧ nc ≤ R.cells + c0 ∧ ns ≤ R.slots + s0
/-- heap and planes agree -/
def HP (G : GG) (s : State) (h : PH) (H : Heap) : Prop := H.size = hN h ∧ (∀ a, hN h ≤ a → hK h a = 0) ∧ (∀ a, cR G.2.1 G.2.2 s h H a) ∧ G.2.2 ≤ hN h
/-- the room is kept; writes are to own cells -/
def RM (G : GG) (nc ns : Nat) (h : PH) (locs : List Loc) (cells slots c0 s0 : Nat) : Prop :=
  hN h ≤ nc ∧ hS h ≤ ns ∧ cells + c0 = hN h ∧ slots + s0 = hS h ∧ ∀ q ∈ locs, G.2.2 ≤ q.base
/-- the locals hold what the list says -/
def lL (ls : Array Slot) (n : Nat) (L : List (Option Value)) : Prop := ls.size = n ∧ lv_wf ls ∧ ∀ (i : Nat) (v : Value), L[i]? = some (some v) → ls[i]? = some (.val v)
/-- at a return with this answer -/
def RA (y : MI) (pc : Nat) (S : List Value) (v : Option Value) : Prop :=
  (decode y.2.1 pc = .ok (.return_, 1) ∧ S = [] ∧ v = none ∧ y.2.2.2.1 = none) ∨
  (∃ x : Int32, decode y.2.1 pc = .ok (.ireturn, 1) ∧ S = [.int x] ∧ v = some (.int x) ∧ (y.2.2.2.1 = some .int ∨ (y.2.2.2.1 = some .boolean ∧ (x = 0 ∨ x = 1)))) ∨
  (∃ x : Int64, decode y.2.1 pc = .ok (.lreturn, 1) ∧ S = [.long x] ∧ v = some (.long x) ∧ y.2.2.2.1 = some .long)
def RR (G : GG) (nc ns : Nat) (y : MI) (pc : Nat) (L : List (Option Value)) (S : List Value) (h : PH) (Z : Option Value → PH → Prop) : Prop :=
  ∀ (p : Program) (e : Env) (R : Room) (s : State) (m : MethodId) (args : Array Value) (below : List Frame) (meth : Method) (c : Code) (H : Heap) (locs : List Loc) (cells slots c0 s0 : Nat) (ls : Array Slot) (Q : State → Prop),
    MC G nc ns y p R s m meth c c0 s0 → HP G s h H → RM G nc ns h locs cells slots c0 s0 → lL ls y.2.2.1 L →
    (∀ (pc' : Nat) (ls' : Array Slot) (S' : List Value) (h' : PH) (H' : Heap) (locs' : List Loc) (cells' slots' : Nat) (v : Option Value), RA y pc' S' v → Z v h' → HP G s h' H' → RM G nc ns h' locs' cells' slots' c0 s0 →
      W p G.1 e R s m args below meth c H' locs' cells' slots' Q (F0 m pc' ls' S')) →
    W p G.1 e R s m args below meth c H locs cells slots Q (F0 m pc ls S)
/-- a call of y with these arguments on these planes: it returns, Z holds of answer and planes, mc cells of ms slots are new -/
def Ev (G : GG) (y : MI) (As : List Value) (h : PH) (mc ms : Nat) (Z : Option Value → PH → Prop) : Prop :=
  Met G.1 y.1 [Cond.code y.1 y.2.1 y.2.2.1 y.2.2.2.1] { frames := y.2.2.2.2.1, cells := mc, slots := ms, locals := y.2.2.2.2.2 }
    (va_Pc As (fun U => HP G U h U.heap ∧ TB G.2.1 U))
    (fun _ _ oc t => ∃ (v : Option Value) (h' : PH), oc = .returned v ∧ Z v h' ∧ hN h' = hN h + mc ∧ hS h' = hS h + ms ∧ HP G t h' t.heap)
    mc ms (fun q => G.2.2 ≤ q)
/-- arguments as locals -/
def pL : List Value → List (Option Value)
  | [] => []
  | v :: vs => if v.category = 2 then some v :: none :: pL vs else some v :: pL vs
def kl (L : List (Option Value)) (i : Nat) : List (Option Value) := match i with
  | 0 => L
  | j + 1 => match L[j]? with
    | some (some v) => if v.category = 2 then L.set j none else L
    | _ => L
def st1 (L : List (Option Value)) (i : Nat) (v : Value) : List (Option Value) := (kl L i).set i (some v)
def st2 (L : List (Option Value)) (i : Nat) (v : Value) : List (Option Value) := ((kl L i).set i (some v)).set (i + 1) none
section MTX
theorem TB.moved {D : va_G} {s U : State} (hW : s.WarmedH U.vm) (h : TB D s) : TB D U := by
  obtain ⟨h1, h2, h3, h4⟩ := h
  refine ⟨fun w hw hg A => word_at hW (good_of_word hg) (h1 w hw hg A), fun w hw hg => ?_, ?_, va_K.moved hW.alike h4⟩
  · have h9 := h2 w hw hg
    cases w with
    | methodLinkNest a i x b => exact va_Nw.warmM hW h9
    | _ => cases hg
  · sorry
theorem cR.moved {D : va_G} {base : Nat} {s U : State} {h : PH} {H : Heap} {a : Nat} (hW : s.vm.Alike U.vm) (hc : cR D base s h H a) : cR D base U h H a := by
  obtain ⟨h1, h2, h3⟩ := hc
  refine ⟨fun hk => ?_, fun ty hk => ?_, h3⟩
  · obtain ⟨scr, q1, q2, q3⟩ := h1 hk
    exact ⟨scr, q1, State.isArrayOf_alike hW q2, q3⟩
  · obtain ⟨q1, cA, q2, q3⟩ := h2 ty hk
    exact ⟨q1, cA, q2, arrOfT_moved hW q3⟩
theorem HP.moved {G : GG} {s U : State} {h : PH} {H : Heap} (hW : s.vm.Alike U.vm) (hp : HP G s h H) : HP G U h H := ⟨hp.1, hp.2.1, fun a => (hp.2.2.1 a).moved hW, hp.2.2.2⟩
theorem RR.mono {G : GG} {nc ns : Nat} {y : MI} {pc : Nat} {L L' : List (Option Value)} {S : List Value} {h : PH} {Z Z' : Option Value → PH → Prop} (k : RR G nc ns y pc L' S h Z') (hL : ∀ (i : Nat) (v : Value), L'[i]? = some (some v) → L[i]? = some (some v)) (hZ : ∀ v h', Z' v h' → Z v h') : RR G nc ns y pc L S h Z := by
  intro p e R s m args below meth c H locs cells slots c0 s0 ls Q M hp hm hl hr
  exact k p e R s m args below meth c H locs cells slots c0 s0 ls Q M hp hm ⟨hl.1, hl.2.1, fun i v hi => hl.2.2 i v (hL i v hi)⟩ (fun pc' ls' S' h' H' locs' cells' slots' v a b => hr pc' ls' S' h' H' locs' cells' slots' v a (hZ v h' b))
end MTX
end
section
section ROWS
variable {G : GG} {nc ns : Nat} {y : MI} {pc : Nat} {L : List (Option Value)} {S : List Value} {h : PH} {Z : Option Value → PH → Prop}
def lvO : Nat → List (Option Value) → List (Nat × Value)
  | _, [] => []
  | i, some v :: t => (i, v) :: lvO (i + 1) t
  | i, none :: t => lvO (i + 1) t
theorem lvO_mem : ∀ (L : List (Option Value)) (i j : Nat) (v : Value), (j, v) ∈ lvO i L ↔ ∃ k, j = i + k ∧ L[k]? = some (some v)
  | [], i, j, v => by simp [lvO]
  | some w :: t, i, j, v => by
    rw [lvO, List.mem_cons, lvO_mem t]
    constructor
    · rintro (h | ⟨k, h1, h2⟩)
      · cases h; exact ⟨0, rfl, rfl⟩
      · exact ⟨k + 1, by omega, by simpa using h2⟩
    · rintro ⟨k, h1, h2⟩
      cases k with
      | zero => left; simp at h2; rw [h2, h1]; rfl
      | succ k => right; exact ⟨k, by omega, by simpa using h2⟩
  | none :: t, i, j, v => by
    rw [lvO, lvO_mem t]
    constructor
    · rintro ⟨k, h1, h2⟩
      exact ⟨k + 1, by omega, by simpa using h2⟩
    · rintro ⟨k, h1, h2⟩
      cases k with
      | zero => simp at h2
      | succ k => exact ⟨k, by omega, by simpa using h2⟩
theorem lL.has {ls : Array Slot} {n : Nat} {L : List (Option Value)} (h : lL ls n L) : lv_has ls n (lvO 0 L) := by
  refine ⟨h.1, h.2.1, fun q hq => ?_⟩
  obtain ⟨j, v⟩ := q
  obtain ⟨k, h1, h2⟩ := (lvO_mem L 0 j v).mp hq
  have e : j = k := by omega
  subst e
  exact h.2.2 j v h2
theorem kl_get {L : List (Option Value)} {i j : Nat} {w : Value} (h : (kl L i)[j]? = some (some w)) : L[j]? = some (some w) ∧ ¬ (j + 1 = i ∧ w.category = 2) := by
  cases i with
  | zero => exact ⟨h, fun q => by omega⟩
  | succ i =>
    cases hL : L[i]? with
    | none => simp only [kl, hL] at h; exact ⟨h, fun q => by rw [show i = j by omega, h] at hL; cases hL⟩
    | some x =>
      cases x with
      | none => simp only [kl, hL] at h; exact ⟨h, fun q => by rw [show i = j by omega, h] at hL; cases hL⟩
      | some v =>
        by_cases hc : v.category = 2
        · simp only [kl, hL, hc, if_true] at h
          rw [List.getElem?_set] at h
          by_cases e : i = j
          · subst e
            rw [if_pos rfl] at h
            split at h <;> cases h
          · rw [if_neg e] at h
            exact ⟨h, fun q => e (by omega)⟩
        · simp only [kl, hL, hc, if_false] at h
          refine ⟨h, fun q => ?_⟩
          have e : i = j := by omega
          subst e
          rw [hL] at h
          cases h
          exact hc q.2
theorem lL_st1 {ls : Array Slot} {n i : Nat} {v : Value} {L : List (Option Value)} (h : lv_has ls n ((i, v) :: (lvO 0 L).filter (fun q => !(q.1 == i) && !(q.1 + 1 == i && q.2.category == 2)))) : lL ls n (st1 L i v) := by
  refine ⟨h.1, h.2.1, fun j w hj => ?_⟩
  unfold st1 at hj
  rw [List.getElem?_set] at hj
  by_cases e : i = j
  · subst e
    rw [if_pos rfl] at hj
    split at hj
    · cases hj; exact h.2.2 _ List.mem_cons_self
    · cases hj
  · rw [if_neg e] at hj
    obtain ⟨h1, h2⟩ := kl_get hj
    refine h.2.2 (j, w) (List.mem_cons_of_mem _ (List.mem_filter.mpr ⟨(lvO_mem L 0 j w).mpr ⟨j, by omega, h1⟩, ?_⟩))
    simp only [Bool.and_eq_true, Bool.not_eq_true', beq_eq_false_iff_ne, ne_eq, Bool.and_eq_false_iff]
    refine ⟨fun q => e q.symm, ?_⟩
    by_cases q1 : j + 1 = i
    · exact Or.inr (fun q2 => h2 ⟨q1, q2⟩)
    · exact Or.inl q1
theorem lL_st2 {ls : Array Slot} {n i : Nat} {v : Value} {L : List (Option Value)} (h : lv_has ls n ((i, v) :: (lvO 0 L).filter (fun q => !(q.1 == i) && (!(q.1 == i + 1) && !(q.1 + 1 == i && q.2.category == 2))))) : lL ls n (st2 L i v) := by
  refine ⟨h.1, h.2.1, fun j w hj => ?_⟩
  unfold st2 at hj
  rw [List.getElem?_set] at hj
  by_cases e1 : i + 1 = j
  · subst e1
    rw [if_pos rfl] at hj
    split at hj <;> cases hj
  rw [if_neg e1, List.getElem?_set] at hj
  by_cases e : i = j
  · subst e
    rw [if_pos rfl] at hj
    split at hj
    · cases hj; exact h.2.2 _ List.mem_cons_self
    · cases hj
  · rw [if_neg e] at hj
    obtain ⟨h1, h2⟩ := kl_get hj
    refine h.2.2 (j, w) (List.mem_cons_of_mem _ (List.mem_filter.mpr ⟨(lvO_mem L 0 j w).mpr ⟨j, by omega, h1⟩, ?_⟩))
    simp only [Bool.and_eq_true, Bool.not_eq_true', beq_eq_false_iff_ne, ne_eq, Bool.and_eq_false_iff]
    refine ⟨fun q => e q.symm, fun q => e1 q.symm, ?_⟩
    by_cases q1 : j + 1 = i
    · exact Or.inr (fun q2 => h2 ⟨q1, q2⟩)
    · exact Or.inl q1
theorem r_iconst {n : Int} {v : Int32} (hd : decode y.2.1 pc = .ok (.iconst n, 1)) (hv : Int32.ofInt n = v) (k : RR G nc ns y (pc + 1) L (.int v :: S) h Z) : RR G nc ns y pc L (S) h Z := by
  intro p e R s m args below meth c H locs cells slots c0 s0 ls Q M hp hm hl hr
  exact lv_iconst M.1 M.2.1 hd hv (k p e R s m args below meth c H locs cells slots c0 s0 ls Q M hp hm hl hr)
theorem r_bipush {n : Int} {v : Int32} (hd : decode y.2.1 pc = .ok (.bipush n, 2)) (hv : (Int8.ofInt n).toInt32 = v) (k : RR G nc ns y (pc + 2) L (.int v :: S) h Z) : RR G nc ns y pc L (S) h Z := by
  intro p e R s m args below meth c H locs cells slots c0 s0 ls Q M hp hm hl hr
  exact lv_bipush M.1 M.2.1 hd hv (k p e R s m args below meth c H locs cells slots c0 s0 ls Q M hp hm hl hr)
theorem r_sipush {n : Int} {v : Int32} (hd : decode y.2.1 pc = .ok (.sipush n, 3)) (hv : (Int16.ofInt n).toInt32 = v) (k : RR G nc ns y (pc + 3) L (.int v :: S) h Z) : RR G nc ns y pc L (S) h Z := by
  intro p e R s m args below meth c H locs cells slots c0 s0 ls Q M hp hm hl hr
  exact lv_sipush M.1 M.2.1 hd hv (k p e R s m args below meth c H locs cells slots c0 s0 ls Q M hp hm hl hr)
theorem r_lconst {n : Fin 2} {v : Int64} (hd : decode y.2.1 pc = .ok (.lconst n, 1)) (hv : Int64.ofNat (n : Nat) = v) (k : RR G nc ns y (pc + 1) L (.long v :: S) h Z) : RR G nc ns y pc L (S) h Z := by
  intro p e R s m args below meth c H locs cells slots c0 s0 ls Q M hp hm hl hr
  exact lv_lconst M.1 M.2.1 hd hv (k p e R s m args below meth c H locs cells slots c0 s0 ls Q M hp hm hl hr)
theorem r_iload_n {k0 : Fin 4} {x : Int32} (hd : decode y.2.1 pc = .ok (.iload_n k0, 1)) (hx : L[(k0 : Nat)]? = some (some (.int x))) (k : RR G nc ns y (pc + 1) L (.int x :: S) h Z) : RR G nc ns y pc L (S) h Z := by
  intro p e R s m args below meth c H locs cells slots c0 s0 ls Q M hp hm hl hr
  exact lv_iload_n M.1 M.2.1 hd rfl (hl.2.2 _ _ hx) (k p e R s m args below meth c H locs cells slots c0 s0 ls Q M hp hm hl hr)
theorem r_iload {i : Nat} {x : Int32} (hd : decode y.2.1 pc = .ok (.iload i, 2)) (hx : L[i]? = some (some (.int x))) (k : RR G nc ns y (pc + 2) L (.int x :: S) h Z) : RR G nc ns y pc L (S) h Z := by
  intro p e R s m args below meth c H locs cells slots c0 s0 ls Q M hp hm hl hr
  exact lv_iload M.1 M.2.1 hd (hl.2.2 _ _ hx) (k p e R s m args below meth c H locs cells slots c0 s0 ls Q M hp hm hl hr)
theorem r_lload_n {k0 : Fin 4} {x : Int64} (hd : decode y.2.1 pc = .ok (.lload_n k0, 1)) (hx : L[(k0 : Nat)]? = some (some (.long x))) (k : RR G nc ns y (pc + 1) L (.long x :: S) h Z) : RR G nc ns y pc L (S) h Z := by
  intro p e R s m args below meth c H locs cells slots c0 s0 ls Q M hp hm hl hr
  exact lv_lload_n M.1 M.2.1 hd rfl (hl.2.2 _ _ hx) (k p e R s m args below meth c H locs cells slots c0 s0 ls Q M hp hm hl hr)
theorem r_lload {i : Nat} {x : Int64} (hd : decode y.2.1 pc = .ok (.lload i, 2)) (hx : L[i]? = some (some (.long x))) (k : RR G nc ns y (pc + 2) L (.long x :: S) h Z) : RR G nc ns y pc L (S) h Z := by
  intro p e R s m args below meth c H locs cells slots c0 s0 ls Q M hp hm hl hr
  exact lv_lload M.1 M.2.1 hd (hl.2.2 _ _ hx) (k p e R s m args below meth c H locs cells slots c0 s0 ls Q M hp hm hl hr)
theorem r_aload_n {k0 : Fin 4} {x : Nat} (hd : decode y.2.1 pc = .ok (.aload_n k0, 1)) (hx : L[(k0 : Nat)]? = some (some (.ref x))) (k : RR G nc ns y (pc + 1) L (.ref x :: S) h Z) : RR G nc ns y pc L (S) h Z := by
  intro p e R s m args below meth c H locs cells slots c0 s0 ls Q M hp hm hl hr
  exact lv_aload_n M.1 M.2.1 hd rfl (hl.2.2 _ _ hx) (k p e R s m args below meth c H locs cells slots c0 s0 ls Q M hp hm hl hr)
theorem r_aload {i : Nat} {x : Nat} (hd : decode y.2.1 pc = .ok (.aload i, 2)) (hx : L[i]? = some (some (.ref x))) (k : RR G nc ns y (pc + 2) L (.ref x :: S) h Z) : RR G nc ns y pc L (S) h Z := by
  intro p e R s m args below meth c H locs cells slots c0 s0 ls Q M hp hm hl hr
  exact lv_aload M.1 M.2.1 hd (hl.2.2 _ _ hx) (k p e R s m args below meth c H locs cells slots c0 s0 ls Q M hp hm hl hr)
theorem r_istore_n {k0 : Fin 4} {x : Int32} (hd : decode y.2.1 pc = .ok (.istore_n k0, 1)) (hn : (k0 : Nat) < y.2.2.1) (k : RR G nc ns y (pc + 1) (st1 L (k0 : Nat) (.int x)) S h Z) : RR G nc ns y pc L (.int x :: S) h Z := by
  intro p e R s m args below meth c H locs cells slots c0 s0 ls Q M hp hm hl hr
  exact lv_istore_n M.1 M.2.1 hd rfl hl.has hn rfl (fun ls' hl' => k p e R s m args below meth c H locs cells slots c0 s0 ls' Q M hp hm (lL_st1 hl') hr)
theorem r_istore {i : Nat} {x : Int32} (hd : decode y.2.1 pc = .ok (.istore i, 2)) (hn : i < y.2.2.1) (k : RR G nc ns y (pc + 2) (st1 L i (.int x)) S h Z) : RR G nc ns y pc L (.int x :: S) h Z := by
  intro p e R s m args below meth c H locs cells slots c0 s0 ls Q M hp hm hl hr
  exact lv_istore M.1 M.2.1 hd hl.has hn rfl (fun ls' hl' => k p e R s m args below meth c H locs cells slots c0 s0 ls' Q M hp hm (lL_st1 hl') hr)
theorem r_astore_n {k0 : Fin 4} {x : Nat} (hd : decode y.2.1 pc = .ok (.astore_n k0, 1)) (hn : (k0 : Nat) < y.2.2.1) (k : RR G nc ns y (pc + 1) (st1 L (k0 : Nat) (.ref x)) S h Z) : RR G nc ns y pc L (.ref x :: S) h Z := by
  intro p e R s m args below meth c H locs cells slots c0 s0 ls Q M hp hm hl hr
  exact lv_astore_n M.1 M.2.1 hd rfl hl.has hn rfl (fun ls' hl' => k p e R s m args below meth c H locs cells slots c0 s0 ls' Q M hp hm (lL_st1 hl') hr)
theorem r_astore {i : Nat} {x : Nat} (hd : decode y.2.1 pc = .ok (.astore i, 2)) (hn : i < y.2.2.1) (k : RR G nc ns y (pc + 2) (st1 L i (.ref x)) S h Z) : RR G nc ns y pc L (.ref x :: S) h Z := by
  intro p e R s m args below meth c H locs cells slots c0 s0 ls Q M hp hm hl hr
  exact lv_astore M.1 M.2.1 hd hl.has hn rfl (fun ls' hl' => k p e R s m args below meth c H locs cells slots c0 s0 ls' Q M hp hm (lL_st1 hl') hr)
theorem r_lstore_n {k0 : Fin 4} {x : Int64} (hd : decode y.2.1 pc = .ok (.lstore_n k0, 1)) (hn : (k0 : Nat) + 1 < y.2.2.1) (k : RR G nc ns y (pc + 1) (st2 L (k0 : Nat) (.long x)) S h Z) : RR G nc ns y pc L (.long x :: S) h Z := by
  intro p e R s m args below meth c H locs cells slots c0 s0 ls Q M hp hm hl hr
  exact lv_lstore_n M.1 M.2.1 hd rfl hl.has hn rfl (fun ls' hl' => k p e R s m args below meth c H locs cells slots c0 s0 ls' Q M hp hm (lL_st2 hl') hr)
theorem r_lstore {i : Nat} {x : Int64} (hd : decode y.2.1 pc = .ok (.lstore i, 2)) (hn : i + 1 < y.2.2.1) (k : RR G nc ns y (pc + 2) (st2 L i (.long x)) S h Z) : RR G nc ns y pc L (.long x :: S) h Z := by
  intro p e R s m args below meth c H locs cells slots c0 s0 ls Q M hp hm hl hr
  exact lv_lstore M.1 M.2.1 hd hl.has hn rfl (fun ls' hl' => k p e R s m args below meth c H locs cells slots c0 s0 ls' Q M hp hm (lL_st2 hl') hr)
theorem r_iinc {i : Nat} {n : Int} {x v : Int32} (hd : decode y.2.1 pc = .ok (.iinc i n, 3)) (hx : L[i]? = some (some (.int x))) (hn : i < y.2.2.1) (hv : x + Int32.ofInt n = v) (k : RR G nc ns y (pc + 3) (st1 L i (.int v)) S h Z) : RR G nc ns y pc L S h Z := by
  intro p e R s m args below meth c H locs cells slots c0 s0 ls Q M hp hm hl hr
  obtain ⟨k9, hk9⟩ := List.getElem?_of_mem ((lvO_mem L 0 i (.int x)).mpr ⟨i, by omega, hx⟩)
  exact lv_iinc M.1 M.2.1 hd hl.has hk9 hv hn rfl (fun ls' hl' => k p e R s m args below meth c H locs cells slots c0 s0 ls' Q M hp hm (lL_st1 hl') hr)
theorem r_iadd {x z : Int32} (hd : decode y.2.1 pc = .ok (.iadd, 1))  (k : RR G nc ns y (pc + 1) L (.int (x + z) :: S) h Z) : RR G nc ns y pc L (.int z :: .int x :: S) h Z := by
  intro p e R s m args below meth c H locs cells slots c0 s0 ls Q M hp hm hl hr
  exact lv_iadd M.1 M.2.1 hd (k p e R s m args below meth c H locs cells slots c0 s0 ls Q M hp hm hl hr)
theorem r_isub {x z : Int32} (hd : decode y.2.1 pc = .ok (.isub, 1))  (k : RR G nc ns y (pc + 1) L (.int (x - z) :: S) h Z) : RR G nc ns y pc L (.int z :: .int x :: S) h Z := by
  intro p e R s m args below meth c H locs cells slots c0 s0 ls Q M hp hm hl hr
  exact lv_isub M.1 M.2.1 hd (k p e R s m args below meth c H locs cells slots c0 s0 ls Q M hp hm hl hr)
theorem r_imul {x z : Int32} (hd : decode y.2.1 pc = .ok (.imul, 1))  (k : RR G nc ns y (pc + 1) L (.int (x * z) :: S) h Z) : RR G nc ns y pc L (.int z :: .int x :: S) h Z := by
  intro p e R s m args below meth c H locs cells slots c0 s0 ls Q M hp hm hl hr
  exact lv_imul M.1 M.2.1 hd (k p e R s m args below meth c H locs cells slots c0 s0 ls Q M hp hm hl hr)
theorem r_iand {x z : Int32} (hd : decode y.2.1 pc = .ok (.iand, 1))  (k : RR G nc ns y (pc + 1) L (.int (x &&& z) :: S) h Z) : RR G nc ns y pc L (.int z :: .int x :: S) h Z := by
  intro p e R s m args below meth c H locs cells slots c0 s0 ls Q M hp hm hl hr
  exact lv_iand M.1 M.2.1 hd (k p e R s m args below meth c H locs cells slots c0 s0 ls Q M hp hm hl hr)
theorem r_ior {x z : Int32} (hd : decode y.2.1 pc = .ok (.ior, 1))  (k : RR G nc ns y (pc + 1) L (.int (x ||| z) :: S) h Z) : RR G nc ns y pc L (.int z :: .int x :: S) h Z := by
  intro p e R s m args below meth c H locs cells slots c0 s0 ls Q M hp hm hl hr
  exact lv_ior M.1 M.2.1 hd (k p e R s m args below meth c H locs cells slots c0 s0 ls Q M hp hm hl hr)
theorem r_ixor {x z : Int32} (hd : decode y.2.1 pc = .ok (.ixor, 1))  (k : RR G nc ns y (pc + 1) L (.int (x ^^^ z) :: S) h Z) : RR G nc ns y pc L (.int z :: .int x :: S) h Z := by
  intro p e R s m args below meth c H locs cells slots c0 s0 ls Q M hp hm hl hr
  exact lv_ixor M.1 M.2.1 hd (k p e R s m args below meth c H locs cells slots c0 s0 ls Q M hp hm hl hr)
theorem r_ishl {x z : Int32} (hd : decode y.2.1 pc = .ok (.ishl, 1))  (k : RR G nc ns y (pc + 1) L (.int (x <<< (z &&& 31)) :: S) h Z) : RR G nc ns y pc L (.int z :: .int x :: S) h Z := by
  intro p e R s m args below meth c H locs cells slots c0 s0 ls Q M hp hm hl hr
  exact lv_ishl M.1 M.2.1 hd (k p e R s m args below meth c H locs cells slots c0 s0 ls Q M hp hm hl hr)
theorem r_ishr {x z : Int32} (hd : decode y.2.1 pc = .ok (.ishr, 1))  (k : RR G nc ns y (pc + 1) L (.int (x >>> (z &&& 31)) :: S) h Z) : RR G nc ns y pc L (.int z :: .int x :: S) h Z := by
  intro p e R s m args below meth c H locs cells slots c0 s0 ls Q M hp hm hl hr
  exact lv_ishr M.1 M.2.1 hd (k p e R s m args below meth c H locs cells slots c0 s0 ls Q M hp hm hl hr)
theorem r_iushr {x z : Int32} (hd : decode y.2.1 pc = .ok (.iushr, 1))  (k : RR G nc ns y (pc + 1) L (.int ((x.toUInt32 >>> (z.toUInt32 &&& Int32.toUInt32 31)).toInt32) :: S) h Z) : RR G nc ns y pc L (.int z :: .int x :: S) h Z := by
  intro p e R s m args below meth c H locs cells slots c0 s0 ls Q M hp hm hl hr
  exact lv_iushr M.1 M.2.1 hd rfl (k p e R s m args below meth c H locs cells slots c0 s0 ls Q M hp hm hl hr)
theorem r_ladd {x z : Int64} (hd : decode y.2.1 pc = .ok (.ladd, 1))  (k : RR G nc ns y (pc + 1) L (.long (x + z) :: S) h Z) : RR G nc ns y pc L (.long z :: .long x :: S) h Z := by
  intro p e R s m args below meth c H locs cells slots c0 s0 ls Q M hp hm hl hr
  exact lv_ladd M.1 M.2.1 hd (k p e R s m args below meth c H locs cells slots c0 s0 ls Q M hp hm hl hr)
theorem r_lsub {x z : Int64} (hd : decode y.2.1 pc = .ok (.lsub, 1))  (k : RR G nc ns y (pc + 1) L (.long (x - z) :: S) h Z) : RR G nc ns y pc L (.long z :: .long x :: S) h Z := by
  intro p e R s m args below meth c H locs cells slots c0 s0 ls Q M hp hm hl hr
  exact lv_lsub M.1 M.2.1 hd (k p e R s m args below meth c H locs cells slots c0 s0 ls Q M hp hm hl hr)
theorem r_lmul {x z : Int64} (hd : decode y.2.1 pc = .ok (.lmul, 1))  (k : RR G nc ns y (pc + 1) L (.long (x * z) :: S) h Z) : RR G nc ns y pc L (.long z :: .long x :: S) h Z := by
  intro p e R s m args below meth c H locs cells slots c0 s0 ls Q M hp hm hl hr
  exact lv_lmul M.1 M.2.1 hd (k p e R s m args below meth c H locs cells slots c0 s0 ls Q M hp hm hl hr)
theorem r_land {x z : Int64} (hd : decode y.2.1 pc = .ok (.land, 1))  (k : RR G nc ns y (pc + 1) L (.long (x &&& z) :: S) h Z) : RR G nc ns y pc L (.long z :: .long x :: S) h Z := by
  intro p e R s m args below meth c H locs cells slots c0 s0 ls Q M hp hm hl hr
  exact lv_land M.1 M.2.1 hd (k p e R s m args below meth c H locs cells slots c0 s0 ls Q M hp hm hl hr)
theorem r_lor {x z : Int64} (hd : decode y.2.1 pc = .ok (.lor, 1))  (k : RR G nc ns y (pc + 1) L (.long (x ||| z) :: S) h Z) : RR G nc ns y pc L (.long z :: .long x :: S) h Z := by
  intro p e R s m args below meth c H locs cells slots c0 s0 ls Q M hp hm hl hr
  exact lv_lor M.1 M.2.1 hd (k p e R s m args below meth c H locs cells slots c0 s0 ls Q M hp hm hl hr)
theorem r_lxor {x z : Int64} (hd : decode y.2.1 pc = .ok (.lxor, 1))  (k : RR G nc ns y (pc + 1) L (.long (x ^^^ z) :: S) h Z) : RR G nc ns y pc L (.long z :: .long x :: S) h Z := by
  intro p e R s m args below meth c H locs cells slots c0 s0 ls Q M hp hm hl hr
  exact lv_lxor M.1 M.2.1 hd (k p e R s m args below meth c H locs cells slots c0 s0 ls Q M hp hm hl hr)
theorem r_lneg {x : Int64} (hd : decode y.2.1 pc = .ok (.lneg, 1))  (k : RR G nc ns y (pc + 1) L (.long (-x) :: S) h Z) : RR G nc ns y pc L (.long x :: S) h Z := by
  intro p e R s m args below meth c H locs cells slots c0 s0 ls Q M hp hm hl hr
  exact lv_lneg M.1 M.2.1 hd (k p e R s m args below meth c H locs cells slots c0 s0 ls Q M hp hm hl hr)
theorem r_lshl {x : Int64} {z : Int32} (hd : decode y.2.1 pc = .ok (.lshl, 1))  (k : RR G nc ns y (pc + 1) L (.long (x <<< (z.toInt64 &&& 63)) :: S) h Z) : RR G nc ns y pc L (.int z :: .long x :: S) h Z := by
  intro p e R s m args below meth c H locs cells slots c0 s0 ls Q M hp hm hl hr
  exact lv_lshl M.1 M.2.1 hd rfl (k p e R s m args below meth c H locs cells slots c0 s0 ls Q M hp hm hl hr)
theorem r_lushr {x : Int64} {z : Int32} (hd : decode y.2.1 pc = .ok (.lushr, 1))  (k : RR G nc ns y (pc + 1) L (.long ((x.toUInt64 >>> (z.toInt64.toUInt64 &&& Int64.toUInt64 63)).toInt64) :: S) h Z) : RR G nc ns y pc L (.int z :: .long x :: S) h Z := by
  intro p e R s m args below meth c H locs cells slots c0 s0 ls Q M hp hm hl hr
  exact lv_lushr M.1 M.2.1 hd rfl (k p e R s m args below meth c H locs cells slots c0 s0 ls Q M hp hm hl hr)
theorem r_l2i {x : Int64} (hd : decode y.2.1 pc = .ok (.l2i, 1))  (k : RR G nc ns y (pc + 1) L (.int x.toInt32 :: S) h Z) : RR G nc ns y pc L (.long x :: S) h Z := by
  intro p e R s m args below meth c H locs cells slots c0 s0 ls Q M hp hm hl hr
  exact lv_l2i M.1 M.2.1 hd rfl (k p e R s m args below meth c H locs cells slots c0 s0 ls Q M hp hm hl hr)
theorem r_dup {a : Value} (hd : decode y.2.1 pc = .ok (.dup, 1)) (ha : a.category = 1) (k : RR G nc ns y (pc + 1) L (a :: a :: S) h Z) : RR G nc ns y pc L (a :: S) h Z := by
  intro p e R s m args below meth c H locs cells slots c0 s0 ls Q M hp hm hl hr
  exact lv_dup M.1 M.2.1 hd ha (k p e R s m args below meth c H locs cells slots c0 s0 ls Q M hp hm hl hr)
theorem r_dup2 {a b : Value} (hd : decode y.2.1 pc = .ok (.dup2, 1)) (ha : a.category = 1) (hb : b.category = 1) (k : RR G nc ns y (pc + 1) L (a :: b :: a :: b :: S) h Z) : RR G nc ns y pc L (a :: b :: S) h Z := by
  intro p e R s m args below meth c H locs cells slots c0 s0 ls Q M hp hm hl hr
  exact lv_dup2_11 M.1 M.2.1 hd ha hb (k p e R s m args below meth c H locs cells slots c0 s0 ls Q M hp hm hl hr)
theorem r_dup2L {a : Value} (hd : decode y.2.1 pc = .ok (.dup2, 1)) (ha : a.category = 2) (k : RR G nc ns y (pc + 1) L (a :: a :: S) h Z) : RR G nc ns y pc L (a :: S) h Z := by
  intro p e R s m args below meth c H locs cells slots c0 s0 ls Q M hp hm hl hr
  exact lv_dup2_2 M.1 M.2.1 hd ha (k p e R s m args below meth c H locs cells slots c0 s0 ls Q M hp hm hl hr)
theorem r_pop {a : Value} (hd : decode y.2.1 pc = .ok (.pop, 1)) (ha : a.category = 1) (k : RR G nc ns y (pc + 1) L (S) h Z) : RR G nc ns y pc L (a :: S) h Z := by
  intro p e R s m args below meth c H locs cells slots c0 s0 ls Q M hp hm hl hr
  exact lv_pop M.1 M.2.1 hd ha (k p e R s m args below meth c H locs cells slots c0 s0 ls Q M hp hm hl hr)
theorem r_lcmp {x z : Int64} (hd : decode y.2.1 pc = .ok (.lcmp, 1)) (k : RR G nc ns y (pc + 1) L (.int (lg_cmp x z) :: S) h Z) : RR G nc ns y pc L (.long z :: .long x :: S) h Z := by
  intro p e R s m args below meth c H locs cells slots c0 s0 ls Q M hp hm hl hr
  exact W.lcmp M.1 M.2.1 hd (k p e R s m args below meth c H locs cells slots c0 s0 ls Q M hp hm hl hr)
theorem r_goto {off : Int} {tgt : Nat} (hd : decode y.2.1 pc = .ok (.goto off, 3)) (ht : (pc : Int) + off = (tgt : Int)) (k : RR G nc ns y tgt L S h Z) : RR G nc ns y pc L S h Z := by
  intro p e R s m args below meth c H locs cells slots c0 s0 ls Q M hp hm hl hr
  exact lv_goto M.1 M.2.1 hd ht (k p e R s m args below meth c H locs cells slots c0 s0 ls Q M hp hm hl hr)
theorem r_if_eq_t {x : Int32} {off : Int} {tgt : Nat} (hd : decode y.2.1 pc = .ok (.ifCond .eq off, 3)) (ht : (pc : Int) + off = (tgt : Int)) (hc : x = 0) (k : RR G nc ns y tgt L S h Z) : RR G nc ns y pc L (.int x :: S) h Z := by
  intro p e R s m args below meth c H locs cells slots c0 s0 ls Q M hp hm hl hr
  exact lv_if_eq M.1 M.2.1 hd ht (fun c9 => (k p e R s m args below meth c H locs cells slots c0 s0 ls Q M hp hm hl hr)) (fun c9 => absurd hc c9)
theorem r_if_eq_f {x : Int32} {off : Int} {tgt : Nat} (hd : decode y.2.1 pc = .ok (.ifCond .eq off, 3)) (ht : (pc : Int) + off = (tgt : Int)) (hc : ¬ x = 0) (k : RR G nc ns y (pc + 3) L S h Z) : RR G nc ns y pc L (.int x :: S) h Z := by
  intro p e R s m args below meth c H locs cells slots c0 s0 ls Q M hp hm hl hr
  exact lv_if_eq M.1 M.2.1 hd ht (fun c9 => absurd c9 hc) (fun c9 => (k p e R s m args below meth c H locs cells slots c0 s0 ls Q M hp hm hl hr))
theorem r_if_ne_t {x : Int32} {off : Int} {tgt : Nat} (hd : decode y.2.1 pc = .ok (.ifCond .ne off, 3)) (ht : (pc : Int) + off = (tgt : Int)) (hc : ¬ x = 0) (k : RR G nc ns y tgt L S h Z) : RR G nc ns y pc L (.int x :: S) h Z := by
  intro p e R s m args below meth c H locs cells slots c0 s0 ls Q M hp hm hl hr
  exact lv_if_ne M.1 M.2.1 hd ht (fun c9 => (k p e R s m args below meth c H locs cells slots c0 s0 ls Q M hp hm hl hr)) (fun c9 => absurd c9 hc)
theorem r_if_ne_f {x : Int32} {off : Int} {tgt : Nat} (hd : decode y.2.1 pc = .ok (.ifCond .ne off, 3)) (ht : (pc : Int) + off = (tgt : Int)) (hc : x = 0) (k : RR G nc ns y (pc + 3) L S h Z) : RR G nc ns y pc L (.int x :: S) h Z := by
  intro p e R s m args below meth c H locs cells slots c0 s0 ls Q M hp hm hl hr
  exact lv_if_ne M.1 M.2.1 hd ht (fun c9 => absurd hc c9) (fun c9 => (k p e R s m args below meth c H locs cells slots c0 s0 ls Q M hp hm hl hr))
theorem r_if_lt_t {x : Int32} {off : Int} {tgt : Nat} (hd : decode y.2.1 pc = .ok (.ifCond .lt off, 3)) (ht : (pc : Int) + off = (tgt : Int)) (hc : x < 0) (k : RR G nc ns y tgt L S h Z) : RR G nc ns y pc L (.int x :: S) h Z := by
  intro p e R s m args below meth c H locs cells slots c0 s0 ls Q M hp hm hl hr
  exact lv_if_lt M.1 M.2.1 hd ht (fun c9 => (k p e R s m args below meth c H locs cells slots c0 s0 ls Q M hp hm hl hr)) (fun c9 => absurd hc c9)
theorem r_if_lt_f {x : Int32} {off : Int} {tgt : Nat} (hd : decode y.2.1 pc = .ok (.ifCond .lt off, 3)) (ht : (pc : Int) + off = (tgt : Int)) (hc : ¬ x < 0) (k : RR G nc ns y (pc + 3) L S h Z) : RR G nc ns y pc L (.int x :: S) h Z := by
  intro p e R s m args below meth c H locs cells slots c0 s0 ls Q M hp hm hl hr
  exact lv_if_lt M.1 M.2.1 hd ht (fun c9 => absurd c9 hc) (fun c9 => (k p e R s m args below meth c H locs cells slots c0 s0 ls Q M hp hm hl hr))
theorem r_if_ge_t {x : Int32} {off : Int} {tgt : Nat} (hd : decode y.2.1 pc = .ok (.ifCond .ge off, 3)) (ht : (pc : Int) + off = (tgt : Int)) (hc : 0 ≤ x) (k : RR G nc ns y tgt L S h Z) : RR G nc ns y pc L (.int x :: S) h Z := by
  intro p e R s m args below meth c H locs cells slots c0 s0 ls Q M hp hm hl hr
  exact lv_if_ge M.1 M.2.1 hd ht (fun c9 => (k p e R s m args below meth c H locs cells slots c0 s0 ls Q M hp hm hl hr)) (fun c9 => absurd hc c9)
theorem r_if_ge_f {x : Int32} {off : Int} {tgt : Nat} (hd : decode y.2.1 pc = .ok (.ifCond .ge off, 3)) (ht : (pc : Int) + off = (tgt : Int)) (hc : ¬ 0 ≤ x) (k : RR G nc ns y (pc + 3) L S h Z) : RR G nc ns y pc L (.int x :: S) h Z := by
  intro p e R s m args below meth c H locs cells slots c0 s0 ls Q M hp hm hl hr
  exact lv_if_ge M.1 M.2.1 hd ht (fun c9 => absurd c9 hc) (fun c9 => (k p e R s m args below meth c H locs cells slots c0 s0 ls Q M hp hm hl hr))
theorem r_if_gt_t {x : Int32} {off : Int} {tgt : Nat} (hd : decode y.2.1 pc = .ok (.ifCond .gt off, 3)) (ht : (pc : Int) + off = (tgt : Int)) (hc : 0 < x) (k : RR G nc ns y tgt L S h Z) : RR G nc ns y pc L (.int x :: S) h Z := by
  intro p e R s m args below meth c H locs cells slots c0 s0 ls Q M hp hm hl hr
  exact lv_if_gt M.1 M.2.1 hd ht (fun c9 => (k p e R s m args below meth c H locs cells slots c0 s0 ls Q M hp hm hl hr)) (fun c9 => absurd hc c9)
theorem r_if_gt_f {x : Int32} {off : Int} {tgt : Nat} (hd : decode y.2.1 pc = .ok (.ifCond .gt off, 3)) (ht : (pc : Int) + off = (tgt : Int)) (hc : ¬ 0 < x) (k : RR G nc ns y (pc + 3) L S h Z) : RR G nc ns y pc L (.int x :: S) h Z := by
  intro p e R s m args below meth c H locs cells slots c0 s0 ls Q M hp hm hl hr
  exact lv_if_gt M.1 M.2.1 hd ht (fun c9 => absurd c9 hc) (fun c9 => (k p e R s m args below meth c H locs cells slots c0 s0 ls Q M hp hm hl hr))
theorem r_if_le_t {x : Int32} {off : Int} {tgt : Nat} (hd : decode y.2.1 pc = .ok (.ifCond .le off, 3)) (ht : (pc : Int) + off = (tgt : Int)) (hc : x ≤ 0) (k : RR G nc ns y tgt L S h Z) : RR G nc ns y pc L (.int x :: S) h Z := by
  intro p e R s m args below meth c H locs cells slots c0 s0 ls Q M hp hm hl hr
  exact lv_if_le M.1 M.2.1 hd ht (fun c9 => (k p e R s m args below meth c H locs cells slots c0 s0 ls Q M hp hm hl hr)) (fun c9 => absurd hc c9)
theorem r_if_le_f {x : Int32} {off : Int} {tgt : Nat} (hd : decode y.2.1 pc = .ok (.ifCond .le off, 3)) (ht : (pc : Int) + off = (tgt : Int)) (hc : ¬ x ≤ 0) (k : RR G nc ns y (pc + 3) L S h Z) : RR G nc ns y pc L (.int x :: S) h Z := by
  intro p e R s m args below meth c H locs cells slots c0 s0 ls Q M hp hm hl hr
  exact lv_if_le M.1 M.2.1 hd ht (fun c9 => absurd c9 hc) (fun c9 => (k p e R s m args below meth c H locs cells slots c0 s0 ls Q M hp hm hl hr))
theorem r_icmp_eq_t {x z : Int32} {off : Int} {tgt : Nat} (hd : decode y.2.1 pc = .ok (.if_icmp .eq off, 3)) (ht : (pc : Int) + off = (tgt : Int)) (hc : x = z) (k : RR G nc ns y tgt L S h Z) : RR G nc ns y pc L (.int z :: .int x :: S) h Z := by
  intro p e R s m args below meth c H locs cells slots c0 s0 ls Q M hp hm hl hr
  exact lv_icmp_eq M.1 M.2.1 hd ht (fun c9 => (k p e R s m args below meth c H locs cells slots c0 s0 ls Q M hp hm hl hr)) (fun c9 => absurd hc c9)
theorem r_icmp_eq_f {x z : Int32} {off : Int} {tgt : Nat} (hd : decode y.2.1 pc = .ok (.if_icmp .eq off, 3)) (ht : (pc : Int) + off = (tgt : Int)) (hc : ¬ x = z) (k : RR G nc ns y (pc + 3) L S h Z) : RR G nc ns y pc L (.int z :: .int x :: S) h Z := by
  intro p e R s m args below meth c H locs cells slots c0 s0 ls Q M hp hm hl hr
  exact lv_icmp_eq M.1 M.2.1 hd ht (fun c9 => absurd c9 hc) (fun c9 => (k p e R s m args below meth c H locs cells slots c0 s0 ls Q M hp hm hl hr))
theorem r_icmp_ne_t {x z : Int32} {off : Int} {tgt : Nat} (hd : decode y.2.1 pc = .ok (.if_icmp .ne off, 3)) (ht : (pc : Int) + off = (tgt : Int)) (hc : ¬ x = z) (k : RR G nc ns y tgt L S h Z) : RR G nc ns y pc L (.int z :: .int x :: S) h Z := by
  intro p e R s m args below meth c H locs cells slots c0 s0 ls Q M hp hm hl hr
  exact lv_icmp_ne M.1 M.2.1 hd ht (fun c9 => (k p e R s m args below meth c H locs cells slots c0 s0 ls Q M hp hm hl hr)) (fun c9 => absurd c9 hc)
theorem r_icmp_ne_f {x z : Int32} {off : Int} {tgt : Nat} (hd : decode y.2.1 pc = .ok (.if_icmp .ne off, 3)) (ht : (pc : Int) + off = (tgt : Int)) (hc : x = z) (k : RR G nc ns y (pc + 3) L S h Z) : RR G nc ns y pc L (.int z :: .int x :: S) h Z := by
  intro p e R s m args below meth c H locs cells slots c0 s0 ls Q M hp hm hl hr
  exact lv_icmp_ne M.1 M.2.1 hd ht (fun c9 => absurd hc c9) (fun c9 => (k p e R s m args below meth c H locs cells slots c0 s0 ls Q M hp hm hl hr))
theorem r_icmp_lt_t {x z : Int32} {off : Int} {tgt : Nat} (hd : decode y.2.1 pc = .ok (.if_icmp .lt off, 3)) (ht : (pc : Int) + off = (tgt : Int)) (hc : x < z) (k : RR G nc ns y tgt L S h Z) : RR G nc ns y pc L (.int z :: .int x :: S) h Z := by
  intro p e R s m args below meth c H locs cells slots c0 s0 ls Q M hp hm hl hr
  exact lv_icmp_lt M.1 M.2.1 hd ht (fun c9 => (k p e R s m args below meth c H locs cells slots c0 s0 ls Q M hp hm hl hr)) (fun c9 => absurd hc c9)
theorem r_icmp_lt_f {x z : Int32} {off : Int} {tgt : Nat} (hd : decode y.2.1 pc = .ok (.if_icmp .lt off, 3)) (ht : (pc : Int) + off = (tgt : Int)) (hc : ¬ x < z) (k : RR G nc ns y (pc + 3) L S h Z) : RR G nc ns y pc L (.int z :: .int x :: S) h Z := by
  intro p e R s m args below meth c H locs cells slots c0 s0 ls Q M hp hm hl hr
  exact lv_icmp_lt M.1 M.2.1 hd ht (fun c9 => absurd c9 hc) (fun c9 => (k p e R s m args below meth c H locs cells slots c0 s0 ls Q M hp hm hl hr))
theorem r_icmp_ge_t {x z : Int32} {off : Int} {tgt : Nat} (hd : decode y.2.1 pc = .ok (.if_icmp .ge off, 3)) (ht : (pc : Int) + off = (tgt : Int)) (hc : z ≤ x) (k : RR G nc ns y tgt L S h Z) : RR G nc ns y pc L (.int z :: .int x :: S) h Z := by
  intro p e R s m args below meth c H locs cells slots c0 s0 ls Q M hp hm hl hr
  exact lv_icmp_ge M.1 M.2.1 hd ht (fun c9 => (k p e R s m args below meth c H locs cells slots c0 s0 ls Q M hp hm hl hr)) (fun c9 => absurd hc c9)
theorem r_icmp_ge_f {x z : Int32} {off : Int} {tgt : Nat} (hd : decode y.2.1 pc = .ok (.if_icmp .ge off, 3)) (ht : (pc : Int) + off = (tgt : Int)) (hc : ¬ z ≤ x) (k : RR G nc ns y (pc + 3) L S h Z) : RR G nc ns y pc L (.int z :: .int x :: S) h Z := by
  intro p e R s m args below meth c H locs cells slots c0 s0 ls Q M hp hm hl hr
  exact lv_icmp_ge M.1 M.2.1 hd ht (fun c9 => absurd c9 hc) (fun c9 => (k p e R s m args below meth c H locs cells slots c0 s0 ls Q M hp hm hl hr))
theorem r_icmp_gt_t {x z : Int32} {off : Int} {tgt : Nat} (hd : decode y.2.1 pc = .ok (.if_icmp .gt off, 3)) (ht : (pc : Int) + off = (tgt : Int)) (hc : z < x) (k : RR G nc ns y tgt L S h Z) : RR G nc ns y pc L (.int z :: .int x :: S) h Z := by
  intro p e R s m args below meth c H locs cells slots c0 s0 ls Q M hp hm hl hr
  exact lv_icmp_gt M.1 M.2.1 hd ht (fun c9 => (k p e R s m args below meth c H locs cells slots c0 s0 ls Q M hp hm hl hr)) (fun c9 => absurd hc c9)
theorem r_icmp_gt_f {x z : Int32} {off : Int} {tgt : Nat} (hd : decode y.2.1 pc = .ok (.if_icmp .gt off, 3)) (ht : (pc : Int) + off = (tgt : Int)) (hc : ¬ z < x) (k : RR G nc ns y (pc + 3) L S h Z) : RR G nc ns y pc L (.int z :: .int x :: S) h Z := by
  intro p e R s m args below meth c H locs cells slots c0 s0 ls Q M hp hm hl hr
  exact lv_icmp_gt M.1 M.2.1 hd ht (fun c9 => absurd c9 hc) (fun c9 => (k p e R s m args below meth c H locs cells slots c0 s0 ls Q M hp hm hl hr))
theorem r_icmp_le_t {x z : Int32} {off : Int} {tgt : Nat} (hd : decode y.2.1 pc = .ok (.if_icmp .le off, 3)) (ht : (pc : Int) + off = (tgt : Int)) (hc : x ≤ z) (k : RR G nc ns y tgt L S h Z) : RR G nc ns y pc L (.int z :: .int x :: S) h Z := by
  intro p e R s m args below meth c H locs cells slots c0 s0 ls Q M hp hm hl hr
  exact lv_icmp_le M.1 M.2.1 hd ht (fun c9 => (k p e R s m args below meth c H locs cells slots c0 s0 ls Q M hp hm hl hr)) (fun c9 => absurd hc c9)
theorem r_icmp_le_f {x z : Int32} {off : Int} {tgt : Nat} (hd : decode y.2.1 pc = .ok (.if_icmp .le off, 3)) (ht : (pc : Int) + off = (tgt : Int)) (hc : ¬ x ≤ z) (k : RR G nc ns y (pc + 3) L S h Z) : RR G nc ns y pc L (.int z :: .int x :: S) h Z := by
  intro p e R s m args below meth c H locs cells slots c0 s0 ls Q M hp hm hl hr
  exact lv_icmp_le M.1 M.2.1 hd ht (fun c9 => absurd c9 hc) (fun c9 => (k p e R s m args below meth c H locs cells slots c0 s0 ls Q M hp hm hl hr))
theorem r_tableIn {dflt lo hi off : Int} {offs : Array Int} {len tgt : Nat} {x : Int32} (hd : decode y.2.1 pc = .ok (.tableswitch dflt lo hi offs, len)) (h1 : ¬ x.toInt < lo) (h2 : ¬ hi < x.toInt) (ho : offs[(x.toInt - lo).toNat]? = some off) (ht : (pc : Int) + off = (tgt : Int)) (k : RR G nc ns y tgt L S h Z) : RR G nc ns y pc L (.int x :: S) h Z := by
  intro p e R s m args below meth c H locs cells slots c0 s0 ls Q M hp hm hl hr
  exact lv_tableIn M.1 M.2.1 hd h1 h2 ho ht (k p e R s m args below meth c H locs cells slots c0 s0 ls Q M hp hm hl hr)
theorem r_tableOut {dflt lo hi : Int} {offs : Array Int} {len tgt : Nat} {x : Int32} (hd : decode y.2.1 pc = .ok (.tableswitch dflt lo hi offs, len)) (h1 : x.toInt < lo ∨ hi < x.toInt) (ht : (pc : Int) + dflt = (tgt : Int)) (k : RR G nc ns y tgt L S h Z) : RR G nc ns y pc L (.int x :: S) h Z := by
  intro p e R s m args below meth c H locs cells slots c0 s0 ls Q M hp hm hl hr
  exact lv_tableOut M.1 M.2.1 hd h1 ht (k p e R s m args below meth c H locs cells slots c0 s0 ls Q M hp hm hl hr)
theorem r_ldc {idx : Nat} {v : Int32} (hd : decode y.2.1 pc = .ok (.ldc idx, 2)) (hw : Jvm.Cond.constant y.1.cls idx v ∈ lw_tbl) (k : RR G nc ns y (pc + 2) L (.int v :: S) h Z) : RR G nc ns y pc L S h Z := by
  intro p e R s m args below meth c H locs cells slots c0 s0 ls Q M hp hm hl hr
  exact lv_ldc M.1 M.2.1 M.2.2.2.1 (M.2.2.2.2.1.1 _ hw rfl _) hd (k p e R s m args below meth c H locs cells slots c0 s0 ls Q M hp hm hl hr)
theorem r_ldcw {idx : Nat} {v : Int32} (hd : decode y.2.1 pc = .ok (.ldc_w idx, 3)) (hw : Jvm.Cond.constant y.1.cls idx v ∈ lw_tbl) (k : RR G nc ns y (pc + 3) L (.int v :: S) h Z) : RR G nc ns y pc L S h Z := by
  intro p e R s m args below meth c H locs cells slots c0 s0 ls Q M hp hm hl hr
  exact lv_ldcw M.1 M.2.1 M.2.2.2.1 (M.2.2.2.2.1.1 _ hw rfl _) hd (k p e R s m args below meth c H locs cells slots c0 s0 ls Q M hp hm hl hr)
theorem r_ldc2 {idx : Nat} {v : Int64} (hd : decode y.2.1 pc = .ok (.ldc2_w idx, 3)) (hw : Jvm.Cond.constantLong y.1.cls idx v ∈ lw_tbl) (k : RR G nc ns y (pc + 3) L (.long v :: S) h Z) : RR G nc ns y pc L S h Z := by
  intro p e R s m args below meth c H locs cells slots c0 s0 ls Q M hp hm hl hr
  exact lv_ldc2 M.1 M.2.1 M.2.2.2.1 (M.2.2.2.2.1.1 _ hw rfl _) hd (k p e R s m args below meth c H locs cells slots c0 s0 ls Q M hp hm hl hr)
theorem r_if_eq {x : Int32} {off : Int} (tgt : Nat) (hd : decode y.2.1 pc = .ok (.ifCond .eq off, 3)) (ht : (pc : Int) + off = (tgt : Int)) (kt : x = 0 → RR G nc ns y tgt L S h Z) (kf : ¬ x = 0 → RR G nc ns y (pc + 3) L S h Z) : RR G nc ns y pc L (.int x :: S) h Z := by
  intro p e R s m args below meth c H locs cells slots c0 s0 ls Q M hp hm hl hr
  exact lv_if_eq M.1 M.2.1 hd ht (fun c9 => kt c9 p e R s m args below meth c H locs cells slots c0 s0 ls Q M hp hm hl hr) (fun c9 => kf c9 p e R s m args below meth c H locs cells slots c0 s0 ls Q M hp hm hl hr)
theorem r_if_ne {x : Int32} {off : Int} (tgt : Nat) (hd : decode y.2.1 pc = .ok (.ifCond .ne off, 3)) (ht : (pc : Int) + off = (tgt : Int)) (kt : ¬ x = 0 → RR G nc ns y tgt L S h Z) (kf : x = 0 → RR G nc ns y (pc + 3) L S h Z) : RR G nc ns y pc L (.int x :: S) h Z := by
  intro p e R s m args below meth c H locs cells slots c0 s0 ls Q M hp hm hl hr
  exact lv_if_ne M.1 M.2.1 hd ht (fun c9 => kt c9 p e R s m args below meth c H locs cells slots c0 s0 ls Q M hp hm hl hr) (fun c9 => kf c9 p e R s m args below meth c H locs cells slots c0 s0 ls Q M hp hm hl hr)
theorem r_if_lt {x : Int32} {off : Int} (tgt : Nat) (hd : decode y.2.1 pc = .ok (.ifCond .lt off, 3)) (ht : (pc : Int) + off = (tgt : Int)) (kt : x < 0 → RR G nc ns y tgt L S h Z) (kf : ¬ x < 0 → RR G nc ns y (pc + 3) L S h Z) : RR G nc ns y pc L (.int x :: S) h Z := by
  intro p e R s m args below meth c H locs cells slots c0 s0 ls Q M hp hm hl hr
  exact lv_if_lt M.1 M.2.1 hd ht (fun c9 => kt c9 p e R s m args below meth c H locs cells slots c0 s0 ls Q M hp hm hl hr) (fun c9 => kf c9 p e R s m args below meth c H locs cells slots c0 s0 ls Q M hp hm hl hr)
theorem r_if_ge {x : Int32} {off : Int} (tgt : Nat) (hd : decode y.2.1 pc = .ok (.ifCond .ge off, 3)) (ht : (pc : Int) + off = (tgt : Int)) (kt : 0 ≤ x → RR G nc ns y tgt L S h Z) (kf : ¬ 0 ≤ x → RR G nc ns y (pc + 3) L S h Z) : RR G nc ns y pc L (.int x :: S) h Z := by
  intro p e R s m args below meth c H locs cells slots c0 s0 ls Q M hp hm hl hr
  exact lv_if_ge M.1 M.2.1 hd ht (fun c9 => kt c9 p e R s m args below meth c H locs cells slots c0 s0 ls Q M hp hm hl hr) (fun c9 => kf c9 p e R s m args below meth c H locs cells slots c0 s0 ls Q M hp hm hl hr)
theorem r_if_gt {x : Int32} {off : Int} (tgt : Nat) (hd : decode y.2.1 pc = .ok (.ifCond .gt off, 3)) (ht : (pc : Int) + off = (tgt : Int)) (kt : 0 < x → RR G nc ns y tgt L S h Z) (kf : ¬ 0 < x → RR G nc ns y (pc + 3) L S h Z) : RR G nc ns y pc L (.int x :: S) h Z := by
  intro p e R s m args below meth c H locs cells slots c0 s0 ls Q M hp hm hl hr
  exact lv_if_gt M.1 M.2.1 hd ht (fun c9 => kt c9 p e R s m args below meth c H locs cells slots c0 s0 ls Q M hp hm hl hr) (fun c9 => kf c9 p e R s m args below meth c H locs cells slots c0 s0 ls Q M hp hm hl hr)
theorem r_if_le {x : Int32} {off : Int} (tgt : Nat) (hd : decode y.2.1 pc = .ok (.ifCond .le off, 3)) (ht : (pc : Int) + off = (tgt : Int)) (kt : x ≤ 0 → RR G nc ns y tgt L S h Z) (kf : ¬ x ≤ 0 → RR G nc ns y (pc + 3) L S h Z) : RR G nc ns y pc L (.int x :: S) h Z := by
  intro p e R s m args below meth c H locs cells slots c0 s0 ls Q M hp hm hl hr
  exact lv_if_le M.1 M.2.1 hd ht (fun c9 => kt c9 p e R s m args below meth c H locs cells slots c0 s0 ls Q M hp hm hl hr) (fun c9 => kf c9 p e R s m args below meth c H locs cells slots c0 s0 ls Q M hp hm hl hr)
theorem r_icmp_eq {x z : Int32} {off : Int} (tgt : Nat) (hd : decode y.2.1 pc = .ok (.if_icmp .eq off, 3)) (ht : (pc : Int) + off = (tgt : Int)) (kt : x = z → RR G nc ns y tgt L S h Z) (kf : ¬ x = z → RR G nc ns y (pc + 3) L S h Z) : RR G nc ns y pc L (.int z :: .int x :: S) h Z := by
  intro p e R s m args below meth c H locs cells slots c0 s0 ls Q M hp hm hl hr
  exact lv_icmp_eq M.1 M.2.1 hd ht (fun c9 => kt c9 p e R s m args below meth c H locs cells slots c0 s0 ls Q M hp hm hl hr) (fun c9 => kf c9 p e R s m args below meth c H locs cells slots c0 s0 ls Q M hp hm hl hr)
theorem r_icmp_ne {x z : Int32} {off : Int} (tgt : Nat) (hd : decode y.2.1 pc = .ok (.if_icmp .ne off, 3)) (ht : (pc : Int) + off = (tgt : Int)) (kt : ¬ x = z → RR G nc ns y tgt L S h Z) (kf : x = z → RR G nc ns y (pc + 3) L S h Z) : RR G nc ns y pc L (.int z :: .int x :: S) h Z := by
  intro p e R s m args below meth c H locs cells slots c0 s0 ls Q M hp hm hl hr
  exact lv_icmp_ne M.1 M.2.1 hd ht (fun c9 => kt c9 p e R s m args below meth c H locs cells slots c0 s0 ls Q M hp hm hl hr) (fun c9 => kf c9 p e R s m args below meth c H locs cells slots c0 s0 ls Q M hp hm hl hr)
theorem r_icmp_lt {x z : Int32} {off : Int} (tgt : Nat) (hd : decode y.2.1 pc = .ok (.if_icmp .lt off, 3)) (ht : (pc : Int) + off = (tgt : Int)) (kt : x < z → RR G nc ns y tgt L S h Z) (kf : ¬ x < z → RR G nc ns y (pc + 3) L S h Z) : RR G nc ns y pc L (.int z :: .int x :: S) h Z := by
  intro p e R s m args below meth c H locs cells slots c0 s0 ls Q M hp hm hl hr
  exact lv_icmp_lt M.1 M.2.1 hd ht (fun c9 => kt c9 p e R s m args below meth c H locs cells slots c0 s0 ls Q M hp hm hl hr) (fun c9 => kf c9 p e R s m args below meth c H locs cells slots c0 s0 ls Q M hp hm hl hr)
theorem r_icmp_ge {x z : Int32} {off : Int} (tgt : Nat) (hd : decode y.2.1 pc = .ok (.if_icmp .ge off, 3)) (ht : (pc : Int) + off = (tgt : Int)) (kt : z ≤ x → RR G nc ns y tgt L S h Z) (kf : ¬ z ≤ x → RR G nc ns y (pc + 3) L S h Z) : RR G nc ns y pc L (.int z :: .int x :: S) h Z := by
  intro p e R s m args below meth c H locs cells slots c0 s0 ls Q M hp hm hl hr
  exact lv_icmp_ge M.1 M.2.1 hd ht (fun c9 => kt c9 p e R s m args below meth c H locs cells slots c0 s0 ls Q M hp hm hl hr) (fun c9 => kf c9 p e R s m args below meth c H locs cells slots c0 s0 ls Q M hp hm hl hr)
theorem r_icmp_gt {x z : Int32} {off : Int} (tgt : Nat) (hd : decode y.2.1 pc = .ok (.if_icmp .gt off, 3)) (ht : (pc : Int) + off = (tgt : Int)) (kt : z < x → RR G nc ns y tgt L S h Z) (kf : ¬ z < x → RR G nc ns y (pc + 3) L S h Z) : RR G nc ns y pc L (.int z :: .int x :: S) h Z := by
  intro p e R s m args below meth c H locs cells slots c0 s0 ls Q M hp hm hl hr
  exact lv_icmp_gt M.1 M.2.1 hd ht (fun c9 => kt c9 p e R s m args below meth c H locs cells slots c0 s0 ls Q M hp hm hl hr) (fun c9 => kf c9 p e R s m args below meth c H locs cells slots c0 s0 ls Q M hp hm hl hr)
theorem r_icmp_le {x z : Int32} {off : Int} (tgt : Nat) (hd : decode y.2.1 pc = .ok (.if_icmp .le off, 3)) (ht : (pc : Int) + off = (tgt : Int)) (kt : x ≤ z → RR G nc ns y tgt L S h Z) (kf : ¬ x ≤ z → RR G nc ns y (pc + 3) L S h Z) : RR G nc ns y pc L (.int z :: .int x :: S) h Z := by
  intro p e R s m args below meth c H locs cells slots c0 s0 ls Q M hp hm hl hr
  exact lv_icmp_le M.1 M.2.1 hd ht (fun c9 => kt c9 p e R s m args below meth c H locs cells slots c0 s0 ls Q M hp hm hl hr) (fun c9 => kf c9 p e R s m args below meth c H locs cells slots c0 s0 ls Q M hp hm hl hr)
theorem r_istore_nL {k0 : Fin 4} {x : Int32} (L1 : List (Option Value)) (hd : decode y.2.1 pc = .ok (.istore_n k0, 1)) (hn : (k0 : Nat) < y.2.2.1) (e1 : st1 L (k0 : Nat) (.int x) = L1) (k : RR G nc ns y (pc + 1) L1 S h Z) : RR G nc ns y pc L (.int x :: S) h Z := r_istore_n hd hn (e1 ▸ k)
theorem r_istoreL {i : Nat} {x : Int32} (L1 : List (Option Value)) (hd : decode y.2.1 pc = .ok (.istore i, 2)) (hn : i < y.2.2.1) (e1 : st1 L i (.int x) = L1) (k : RR G nc ns y (pc + 2) L1 S h Z) : RR G nc ns y pc L (.int x :: S) h Z := r_istore hd hn (e1 ▸ k)
theorem r_astore_nL {k0 : Fin 4} {x : Nat} (L1 : List (Option Value)) (hd : decode y.2.1 pc = .ok (.astore_n k0, 1)) (hn : (k0 : Nat) < y.2.2.1) (e1 : st1 L (k0 : Nat) (.ref x) = L1) (k : RR G nc ns y (pc + 1) L1 S h Z) : RR G nc ns y pc L (.ref x :: S) h Z := r_astore_n hd hn (e1 ▸ k)
theorem r_astoreL {i : Nat} {x : Nat} (L1 : List (Option Value)) (hd : decode y.2.1 pc = .ok (.astore i, 2)) (hn : i < y.2.2.1) (e1 : st1 L i (.ref x) = L1) (k : RR G nc ns y (pc + 2) L1 S h Z) : RR G nc ns y pc L (.ref x :: S) h Z := r_astore hd hn (e1 ▸ k)
theorem r_lstore_nL {k0 : Fin 4} {x : Int64} (L1 : List (Option Value)) (hd : decode y.2.1 pc = .ok (.lstore_n k0, 1)) (hn : (k0 : Nat) + 1 < y.2.2.1) (e1 : st2 L (k0 : Nat) (.long x) = L1) (k : RR G nc ns y (pc + 1) L1 S h Z) : RR G nc ns y pc L (.long x :: S) h Z := r_lstore_n hd hn (e1 ▸ k)
theorem r_lstoreL {i : Nat} {x : Int64} (L1 : List (Option Value)) (hd : decode y.2.1 pc = .ok (.lstore i, 2)) (hn : i + 1 < y.2.2.1) (e1 : st2 L i (.long x) = L1) (k : RR G nc ns y (pc + 2) L1 S h Z) : RR G nc ns y pc L (.long x :: S) h Z := r_lstore hd hn (e1 ▸ k)
theorem r_iincL {i : Nat} {n : Int} {x v : Int32} (L1 : List (Option Value)) (hd : decode y.2.1 pc = .ok (.iinc i n, 3)) (hx : L[i]? = some (some (.int x))) (hn : i < y.2.2.1) (hv : x + Int32.ofInt n = v) (e1 : st1 L i (.int v) = L1) (k : RR G nc ns y (pc + 3) L1 S h Z) : RR G nc ns y pc L S h Z := r_iinc hd hx hn hv (e1 ▸ k)
theorem r_ireturn {x : Int32} (hd : decode y.2.1 pc = .ok (.ireturn, 1)) (hy : y.2.2.2.1 = some .int) (hz : Z (some (.int x)) h) : RR G nc ns y pc L [.int x] h Z := by
  intro p e R s m args below meth c H locs cells slots c0 s0 ls Q M hp hm hl hr
  exact hr pc ls _ h H locs cells slots _ (Or.inr (Or.inl ⟨x, hd, rfl, rfl, Or.inl hy⟩)) hz hp hm
theorem r_zreturn {x : Int32} (hd : decode y.2.1 pc = .ok (.ireturn, 1)) (hy : y.2.2.2.1 = some .boolean) (hb : x = 0 ∨ x = 1) (hz : Z (some (.int x)) h) : RR G nc ns y pc L [.int x] h Z := by
  intro p e R s m args below meth c H locs cells slots c0 s0 ls Q M hp hm hl hr
  exact hr pc ls _ h H locs cells slots _ (Or.inr (Or.inl ⟨x, hd, rfl, rfl, Or.inr ⟨hy, hb⟩⟩)) hz hp hm
theorem r_lreturn {x : Int64} (hd : decode y.2.1 pc = .ok (.lreturn, 1)) (hy : y.2.2.2.1 = some .long) (hz : Z (some (.long x)) h) : RR G nc ns y pc L [.long x] h Z := by
  intro p e R s m args below meth c H locs cells slots c0 s0 ls Q M hp hm hl hr
  exact hr pc ls _ h H locs cells slots _ (Or.inr (Or.inr ⟨x, hd, rfl, rfl, hy⟩)) hz hp hm
theorem r_return (hd : decode y.2.1 pc = .ok (.return_, 1)) (hy : y.2.2.2.1 = none) (hz : Z none h) : RR G nc ns y pc L [] h Z := by
  intro p e R s m args below meth c H locs cells slots c0 s0 ls Q M hp hm hl hr
  exact hr pc ls _ h H locs cells slots _ (Or.inl ⟨hd, rfl, rfl, hy⟩) hz hp hm
end ROWS
end
section
section HEAP
theorem inT0 : ∀ w ∈ u_ws RX0 TX0 7, w ∈ lw_tbl := by decide +kernel
theorem inT1 : ∀ w ∈ u_ws RX1 TX1 4, w ∈ lw_tbl := by decide +kernel
theorem inT2 : ∀ w ∈ u_ws RX2 TX2 6, w ∈ lw_tbl := by decide +kernel
theorem inT3 : ∀ w ∈ u_ws RX3 TX3 9, w ∈ lw_tbl := by decide +kernel
theorem inT4 : ∀ w ∈ u_ws RX4 TX4 7, w ∈ lw_tbl := by decide +kernel
theorem inT5 : ∀ w ∈ u_ws RX5 TX5 7, w ∈ lw_tbl := by decide +kernel
theorem inT6 : ∀ w ∈ u_ws RX6 TX6 39, w ∈ lw_tbl := by decide +kernel
theorem tblOK : ∀ (c : Nat) (q : vw_C) (t : Nat → FieldType), vwCl[c]? = some q → tyL[c]? = some t → (∀ w ∈ u_ws q.1 q.2.1 q.2.2, w ∈ lw_tbl) ∧ (∀ k, k < q.2.2 → parseFieldDescriptor (q.2.1 k).2.2.1 = some (t k)) ∧ (∀ a, a < q.2.2 → ∀ b, b < q.2.2 → a ≠ b → (q.2.1 a).2.1 ≠ (q.2.1 b).2.1)
  | 0, _, _, h, h' => by cases h; cases h'; exact ⟨inT0, tyX0_ok, nmX0⟩
  | 1, _, _, h, h' => by cases h; cases h'; exact ⟨inT1, tyX1_ok, nmX1⟩
  | 2, _, _, h, h' => by cases h; cases h'; exact ⟨inT2, tyX2_ok, nmX2⟩
  | 3, _, _, h, h' => by cases h; cases h'; exact ⟨inT3, tyX3_ok, nmX3⟩
  | 4, _, _, h, h' => by cases h; cases h'; exact ⟨inT4, tyX4_ok, nmX4⟩
  | 5, _, _, h, h' => by cases h; cases h'; exact ⟨inT5, tyX5_ok, nmX5⟩
  | 6, _, _, h, h' => by cases h; cases h'; exact ⟨inT6, tyX6_ok, nmX6⟩
  | k + 7, _, _, h, _ => by cases h
theorem lay_good (C : String) (T : u_T) (k : Nat) : goodWord (u_lay C T k) = true := by
  unfold u_lay
  split <;> rfl
theorem TB.hts {D : va_G} {s : State} (h : TB D s) {c : Nat} {q : vw_C} {t : Nat → FieldType} (hq : vwCl[c]? = some q) (ht : tyL[c]? = some t) (A : Array Value) : ∀ w ∈ u_ws q.1 q.2.1 q.2.2, w.before A s = true := by
  intro w hw
  have h1 := (tblOK c q t hq ht).1 w hw
  obtain ⟨k, -, rfl⟩ := List.mem_map.mp hw
  exact h.1 _ h1 (lay_good _ _ _) A
theorem fv_congr {ty : FieldType} {h h' : PH} {b j : Nat} (e1 : hI h' b j = hI h b j) (e2 : hJ h' b j = hJ h b j) (e3 : hR h' b j = hR h b j) : fv ty h' b j = fv ty h b j := by
  cases ty <;> simp [fv, e1, e2, e3]
theorem cR.keep {D : va_G} {base : Nat} {s : State} {h h' : PH} {H H' : Heap} {b : Nat} (hk : hK h' b = hK h b) (hl : hL h' b = hL h b) (e1 : ∀ j, hI h' b j = hI h b j) (e2 : ∀ j, hJ h' b j = hJ h b j) (e3 : ∀ j, hR h' b j = hR h b j) (hH : H'[b]? = H[b]?) (hc : cR D base s h H b) : cR D base s h' H' b := by
  obtain ⟨h1, h2, h3⟩ := hc
  refine ⟨fun q => ?_, fun ty q => ?_, fun c r t q1 q2 q3 => ?_⟩
  · rw [hk] at q
    obtain ⟨scr, x1, x2, x3, x4, x5⟩ := h1 q
    exact ⟨scr, hH.trans x1, x2, x3, by rw [hl]; exact x4, fun j hj => by rw [e1]; exact x5 j (by rw [← hl]; exact hj)⟩
  · rw [hk] at q
    obtain ⟨x1, cA, x2, x3⟩ := h2 ty q
    refine ⟨x1, cA, ?_, x3⟩
    rw [hH, x2, hl]
    have e : (fun j => fv ty h b j) = (fun j => fv ty h' b j) := by
      funext j
      exact (fv_congr (e1 j) (e2 j) (e3 j)).symm
    rw [e]
  · rw [hk] at q1
    obtain ⟨x1, x2⟩ := h3 c r t q1 q2 q3
    exact ⟨x1, (x2.kept hH).to (fun k _ => (fv_congr (e1 k) (e2 k) (e3 k)).symm)⟩
variable {G : GG} {nc ns : Nat} {y : MI} {pc : Nat} {L : List (Option Value)} {S : List Value} {h : PH} {Z : Option Value → PH → Prop}
/-- one cell is written: the rest stands -/
theorem HP.put {s : State} {h' : PH} {H H' : Heap} {a : Nat} (hp : HP G s h H) (hk : hK h' = hK h) (hl : hL h' = hL h) (hn : hN h' = hN h) (e1 : ∀ b j, b ≠ a → hI h' b j = hI h b j) (e2 : ∀ b j, b ≠ a → hJ h' b j = hJ h b j) (e3 : ∀ b j, b ≠ a → hR h' b j = hR h b j) (hz : H'.size = H.size) (hH : ∀ q, q ≠ a → H'[q]? = H[q]?) (ha : cR G.2.1 G.2.2 s h' H' a) : HP G s h' H' := by
  refine ⟨by rw [hz, hn]; exact hp.1, by rw [hk, hn]; exact hp.2.1, fun b => ?_, by rw [hn]; exact hp.2.2.2⟩
  by_cases e : b = a
  · rw [e]; exact ha
  · exact (hp.2.2.1 b).keep (by rw [hk]) (by rw [hl]) (fun j => e1 b j e) (fun j => e2 b j e) (fun j => e3 b j e) (hH b e)
theorem RM.put {h' : PH} {locs : List Loc} {cells slots c0 s0 a j : Nat} (hm : RM G nc ns h locs cells slots c0 s0) (hn : hN h' = hN h) (hs : hS h' = hS h) (ha : G.2.2 ≤ a) : RM G nc ns h' (locs ++ [⟨a, j⟩]) cells slots c0 s0 := by
  refine ⟨by rw [hn]; exact hm.1, by rw [hs]; exact hm.2.1, by rw [hn]; exact hm.2.2.1, by rw [hs]; exact hm.2.2.2.1, fun q hq => ?_⟩
  rcases List.mem_append.mp hq with h1 | h1
  · exact hm.2.2.2.2 q h1
  · rw [List.mem_singleton.mp h1]; exact ha
theorem u2_ne {α : Type} {f : Nat → Nat → α} {a k b j : Nat} {v : α} (h : b ≠ a) : u2 f a k v b j = f b j := if_neg (fun q => h q.1)
theorem u2_nk {α : Type} {f : Nat → Nat → α} {a k b j : Nat} {v : α} (h : j ≠ k) : u2 f a k v b j = f b j := if_neg (fun q => h q.2)
theorem u2_eq {α : Type} {f : Nat → Nat → α} {a k : Nat} {v : α} : u2 f a k v a k = v := if_pos ⟨rfl, rfl⟩
/-- reading a field -/
theorem r_get {c : Nat} {q : vw_C} {t : Nat → FieldType} {k idx a : Nat} {v : Value} (hd : decode y.2.1 pc = .ok (.getfield idx, 3)) (hq : vwCl[c]? = some q) (ht : tyL[c]? = some t) (hkk : k < q.2.2) (hw : Cond.fieldLink y.1.cls idx (q.2.1 k).1 (q.2.1 k).2.1 (q.2.1 k).2.2.1 ∈ lw_tbl) (ha : hK h a = 10 + c) (hv : fv (t k) h a k = v)
    (kk : RR G nc ns y (pc + 3) L (v :: S) h Z) : RR G nc ns y pc L (.ref a :: S) h Z := by
  intro p e R s m args below meth cd H locs cells slots c0 s0 ls Q M hp hm hl hr
  obtain ⟨-, cell, q1, q2, q3, q4⟩ := (hp.2.2.1 a).2.2 c q t ha hq ht
  have hT := M.2.2.2.2.1
  obtain ⟨hS, hfc, kC, hkC, hkind⟩ := hT.2.2.2.1 c _ hq
  obtain ⟨cf, kf, fi, f, hi, hsl⟩ := hS k hkk
  refine W.getf M.1 M.2.1 M.2.2.2.1 (hT.1 _ hw rfl args) hi (u_facts hfc hkC (u_lays (hT.hts hq ht args) (fun _ h => h) hkk) hi).1 q1 (by rw [q3]; exact fun h => by cases h) (v := v) ?_ rfl rfl hd (kk p e R s m args below meth cd H locs cells slots c0 s0 ls Q M hp hm hl hr)
  rw [hsl, q4 k hkk]
  exact congrArg some hv
theorem rv_ne {x : Nat} (h : x ≠ 0) : rv x = .ref x := if_neg h
theorem nar_ref {ty : FieldType} (hty : ty.isReference = true) (a : Nat) : narrow ty (.ref a) = .ref a ∧ fits ty (.ref a) = true := by
  cases ty <;> simp [FieldType.isReference] at hty <;> exact ⟨rfl, rfl⟩
/-- writing a field: h' is what the planes are behind it -/
theorem r_put0 {c : Nat} {q : vw_C} {t : Nat → FieldType} {k idx a : Nat} {v : Value} {h' : PH} (hd : decode y.2.1 pc = .ok (.putfield idx, 3)) (hq : vwCl[c]? = some q) (ht : tyL[c]? = some t) (hkk : k < q.2.2) (hw : Cond.fieldLink y.1.cls idx (q.2.1 k).1 (q.2.1 k).2.1 (q.2.1 k).2.2.1 ∈ lw_tbl) (ha : hK h a = 10 + c)
    (hfin : (q.2.1 k).2.2.2 = false ∨ ((q.2.1 k).2.2.2 = true ∧ y.1.name = "<init>" ∧ (q.2.1 k).1 = y.1.cls)) (hn : narrow (t k) v = v) (hf : fits (t k) v = true)
    (ek : hK h' = hK h) (el : hL h' = hL h) (en : hN h' = hN h) (es : hS h' = hS h) (e1 : ∀ b j, b ≠ a → hI h' b j = hI h b j) (e2 : ∀ b j, b ≠ a → hJ h' b j = hJ h b j) (e3 : ∀ b j, b ≠ a → hR h' b j = hR h b j) (ev : fv (t k) h' a k = v) (eo : ∀ j, j ≠ k → fv (t j) h' a j = fv (t j) h a j)
    (kk : RR G nc ns y (pc + 3) L S h' Z) : RR G nc ns y pc L (v :: .ref a :: S) h Z := by
  intro p e R s m args below meth cd H locs cells slots c0 s0 ls Q M hp hm hl hr
  obtain ⟨hba, cell, q1, q2, q3, q4⟩ := (hp.2.2.1 a).2.2 c q t ha hq ht
  have hT := M.2.2.2.2.1
  have hts := hT.hts hq ht args
  obtain ⟨w1, w2, w3⟩ := tblOK c q t hq ht
  have hap := va_apart (own := y.1.cls) (ci := c) hts (fun _ h => h) t w2 w3 hT.2.2.2 hq
  obtain ⟨hS, hfc, kC, hkC, hkind⟩ := hT.2.2.2.1 c _ hq
  obtain ⟨cf, kf, fi, f, hi, hsl⟩ := hS k hkk
  have hst := (u_facts hfc hkC (u_lays hts (fun _ h => h) hkk) hi).1
  have hlay := hts _ (u_in_lay hkk)
  have fin : ∀ H' : Heap, H'[a]? = some (cell.setSlot f.slot v) → H'.size = H.size → (∀ q, q ≠ a → H'[q]? = H[q]?) → W p G.1 e R s m args below meth cd H' (locs ++ [⟨a, f.slot⟩]) cells slots Q { F0 m pc ls (v :: .ref a :: S) with pc := pc + 3, stack := S } := by
    intro H' g1 g2 g3
    refine kk p e R s m args below meth cd H' _ cells slots c0 s0 ls Q M (hp.put ek el en e1 e2 e3 g2 g3 ⟨fun z => ?_, fun ty z => ?_, fun c' q' t' z1 z2 z3 => ?_⟩) (hm.put en es hba) hl hr
    · rw [ek, ha] at z; omega
    · rw [ek, ha] at z
      have : ak (10 + c) = none := by
        rw [show 10 + c = c + 10 by omega]; rfl
      rw [this] at z
      cases z
    · rw [ek, ha] at z1
      have ec : c' = c := by omega
      subst ec
      cases hq.symm.trans z2
      cases ht.symm.trans z3
      refine ⟨hba, cell.setSlot f.slot v, g1, q2, q3, fun j hj => ?_⟩
      rw [hsl, t_set q4 hap hkk v j hj]
      unfold updV
      by_cases ejk : j = k
      · rw [if_pos ejk, ejk]
        exact congrArg some ev.symm
      · rw [if_neg ejk]
        exact congrArg some (eo j ejk).symm
  rcases hfin with hfin | ⟨hfin, hin2, hdecl⟩
  · unfold u_lay at hlay
    rw [if_neg (by rw [hfin]; decide)] at hlay
    have h6 := u_store hfc hkC hkind hlay hi (w2 k hkk) hn hf
    exact W.putK M.1 M.2.1 (f := f) ⟨M.2.2.2.1, hT.1 _ hw rfl args, ⟨_, _, _, hi⟩, hst⟩ (by rw [q2]; exact h6) q1 q3 (by rw [hsl]; exact k2_hasslot (q4 k hkk)) rfl rfl hd fin
  · unfold u_lay at hlay
    rw [if_pos hfin] at hlay
    have hcf : m.cls = cf := by
      obtain ⟨_, _, c', _, _, _, -, -, hf', -, -, -, hown2, -⟩ := Cond.laysFinal_spec hlay
      have e1 : c' = cf := by have := hi.symm.trans hf'; simp at this; exact this.1.symm
      rw [hdecl] at hown2
      rw [← e1]; exact Option.some.inj (M.2.2.2.1.symm.trans hown2)
    have h6 := u_fits hfc hkC hkind (Or.inr hlay) hi (w2 k hkk) hn hf
    exact W.putFinK M.1 M.2.1 M.2.2.2.1 (hT.1 _ hw rfl args) hi hst hcf (M.2.2.2.2.2.1.trans hin2) (by rw [q2]; exact h6) q1 q3 (by rw [hsl]; exact k2_hasslot (q4 k hkk)) rfl rfl hd fin
theorem r_putI {c : Nat} {q : vw_C} {t : Nat → FieldType} {k idx a : Nat} {x : Int32} (hd : decode y.2.1 pc = .ok (.putfield idx, 3)) (hq : vwCl[c]? = some q) (ht : tyL[c]? = some t) (hkk : k < q.2.2) (hw : Cond.fieldLink y.1.cls idx (q.2.1 k).1 (q.2.1 k).2.1 (q.2.1 k).2.2.1 ∈ lw_tbl) (ha : hK h a = 10 + c)
    (hfin : (q.2.1 k).2.2.2 = false ∨ ((q.2.1 k).2.2.2 = true ∧ y.1.name = "<init>" ∧ (q.2.1 k).1 = y.1.cls)) (hty : t k = .int ∨ (t k = .boolean ∧ (x = 0 ∨ x = 1)))
    (kk : RR G nc ns y (pc + 3) L S (sI h a k x) Z) : RR G nc ns y pc L (.int x :: .ref a :: S) h Z := by
  refine r_put0 (h' := sI h a k x) hd hq ht hkk hw ha hfin ?_ ?_ rfl rfl rfl rfl (fun b j hb => u2_ne hb) (fun _ _ _ => rfl) (fun _ _ _ => rfl) ?_ (fun j hj => fv_congr (u2_nk hj) rfl rfl) kk
  · rcases hty with e | ⟨e, rfl | rfl⟩ <;> rw [e] <;> rfl
  · rcases hty with e | ⟨e, rfl | rfl⟩ <;> rw [e] <;> rfl
  · rcases hty with e | ⟨e, -⟩ <;> rw [e] <;> exact congrArg Value.int u2_eq
theorem r_putJ {c : Nat} {q : vw_C} {t : Nat → FieldType} {k idx a : Nat} {x : Int64} (hd : decode y.2.1 pc = .ok (.putfield idx, 3)) (hq : vwCl[c]? = some q) (ht : tyL[c]? = some t) (hkk : k < q.2.2) (hw : Cond.fieldLink y.1.cls idx (q.2.1 k).1 (q.2.1 k).2.1 (q.2.1 k).2.2.1 ∈ lw_tbl) (ha : hK h a = 10 + c)
    (hfin : (q.2.1 k).2.2.2 = false ∨ ((q.2.1 k).2.2.2 = true ∧ y.1.name = "<init>" ∧ (q.2.1 k).1 = y.1.cls)) (hty : t k = .long)
    (kk : RR G nc ns y (pc + 3) L S (sJ h a k x) Z) : RR G nc ns y pc L (.long x :: .ref a :: S) h Z := by
  refine r_put0 (h' := sJ h a k x) hd hq ht hkk hw ha hfin ?_ ?_ rfl rfl rfl rfl (fun _ _ _ => rfl) (fun b j hb => u2_ne hb) (fun _ _ _ => rfl) ?_ (fun j hj => fv_congr rfl (u2_nk hj) rfl) kk
  · rw [hty]; rfl
  · rw [hty]; rfl
  · rw [hty]; exact congrArg Value.long u2_eq
theorem fv_ref {ty : FieldType} (hty : ty.isReference = true) {h : PH} {a k : Nat} : fv ty h a k = rv (hR h a k) := by
  cases ty <;> simp [FieldType.isReference] at hty <;> rfl
theorem r_putR {c : Nat} {q : vw_C} {t : Nat → FieldType} {k idx a x : Nat} (hd : decode y.2.1 pc = .ok (.putfield idx, 3)) (hq : vwCl[c]? = some q) (ht : tyL[c]? = some t) (hkk : k < q.2.2) (hw : Cond.fieldLink y.1.cls idx (q.2.1 k).1 (q.2.1 k).2.1 (q.2.1 k).2.2.1 ∈ lw_tbl) (ha : hK h a = 10 + c)
    (hfin : (q.2.1 k).2.2.2 = false ∨ ((q.2.1 k).2.2.2 = true ∧ y.1.name = "<init>" ∧ (q.2.1 k).1 = y.1.cls)) (hty : (t k).isReference = true) (hx : x ≠ 0)
    (kk : RR G nc ns y (pc + 3) L S (sR h a k x) Z) : RR G nc ns y pc L (.ref x :: .ref a :: S) h Z := by
  refine r_put0 (h' := sR h a k x) hd hq ht hkk hw ha hfin (nar_ref hty x).1 (nar_ref hty x).2 rfl rfl rfl rfl (fun _ _ _ => rfl) (fun _ _ _ => rfl) (fun b j hb => u2_ne hb) ?_ (fun j hj => fv_congr rfl rfl (u2_nk hj)) kk
  rw [fv_ref hty]
  show rv (u2 (hR h) a k x a k) = _
  rw [u2_eq, rv_ne hx]
theorem r_getR {c : Nat} {q : vw_C} {t : Nat → FieldType} {k idx a : Nat} (hd : decode y.2.1 pc = .ok (.getfield idx, 3)) (hq : vwCl[c]? = some q) (ht : tyL[c]? = some t) (hkk : k < q.2.2) (hw : Cond.fieldLink y.1.cls idx (q.2.1 k).1 (q.2.1 k).2.1 (q.2.1 k).2.2.1 ∈ lw_tbl) (ha : hK h a = 10 + c) (hty : (t k).isReference = true) (hx : hR h a k ≠ 0)
    (kk : RR G nc ns y (pc + 3) L (.ref (hR h a k) :: S) h Z) : RR G nc ns y pc L (.ref a :: S) h Z := r_get hd hq ht hkk hw ha (by rw [fv_ref hty, rv_ne hx]) kk
/-- what an array's cell gives -/
theorem HP.arr {s : State} {H : Heap} {a : Nat} {ty : FieldType} (hp : HP G s h H) (ha : ak (hK h a) = some ty) : G.2.2 ≤ a ∧ ∃ cA : ClassId, H[a]? = some (arrV cA (hL h a) (fun j => fv ty h a j)) ∧ ArrOfT s cA ty := (hp.2.2.1 a).2.1 ty ha
theorem vin {i : Int32} {n : Nat} {cA : ClassId} {f : Nat → Value} (hi : vp_in i n) : ¬ (i < 0 ∨ (arrV cA n f).slots.size ≤ i.toNatClampNeg) := by rw [arrV_size]; exact hi
theorem vlt {i : Int32} {n : Nat} (hi : vp_in i n) : i.toNatClampNeg < n := Nat.not_le.mp fun q => hi (Or.inr q)
theorem r_iaload {a : Nat} {i : Int32} (hd : decode y.2.1 pc = .ok (.iaload, 1)) (ha : hK h a = 2) (hi : vp_in i (hL h a)) (kk : RR G nc ns y (pc + 1) L (.int (hI h a i.toNatClampNeg) :: S) h Z) : RR G nc ns y pc L (.int i :: .ref a :: S) h Z := by
  intro p e R s m args below meth cd H locs cells slots c0 s0 ls Q M hp hm hl hr
  obtain ⟨-, cA, g1, g2⟩ := hp.arr (a := a) (ty := .int) (by rw [ha]; rfl)
  exact W.iald (v := .int (hI h a i.toNatClampNeg)) M.1 M.2.1 g1 (g2 _ _) (fun q => by cases q) (vin hi) (arrV_read _ _ (vlt hi)) rfl rfl hd (kk p e R s m args below meth cd H locs cells slots c0 s0 ls Q M hp hm hl hr)
theorem r_saload {a : Nat} {i : Int32} (hd : decode y.2.1 pc = .ok (.iaload, 1)) (ha : hK h a = 1) (hi : vp_in i (hL h a)) (kk : RR G nc ns y (pc + 1) L (.int (hI h a i.toNatClampNeg) :: S) h Z) : RR G nc ns y pc L (.int i :: .ref a :: S) h Z := by
  intro p e R s m args below meth cd H locs cells slots c0 s0 ls Q M hp hm hl hr
  obtain ⟨scr, g1, g2, g3, g4, g5⟩ := (hp.2.2.1 a).1 ha
  exact W.iald (v := .int (hI h a i.toNatClampNeg)) M.1 M.2.1 g1 g2 g3 (by rw [g4]; exact hi) (g5 _ (vlt hi)) rfl rfl hd (kk p e R s m args below meth cd H locs cells slots c0 s0 ls Q M hp hm hl hr)
theorem r_laload {a : Nat} {i : Int32} (hd : decode y.2.1 pc = .ok (.laload, 1)) (ha : hK h a = 3) (hi : vp_in i (hL h a)) (kk : RR G nc ns y (pc + 1) L (.long (hJ h a i.toNatClampNeg) :: S) h Z) : RR G nc ns y pc L (.int i :: .ref a :: S) h Z := by
  intro p e R s m args below meth cd H locs cells slots c0 s0 ls Q M hp hm hl hr
  obtain ⟨-, cA, g1, g2⟩ := hp.arr (a := a) (ty := .long) (by rw [ha]; rfl)
  exact W.lald (v := .long (hJ h a i.toNatClampNeg)) M.1 M.2.1 g1 (g2 _ _) (fun q => by cases q) (vin hi) (arrV_read _ _ (vlt hi)) rfl rfl hd (kk p e R s m args below meth cd H locs cells slots c0 s0 ls Q M hp hm hl hr)
theorem r_baload {a : Nat} {i : Int32} (hd : decode y.2.1 pc = .ok (.baload, 1)) (ha : hK h a = 4) (hi : vp_in i (hL h a)) (kk : RR G nc ns y (pc + 1) L (.int (hI h a i.toNatClampNeg) :: S) h Z) : RR G nc ns y pc L (.int i :: .ref a :: S) h Z := by
  intro p e R s m args below meth cd H locs cells slots c0 s0 ls Q M hp hm hl hr
  obtain ⟨-, cA, g1, g2⟩ := hp.arr (a := a) (ty := .boolean) (by rw [ha]; rfl)
  exact W.zald (v := .int (hI h a i.toNatClampNeg)) M.1 M.2.1 g1 (g2 _ _) (fun q => by cases q) (vin hi) (arrV_read _ _ (vlt hi)) rfl rfl hd (kk p e R s m args below meth cd H locs cells slots c0 s0 ls Q M hp hm hl hr)
theorem r_aaload {a : Nat} {i : Int32} (hd : decode y.2.1 pc = .ok (.aaload, 1)) (ha : hK h a = 5 ∨ hK h a = 6) (hi : vp_in i (hL h a)) (hx : hR h a i.toNatClampNeg ≠ 0) (kk : RR G nc ns y (pc + 1) L (.ref (hR h a i.toNatClampNeg) :: S) h Z) : RR G nc ns y pc L (.int i :: .ref a :: S) h Z := by
  intro p e R s m args below meth cd H locs cells slots c0 s0 ls Q M hp hm hl hr
  rcases ha with ha | ha
  · obtain ⟨-, cA, g1, g2⟩ := hp.arr (a := a) (ty := .array .int) (by rw [ha]; rfl)
    exact W.aald (v := .ref (hR h a i.toNatClampNeg)) M.1 M.2.1 g1 (g2 _ _) rfl (fun q => by cases q) (vin hi) ((arrV_read _ _ (vlt hi)).trans (congrArg some (rv_ne hx))) rfl rfl hd (kk p e R s m args below meth cd H locs cells slots c0 s0 ls Q M hp hm hl hr)
  · obtain ⟨-, cA, g1, g2⟩ := hp.arr (a := a) (ty := .array .long) (by rw [ha]; rfl)
    exact W.aald (v := .ref (hR h a i.toNatClampNeg)) M.1 M.2.1 g1 (g2 _ _) rfl (fun q => by cases q) (vin hi) ((arrV_read _ _ (vlt hi)).trans (congrArg some (rv_ne hx))) rfl rfl hd (kk p e R s m args below meth cd H locs cells slots c0 s0 ls Q M hp hm hl hr)
theorem r_alen {a : Nat} (hd : decode y.2.1 pc = .ok (.arraylength, 1)) (ha : (ak (hK h a)).isSome = true ∨ hK h a = 1) (kk : RR G nc ns y (pc + 1) L (.int (nI (hL h a)) :: S) h Z) : RR G nc ns y pc L (.ref a :: S) h Z := by
  intro p e R s m args below meth cd H locs cells slots c0 s0 ls Q M hp hm hl hr
  rcases ha with ha | ha
  · obtain ⟨ty, ha⟩ := Option.isSome_iff_exists.mp ha
    obtain ⟨-, cA, g1, g2⟩ := hp.arr ha
    exact W.alen (n := nI (hL h a)) M.1 M.2.1 g1 (g2 _ _) (by rw [arrV_size]; rfl) rfl rfl hd (kk p e R s m args below meth cd H locs cells slots c0 s0 ls Q M hp hm hl hr)
  · obtain ⟨scr, g1, g2, g3, g4, g5⟩ := (hp.2.2.1 a).1 ha
    exact W.alen (n := nI (hL h a)) M.1 M.2.1 g1 g2 (by rw [g4]; rfl) rfl rfl hd (kk p e R s m args below meth cd H locs cells slots c0 s0 ls Q M hp hm hl hr)
/-- the written array's own cell -/
theorem cR_arr {s : State} {h' : PH} {H' : Heap} {a : Nat} {ty : FieldType} {cA : ClassId} (hk : ak (hK h' a) = some ty) (hb : G.2.2 ≤ a) (h1 : H'[a]? = some (arrV cA (hL h' a) (fun j => fv ty h' a j))) (h2 : ArrOfT s cA ty) : cR G.2.1 G.2.2 s h' H' a := by
  refine ⟨fun z => ?_, fun ty' z => ?_, fun c q t z _ _ => ?_⟩
  · rw [z] at hk; cases hk
  · cases hk.symm.trans z; exact ⟨hb, cA, h1, h2⟩
  · rw [z, show 10 + c = c + 10 by omega] at hk; cases hk
theorem r_iastore {a : Nat} {i x : Int32} (hd : decode y.2.1 pc = .ok (.iastore, 1)) (ha : hK h a = 2) (hi : vp_in i (hL h a)) (kk : RR G nc ns y (pc + 1) L S (sI h a i.toNatClampNeg x) Z) : RR G nc ns y pc L (.int x :: .int i :: .ref a :: S) h Z := by
  intro p e R s m args below meth cd H locs cells slots c0 s0 ls Q M hp hm hl hr
  obtain ⟨hb, cA, g1, g2⟩ := hp.arr (a := a) (ty := .int) (by rw [ha]; rfl)
  refine W.iast M.1 M.2.1 g1 (g2 _ _) (fun q => by cases q) (vin hi) rfl rfl hd fun H' e1 e2 e3 => ?_
  refine kk p e R s m args below meth cd H' _ cells slots c0 s0 ls Q M (hp.put (h' := sI h a i.toNatClampNeg x) rfl rfl rfl (fun b j hb => u2_ne hb) (fun _ _ _ => rfl) (fun _ _ _ => rfl) e2 e3 (cR_arr (ty := .int) (cA := cA) (by show ak (hK h a) = _; rw [ha]; rfl) hb ?_ g2)) (hm.put rfl rfl hb) hl hr
  rw [e1, arrV_store]
  congr 2
  funext j
  show (if j = i.toNatClampNeg then Value.int x else .int (hI h a j)) = .int (u2 (hI h) a i.toNatClampNeg x a j)
  by_cases ej : j = i.toNatClampNeg
  · rw [if_pos ej, ej, u2_eq]
  · rw [if_neg ej, u2_nk ej]
theorem r_bastore {a : Nat} {i x : Int32} (hd : decode y.2.1 pc = .ok (.bastore, 1)) (ha : hK h a = 4) (hi : vp_in i (hL h a)) (hx : x = 0 ∨ x = 1) (kk : RR G nc ns y (pc + 1) L S (sI h a i.toNatClampNeg x) Z) : RR G nc ns y pc L (.int x :: .int i :: .ref a :: S) h Z := by
  intro p e R s m args below meth cd H locs cells slots c0 s0 ls Q M hp hm hl hr
  obtain ⟨hb, cA, g1, g2⟩ := hp.arr (a := a) (ty := .boolean) (by rw [ha]; rfl)
  refine W.zast M.1 M.2.1 g1 (g2 _ _) (fun q => by cases q) (vin hi) rfl rfl hd fun H' e1 e2 e3 => ?_
  refine kk p e R s m args below meth cd H' _ cells slots c0 s0 ls Q M (hp.put (h' := sI h a i.toNatClampNeg x) rfl rfl rfl (fun b j hb => u2_ne hb) (fun _ _ _ => rfl) (fun _ _ _ => rfl) e2 e3 (cR_arr (ty := .boolean) (cA := cA) (by show ak (hK h a) = _; rw [ha]; rfl) hb ?_ g2)) (hm.put rfl rfl hb) hl hr
  have en : narrow .boolean (.int x) = .int x := by rcases hx with rfl | rfl <;> rfl
  rw [e1, arrV_store, en]
  congr 2
  funext j
  show (if j = i.toNatClampNeg then Value.int x else .int (hI h a j)) = .int (u2 (hI h) a i.toNatClampNeg x a j)
  by_cases ej : j = i.toNatClampNeg
  · rw [if_pos ej, ej, u2_eq]
  · rw [if_neg ej, u2_nk ej]
theorem r_lastore {a : Nat} {i : Int32} {x : Int64} (hd : decode y.2.1 pc = .ok (.lastore, 1)) (ha : hK h a = 3) (hi : vp_in i (hL h a)) (kk : RR G nc ns y (pc + 1) L S (sJ h a i.toNatClampNeg x) Z) : RR G nc ns y pc L (.long x :: .int i :: .ref a :: S) h Z := by
  intro p e R s m args below meth cd H locs cells slots c0 s0 ls Q M hp hm hl hr
  obtain ⟨hb, cA, g1, g2⟩ := hp.arr (a := a) (ty := .long) (by rw [ha]; rfl)
  refine W.last M.1 M.2.1 g1 (g2 _ _) (fun q => by cases q) (vin hi) rfl rfl hd fun H' e1 e2 e3 => ?_
  refine kk p e R s m args below meth cd H' _ cells slots c0 s0 ls Q M (hp.put (h' := sJ h a i.toNatClampNeg x) rfl rfl rfl (fun _ _ _ => rfl) (fun b j hb => u2_ne hb) (fun _ _ _ => rfl) e2 e3 (cR_arr (ty := .long) (cA := cA) (by show ak (hK h a) = _; rw [ha]; rfl) hb ?_ g2)) (hm.put rfl rfl hb) hl hr
  rw [e1, arrV_store]
  congr 2
  funext j
  show (if j = i.toNatClampNeg then Value.long x else .long (hJ h a j)) = .long (u2 (hJ h) a i.toNatClampNeg x a j)
  by_cases ej : j = i.toNatClampNeg
  · rw [if_pos ej, ej, u2_eq]
  · rw [if_neg ej, u2_nk ej]
end HEAP
end
section
section ALLOC
variable {G : GG} {nc ns : Nat} {y : MI} {pc : Nat} {L : List (Option Value)} {S : List Value} {h : PH} {Z : Option Value → PH → Prop}
theorem u1_ne {α : Type} {f : Nat → α} {a b : Nat} {v : α} (h : b ≠ a) : u1 f a v b = f b := if_neg h
theorem u1_eq {α : Type} {f : Nat → α} {a : Nat} {v : α} : u1 f a v a = v := if_pos rfl
theorem HP.grow {s : State} {H H' : Heap} {kd n : Nat} (hp : HP G s h H) (hz : H'.size = hN h + 1) (hH : ∀ q, q < hN h → H'[q]? = H[q]?) (hc : cR G.2.1 G.2.2 s (nA h kd n) H' (hN h)) : HP G s (nA h kd n) H' := by
  refine ⟨hz, fun a ha => ?_, fun b => ?_, Nat.le_succ_of_le hp.2.2.2⟩
  · have ha : hN h + 1 ≤ a := ha
    show u1 (hK h) (hN h) kd a = 0
    rw [u1_ne (by omega)]
    exact hp.2.1 a (by omega)
  · by_cases e : b = hN h
    · rw [e]; exact hc
    · refine (hp.2.2.1 b).keep (u1_ne e) (u1_ne e) (fun j => congrFun (u1_ne e) j) (fun j => congrFun (u1_ne e) j) (fun j => congrFun (u1_ne e) j) ?_
      rcases Nat.lt_or_ge b (hN h) with hb | hb
      · exact hH b hb
      · have h1 := hp.1
        rw [Array.getElem?_eq_none (by omega), Array.getElem?_eq_none (by omega)]
theorem RM.grow {locs : List Loc} {cells slots c0 s0 kd n : Nat} (hm : RM G nc ns h locs cells slots c0 s0) (h1 : hN h + 1 ≤ nc) (h2 : hS h + n ≤ ns) : RM G nc ns (nA h kd n) locs (cells + 1) (slots + n) c0 s0 := by
  obtain ⟨-, -, e1, e2, e3⟩ := hm
  exact ⟨h1, h2, by show cells + 1 + c0 = hN h + 1; omega, by show slots + n + s0 = hS h + n; omega, e3⟩
def okT : FieldType → Bool
  | .int | .boolean | .long => true
  | ty => ty.isReference
theorem fv_new {ty : FieldType} (hty : okT ty = true) (kd n j : Nat) : fv ty (nA h kd n) (hN h) j = defaultValue ty := by
  have e1 : hI (nA h kd n) (hN h) j = 0 := congrFun (u1_eq (f := hI h) (a := hN h) (v := fun _ => (0 : Int32))) j
  have e2 : hJ (nA h kd n) (hN h) j = 0 := congrFun (u1_eq (f := hJ h) (a := hN h) (v := fun _ => (0 : Int64))) j
  have e3 : hR (nA h kd n) (hN h) j = 0 := congrFun (u1_eq (f := hR h) (a := hN h) (v := fun _ => (0 : Nat))) j
  cases ty <;> simp [okT, FieldType.isReference] at hty <;> simp [fv, e1, e2, e3, rv, defaultValue]
theorem r_newarray {at0 : ArrayType} {ty : FieldType} {kd N : Nat} {n : Int32} (hd : decode y.2.1 pc = .ok (.newarray at0, 2)) (hty : newarray.typeOf at0 = ty) (hk : ak kd = some ty) (ho : okT ty = true) (hw : Cond.arrayClass ty ∈ lw_tbl) (hn : ¬ n < 0) (hNn : n.toNatClampNeg = N) (hb : N * componentBytes ty ≤ 536870912) (h1 : hN h + 1 ≤ nc) (h2 : hS h + N ≤ ns)
    (kk : RR G nc ns y (pc + 2) L (.ref (hN h) :: S) (nA h kd N) Z) : RR G nc ns y pc L (.int n :: S) h Z := by
  intro p e R s m args below meth cd H locs cells slots c0 s0 ls Q M hp hm hl hr
  subst hty
  have hcl : cells + 1 ≤ R.cells := by have := M.2.2.2.2.2.2.2.2.2.2.1; have := hm.2.2.1; omega
  have hsl : slots + N ≤ R.slots := by have := M.2.2.2.2.2.2.2.2.2.2.2; have := hm.2.2.2.1; omega
  refine W.newaK M.1 M.2.1 (M.2.2.2.2.1.1 _ hw rfl args) rfl hd rfl hn hNn hb hcl hsl hp.1 fun H' cA e1 e2 e3 e4 => ?_
  refine kk p e R s m args below meth cd H' locs (cells + 1) (slots + N) c0 s0 ls Q M (hp.grow e2 e3 (cR_arr (ty := newarray.typeOf at0) (cA := cA) (by show ak (u1 _ _ _ _) = _; rw [u1_eq]; exact hk) hp.2.2.2 ?_ e4)) (hm.grow h1 h2) hl hr
  rw [e1]
  have el : hL (nA h kd N) (hN h) = N := u1_eq
  rw [el]
  congr 2
  funext j
  exact (fv_new ho kd N j).symm
theorem r_new {c : Nat} {q : vw_C} {t : Nat → FieldType} {idx : Nat} (hd : decode y.2.1 pc = .ok (.new idx, 3)) (hq : vwCl[c]? = some q) (ht : tyL[c]? = some t) (hot : ∀ k, k < q.2.2 → okT (t k) = true) (w1 : Cond.classLink y.1.cls idx q.1 ∈ lw_tbl) (w2 : Cond.instantiable q.1 q.2.2 ∈ lw_tbl) (w3 : Cond.initialized q.1 ∈ lw_tbl) (h1 : hN h + 1 ≤ nc) (h2 : hS h + q.2.2 ≤ ns)
    (kk : RR G nc ns y (pc + 3) L (.ref (hN h) :: S) (nA h (10 + c) q.2.2) Z) : RR G nc ns y pc L S h Z := by
  intro p e R s m args below meth cd H locs cells slots c0 s0 ls Q M hp hm hl hr
  have hcl : cells + 1 ≤ R.cells := by have := M.2.2.2.2.2.2.2.2.2.2.1; have := hm.2.2.1; omega
  have hsl : slots + q.2.2 ≤ R.slots := by have := M.2.2.2.2.2.2.2.2.2.2.2; have := hm.2.2.2.1; omega
  have hT := M.2.2.2.2.1
  have hKn := hT.2.2.2.1 c _ hq
  refine W.newcK M.1 M.2.1 M.2.2.2.1 (hT.1 _ w1 rfl args) (hT.1 _ w2 rfl args) (hT.1 _ w3 rfl args) rfl hd hcl hsl hKn.2.1 hp.1 fun H' kC hkC e1 e2 e3 => ?_
  refine kk p e R s m args below meth cd H' locs (cells + 1) (slots + q.2.2) c0 s0 ls Q M (hp.grow e2 e3 ⟨fun z => ?_, fun ty z => ?_, fun c' q' t' z1 z2 z3 => ?_⟩) (hm.grow h1 h2) hl hr
  · have z : u1 (hK h) (hN h) (10 + c) (hN h) = 1 := z
    rw [u1_eq] at z; omega
  · have z : ak (u1 (hK h) (hN h) (10 + c) (hN h)) = some ty := z
    rw [u1_eq, show 10 + c = c + 10 by omega] at z
    cases z
  · have z1 : u1 (hK h) (hN h) (10 + c) (hN h) = 10 + c' := z1
    rw [u1_eq] at z1
    have ec : c' = c := by omega
    subst ec
    cases hq.symm.trans z2
    cases ht.symm.trans z3
    exact ⟨hp.2.2.2, (u_born t (hT.hts hq ht args) (fun _ h => h) hKn hkC e1 (tblOK c' q t hq ht).2.1).to (fun k hk => (fv_new (hot k hk) _ _ k).symm)⟩
theorem r_objInit {idx a : Nat} (hd : decode y.2.1 pc = .ok (.invokespecial idx, 3)) (hw : Cond.methodLink y.1.cls idx objectInit ∈ lw_tbl) (hi : Cond.instanceMethod objectInit ∈ lw_tbl) (hcd : Cond.code objectInit ⟨#[0xb1]⟩ 1 none ∈ lw_tbl) (hfr : 1 ≤ y.2.2.2.2.1) (hlo : 20 ≤ y.2.2.2.2.2) (hst : (S.map fun v => v.category).sum ≤ 8)
    (kk : RR G nc ns y (pc + 3) L S h Z) : RR G nc ns y pc L (.ref a :: S) h Z := by
  intro p e R s m args below meth cd H locs cells slots c0 s0 ls Q M hp hm hl hr
  have hT := M.2.2.2.2.1
  have h9 := M.2.2.2.2.2.2.2.2.1
  have h8 := M.2.2.2.2.2.2.2.2.2.1
  have h7 := lv_room (m := m) (pc := pc) (ls := ls) (rest := .ref a :: S) hst
  exact W.objInit M.1 M.2.1 M.2.2.2.1 (hT.1 _ hw rfl args) (hT.1 _ hi rfl args) (hT.1 _ hcd rfl args) rfl (by rw [M.2.2.1]; exact hl.1) rfl hd (by omega) (by omega) (kk p e R s m args below meth cd H locs cells slots c0 s0 ls Q M hp hm hl hr)
end ALLOC
section CALLS
variable {G : GG} {nc ns : Nat} {y : MI} {pc : Nat} {L : List (Option Value)} {S : List Value} {h : PH} {Z : Option Value → PH → Prop}
theorem pL_len (As : List Value) : (pL As).length = (lg_sl As).length := by
  induction As with
  | nil => rfl
  | cons v vs ih =>
    unfold pL
    simp only [lg_sl, List.flatMap_cons] at ih ⊢
    split <;> simp [ih, List.length_append] <;> omega
theorem pL_get : ∀ (As : List Value) (i0 i : Nat) (v : Value), (pL As)[i]? = some (some v) → (i0 + i, v) ∈ lv_args i0 As
  | [], _, _, _, h => by simp [pL] at h
  | w :: vs, i0, i, v, h => by
    unfold pL at h
    unfold lv_args
    by_cases hc : w.category = 2
    · rw [if_pos hc] at h
      rw [if_pos hc]
      match i, h with
      | 0, h => simp at h; subst h; exact List.mem_cons_self
      | 1, h => simp at h
      | k + 2, h =>
        have h : (pL vs)[k]? = some (some v) := by simpa using h
        have := pL_get vs (i0 + 2) k v h
        rw [show i0 + 2 + k = i0 + (k + 2) by omega] at this
        exact List.mem_cons_of_mem _ this
    · rw [if_neg hc] at h
      rw [if_neg hc]
      match i, h with
      | 0, h => simp at h; subst h; exact List.mem_cons_self
      | k + 1, h =>
        have h : (pL vs)[k]? = some (some v) := by simpa using h
        have := pL_get vs (i0 + 1) k v h
        rw [show i0 + 1 + k = i0 + (k + 1) by omega] at this
        exact List.mem_cons_of_mem _ this
def eL (n : Nat) (As : List Value) : List (Option Value) := pL As ++ List.replicate (n - (pL As).length) none
theorem eL_get {n : Nat} {As : List Value} {i : Nat} {v : Value} (h : (eL n As)[i]? = some (some v)) : (i, v) ∈ lv_args 0 As := by
  unfold eL at h
  rw [List.getElem?_append] at h
  split at h
  · have := pL_get As 0 i v h
    rwa [Nat.zero_add] at this
  · rw [List.getElem?_replicate] at h
    split at h <;> cases h
/-- a method's contract out of its walk -/
theorem Ev.of {As : List Value} {mc ms : Nat} (hy : plainName y.1.cls = true) (hn : (pL As).length ≤ y.2.2.1)
    (k : RR G (hN h + mc) (hS h + ms) y 0 (eL y.2.2.1 As) [] h (fun v h' => Z v h' ∧ hN h' = hN h + mc ∧ hS h' = hS h + ms)) : Ev G y As h mc ms Z := by
  refine Met.ofW (cc := y.2.1) (maxL := y.2.2.1) (ret := y.2.2.2.1) hy rfl ?_
  intro p e s m args below meth c s₁ B hml hv
  obtain ⟨rfl, hp, hT⟩ := hv
  have hown : s.vm.findClass y.1.cls = some m.cls := findClass_of_methodNamed B.named
  have hlocks := B.notSynchronized
  have hname : meth.name = y.1.name := (name_of_methodNamed B.named B.method).1
  have hl := lv_entry As (n := y.2.2.1) (by rw [← pL_len]; exact hn)
  rw [lg_entry_eq]
  generalize (lg_sl As ++ List.replicate (y.2.2.1 - (lg_sl As).length) Slot.unset).toArray = ls at hl ⊢
  refine k p e _ s m _ below meth c s.heap [] 0 0 (hN h) (hS h) ls _ ⟨B.exec, B.bytes, hml, hown, hT, hname, B.returns, hlocks, Nat.le_refl _, Nat.le_refl _, ?_, ?_⟩ hp ⟨Nat.le_add_right _ _, Nat.le_add_right _ _, Nat.zero_add _, Nat.zero_add _, fun q hq => by cases hq⟩ ⟨hl.1, hl.2.1, fun i v hi => hl.2.2 (i, v) (eL_get hi)⟩ ?_
  · show hN h + mc ≤ mc + hN h; omega
  · show hS h + ms ≤ ms + hS h; omega
  · intro pc' ls' S' h' H' locs' cells' slots' v hra hz hp' hm'
    obtain ⟨hz, e1, e2⟩ := hz
    obtain ⟨-, -, e3, e4, e5⟩ := hm'
    have ec : cells' = mc := by omega
    have es : slots' = ms := by omega
    subst ec; subst es
    rcases hra with ⟨hd, rfl, rfl, hret⟩ | ⟨x, hd, rfl, rfl, hret⟩ | ⟨x, hd, rfl, rfl, hret⟩
    · exact W.vret B.exec B.bytes (B.returns.trans hret) (fun t ht hW => ⟨none, h', rfl, hz, e1, e2, by rw [ht]; exact hp'.moved hW.alike⟩) e5 hd
    · rcases hret with hret | ⟨hret, hb⟩
      · exact W.iret B.exec B.bytes (B.returns.trans hret) (fun t ht hW => ⟨some (.int x), h', rfl, hz, e1, e2, by rw [ht]; exact hp'.moved hW.alike⟩) e5 hd
      · exact W.zret B.exec B.bytes (B.returns.trans hret) (by rcases hb with rfl | rfl <;> rfl) (fun t ht hW => ⟨some (.int x), h', rfl, hz, e1, e2, by rw [ht]; exact hp'.moved hW.alike⟩) e5 hd
    · exact W.lret B.exec B.bytes (B.returns.trans hret) (fun t ht hW => ⟨some (.long x), h', rfl, hz, e1, e2, by rw [ht]; exact hp'.moved hW.alike⟩) e5 hd
theorem Ev.mono {As : List Value} {mc ms : Nat} {Z' : Option Value → PH → Prop} (k : Ev G y As h mc ms Z') (hz : ∀ v h', Z' v h' → Z v h') : Ev G y As h mc ms Z := by
  unfold Ev Met at *
  exact MetFree.mono k (fun _ _ hp => hp) (fun _ _ _ _ _ hp => hp) (fun a st o t _ hq => by
    obtain ⟨⟨v, h', q1, q2, q3⟩, q4⟩ := hq
    exact ⟨⟨v, h', q1, hz v h' q2, q3⟩, q4⟩)
theorem TB_blind {D : va_G} {U : State} {g : JFrame} {mk : MethodId} {a : Array Value} (hT : TB D U) : TB D (U.calling g mk a) := TB.moved (U := U.calling g mk a) (State.WarmedH.refl U) hT
theorem Pc_blind {As : List Value} : FrameBlind (va_Pc As (fun U => HP G U h U.heap ∧ TB G.2.1 U)) := by
  intro a U g mk hq
  obtain ⟨q0, q1, q2⟩ := hq
  exact ⟨q0, HP.moved (s := U) (U := U.calling g mk a) (Vm.Alike.refl U.vm) q1, TB_blind q2⟩
/-- behind a call -/
theorem r_after {p : Program} {e : Env} {R : Room} {s : State} {m : MethodId} {args : Array Value} {below : List Frame} {meth : Method} {cd : Code} {H : Heap} {locs : List Loc} {cells slots c0 s0 mc ms : Nat} {ls : Array Slot} {Q : State → Prop} {st0 : List Value} {Z2 : Option Value → PH → Prop}
    (M : MC G nc ns y p R s m meth cd c0 s0) (hm : RM G nc ns h locs cells slots c0 s0) (hl : lL ls y.2.2.1 L) (h1 : hN h + mc ≤ nc) (h2 : hS h + ms ≤ ns)
    (hr : ∀ (pc' : Nat) (ls' : Array Slot) (S' : List Value) (h' : PH) (H' : Heap) (locs' : List Loc) (cells' slots' : Nat) (v : Option Value), RA y pc' S' v → Z v h' → HP G s h' H' → RM G nc ns h' locs' cells' slots' c0 s0 → W p G.1 e R s m args below meth cd H' locs' cells' slots' Q (F0 m pc' ls' S'))
    (run : va_Run p G.1 e R s m args below meth cd H locs cells slots mc ms (F0 m pc ls st0) S (fun _ oc t => ∃ (v : Option Value) (h' : PH), oc = .returned v ∧ Z2 v h' ∧ hN h' = hN h + mc ∧ hS h' = hS h + ms ∧ HP G t h' t.heap) (fun q => G.2.2 ≤ q))
    (kk : ∀ (v : Option Value) (h' : PH), Z2 v h' → hN h' = hN h + mc → hS h' = hS h + ms → RR G nc ns y (pc + 3) L (v.toList ++ S) h' Z) : W p G.1 e R s m args below meth cd H locs cells slots Q (F0 m pc ls st0) := by
  intro T hT X
  obtain ⟨v, st₀, t, T', L', h0, X', hL, e1, e2, ⟨v', h', hv, hz, hn', hs', hpt⟩, st⟩ := run T hT X
  cases hv
  have hal : s.vm.Alike t.vm := by rw [← e2]; exact X'.warmed.alike
  obtain ⟨-, -, q1, q2, q3⟩ := hm
  obtain ⟨t2, a1, b1⟩ := kk v h' hz hn' hs' p e R s m args below meth cd T'.heap (locs ++ L') (cells + mc) (slots + ms) c0 s0 ls Q M (by rw [e1]; exact hpt.moved hal.symm) ⟨by omega, by omega, by omega, by omega, fun q hq => by
    rcases List.mem_append.mp hq with z | z
    · exact q3 q z
    · exact hL q z⟩ hl hr T' rfl X'
  exact ⟨t2, st t2 a1, b1⟩
/-- what a caller must know of a callee, whoever calls -/
def CK (y2 : MI) (n : Nat) : Prop := (y2.1.cls ≠ "java/lang/invoke/MethodHandle" ∧ y2.1.cls ≠ "java/lang/invoke/VarHandle") ∧ (parseMethodDescriptor y2.1.desc).map (fun d => d.parameters.length) = some n ∧ Cond.code y2.1 y2.2.1 y2.2.2.1 y2.2.2.2.1 ∈ lw_tbl ∧ Cond.initialized y2.1.cls ∈ lw_tbl
theorem code_good (x : MethodName) (b : ByteArray) (n : Nat) (r : Option FieldType) : goodWord (.code x b n r) = true := rfl
theorem CK.callB {y2 : MI} {n mc ms idx : Nat} {R : Room} {s : State} {args : Array Value} {D : va_G} {own : String} (hc : CK y2 n) (hT : TB D s) (hw : Cond.methodLink own idx y2.1 ∈ lw_tbl) (hfr : y2.2.2.2.2.1 + 1 ≤ R.frames) (hlo : 8 + (y2.2.2.1 + 11) + y2.2.2.2.2.2 ≤ R.locals) :
    CallB R s args own idx y2.1 y2.2.1 y2.2.2.1 y2.2.2.2.1 [Cond.code y2.1 y2.2.1 y2.2.2.1 y2.2.2.2.1] { frames := y2.2.2.2.2.1, cells := mc, slots := ms, locals := y2.2.2.2.2.2 } mc ms n := by
  obtain ⟨c1, c2, c3, c4⟩ := hc
  refine ⟨rfl, rfl, hfr, hlo, fun w hw' a' U hW => ?_, List.mem_cons_self, hT.1 _ c3 rfl args, hT.1 _ c4 rfl args, c1, fun sig hs => ?_, hT.1 _ hw rfl args⟩
  · rw [List.mem_singleton.mp hw']
    exact word_at hW (good_of_word (code_good _ _ _ _)) (hT.1 _ c3 rfl args)
  · rw [hs] at c2
    exact (Option.some.inj c2).symm
theorem r_callV {y2 : MI} {n mc ms idx c b : Nat} {q : vw_C} {As : List Value} {Z2 : Option Value → PH → Prop} {st0 : List Value} (hd : decode y.2.1 pc = .ok (.invokevirtual idx, 3)) (hc : CK y2 n) (hi : Cond.instanceMethod y2.1 ∈ lw_tbl) (hs : Cond.selects y2.1.cls y2.1 y2.1 ∈ lw_tbl) (hw : Cond.methodLink y.1.cls idx y2.1 ∈ lw_tbl) (hq : vwCl[c]? = some q) (hqn : q.1 = y2.1.cls) (hb : hK h b = 10 + c)
    (hfr : y2.2.2.2.2.1 + 1 ≤ y.2.2.2.2.1) (hlo : 8 + (y2.2.2.1 + 11) + y2.2.2.2.2.2 ≤ y.2.2.2.2.2) (hn : As.length = n) (hst : st0 = As.reverse ++ .ref b :: S) (hcat : (S.map fun v => v.category).sum ≤ 8) (h1 : hN h + mc ≤ nc) (h2 : hS h + ms ≤ ns)
    (he : Ev G y2 (.ref b :: As) h mc ms Z2) (kk : ∀ (v : Option Value) (h' : PH), Z2 v h' → hN h' = hN h + mc → hS h' = hS h + ms → RR G nc ns y (pc + 3) L (v.toList ++ S) h' Z) : RR G nc ns y pc L st0 h Z := by
  intro p e R s m args below meth cd H locs cells slots c0 s0 ls Q M hp hm hl hr
  have hT := M.2.2.2.2.1
  have f1 := M.2.2.2.2.2.2.2.2.1
  have f2 := M.2.2.2.2.2.2.2.2.2.1
  have f3 := M.2.2.2.2.2.2.2.2.2.2.1
  have f4 := M.2.2.2.2.2.2.2.2.2.2.2
  have g1 := hm.2.2.1
  have g2 := hm.2.2.2.1
  refine r_after M hm hl h1 h2 hr (va_runV (Ts := []) (C := y2.1.cls) (b := b) (As := As) (nL := y.2.2.1) (own := y.1.cls) ⟨M.1, M.2.1, M.2.2.1, M.2.2.2.1, fun w hw' => by cases hw'⟩ he ⟨hc.callB hT hw (Nat.le_trans hfr f1) (Nat.le_trans hlo f2), hT.1 _ hi rfl args, hT.1 _ hs rfl args⟩ ⟨Pc_blind, ?_, fun U hU hW => ⟨rfl, by rw [hU]; exact hp.moved hW.alike, hT.moved hW⟩⟩ rfl hn hl.1 hst (lv_room hcat) hd ⟨by omega, by omega⟩) kk
  obtain ⟨t, ht⟩ : ∃ t, tyL[c]? = some t := by
    match c, hq with
    | 0, _ => exact ⟨_, rfl⟩
    | 1, _ => exact ⟨_, rfl⟩
    | 2, _ => exact ⟨_, rfl⟩
    | 3, _ => exact ⟨_, rfl⟩
    | 4, _ => exact ⟨_, rfl⟩
    | 5, _ => exact ⟨_, rfl⟩
    | 6, _ => exact ⟨_, rfl⟩
    | k + 7, hq => cases hq
  obtain ⟨-, cell, q1, q2, q3, q4⟩ := (hp.2.2.1 b).2.2 c q t hb hq ht
  exact ⟨cell, q1, by rw [q3]; rfl, by rw [q2, ← hqn]; exact (hT.2.2.2.1 c q hq).2.1⟩
theorem r_callI {y2 : MI} {n mc ms idx b : Nat} {As : List Value} {Z2 : Option Value → PH → Prop} {st0 : List Value} (hd : decode y.2.1 pc = .ok (.invokespecial idx, 3)) (hc : CK y2 n) (hi : Cond.instanceMethod y2.1 ∈ lw_tbl) (hini : y2.1.name = "<init>") (hret : y2.2.2.2.1 = none) (hw : Cond.methodLink y.1.cls idx y2.1 ∈ lw_tbl)
    (hfr : y2.2.2.2.2.1 + 1 ≤ y.2.2.2.2.1) (hlo : 8 + (y2.2.2.1 + 11) + y2.2.2.2.2.2 ≤ y.2.2.2.2.2) (hn : As.length = n) (hst : st0 = As.reverse ++ .ref b :: S) (hcat : (S.map fun v => v.category).sum ≤ 8) (h1 : hN h + mc ≤ nc) (h2 : hS h + ms ≤ ns)
    (he : Ev G y2 (.ref b :: As) h mc ms Z2) (kk : ∀ (v : Option Value) (h' : PH), Z2 v h' → hN h' = hN h + mc → hS h' = hS h + ms → RR G nc ns y (pc + 3) L (v.toList ++ S) h' Z) : RR G nc ns y pc L st0 h Z := by
  intro p e R s m args below meth cd H locs cells slots c0 s0 ls Q M hp hm hl hr
  have hT := M.2.2.2.2.1
  have f1 := M.2.2.2.2.2.2.2.2.1
  have f2 := M.2.2.2.2.2.2.2.2.2.1
  have f3 := M.2.2.2.2.2.2.2.2.2.2.1
  have f4 := M.2.2.2.2.2.2.2.2.2.2.2
  have g1 := hm.2.2.1
  have g2 := hm.2.2.2.1
  have hB := hc.callB (mc := mc) (ms := ms) (args := args) hT hw (Nat.le_trans hfr f1) (Nat.le_trans hlo f2)
  unfold Ev at he
  rw [hret] at hB he
  exact r_after M hm hl h1 h2 hr (va_runI (Ts := []) (b := b) (As := As) (nL := y.2.2.1) (own := y.1.cls) ⟨M.1, M.2.1, M.2.2.1, M.2.2.2.1, fun w hw' => by cases hw'⟩ he ⟨hB, hini, hT.1 _ hi rfl args⟩ ⟨Pc_blind, fun U hU hW => ⟨rfl, by rw [hU]; exact hp.moved hW.alike, hT.moved hW⟩⟩ rfl hn hl.1 hst (lv_room hcat) hd ⟨by omega, by omega⟩) kk
theorem r_callS {y2 : MI} {n mc ms idx : Nat} {As : List Value} {Z2 : Option Value → PH → Prop} {st0 : List Value} (hd : decode y.2.1 pc = .ok (.invokestatic idx, 3)) (hc : CK y2 n) (hi : Cond.static y2.1 ∈ lw_tbl) (hw : Cond.methodLink y.1.cls idx y2.1 ∈ lw_tbl)
    (hfr : y2.2.2.2.2.1 + 1 ≤ y.2.2.2.2.1) (hlo : 8 + (y2.2.2.1 + 11) + y2.2.2.2.2.2 ≤ y.2.2.2.2.2) (hn : As.length = n) (hst : st0 = As.reverse ++ S) (hcat : (S.map fun v => v.category).sum ≤ 8) (h1 : hN h + mc ≤ nc) (h2 : hS h + ms ≤ ns)
    (he : Ev G y2 As h mc ms Z2) (kk : ∀ (v : Option Value) (h' : PH), Z2 v h' → hN h' = hN h + mc → hS h' = hS h + ms → RR G nc ns y (pc + 3) L (v.toList ++ S) h' Z) : RR G nc ns y pc L st0 h Z := by
  intro p e R s m args below meth cd H locs cells slots c0 s0 ls Q M hp hm hl hr
  have hT := M.2.2.2.2.1
  have f1 := M.2.2.2.2.2.2.2.2.1
  have f2 := M.2.2.2.2.2.2.2.2.2.1
  have f3 := M.2.2.2.2.2.2.2.2.2.2.1
  have f4 := M.2.2.2.2.2.2.2.2.2.2.2
  have g1 := hm.2.2.1
  have g2 := hm.2.2.2.1
  exact r_after M hm hl h1 h2 hr (va_runS (Ts := []) (As := As) (nL := y.2.2.1) (own := y.1.cls) ⟨M.1, M.2.1, M.2.2.1, M.2.2.2.1, fun w hw' => by cases hw'⟩ he ⟨hc.callB hT hw (Nat.le_trans hfr f1) (Nat.le_trans hlo f2), hT.1 _ hi rfl args⟩ ⟨Pc_blind, fun U hU hW => ⟨rfl, by rw [hU]; exact hp.moved hW.alike, hT.moved hW⟩⟩ rfl hn hl.1 hst (lv_room hcat) hd ⟨by omega, by omega⟩) kk
theorem r_callSN {y2 : MI} {n mc ms idx : Nat} {host : String} {As : List Value} {Z2 : Option Value → PH → Prop} {st0 : List Value} (hd : decode y.2.1 pc = .ok (.invokestatic idx, 3)) (hc : CK y2 n) (hi : Cond.static y2.1 ∈ lw_tbl) (hw : Cond.methodLinkNest y.1.cls idx y2.1 host ∈ lw_tbl)
    (hfr : y2.2.2.2.2.1 + 1 ≤ y.2.2.2.2.1) (hlo : 8 + (y2.2.2.1 + 11) + y2.2.2.2.2.2 ≤ y.2.2.2.2.2) (hn : As.length = n) (hst : st0 = As.reverse ++ S) (hcat : (S.map fun v => v.category).sum ≤ 8) (h1 : hN h + mc ≤ nc) (h2 : hS h + ms ≤ ns)
    (he : Ev G y2 As h mc ms Z2) (kk : ∀ (v : Option Value) (h' : PH), Z2 v h' → hN h' = hN h + mc → hS h' = hS h + ms → RR G nc ns y (pc + 3) L (v.toList ++ S) h' Z) : RR G nc ns y pc L st0 h Z := by
  intro p e R s m args below meth cd H locs cells slots c0 s0 ls Q M hp hm hl hr
  have hT := M.2.2.2.2.1
  have f1 := M.2.2.2.2.2.2.2.2.1
  have f2 := M.2.2.2.2.2.2.2.2.2.1
  have f3 := M.2.2.2.2.2.2.2.2.2.2.1
  have f4 := M.2.2.2.2.2.2.2.2.2.2.2
  have g1 := hm.2.2.1
  have g2 := hm.2.2.2.1
  obtain ⟨c1, c2, c3, c4⟩ := hc
  have hB : va_CN R s args y.1.cls idx y2.1 host y2.2.1 y2.2.2.1 y2.2.2.2.1 [Cond.code y2.1 y2.2.1 y2.2.2.1 y2.2.2.2.1] { frames := y2.2.2.2.2.1, cells := mc, slots := ms, locals := y2.2.2.2.2.2 } mc ms n := by
    refine ⟨⟨rfl, rfl, Nat.le_trans hfr f1, Nat.le_trans hlo f2, fun w hw' a' U hW => ?_, List.mem_cons_self⟩, hT.1 _ c3 rfl args, hT.1 _ c4 rfl args, c1, fun sig hs => ?_, va_Nw.use rfl (hT.2.1 _ hw rfl)⟩
    · rw [List.mem_singleton.mp hw']
      exact word_at hW (good_of_word (code_good _ _ _ _)) (hT.1 _ c3 rfl args)
    · rw [hs] at c2
      exact (Option.some.inj c2).symm
  exact r_after M hm hl h1 h2 hr (va_runSN (Ts := []) (As := As) (nL := y.2.2.1) (own := y.1.cls) ⟨M.1, M.2.1, M.2.2.1, M.2.2.2.1, fun w hw' => by cases hw'⟩ he ⟨hB, hT.1 _ hi rfl args, trivial⟩ ⟨Pc_blind, fun U hU hW => ⟨rfl, by rw [hU]; exact hp.moved hW.alike, hT.moved hW⟩⟩ rfl hn hl.1 hst (lv_room hcat) hd ⟨by omega, by omega⟩) kk
end CALLS
end
section
theorem mT1 {w : Cond} (i : Nat) (h : tables_1_1[i]? = some w) : w ∈ lw_tbl := List.mem_append_right _ (List.mem_append_left _ (List.mem_of_getElem? h))
theorem mT2 {w : Cond} (i : Nat) (h : tables_1_2[i]? = some w) : w ∈ lw_tbl := List.mem_append_right _ (List.mem_append_right _ (List.mem_append_left _ (List.mem_of_getElem? h)))
theorem mT3 {w : Cond} (i : Nat) (h : tables_1_3[i]? = some w) : w ∈ lw_tbl := List.mem_append_right _ (List.mem_append_right _ (List.mem_append_right _ (List.mem_append_left _ (List.mem_of_getElem? h))))
theorem mT4 {w : Cond} (i : Nat) (h : tables_1_4[i]? = some w) : w ∈ lw_tbl := List.mem_append_right _ (List.mem_append_right _ (List.mem_append_right _ (List.mem_append_right _ (List.mem_of_getElem? h))))
theorem mS {w : Cond} (i : Nat) (h : (k2_sels lw_privs)[i]? = some w) : w ∈ lw_tbl := List.mem_append_left _ (List.mem_of_getElem? h)
def m_X0_init : MI := (yX0_init, cX0_init, 3, none, 1, 20)
theorem pn_X0_init : plainName m_X0_init.1.cls = true := by decide +kernel
set_option maxRecDepth 20000 in
theorem ck_X0_init : CK m_X0_init 2 := ⟨⟨by decide +kernel, by decide +kernel⟩, by decide +kernel, mT1 88 rfl, mT1 4 (by decide +kernel)⟩
theorem iv_X0_init : Cond.instanceMethod m_X0_init.1 ∈ lw_tbl := mT1 87 (by decide +kernel)
def m_X0_refresh : MI := (yX0_refresh, cX0_refresh, 1, none, 4, 96)
theorem pn_X0_refresh : plainName m_X0_refresh.1.cls = true := by decide +kernel
set_option maxRecDepth 20000 in
theorem ck_X0_refresh : CK m_X0_refresh 0 := ⟨⟨by decide +kernel, by decide +kernel⟩, by decide +kernel, mT2 124 rfl, mT1 4 (by decide +kernel)⟩
theorem iv_X0_refresh : Cond.instanceMethod m_X0_refresh.1 ∈ lw_tbl := mT2 122 (by decide +kernel)
theorem sl_X0_refresh : Cond.selects m_X0_refresh.1.cls m_X0_refresh.1 m_X0_refresh.1 ∈ lw_tbl := mT2 123 (by decide +kernel)
def m_X0_howMany : MI := (yX0_howMany, cX0_howMany, 1, (some .int), 0, 0)
theorem pn_X0_howMany : plainName m_X0_howMany.1.cls = true := by decide +kernel
set_option maxRecDepth 20000 in
theorem ck_X0_howMany : CK m_X0_howMany 0 := ⟨⟨by decide +kernel, by decide +kernel⟩, by decide +kernel, mT2 158 rfl, mT1 4 (by decide +kernel)⟩
theorem iv_X0_howMany : Cond.instanceMethod m_X0_howMany.1 ∈ lw_tbl := mT2 156 (by decide +kernel)
theorem sl_X0_howMany : Cond.selects m_X0_howMany.1.cls m_X0_howMany.1 m_X0_howMany.1 ∈ lw_tbl := mT2 157 (by decide +kernel)
def m_X0_holds : MI := (yX0_holds, cX0_holds, 2, (some .boolean), 0, 0)
theorem pn_X0_holds : plainName m_X0_holds.1.cls = true := by decide +kernel
set_option maxRecDepth 20000 in
theorem ck_X0_holds : CK m_X0_holds 1 := ⟨⟨by decide +kernel, by decide +kernel⟩, by decide +kernel, mT2 185 rfl, mT1 4 (by decide +kernel)⟩
theorem iv_X0_holds : Cond.instanceMethod m_X0_holds.1 ∈ lw_tbl := mT2 183 (by decide +kernel)
theorem sl_X0_holds : Cond.selects m_X0_holds.1.cls m_X0_holds.1 m_X0_holds.1 ∈ lw_tbl := mT2 184 (by decide +kernel)
def m_X0_numberOf : MI := (yX0_numberOf, cX0_numberOf, 4, (some .int), 3, 64)
theorem pn_X0_numberOf : plainName m_X0_numberOf.1.cls = true := by decide +kernel
set_option maxRecDepth 20000 in
theorem ck_X0_numberOf : CK m_X0_numberOf 2 := ⟨⟨by decide +kernel, by decide +kernel⟩, by decide +kernel, mT2 179 rfl, mT1 4 (by decide +kernel)⟩
theorem iv_X0_numberOf : Cond.instanceMethod m_X0_numberOf.1 ∈ lw_tbl := mT2 177 (by decide +kernel)
theorem sl_X0_numberOf : Cond.selects m_X0_numberOf.1.cls m_X0_numberOf.1 m_X0_numberOf.1 ∈ lw_tbl := mT2 178 (by decide +kernel)
def m_X0_comesTo : MI := (yX0_comesTo, cX0_comesTo, 3, (some .boolean), 2, 42)
theorem pn_X0_comesTo : plainName m_X0_comesTo.1.cls = true := by decide +kernel
set_option maxRecDepth 20000 in
theorem ck_X0_comesTo : CK m_X0_comesTo 2 := ⟨⟨by decide +kernel, by decide +kernel⟩, by decide +kernel, mT2 232 rfl, mT1 4 (by decide +kernel)⟩
theorem iv_X0_comesTo : Cond.instanceMethod m_X0_comesTo.1 ∈ lw_tbl := mT2 230 (by decide +kernel)
theorem sl_X0_comesTo : Cond.selects m_X0_comesTo.1.cls m_X0_comesTo.1 m_X0_comesTo.1 ∈ lw_tbl := mT2 231 (by decide +kernel)
def m_X0_isLonePair : MI := (yX0_isLonePair, cX0_isLonePair, 3, (some .boolean), 4, 87)
theorem pn_X0_isLonePair : plainName m_X0_isLonePair.1.cls = true := by decide +kernel
set_option maxRecDepth 20000 in
theorem ck_X0_isLonePair : CK m_X0_isLonePair 1 := ⟨⟨by decide +kernel, by decide +kernel⟩, by decide +kernel, mT2 194 rfl, mT1 4 (by decide +kernel)⟩
theorem iv_X0_isLonePair : Cond.instanceMethod m_X0_isLonePair.1 ∈ lw_tbl := mT2 192 (by decide +kernel)
theorem sl_X0_isLonePair : Cond.selects m_X0_isLonePair.1.cls m_X0_isLonePair.1 m_X0_isLonePair.1 ∈ lw_tbl := mT2 193 (by decide +kernel)
def m_X0_usefulRights : MI := (yX0_usefulRights, cX0_usefulRights, 5, (some .long), 4, 87)
theorem pn_X0_usefulRights : plainName m_X0_usefulRights.1.cls = true := by decide +kernel
set_option maxRecDepth 20000 in
theorem ck_X0_usefulRights : CK m_X0_usefulRights 1 := ⟨⟨by decide +kernel, by decide +kernel⟩, by decide +kernel, mT2 175 rfl, mT1 4 (by decide +kernel)⟩
theorem iv_X0_usefulRights : Cond.instanceMethod m_X0_usefulRights.1 ∈ lw_tbl := mT2 173 (by decide +kernel)
theorem sl_X0_usefulRights : Cond.selects m_X0_usefulRights.1.cls m_X0_usefulRights.1 m_X0_usefulRights.1 ∈ lw_tbl := mT2 174 (by decide +kernel)
def m_X0_findReached : MI := (yX0_findReached, cX0_findReached, 6, none, 3, 71)
theorem pn_X0_findReached : plainName m_X0_findReached.1.cls = true := by decide +kernel
set_option maxRecDepth 20000 in
theorem ck_X0_findReached : CK m_X0_findReached 0 := ⟨⟨by decide +kernel, by decide +kernel⟩, by decide +kernel, mT2 129 rfl, mT1 4 (by decide +kernel)⟩
theorem iv_X0_findReached : Cond.instanceMethod m_X0_findReached.1 ∈ lw_tbl := mT2 128 (by decide +kernel)
theorem sl_X0_findReached : Cond.selects m_X0_findReached.1.cls m_X0_findReached.1 m_X0_findReached.1 ∈ lw_tbl := mS 15 (by decide +kernel)
def m_X0_numberAll : MI := (yX0_numberAll, cX0_numberAll, 4, none, 3, 65)
theorem pn_X0_numberAll : plainName m_X0_numberAll.1.cls = true := by decide +kernel
set_option maxRecDepth 20000 in
theorem ck_X0_numberAll : CK m_X0_numberAll 0 := ⟨⟨by decide +kernel, by decide +kernel⟩, by decide +kernel, mT2 141 rfl, mT1 4 (by decide +kernel)⟩
theorem iv_X0_numberAll : Cond.instanceMethod m_X0_numberAll.1 ∈ lw_tbl := mT2 140 (by decide +kernel)
theorem sl_X0_numberAll : Cond.selects m_X0_numberAll.1.cls m_X0_numberAll.1 m_X0_numberAll.1 ∈ lw_tbl := mS 16 (by decide +kernel)
def m_X0_gather : MI := (yX0_gather, cX0_gather, 5, (some .long), 2, 41)
theorem pn_X0_gather : plainName m_X0_gather.1.cls = true := by decide +kernel
set_option maxRecDepth 20000 in
theorem ck_X0_gather : CK m_X0_gather 1 := ⟨⟨by decide +kernel, by decide +kernel⟩, by decide +kernel, mT2 146 rfl, mT1 4 (by decide +kernel)⟩
theorem iv_X0_gather : Cond.instanceMethod m_X0_gather.1 ∈ lw_tbl := mT2 145 (by decide +kernel)
theorem sl_X0_gather : Cond.selects m_X0_gather.1.cls m_X0_gather.1 m_X0_gather.1 ∈ lw_tbl := mS 17 (by decide +kernel)
def m_X1_init : MI := (yX1_init, cX1_init, 2, none, 1, 20)
theorem pn_X1_init : plainName m_X1_init.1.cls = true := by decide +kernel
set_option maxRecDepth 20000 in
theorem ck_X1_init : CK m_X1_init 1 := ⟨⟨by decide +kernel, by decide +kernel⟩, by decide +kernel, mT1 24 rfl, mT1 2 (by decide +kernel)⟩
theorem iv_X1_init : Cond.instanceMethod m_X1_init.1 ∈ lw_tbl := mT1 23 (by decide +kernel)
def m_X1_changes : MI := (yX1_changes, cX1_changes, 1, (some .int), 0, 0)
theorem pn_X1_changes : plainName m_X1_changes.1.cls = true := by decide +kernel
set_option maxRecDepth 20000 in
theorem ck_X1_changes : CK m_X1_changes 0 := ⟨⟨by decide +kernel, by decide +kernel⟩, by decide +kernel, mT2 8 rfl, mT1 2 (by decide +kernel)⟩
theorem iv_X1_changes : Cond.instanceMethod m_X1_changes.1 ∈ lw_tbl := mT2 6 (by decide +kernel)
theorem sl_X1_changes : Cond.selects m_X1_changes.1.cls m_X1_changes.1 m_X1_changes.1 ∈ lw_tbl := mT2 7 (by decide +kernel)
def m_X1_most : MI := (yX1_most, cX1_most, 1, (some .int), 0, 0)
theorem pn_X1_most : plainName m_X1_most.1.cls = true := by decide +kernel
set_option maxRecDepth 20000 in
theorem ck_X1_most : CK m_X1_most 0 := ⟨⟨by decide +kernel, by decide +kernel⟩, by decide +kernel, mT1 52 rfl, mT1 2 (by decide +kernel)⟩
theorem iv_X1_most : Cond.instanceMethod m_X1_most.1 ∈ lw_tbl := mT1 50 (by decide +kernel)
theorem sl_X1_most : Cond.selects m_X1_most.1.cls m_X1_most.1 m_X1_most.1 ∈ lw_tbl := mT1 51 (by decide +kernel)
def m_X1_sizeOf : MI := (yX1_sizeOf, cX1_sizeOf, 2, (some .int), 1, 20)
theorem pn_X1_sizeOf : plainName m_X1_sizeOf.1.cls = true := by decide +kernel
set_option maxRecDepth 20000 in
theorem ck_X1_sizeOf : CK m_X1_sizeOf 1 := ⟨⟨by decide +kernel, by decide +kernel⟩, by decide +kernel, mT1 230 rfl, mT1 2 (by decide +kernel)⟩
theorem iv_X1_sizeOf : Cond.instanceMethod m_X1_sizeOf.1 ∈ lw_tbl := mT1 228 (by decide +kernel)
theorem sl_X1_sizeOf : Cond.selects m_X1_sizeOf.1.cls m_X1_sizeOf.1 m_X1_sizeOf.1 ∈ lw_tbl := mT1 229 (by decide +kernel)
def m_X1_holds : MI := (yX1_holds, cX1_holds, 3, (some .boolean), 1, 20)
theorem pn_X1_holds : plainName m_X1_holds.1.cls = true := by decide +kernel
set_option maxRecDepth 20000 in
theorem ck_X1_holds : CK m_X1_holds 2 := ⟨⟨by decide +kernel, by decide +kernel⟩, by decide +kernel, mT1 205 rfl, mT1 2 (by decide +kernel)⟩
theorem iv_X1_holds : Cond.instanceMethod m_X1_holds.1 ∈ lw_tbl := mT1 203 (by decide +kernel)
theorem sl_X1_holds : Cond.selects m_X1_holds.1.cls m_X1_holds.1 m_X1_holds.1 ∈ lw_tbl := mT1 204 (by decide +kernel)
def m_X1_joins : MI := (yX1_joins, cX1_joins, 3, (some .boolean), 2, 42)
theorem pn_X1_joins : plainName m_X1_joins.1.cls = true := by decide +kernel
set_option maxRecDepth 20000 in
theorem ck_X1_joins : CK m_X1_joins 2 := ⟨⟨by decide +kernel, by decide +kernel⟩, by decide +kernel, mT1 209 rfl, mT1 2 (by decide +kernel)⟩
theorem iv_X1_joins : Cond.instanceMethod m_X1_joins.1 ∈ lw_tbl := mT1 207 (by decide +kernel)
theorem sl_X1_joins : Cond.selects m_X1_joins.1.cls m_X1_joins.1 m_X1_joins.1 ∈ lw_tbl := mT1 208 (by decide +kernel)
def m_X1_all : MI := (yX1_all, cX1_all, 2, (some .long), 1, 20)
theorem pn_X1_all : plainName m_X1_all.1.cls = true := by decide +kernel
set_option maxRecDepth 20000 in
theorem ck_X1_all : CK m_X1_all 1 := ⟨⟨by decide +kernel, by decide +kernel⟩, by decide +kernel, mT2 23 rfl, mT1 2 (by decide +kernel)⟩
theorem iv_X1_all : Cond.instanceMethod m_X1_all.1 ∈ lw_tbl := mT2 21 (by decide +kernel)
theorem sl_X1_all : Cond.selects m_X1_all.1.cls m_X1_all.1 m_X1_all.1 ∈ lw_tbl := mT2 22 (by decide +kernel)
def m_X1_across : MI := (yX1_across, cX1_across, 3, (some .long), 2, 42)
theorem pn_X1_across : plainName m_X1_across.1.cls = true := by decide +kernel
set_option maxRecDepth 20000 in
theorem ck_X1_across : CK m_X1_across 2 := ⟨⟨by decide +kernel, by decide +kernel⟩, by decide +kernel, mT2 38 rfl, mT1 2 (by decide +kernel)⟩
theorem iv_X1_across : Cond.instanceMethod m_X1_across.1 ∈ lw_tbl := mT2 36 (by decide +kernel)
theorem sl_X1_across : Cond.selects m_X1_across.1.cls m_X1_across.1 m_X1_across.1 ∈ lw_tbl := mT2 37 (by decide +kernel)
def m_X1_neighbours : MI := (yX1_neighbours, cX1_neighbours, 7, (some .long), 2, 41)
theorem pn_X1_neighbours : plainName m_X1_neighbours.1.cls = true := by decide +kernel
set_option maxRecDepth 20000 in
theorem ck_X1_neighbours : CK m_X1_neighbours 2 := ⟨⟨by decide +kernel, by decide +kernel⟩, by decide +kernel, mT2 67 rfl, mT1 2 (by decide +kernel)⟩
theorem iv_X1_neighbours : Cond.instanceMethod m_X1_neighbours.1 ∈ lw_tbl := mT2 65 (by decide +kernel)
theorem sl_X1_neighbours : Cond.selects m_X1_neighbours.1.cls m_X1_neighbours.1 m_X1_neighbours.1 ∈ lw_tbl := mT2 66 (by decide +kernel)
def m_X1_edges : MI := (yX1_edges, cX1_edges, 3, (some .int), 1, 21)
theorem pn_X1_edges : plainName m_X1_edges.1.cls = true := by decide +kernel
set_option maxRecDepth 20000 in
theorem ck_X1_edges : CK m_X1_edges 0 := ⟨⟨by decide +kernel, by decide +kernel⟩, by decide +kernel, mT1 234 rfl, mT1 2 (by decide +kernel)⟩
theorem iv_X1_edges : Cond.instanceMethod m_X1_edges.1 ∈ lw_tbl := mT1 232 (by decide +kernel)
theorem sl_X1_edges : Cond.selects m_X1_edges.1.cls m_X1_edges.1 m_X1_edges.1 ∈ lw_tbl := mT1 233 (by decide +kernel)
def m_X1_add : MI := (yX1_add, cX1_add, 3, (some .int), 1, 20)
theorem pn_X1_add : plainName m_X1_add.1.cls = true := by decide +kernel
set_option maxRecDepth 20000 in
theorem ck_X1_add : CK m_X1_add 1 := ⟨⟨by decide +kernel, by decide +kernel⟩, by decide +kernel, mT1 194 rfl, mT1 2 (by decide +kernel)⟩
theorem iv_X1_add : Cond.instanceMethod m_X1_add.1 ∈ lw_tbl := mT1 192 (by decide +kernel)
theorem sl_X1_add : Cond.selects m_X1_add.1.cls m_X1_add.1 m_X1_add.1 ∈ lw_tbl := mT1 193 (by decide +kernel)
def m_X1_joinAll : MI := (yX1_joinAll, cX1_joinAll, 6, none, 1, 22)
theorem pn_X1_joinAll : plainName m_X1_joinAll.1.cls = true := by decide +kernel
set_option maxRecDepth 20000 in
theorem ck_X1_joinAll : CK m_X1_joinAll 2 := ⟨⟨by decide +kernel, by decide +kernel⟩, by decide +kernel, mT1 217 rfl, mT1 2 (by decide +kernel)⟩
theorem iv_X1_joinAll : Cond.instanceMethod m_X1_joinAll.1 ∈ lw_tbl := mT1 215 (by decide +kernel)
theorem sl_X1_joinAll : Cond.selects m_X1_joinAll.1.cls m_X1_joinAll.1 m_X1_joinAll.1 ∈ lw_tbl := mT1 216 (by decide +kernel)
def m_X1_unjoin : MI := (yX1_unjoin, cX1_unjoin, 3, none, 2, 42)
theorem pn_X1_unjoin : plainName m_X1_unjoin.1.cls = true := by decide +kernel
set_option maxRecDepth 20000 in
theorem ck_X1_unjoin : CK m_X1_unjoin 2 := ⟨⟨by decide +kernel, by decide +kernel⟩, by decide +kernel, mT1 221 rfl, mT1 2 (by decide +kernel)⟩
theorem iv_X1_unjoin : Cond.instanceMethod m_X1_unjoin.1 ∈ lw_tbl := mT1 219 (by decide +kernel)
theorem sl_X1_unjoin : Cond.selects m_X1_unjoin.1.cls m_X1_unjoin.1 m_X1_unjoin.1 ∈ lw_tbl := mT1 220 (by decide +kernel)
def m_X1_clear : MI := (yX1_clear, cX1_clear, 2, none, 1, 24)
theorem pn_X1_clear : plainName m_X1_clear.1.cls = true := by decide +kernel
set_option maxRecDepth 20000 in
theorem ck_X1_clear : CK m_X1_clear 0 := ⟨⟨by decide +kernel, by decide +kernel⟩, by decide +kernel, mT3 81 rfl, mT1 2 (by decide +kernel)⟩
theorem iv_X1_clear : Cond.instanceMethod m_X1_clear.1 ∈ lw_tbl := mT3 79 (by decide +kernel)
theorem sl_X1_clear : Cond.selects m_X1_clear.1.cls m_X1_clear.1 m_X1_clear.1 ∈ lw_tbl := mT3 80 (by decide +kernel)
def m_X2_init : MI := (yX2_init, cX2_init, 3, none, 1, 20)
theorem pn_X2_init : plainName m_X2_init.1.cls = true := by decide +kernel
set_option maxRecDepth 20000 in
theorem ck_X2_init : CK m_X2_init 2 := ⟨⟨by decide +kernel, by decide +kernel⟩, by decide +kernel, mT1 144 rfl, mT1 6 (by decide +kernel)⟩
theorem iv_X2_init : Cond.instanceMethod m_X2_init.1 ∈ lw_tbl := mT1 143 (by decide +kernel)
def m_X2_refresh : MI := (yX2_refresh, cX2_refresh, 1, none, 5, 115)
theorem pn_X2_refresh : plainName m_X2_refresh.1.cls = true := by decide +kernel
set_option maxRecDepth 20000 in
theorem ck_X2_refresh : CK m_X2_refresh 0 := ⟨⟨by decide +kernel, by decide +kernel⟩, by decide +kernel, mT2 84 rfl, mT1 6 (by decide +kernel)⟩
theorem iv_X2_refresh : Cond.instanceMethod m_X2_refresh.1 ∈ lw_tbl := mT2 82 (by decide +kernel)
theorem sl_X2_refresh : Cond.selects m_X2_refresh.1.cls m_X2_refresh.1 m_X2_refresh.1 ∈ lw_tbl := mT2 83 (by decide +kernel)
def m_X2_howManyLevels : MI := (yX2_howManyLevels, cX2_howManyLevels, 1, (some .int), 0, 0)
theorem pn_X2_howManyLevels : plainName m_X2_howManyLevels.1.cls = true := by decide +kernel
set_option maxRecDepth 20000 in
theorem ck_X2_howManyLevels : CK m_X2_howManyLevels 0 := ⟨⟨by decide +kernel, by decide +kernel⟩, by decide +kernel, mT2 120 rfl, mT1 6 (by decide +kernel)⟩
theorem iv_X2_howManyLevels : Cond.instanceMethod m_X2_howManyLevels.1 ∈ lw_tbl := mT2 118 (by decide +kernel)
theorem sl_X2_howManyLevels : Cond.selects m_X2_howManyLevels.1.cls m_X2_howManyLevels.1 m_X2_howManyLevels.1 ∈ lw_tbl := mT2 119 (by decide +kernel)
def m_X2_levelOf : MI := (yX2_levelOf, cX2_levelOf, 2, (some .int), 2, 42)
theorem pn_X2_levelOf : plainName m_X2_levelOf.1.cls = true := by decide +kernel
set_option maxRecDepth 20000 in
theorem ck_X2_levelOf : CK m_X2_levelOf 1 := ⟨⟨by decide +kernel, by decide +kernel⟩, by decide +kernel, mT3 68 rfl, mT1 6 (by decide +kernel)⟩
theorem iv_X2_levelOf : Cond.instanceMethod m_X2_levelOf.1 ∈ lw_tbl := mT3 66 (by decide +kernel)
theorem sl_X2_levelOf : Cond.selects m_X2_levelOf.1.cls m_X2_levelOf.1 m_X2_levelOf.1 ∈ lw_tbl := mT3 67 (by decide +kernel)
def m_X2_chainOf : MI := (yX2_chainOf, cX2_chainOf, 2, (some .int), 2, 42)
theorem pn_X2_chainOf : plainName m_X2_chainOf.1.cls = true := by decide +kernel
set_option maxRecDepth 20000 in
theorem ck_X2_chainOf : CK m_X2_chainOf 1 := ⟨⟨by decide +kernel, by decide +kernel⟩, by decide +kernel, mT3 64 rfl, mT1 6 (by decide +kernel)⟩
theorem iv_X2_chainOf : Cond.instanceMethod m_X2_chainOf.1 ∈ lw_tbl := mT3 62 (by decide +kernel)
theorem sl_X2_chainOf : Cond.selects m_X2_chainOf.1.cls m_X2_chainOf.1 m_X2_chainOf.1 ∈ lw_tbl := mT3 63 (by decide +kernel)
def m_X2_isInAntichain : MI := (yX2_isInAntichain, cX2_isInAntichain, 4, (some .boolean), 3, 68)
theorem pn_X2_isInAntichain : plainName m_X2_isInAntichain.1.cls = true := by decide +kernel
set_option maxRecDepth 20000 in
theorem ck_X2_isInAntichain : CK m_X2_isInAntichain 2 := ⟨⟨by decide +kernel, by decide +kernel⟩, by decide +kernel, mT3 72 rfl, mT1 6 (by decide +kernel)⟩
theorem iv_X2_isInAntichain : Cond.instanceMethod m_X2_isInAntichain.1 ∈ lw_tbl := mT3 70 (by decide +kernel)
theorem sl_X2_isInAntichain : Cond.selects m_X2_isInAntichain.1.cls m_X2_isInAntichain.1 m_X2_isInAntichain.1 ∈ lw_tbl := mT3 71 (by decide +kernel)
def m_X2_findLevels : MI := (yX2_findLevels, cX2_findLevels, 7, none, 4, 89)
theorem pn_X2_findLevels : plainName m_X2_findLevels.1.cls = true := by decide +kernel
set_option maxRecDepth 20000 in
theorem ck_X2_findLevels : CK m_X2_findLevels 0 := ⟨⟨by decide +kernel, by decide +kernel⟩, by decide +kernel, mT2 89 rfl, mT1 6 (by decide +kernel)⟩
theorem iv_X2_findLevels : Cond.instanceMethod m_X2_findLevels.1 ∈ lw_tbl := mT2 88 (by decide +kernel)
theorem sl_X2_findLevels : Cond.selects m_X2_findLevels.1.cls m_X2_findLevels.1 m_X2_findLevels.1 ∈ lw_tbl := mS 11 (by decide +kernel)
def m_X2_bottomOf : MI := (yX2_bottomOf, cX2_bottomOf, 6, (some .long), 3, 64)
theorem pn_X2_bottomOf : plainName m_X2_bottomOf.1.cls = true := by decide +kernel
set_option maxRecDepth 20000 in
theorem ck_X2_bottomOf : CK m_X2_bottomOf 1 := ⟨⟨by decide +kernel, by decide +kernel⟩, by decide +kernel, mT2 94 rfl, mT1 6 (by decide +kernel)⟩
theorem iv_X2_bottomOf : Cond.instanceMethod m_X2_bottomOf.1 ∈ lw_tbl := mT2 93 (by decide +kernel)
theorem sl_X2_bottomOf : Cond.selects m_X2_bottomOf.1.cls m_X2_bottomOf.1 m_X2_bottomOf.1 ∈ lw_tbl := mS 12 (by decide +kernel)
def m_X2_findChains : MI := (yX2_findChains, cX2_findChains, 3, none, 4, 88)
theorem pn_X2_findChains : plainName m_X2_findChains.1.cls = true := by decide +kernel
set_option maxRecDepth 20000 in
theorem ck_X2_findChains : CK m_X2_findChains 0 := ⟨⟨by decide +kernel, by decide +kernel⟩, by decide +kernel, mT2 102 rfl, mT1 6 (by decide +kernel)⟩
theorem iv_X2_findChains : Cond.instanceMethod m_X2_findChains.1 ∈ lw_tbl := mT2 101 (by decide +kernel)
theorem sl_X2_findChains : Cond.selects m_X2_findChains.1.cls m_X2_findChains.1 m_X2_findChains.1 ∈ lw_tbl := mS 13 (by decide +kernel)
def m_X2_numberChain : MI := (yX2_numberChain, cX2_numberChain, 5, none, 3, 64)
theorem pn_X2_numberChain : plainName m_X2_numberChain.1.cls = true := by decide +kernel
set_option maxRecDepth 20000 in
theorem ck_X2_numberChain : CK m_X2_numberChain 2 := ⟨⟨by decide +kernel, by decide +kernel⟩, by decide +kernel, mT2 111 rfl, mT1 6 (by decide +kernel)⟩
theorem iv_X2_numberChain : Cond.instanceMethod m_X2_numberChain.1 ∈ lw_tbl := mT2 110 (by decide +kernel)
theorem sl_X2_numberChain : Cond.selects m_X2_numberChain.1.cls m_X2_numberChain.1 m_X2_numberChain.1 ∈ lw_tbl := mS 14 (by decide +kernel)
def m_X3_init : MI := (yX3_init, cX3_init, 2, none, 1, 20)
theorem pn_X3_init : plainName m_X3_init.1.cls = true := by decide +kernel
set_option maxRecDepth 20000 in
theorem ck_X3_init : CK m_X3_init 1 := ⟨⟨by decide +kernel, by decide +kernel⟩, by decide +kernel, mT1 47 rfl, mT1 3 (by decide +kernel)⟩
theorem iv_X3_init : Cond.instanceMethod m_X3_init.1 ∈ lw_tbl := mT1 46 (by decide +kernel)
def m_X3_refresh : MI := (yX3_refresh, cX3_refresh, 2, none, 5, 131)
theorem pn_X3_refresh : plainName m_X3_refresh.1.cls = true := by decide +kernel
set_option maxRecDepth 20000 in
theorem ck_X3_refresh : CK m_X3_refresh 0 := ⟨⟨by decide +kernel, by decide +kernel⟩, by decide +kernel, mT2 4 rfl, mT1 3 (by decide +kernel)⟩
theorem iv_X3_refresh : Cond.instanceMethod m_X3_refresh.1 ∈ lw_tbl := mT2 2 (by decide +kernel)
theorem sl_X3_refresh : Cond.selects m_X3_refresh.1.cls m_X3_refresh.1 m_X3_refresh.1 ∈ lw_tbl := mT2 3 (by decide +kernel)
def m_X3_pairs : MI := (yX3_pairs, cX3_pairs, 1, (some .int), 0, 0)
theorem pn_X3_pairs : plainName m_X3_pairs.1.cls = true := by decide +kernel
set_option maxRecDepth 20000 in
theorem ck_X3_pairs : CK m_X3_pairs 0 := ⟨⟨by decide +kernel, by decide +kernel⟩, by decide +kernel, mT2 116 rfl, mT1 3 (by decide +kernel)⟩
theorem iv_X3_pairs : Cond.instanceMethod m_X3_pairs.1 ∈ lw_tbl := mT2 114 (by decide +kernel)
theorem sl_X3_pairs : Cond.selects m_X3_pairs.1.cls m_X3_pairs.1 m_X3_pairs.1 ∈ lw_tbl := mT2 115 (by decide +kernel)
def m_X3_mateOf : MI := (yX3_mateOf, cX3_mateOf, 3, (some .int), 2, 42)
theorem pn_X3_mateOf : plainName m_X3_mateOf.1.cls = true := by decide +kernel
set_option maxRecDepth 20000 in
theorem ck_X3_mateOf : CK m_X3_mateOf 2 := ⟨⟨by decide +kernel, by decide +kernel⟩, by decide +kernel, mT2 106 rfl, mT1 3 (by decide +kernel)⟩
theorem iv_X3_mateOf : Cond.instanceMethod m_X3_mateOf.1 ∈ lw_tbl := mT2 104 (by decide +kernel)
theorem sl_X3_mateOf : Cond.selects m_X3_mateOf.1.cls m_X3_mateOf.1 m_X3_mateOf.1 ∈ lw_tbl := mT2 105 (by decide +kernel)
def m_X3_matesOf : MI := (yX3_matesOf, cX3_matesOf, 10, (some .long), 2, 42)
theorem pn_X3_matesOf : plainName m_X3_matesOf.1.cls = true := by decide +kernel
set_option maxRecDepth 20000 in
theorem ck_X3_matesOf : CK m_X3_matesOf 2 := ⟨⟨by decide +kernel, by decide +kernel⟩, by decide +kernel, mT2 63 rfl, mT1 3 (by decide +kernel)⟩
theorem iv_X3_matesOf : Cond.instanceMethod m_X3_matesOf.1 ∈ lw_tbl := mT2 61 (by decide +kernel)
theorem sl_X3_matesOf : Cond.selects m_X3_matesOf.1.cls m_X3_matesOf.1 m_X3_matesOf.1 ∈ lw_tbl := mT2 62 (by decide +kernel)
def m_X3_nodesOfPart : MI := (yX3_nodesOfPart, cX3_nodesOfPart, 3, (some .long), 0, 0)
theorem pn_X3_nodesOfPart : plainName m_X3_nodesOfPart.1.cls = true := by decide +kernel
set_option maxRecDepth 20000 in
theorem ck_X3_nodesOfPart : CK m_X3_nodesOfPart 2 := ⟨⟨by decide +kernel, by decide +kernel⟩, by decide +kernel, mT2 134 rfl, mT1 3 (by decide +kernel)⟩
theorem iv_X3_nodesOfPart : Cond.instanceMethod m_X3_nodesOfPart.1 ∈ lw_tbl := mT2 132 (by decide +kernel)
theorem sl_X3_nodesOfPart : Cond.selects m_X3_nodesOfPart.1.cls m_X3_nodesOfPart.1 m_X3_nodesOfPart.1 ∈ lw_tbl := mT2 133 (by decide +kernel)
def m_X3_partOf : MI := (yX3_partOf, cX3_partOf, 3, (some .int), 1, 22)
theorem pn_X3_partOf : plainName m_X3_partOf.1.cls = true := by decide +kernel
set_option maxRecDepth 20000 in
theorem ck_X3_partOf : CK m_X3_partOf 2 := ⟨⟨by decide +kernel, by decide +kernel⟩, by decide +kernel, mT2 189 rfl, mT1 3 (by decide +kernel)⟩
theorem iv_X3_partOf : Cond.instanceMethod m_X3_partOf.1 ∈ lw_tbl := mT2 187 (by decide +kernel)
theorem sl_X3_partOf : Cond.selects m_X3_partOf.1.cls m_X3_partOf.1 m_X3_partOf.1 ∈ lw_tbl := mT2 188 (by decide +kernel)
def m_X3_nodesInPart : MI := (yX3_nodesInPart, cX3_nodesInPart, 2, (some .int), 1, 21)
theorem pn_X3_nodesInPart : plainName m_X3_nodesInPart.1.cls = true := by decide +kernel
set_option maxRecDepth 20000 in
theorem ck_X3_nodesInPart : CK m_X3_nodesInPart 1 := ⟨⟨by decide +kernel, by decide +kernel⟩, by decide +kernel, mT2 154 rfl, mT1 3 (by decide +kernel)⟩
theorem iv_X3_nodesInPart : Cond.instanceMethod m_X3_nodesInPart.1 ∈ lw_tbl := mT2 152 (by decide +kernel)
theorem sl_X3_nodesInPart : Cond.selects m_X3_nodesInPart.1.cls m_X3_nodesInPart.1 m_X3_nodesInPart.1 ∈ lw_tbl := mT2 153 (by decide +kernel)
def m_X3_isInCover : MI := (yX3_isInCover, cX3_isInCover, 5, (some .boolean), 2, 44)
theorem pn_X3_isInCover : plainName m_X3_isInCover.1.cls = true := by decide +kernel
set_option maxRecDepth 20000 in
theorem ck_X3_isInCover : CK m_X3_isInCover 3 := ⟨⟨by decide +kernel, by decide +kernel⟩, by decide +kernel, mT2 209 rfl, mT1 3 (by decide +kernel)⟩
theorem iv_X3_isInCover : Cond.instanceMethod m_X3_isInCover.1 ∈ lw_tbl := mT2 207 (by decide +kernel)
theorem sl_X3_isInCover : Cond.selects m_X3_isInCover.1.cls m_X3_isInCover.1 m_X3_isInCover.1 ∈ lw_tbl := mT2 208 (by decide +kernel)
def m_X3_begin : MI := (yX3_begin, cX3_begin, 2, none, 3, 61)
theorem pn_X3_begin : plainName m_X3_begin.1.cls = true := by decide +kernel
set_option maxRecDepth 20000 in
theorem ck_X3_begin : CK m_X3_begin 0 := ⟨⟨by decide +kernel, by decide +kernel⟩, by decide +kernel, mT2 12 rfl, mT1 3 (by decide +kernel)⟩
theorem iv_X3_begin : Cond.instanceMethod m_X3_begin.1 ∈ lw_tbl := mT2 11 (by decide +kernel)
theorem sl_X3_begin : Cond.selects m_X3_begin.1.cls m_X3_begin.1 m_X3_begin.1 ∈ lw_tbl := mS 0 (by decide +kernel)
def m_X3_openAll : MI := (yX3_openAll, cX3_openAll, 1, none, 2, 41)
theorem pn_X3_openAll : plainName m_X3_openAll.1.cls = true := by decide +kernel
set_option maxRecDepth 20000 in
theorem ck_X3_openAll : CK m_X3_openAll 0 := ⟨⟨by decide +kernel, by decide +kernel⟩, by decide +kernel, mT2 19 rfl, mT1 3 (by decide +kernel)⟩
theorem iv_X3_openAll : Cond.instanceMethod m_X3_openAll.1 ∈ lw_tbl := mT2 18 (by decide +kernel)
theorem sl_X3_openAll : Cond.selects m_X3_openAll.1.cls m_X3_openAll.1 m_X3_openAll.1 ∈ lw_tbl := mS 1 (by decide +kernel)
def m_X3_bare : MI := (yX3_bare, cX3_bare, 2, (some .long), 0, 0)
theorem pn_X3_bare : plainName m_X3_bare.1.cls = true := by decide +kernel
set_option maxRecDepth 20000 in
theorem ck_X3_bare : CK m_X3_bare 1 := ⟨⟨by decide +kernel, by decide +kernel⟩, by decide +kernel, mT2 31 rfl, mT1 3 (by decide +kernel)⟩
theorem iv_X3_bare : Cond.instanceMethod m_X3_bare.1 ∈ lw_tbl := mT2 30 (by decide +kernel)
theorem sl_X3_bare : Cond.selects m_X3_bare.1.cls m_X3_bare.1 m_X3_bare.1 ∈ lw_tbl := mS 3 (by decide +kernel)
def m_X3_pair : MI := (yX3_pair, cX3_pair, 3, none, 0, 0)
theorem pn_X3_pair : plainName m_X3_pair.1.cls = true := by decide +kernel
set_option maxRecDepth 20000 in
theorem ck_X3_pair : CK m_X3_pair 2 := ⟨⟨by decide +kernel, by decide +kernel⟩, by decide +kernel, mT2 51 rfl, mT1 3 (by decide +kernel)⟩
theorem iv_X3_pair : Cond.instanceMethod m_X3_pair.1 ∈ lw_tbl := mT2 50 (by decide +kernel)
theorem sl_X3_pair : Cond.selects m_X3_pair.1.cls m_X3_pair.1 m_X3_pair.1 ∈ lw_tbl := mS 5 (by decide +kernel)
def m_X3_loosen : MI := (yX3_loosen, cX3_loosen, 4, none, 0, 0)
theorem pn_X3_loosen : plainName m_X3_loosen.1.cls = true := by decide +kernel
set_option maxRecDepth 20000 in
theorem ck_X3_loosen : CK m_X3_loosen 2 := ⟨⟨by decide +kernel, by decide +kernel⟩, by decide +kernel, mT2 76 rfl, mT1 3 (by decide +kernel)⟩
theorem iv_X3_loosen : Cond.instanceMethod m_X3_loosen.1 ∈ lw_tbl := mT2 75 (by decide +kernel)
theorem sl_X3_loosen : Cond.selects m_X3_loosen.1.cls m_X3_loosen.1 m_X3_loosen.1 ∈ lw_tbl := mS 9 (by decide +kernel)
def m_X3_lengthen : MI := (yX3_lengthen, cX3_lengthen, 13, (some .boolean), 3, 64)
theorem pn_X3_lengthen : plainName m_X3_lengthen.1.cls = true := by decide +kernel
set_option maxRecDepth 20000 in
theorem ck_X3_lengthen : CK m_X3_lengthen 0 := ⟨⟨by decide +kernel, by decide +kernel⟩, by decide +kernel, mT2 27 rfl, mT1 3 (by decide +kernel)⟩
theorem iv_X3_lengthen : Cond.instanceMethod m_X3_lengthen.1 ∈ lw_tbl := mT2 26 (by decide +kernel)
theorem sl_X3_lengthen : Cond.selects m_X3_lengthen.1.cls m_X3_lengthen.1 m_X3_lengthen.1 ∈ lw_tbl := mS 2 (by decide +kernel)
def m_X3_pairAlongPath : MI := (yX3_pairAlongPath, cX3_pairAlongPath, 6, none, 1, 22)
theorem pn_X3_pairAlongPath : plainName m_X3_pairAlongPath.1.cls = true := by decide +kernel
set_option maxRecDepth 20000 in
theorem ck_X3_pairAlongPath : CK m_X3_pairAlongPath 1 := ⟨⟨by decide +kernel, by decide +kernel⟩, by decide +kernel, mT2 47 rfl, mT1 3 (by decide +kernel)⟩
theorem iv_X3_pairAlongPath : Cond.instanceMethod m_X3_pairAlongPath.1 ∈ lw_tbl := mT2 46 (by decide +kernel)
theorem sl_X3_pairAlongPath : Cond.selects m_X3_pairAlongPath.1.cls m_X3_pairAlongPath.1 m_X3_pairAlongPath.1 ∈ lw_tbl := mS 4 (by decide +kernel)
def m_X3_reach : MI := (yX3_reach, cX3_reach, 15, (some .long), 3, 71)
theorem pn_X3_reach : plainName m_X3_reach.1.cls = true := by decide +kernel
set_option maxRecDepth 20000 in
theorem ck_X3_reach : CK m_X3_reach 2 := ⟨⟨by decide +kernel, by decide +kernel⟩, by decide +kernel, mT2 59 rfl, mT1 3 (by decide +kernel)⟩
theorem iv_X3_reach : Cond.instanceMethod m_X3_reach.1 ∈ lw_tbl := mT2 58 (by decide +kernel)
theorem sl_X3_reach : Cond.selects m_X3_reach.1.cls m_X3_reach.1 m_X3_reach.1 ∈ lw_tbl := mS 7 (by decide +kernel)
def m_X3_choicesOf : MI := (yX3_choicesOf, cX3_choicesOf, 7, (some .long), 4, 105)
theorem pn_X3_choicesOf : plainName m_X3_choicesOf.1.cls = true := by decide +kernel
set_option maxRecDepth 20000 in
theorem ck_X3_choicesOf : CK m_X3_choicesOf 1 := ⟨⟨by decide +kernel, by decide +kernel⟩, by decide +kernel, mT2 55 rfl, mT1 3 (by decide +kernel)⟩
theorem iv_X3_choicesOf : Cond.instanceMethod m_X3_choicesOf.1 ∈ lw_tbl := mT2 54 (by decide +kernel)
theorem sl_X3_choicesOf : Cond.selects m_X3_choicesOf.1.cls m_X3_choicesOf.1 m_X3_choicesOf.1 ∈ lw_tbl := mS 6 (by decide +kernel)
def m_X3_settle : MI := (yX3_settle, cX3_settle, 5, none, 4, 96)
theorem pn_X3_settle : plainName m_X3_settle.1.cls = true := by decide +kernel
set_option maxRecDepth 20000 in
theorem ck_X3_settle : CK m_X3_settle 2 := ⟨⟨by decide +kernel, by decide +kernel⟩, by decide +kernel, mT2 72 rfl, mT1 3 (by decide +kernel)⟩
theorem iv_X3_settle : Cond.instanceMethod m_X3_settle.1 ∈ lw_tbl := mT2 71 (by decide +kernel)
theorem sl_X3_settle : Cond.selects m_X3_settle.1.cls m_X3_settle.1 m_X3_settle.1 ∈ lw_tbl := mS 8 (by decide +kernel)
def m_X3_findParts : MI := (yX3_findParts, cX3_findParts, 2, none, 4, 105)
theorem pn_X3_findParts : plainName m_X3_findParts.1.cls = true := by decide +kernel
set_option maxRecDepth 20000 in
theorem ck_X3_findParts : CK m_X3_findParts 0 := ⟨⟨by decide +kernel, by decide +kernel⟩, by decide +kernel, mT2 80 rfl, mT1 3 (by decide +kernel)⟩
theorem iv_X3_findParts : Cond.instanceMethod m_X3_findParts.1 ∈ lw_tbl := mT2 79 (by decide +kernel)
theorem sl_X3_findParts : Cond.selects m_X3_findParts.1.cls m_X3_findParts.1 m_X3_findParts.1 ∈ lw_tbl := mS 10 (by decide +kernel)
def m_X4_init : MI := (yX4_init, cX4_init, 3, none, 1, 20)
theorem pn_X4_init : plainName m_X4_init.1.cls = true := by decide +kernel
set_option maxRecDepth 20000 in
theorem ck_X4_init : CK m_X4_init 2 := ⟨⟨by decide +kernel, by decide +kernel⟩, by decide +kernel, mT1 116 rfl, mT1 5 (by decide +kernel)⟩
theorem iv_X4_init : Cond.instanceMethod m_X4_init.1 ∈ lw_tbl := mT1 115 (by decide +kernel)
def m_X4_refresh : MI := (yX4_refresh, cX4_refresh, 6, none, 5, 119)
theorem pn_X4_refresh : plainName m_X4_refresh.1.cls = true := by decide +kernel
set_option maxRecDepth 20000 in
theorem ck_X4_refresh : CK m_X4_refresh 0 := ⟨⟨by decide +kernel, by decide +kernel⟩, by decide +kernel, mT3 2 rfl, mT1 5 (by decide +kernel)⟩
theorem iv_X4_refresh : Cond.instanceMethod m_X4_refresh.1 ∈ lw_tbl := mT3 0 (by decide +kernel)
theorem sl_X4_refresh : Cond.selects m_X4_refresh.1.cls m_X4_refresh.1 m_X4_refresh.1 ∈ lw_tbl := mT3 1 (by decide +kernel)
def m_X4_total : MI := (yX4_total, cX4_total, 1, (some .long), 0, 0)
theorem pn_X4_total : plainName m_X4_total.1.cls = true := by decide +kernel
set_option maxRecDepth 20000 in
theorem ck_X4_total : CK m_X4_total 0 := ⟨⟨by decide +kernel, by decide +kernel⟩, by decide +kernel, mT3 43 rfl, mT1 5 (by decide +kernel)⟩
theorem iv_X4_total : Cond.instanceMethod m_X4_total.1 ∈ lw_tbl := mT3 41 (by decide +kernel)
theorem sl_X4_total : Cond.selects m_X4_total.1.cls m_X4_total.1 m_X4_total.1 ∈ lw_tbl := mT3 42 (by decide +kernel)
def m_X4_lefts : MI := (yX4_lefts, cX4_lefts, 1, (some .int), 2, 41)
theorem pn_X4_lefts : plainName m_X4_lefts.1.cls = true := by decide +kernel
set_option maxRecDepth 20000 in
theorem ck_X4_lefts : CK m_X4_lefts 0 := ⟨⟨by decide +kernel, by decide +kernel⟩, by decide +kernel, mT3 7 rfl, mT1 5 (by decide +kernel)⟩
theorem iv_X4_lefts : Cond.instanceMethod m_X4_lefts.1 ∈ lw_tbl := mT3 6 (by decide +kernel)
theorem sl_X4_lefts : Cond.selects m_X4_lefts.1.cls m_X4_lefts.1 m_X4_lefts.1 ∈ lw_tbl := mS 19 (by decide +kernel)
def m_X4_pieceOf : MI := (yX4_pieceOf, cX4_pieceOf, 8, (some .long), 3, 61)
theorem pn_X4_pieceOf : plainName m_X4_pieceOf.1.cls = true := by decide +kernel
set_option maxRecDepth 20000 in
theorem ck_X4_pieceOf : CK m_X4_pieceOf 1 := ⟨⟨by decide +kernel, by decide +kernel⟩, by decide +kernel, mT3 18 rfl, mT1 5 (by decide +kernel)⟩
theorem iv_X4_pieceOf : Cond.instanceMethod m_X4_pieceOf.1 ∈ lw_tbl := mT3 17 (by decide +kernel)
theorem sl_X4_pieceOf : Cond.selects m_X4_pieceOf.1.cls m_X4_pieceOf.1 m_X4_pieceOf.1 ∈ lw_tbl := mS 20 (by decide +kernel)
def m_X4_waysToPair : MI := (yX4_waysToPair, cX4_waysToPair, 8, (some .long), 4, 92)
theorem pn_X4_waysToPair : plainName m_X4_waysToPair.1.cls = true := by decide +kernel
set_option maxRecDepth 20000 in
theorem ck_X4_waysToPair : CK m_X4_waysToPair 1 := ⟨⟨by decide +kernel, by decide +kernel⟩, by decide +kernel, mT3 23 rfl, mT1 5 (by decide +kernel)⟩
theorem iv_X4_waysToPair : Cond.instanceMethod m_X4_waysToPair.1 ∈ lw_tbl := mT3 22 (by decide +kernel)
theorem sl_X4_waysToPair : Cond.selects m_X4_waysToPair.1.cls m_X4_waysToPair.1 m_X4_waysToPair.1 ∈ lw_tbl := mS 21 (by decide +kernel)
def m_X4_setChoices : MI := (yX4_setChoices, cX4_setChoices, 12, none, 3, 61)
theorem pn_X4_setChoices : plainName m_X4_setChoices.1.cls = true := by decide +kernel
set_option maxRecDepth 20000 in
theorem ck_X4_setChoices : CK m_X4_setChoices 3 := ⟨⟨by decide +kernel, by decide +kernel⟩, by decide +kernel, mT3 28 rfl, mT1 5 (by decide +kernel)⟩
theorem iv_X4_setChoices : Cond.instanceMethod m_X4_setChoices.1 ∈ lw_tbl := mT3 27 (by decide +kernel)
theorem sl_X4_setChoices : Cond.selects m_X4_setChoices.1.cls m_X4_setChoices.1 m_X4_setChoices.1 ∈ lw_tbl := mS 22 (by decide +kernel)
def m_X4_waysToChoose : MI := (yX4_waysToChoose, cX4_waysToChoose, 10, (some .long), 1, 21)
theorem pn_X4_waysToChoose : plainName m_X4_waysToChoose.1.cls = true := by decide +kernel
set_option maxRecDepth 20000 in
theorem ck_X4_waysToChoose : CK m_X4_waysToChoose 2 := ⟨⟨by decide +kernel, by decide +kernel⟩, by decide +kernel, mT3 33 rfl, mT1 5 (by decide +kernel)⟩
theorem iv_X4_waysToChoose : Cond.instanceMethod m_X4_waysToChoose.1 ∈ lw_tbl := mT3 32 (by decide +kernel)
theorem sl_X4_waysToChoose : Cond.selects m_X4_waysToChoose.1.cls m_X4_waysToChoose.1 m_X4_waysToChoose.1 ∈ lw_tbl := mS 23 (by decide +kernel)
def m_X5_init : MI := (yX5_init, cX5_init, 1, none, 2, 42)
theorem pn_X5_init : plainName m_X5_init.1.cls = true := by decide +kernel
set_option maxRecDepth 20000 in
theorem ck_X5_init : CK m_X5_init 0 := ⟨⟨by decide +kernel, by decide +kernel⟩, by decide +kernel, mT1 16 rfl, mT1 1 (by decide +kernel)⟩
theorem iv_X5_init : Cond.instanceMethod m_X5_init.1 ∈ lw_tbl := mT1 15 (by decide +kernel)
def m_X5_node : MI := (yX5_node, cX5_node, 2, (some .int), 2, 42)
theorem pn_X5_node : plainName m_X5_node.1.cls = true := by decide +kernel
set_option maxRecDepth 20000 in
theorem ck_X5_node : CK m_X5_node 1 := ⟨⟨by decide +kernel, by decide +kernel⟩, by decide +kernel, mT1 190 rfl, mT1 1 (by decide +kernel)⟩
theorem iv_X5_node : Cond.instanceMethod m_X5_node.1 ∈ lw_tbl := mT1 188 (by decide +kernel)
theorem sl_X5_node : Cond.selects m_X5_node.1.cls m_X5_node.1 m_X5_node.1 ∈ lw_tbl := mT1 189 (by decide +kernel)
def m_X5_edge : MI := (yX5_edge, cX5_edge, 4, (some .int), 3, 64)
theorem pn_X5_edge : plainName m_X5_edge.1.cls = true := by decide +kernel
set_option maxRecDepth 20000 in
theorem ck_X5_edge : CK m_X5_edge 3 := ⟨⟨by decide +kernel, by decide +kernel⟩, by decide +kernel, mT1 201 rfl, mT1 1 (by decide +kernel)⟩
theorem iv_X5_edge : Cond.instanceMethod m_X5_edge.1 ∈ lw_tbl := mT1 199 (by decide +kernel)
theorem sl_X5_edge : Cond.selects m_X5_edge.1.cls m_X5_edge.1 m_X5_edge.1 ∈ lw_tbl := mT1 200 (by decide +kernel)
def m_X5_count : MI := (yX5_count, cX5_count, 2, (some .int), 6, 152)
theorem pn_X5_count : plainName m_X5_count.1.cls = true := by decide +kernel
set_option maxRecDepth 20000 in
theorem ck_X5_count : CK m_X5_count 1 := ⟨⟨by decide +kernel, by decide +kernel⟩, by decide +kernel, mT1 226 rfl, mT1 1 (by decide +kernel)⟩
theorem iv_X5_count : Cond.instanceMethod m_X5_count.1 ∈ lw_tbl := mT1 224 (by decide +kernel)
theorem sl_X5_count : Cond.selects m_X5_count.1.cls m_X5_count.1 m_X5_count.1 ∈ lw_tbl := mT1 225 (by decide +kernel)
def m_X5_countFindings : MI := (yX5_countFindings, cX5_countFindings, 2, (some .int), 2, 42)
theorem pn_X5_countFindings : plainName m_X5_countFindings.1.cls = true := by decide +kernel
set_option maxRecDepth 20000 in
theorem ck_X5_countFindings : CK m_X5_countFindings 1 := ⟨⟨by decide +kernel, by decide +kernel⟩, by decide +kernel, mT2 150 rfl, mT1 1 (by decide +kernel)⟩
theorem iv_X5_countFindings : Cond.instanceMethod m_X5_countFindings.1 ∈ lw_tbl := mT2 149 (by decide +kernel)
theorem sl_X5_countFindings : Cond.selects m_X5_countFindings.1.cls m_X5_countFindings.1 m_X5_countFindings.1 ∈ lw_tbl := mS 18 (by decide +kernel)
def m_X5_has : MI := (yX5_has, cX5_has, 3, (some .boolean), 3, 64)
theorem pn_X5_has : plainName m_X5_has.1.cls = true := by decide +kernel
set_option maxRecDepth 20000 in
theorem ck_X5_has : CK m_X5_has 2 := ⟨⟨by decide +kernel, by decide +kernel⟩, by decide +kernel, mT2 162 rfl, mT1 1 (by decide +kernel)⟩
theorem iv_X5_has : Cond.instanceMethod m_X5_has.1 ∈ lw_tbl := mT2 160 (by decide +kernel)
theorem sl_X5_has : Cond.selects m_X5_has.1.cls m_X5_has.1 m_X5_has.1 ∈ lw_tbl := mT2 161 (by decide +kernel)
def m_X5_partner : MI := (yX5_partner, cX5_partner, 3, (some .int), 6, 152)
theorem pn_X5_partner : plainName m_X5_partner.1.cls = true := by decide +kernel
set_option maxRecDepth 20000 in
theorem ck_X5_partner : CK m_X5_partner 2 := ⟨⟨by decide +kernel, by decide +kernel⟩, by decide +kernel, mT2 166 rfl, mT1 1 (by decide +kernel)⟩
theorem iv_X5_partner : Cond.instanceMethod m_X5_partner.1 ∈ lw_tbl := mT2 164 (by decide +kernel)
theorem sl_X5_partner : Cond.selects m_X5_partner.1.cls m_X5_partner.1 m_X5_partner.1 ∈ lw_tbl := mT2 165 (by decide +kernel)
def m_X5_edgeIs : MI := (yX5_edgeIs, cX5_edgeIs, 3, (some .int), 6, 152)
theorem pn_X5_edgeIs : plainName m_X5_edgeIs.1.cls = true := by decide +kernel
set_option maxRecDepth 20000 in
theorem ck_X5_edgeIs : CK m_X5_edgeIs 2 := ⟨⟨by decide +kernel, by decide +kernel⟩, by decide +kernel, mT2 171 rfl, mT1 1 (by decide +kernel)⟩
theorem iv_X5_edgeIs : Cond.instanceMethod m_X5_edgeIs.1 ∈ lw_tbl := mT2 169 (by decide +kernel)
theorem sl_X5_edgeIs : Cond.selects m_X5_edgeIs.1.cls m_X5_edgeIs.1 m_X5_edgeIs.1 ∈ lw_tbl := mT2 170 (by decide +kernel)
def m_X5_nodeIs : MI := (yX5_nodeIs, cX5_nodeIs, 4, (some .int), 6, 152)
theorem pn_X5_nodeIs : plainName m_X5_nodeIs.1.cls = true := by decide +kernel
set_option maxRecDepth 20000 in
theorem ck_X5_nodeIs : CK m_X5_nodeIs 2 := ⟨⟨by decide +kernel, by decide +kernel⟩, by decide +kernel, mT2 199 rfl, mT1 1 (by decide +kernel)⟩
theorem iv_X5_nodeIs : Cond.instanceMethod m_X5_nodeIs.1 ∈ lw_tbl := mT2 197 (by decide +kernel)
theorem sl_X5_nodeIs : Cond.selects m_X5_nodeIs.1.cls m_X5_nodeIs.1 m_X5_nodeIs.1 ∈ lw_tbl := mT2 198 (by decide +kernel)
def m_X5_cover : MI := (yX5_cover, cX5_cover, 4, (some .int), 6, 152)
theorem pn_X5_cover : plainName m_X5_cover.1.cls = true := by decide +kernel
set_option maxRecDepth 20000 in
theorem ck_X5_cover : CK m_X5_cover 3 := ⟨⟨by decide +kernel, by decide +kernel⟩, by decide +kernel, mT2 204 rfl, mT1 1 (by decide +kernel)⟩
theorem iv_X5_cover : Cond.instanceMethod m_X5_cover.1 ∈ lw_tbl := mT2 202 (by decide +kernel)
theorem sl_X5_cover : Cond.selects m_X5_cover.1.cls m_X5_cover.1 m_X5_cover.1 ∈ lw_tbl := mT2 203 (by decide +kernel)
def m_X5_hall : MI := (yX5_hall, cX5_hall, 3, (some .int), 6, 152)
theorem pn_X5_hall : plainName m_X5_hall.1.cls = true := by decide +kernel
set_option maxRecDepth 20000 in
theorem ck_X5_hall : CK m_X5_hall 2 := ⟨⟨by decide +kernel, by decide +kernel⟩, by decide +kernel, mT2 214 rfl, mT1 1 (by decide +kernel)⟩
theorem iv_X5_hall : Cond.instanceMethod m_X5_hall.1 ∈ lw_tbl := mT2 212 (by decide +kernel)
theorem sl_X5_hall : Cond.selects m_X5_hall.1.cls m_X5_hall.1 m_X5_hall.1 ∈ lw_tbl := mT2 213 (by decide +kernel)
def m_X5_part : MI := (yX5_part, cX5_part, 3, (some .int), 6, 152)
theorem pn_X5_part : plainName m_X5_part.1.cls = true := by decide +kernel
set_option maxRecDepth 20000 in
theorem ck_X5_part : CK m_X5_part 2 := ⟨⟨by decide +kernel, by decide +kernel⟩, by decide +kernel, mT2 218 rfl, mT1 1 (by decide +kernel)⟩
theorem iv_X5_part : Cond.instanceMethod m_X5_part.1 ∈ lw_tbl := mT2 216 (by decide +kernel)
theorem sl_X5_part : Cond.selects m_X5_part.1.cls m_X5_part.1 m_X5_part.1 ∈ lw_tbl := mT2 217 (by decide +kernel)
def m_X5_block : MI := (yX5_block, cX5_block, 3, (some .int), 6, 152)
theorem pn_X5_block : plainName m_X5_block.1.cls = true := by decide +kernel
set_option maxRecDepth 20000 in
theorem ck_X5_block : CK m_X5_block 2 := ⟨⟨by decide +kernel, by decide +kernel⟩, by decide +kernel, mT2 222 rfl, mT1 1 (by decide +kernel)⟩
theorem iv_X5_block : Cond.instanceMethod m_X5_block.1 ∈ lw_tbl := mT2 220 (by decide +kernel)
theorem sl_X5_block : Cond.selects m_X5_block.1.cls m_X5_block.1 m_X5_block.1 ∈ lw_tbl := mT2 221 (by decide +kernel)
def m_X5_leads : MI := (yX5_leads, cX5_leads, 3, (some .int), 6, 152)
theorem pn_X5_leads : plainName m_X5_leads.1.cls = true := by decide +kernel
set_option maxRecDepth 20000 in
theorem ck_X5_leads : CK m_X5_leads 2 := ⟨⟨by decide +kernel, by decide +kernel⟩, by decide +kernel, mT2 227 rfl, mT1 1 (by decide +kernel)⟩
theorem iv_X5_leads : Cond.instanceMethod m_X5_leads.1 ∈ lw_tbl := mT2 225 (by decide +kernel)
theorem sl_X5_leads : Cond.selects m_X5_leads.1.cls m_X5_leads.1 m_X5_leads.1 ∈ lw_tbl := mT2 226 (by decide +kernel)
def m_X5_pairings : MI := (yX5_pairings, cX5_pairings, 1, (some .long), 6, 152)
theorem pn_X5_pairings : plainName m_X5_pairings.1.cls = true := by decide +kernel
set_option maxRecDepth 20000 in
theorem ck_X5_pairings : CK m_X5_pairings 0 := ⟨⟨by decide +kernel, by decide +kernel⟩, by decide +kernel, mT2 237 rfl, mT1 1 (by decide +kernel)⟩
theorem iv_X5_pairings : Cond.instanceMethod m_X5_pairings.1 ∈ lw_tbl := mT2 235 (by decide +kernel)
theorem sl_X5_pairings : Cond.selects m_X5_pairings.1.cls m_X5_pairings.1 m_X5_pairings.1 ∈ lw_tbl := mT2 236 (by decide +kernel)
def m_X5_thing : MI := (yX5_thing, cX5_thing, 1, (some .int), 2, 42)
theorem pn_X5_thing : plainName m_X5_thing.1.cls = true := by decide +kernel
set_option maxRecDepth 20000 in
theorem ck_X5_thing : CK m_X5_thing 0 := ⟨⟨by decide +kernel, by decide +kernel⟩, by decide +kernel, mT3 47 rfl, mT1 1 (by decide +kernel)⟩
theorem iv_X5_thing : Cond.instanceMethod m_X5_thing.1 ∈ lw_tbl := mT3 45 (by decide +kernel)
theorem sl_X5_thing : Cond.selects m_X5_thing.1.cls m_X5_thing.1 m_X5_thing.1 ∈ lw_tbl := mT3 46 (by decide +kernel)
def m_X5_tell : MI := (yX5_tell, cX5_tell, 7, (some .int), 3, 64)
theorem pn_X5_tell : plainName m_X5_tell.1.cls = true := by decide +kernel
set_option maxRecDepth 20000 in
theorem ck_X5_tell : CK m_X5_tell 2 := ⟨⟨by decide +kernel, by decide +kernel⟩, by decide +kernel, mT3 51 rfl, mT1 1 (by decide +kernel)⟩
theorem iv_X5_tell : Cond.instanceMethod m_X5_tell.1 ∈ lw_tbl := mT3 49 (by decide +kernel)
theorem sl_X5_tell : Cond.selects m_X5_tell.1.cls m_X5_tell.1 m_X5_tell.1 ∈ lw_tbl := mT3 50 (by decide +kernel)
def m_X5_below : MI := (yX5_below, cX5_below, 3, (some .boolean), 3, 64)
theorem pn_X5_below : plainName m_X5_below.1.cls = true := by decide +kernel
set_option maxRecDepth 20000 in
theorem ck_X5_below : CK m_X5_below 2 := ⟨⟨by decide +kernel, by decide +kernel⟩, by decide +kernel, mT3 56 rfl, mT1 1 (by decide +kernel)⟩
theorem iv_X5_below : Cond.instanceMethod m_X5_below.1 ∈ lw_tbl := mT3 54 (by decide +kernel)
theorem sl_X5_below : Cond.selects m_X5_below.1.cls m_X5_below.1 m_X5_below.1 ∈ lw_tbl := mT3 55 (by decide +kernel)
def m_X5_about : MI := (yX5_about, cX5_about, 3, (some .int), 6, 152)
theorem pn_X5_about : plainName m_X5_about.1.cls = true := by decide +kernel
set_option maxRecDepth 20000 in
theorem ck_X5_about : CK m_X5_about 2 := ⟨⟨by decide +kernel, by decide +kernel⟩, by decide +kernel, mT3 60 rfl, mT1 1 (by decide +kernel)⟩
theorem iv_X5_about : Cond.instanceMethod m_X5_about.1 ∈ lw_tbl := mT3 58 (by decide +kernel)
theorem sl_X5_about : Cond.selects m_X5_about.1.cls m_X5_about.1 m_X5_about.1 ∈ lw_tbl := mT3 59 (by decide +kernel)
def m_X5_clearGraph : MI := (yX5_clearGraph, cX5_clearGraph, 2, (some .int), 2, 45)
theorem pn_X5_clearGraph : plainName m_X5_clearGraph.1.cls = true := by decide +kernel
set_option maxRecDepth 20000 in
theorem ck_X5_clearGraph : CK m_X5_clearGraph 0 := ⟨⟨by decide +kernel, by decide +kernel⟩, by decide +kernel, mT3 77 rfl, mT1 1 (by decide +kernel)⟩
theorem iv_X5_clearGraph : Cond.instanceMethod m_X5_clearGraph.1 ∈ lw_tbl := mT3 75 (by decide +kernel)
theorem sl_X5_clearGraph : Cond.selects m_X5_clearGraph.1.cls m_X5_clearGraph.1 m_X5_clearGraph.1 ∈ lw_tbl := mT3 76 (by decide +kernel)
def m_X5_clearThings : MI := (yX5_clearThings, cX5_clearThings, 2, (some .int), 2, 45)
theorem pn_X5_clearThings : plainName m_X5_clearThings.1.cls = true := by decide +kernel
set_option maxRecDepth 20000 in
theorem ck_X5_clearThings : CK m_X5_clearThings 0 := ⟨⟨by decide +kernel, by decide +kernel⟩, by decide +kernel, mT3 88 rfl, mT1 1 (by decide +kernel)⟩
theorem iv_X5_clearThings : Cond.instanceMethod m_X5_clearThings.1 ∈ lw_tbl := mT3 86 (by decide +kernel)
theorem sl_X5_clearThings : Cond.selects m_X5_clearThings.1.cls m_X5_clearThings.1 m_X5_clearThings.1 ∈ lw_tbl := mT3 87 (by decide +kernel)
def m_X5_isOneOfTwo : MI := (yX5_isOneOfTwo, cX5_isOneOfTwo, 1, (some .boolean), 0, 0)
theorem pn_X5_isOneOfTwo : plainName m_X5_isOneOfTwo.1.cls = true := by decide +kernel
set_option maxRecDepth 20000 in
theorem ck_X5_isOneOfTwo : CK m_X5_isOneOfTwo 1 := ⟨⟨by decide +kernel, by decide +kernel⟩, by decide +kernel, mT1 197 rfl, mT1 1 (by decide +kernel)⟩
theorem sv_X5_isOneOfTwo : Cond.static m_X5_isOneOfTwo.1 ∈ lw_tbl := mT1 196 (by decide +kernel)
def m_X5_contains : MI := (yX5_contains, cX5_contains, 3, (some .boolean), 0, 0)
theorem pn_X5_contains : plainName m_X5_contains.1.cls = true := by decide +kernel
set_option maxRecDepth 20000 in
theorem ck_X5_contains : CK m_X5_contains 2 := ⟨⟨by decide +kernel, by decide +kernel⟩, by decide +kernel, mT1 213 rfl, mT1 1 (by decide +kernel)⟩
theorem sv_X5_contains : Cond.static m_X5_contains.1 ∈ lw_tbl := mT1 212 (by decide +kernel)
def m_X5_lowest : MI := (yX5_lowest, cX5_lowest, 2, (some .int), 1, 21)
theorem pn_X5_lowest : plainName m_X5_lowest.1.cls = true := by decide +kernel
set_option maxRecDepth 20000 in
theorem ck_X5_lowest : CK m_X5_lowest 1 := ⟨⟨by decide +kernel, by decide +kernel⟩, by decide +kernel, mT2 42 rfl, mT1 1 (by decide +kernel)⟩
theorem sv_X5_lowest : Cond.static m_X5_lowest.1 ∈ lw_tbl := mT2 41 (by decide +kernel)
def m_X6_init : MI := (yX6_init, cX6_init, 1, none, 1, 20)
theorem pn_X6_init : plainName m_X6_init.1.cls = true := by decide +kernel
set_option maxRecDepth 20000 in
theorem ck_X6_init : CK m_X6_init 0 := ⟨⟨by decide +kernel, by decide +kernel⟩, by decide +kernel, mT3 93 rfl, mT1 7 (by decide +kernel)⟩
theorem iv_X6_init : Cond.instanceMethod m_X6_init.1 ∈ lw_tbl := mT3 92 (by decide +kernel)
def m_X6_use : MI := (yX6_use, cX6_use, 5, none, 0, 0)
theorem pn_X6_use : plainName m_X6_use.1.cls = true := by decide +kernel
set_option maxRecDepth 20000 in
theorem ck_X6_use : CK m_X6_use 3 := ⟨⟨by decide +kernel, by decide +kernel⟩, by decide +kernel, mT4 2 rfl, mT1 7 (by decide +kernel)⟩
theorem iv_X6_use : Cond.instanceMethod m_X6_use.1 ∈ lw_tbl := mT4 1 (by decide +kernel)
theorem sl_X6_use : Cond.selects m_X6_use.1.cls m_X6_use.1 m_X6_use.1 ∈ lw_tbl := mS 27 (by decide +kernel)
def m_X6_begin : MI := (yX6_begin, cX6_begin, 2, none, 0, 0)
theorem pn_X6_begin : plainName m_X6_begin.1.cls = true := by decide +kernel
set_option maxRecDepth 20000 in
theorem ck_X6_begin : CK m_X6_begin 0 := ⟨⟨by decide +kernel, by decide +kernel⟩, by decide +kernel, mT4 14 rfl, mT1 7 (by decide +kernel)⟩
theorem iv_X6_begin : Cond.instanceMethod m_X6_begin.1 ∈ lw_tbl := mT4 13 (by decide +kernel)
theorem sl_X6_begin : Cond.selects m_X6_begin.1.cls m_X6_begin.1 m_X6_begin.1 ∈ lw_tbl := mS 30 (by decide +kernel)
def m_X6_flip : MI := (yX6_flip, cX6_flip, 5, none, 0, 0)
theorem pn_X6_flip : plainName m_X6_flip.1.cls = true := by decide +kernel
set_option maxRecDepth 20000 in
theorem ck_X6_flip : CK m_X6_flip 1 := ⟨⟨by decide +kernel, by decide +kernel⟩, by decide +kernel, mT4 18 rfl, mT1 7 (by decide +kernel)⟩
theorem iv_X6_flip : Cond.instanceMethod m_X6_flip.1 ∈ lw_tbl := mT4 17 (by decide +kernel)
theorem sl_X6_flip : Cond.selects m_X6_flip.1.cls m_X6_flip.1 m_X6_flip.1 ∈ lw_tbl := mS 31 (by decide +kernel)
def m_X6_grow : MI := (yX6_grow, cX6_grow, 4, (some .boolean), 1, 24)
theorem pn_X6_grow : plainName m_X6_grow.1.cls = true := by decide +kernel
set_option maxRecDepth 20000 in
theorem ck_X6_grow : CK m_X6_grow 0 := ⟨⟨by decide +kernel, by decide +kernel⟩, by decide +kernel, mT4 10 rfl, mT1 7 (by decide +kernel)⟩
theorem iv_X6_grow : Cond.instanceMethod m_X6_grow.1 ∈ lw_tbl := mT4 9 (by decide +kernel)
theorem sl_X6_grow : Cond.selects m_X6_grow.1.cls m_X6_grow.1 m_X6_grow.1 ∈ lw_tbl := mS 29 (by decide +kernel)
def m_X6_growAll : MI := (yX6_growAll, cX6_growAll, 2, (some .int), 2, 47)
theorem pn_X6_growAll : plainName m_X6_growAll.1.cls = true := by decide +kernel
set_option maxRecDepth 20000 in
theorem ck_X6_growAll : CK m_X6_growAll 0 := ⟨⟨by decide +kernel, by decide +kernel⟩, by decide +kernel, mT4 6 rfl, mT1 7 (by decide +kernel)⟩
theorem iv_X6_growAll : Cond.instanceMethod m_X6_growAll.1 ∈ lw_tbl := mT4 5 (by decide +kernel)
theorem sl_X6_growAll : Cond.selects m_X6_growAll.1.cls m_X6_growAll.1 m_X6_growAll.1 ∈ lw_tbl := mS 28 (by decide +kernel)
def m_X6_keep : MI := (yX6_keep, cX6_keep, 2, none, 0, 0)
theorem pn_X6_keep : plainName m_X6_keep.1.cls = true := by decide +kernel
set_option maxRecDepth 20000 in
theorem ck_X6_keep : CK m_X6_keep 0 := ⟨⟨by decide +kernel, by decide +kernel⟩, by decide +kernel, mT4 30 rfl, mT1 7 (by decide +kernel)⟩
theorem iv_X6_keep : Cond.instanceMethod m_X6_keep.1 ∈ lw_tbl := mT4 29 (by decide +kernel)
theorem sl_X6_keep : Cond.selects m_X6_keep.1.cls m_X6_keep.1 m_X6_keep.1 ∈ lw_tbl := mS 34 (by decide +kernel)
def m_X6_putBack : MI := (yX6_putBack, cX6_putBack, 2, none, 0, 0)
theorem pn_X6_putBack : plainName m_X6_putBack.1.cls = true := by decide +kernel
set_option maxRecDepth 20000 in
theorem ck_X6_putBack : CK m_X6_putBack 0 := ⟨⟨by decide +kernel, by decide +kernel⟩, by decide +kernel, mT4 34 rfl, mT1 7 (by decide +kernel)⟩
theorem iv_X6_putBack : Cond.instanceMethod m_X6_putBack.1 ∈ lw_tbl := mT4 33 (by decide +kernel)
theorem sl_X6_putBack : Cond.selects m_X6_putBack.1.cls m_X6_putBack.1 m_X6_putBack.1 ∈ lw_tbl := mS 35 (by decide +kernel)
def m_X6_canMiss : MI := (yX6_canMiss, cX6_canMiss, 5, (some .boolean), 2, 47)
theorem pn_X6_canMiss : plainName m_X6_canMiss.1.cls = true := by decide +kernel
set_option maxRecDepth 20000 in
theorem ck_X6_canMiss : CK m_X6_canMiss 2 := ⟨⟨by decide +kernel, by decide +kernel⟩, by decide +kernel, mT4 50 rfl, mT1 7 (by decide +kernel)⟩
theorem iv_X6_canMiss : Cond.instanceMethod m_X6_canMiss.1 ∈ lw_tbl := mT4 49 (by decide +kernel)
theorem sl_X6_canMiss : Cond.selects m_X6_canMiss.1.cls m_X6_canMiss.1 m_X6_canMiss.1 ∈ lw_tbl := mS 39 (by decide +kernel)
def m_X6_force : MI := (yX6_force, cX6_force, 5, (some .boolean), 2, 47)
theorem pn_X6_force : plainName m_X6_force.1.cls = true := by decide +kernel
set_option maxRecDepth 20000 in
theorem ck_X6_force : CK m_X6_force 2 := ⟨⟨by decide +kernel, by decide +kernel⟩, by decide +kernel, mT4 26 rfl, mT1 7 (by decide +kernel)⟩
theorem iv_X6_force : Cond.instanceMethod m_X6_force.1 ∈ lw_tbl := mT4 25 (by decide +kernel)
theorem sl_X6_force : Cond.selects m_X6_force.1.cls m_X6_force.1 m_X6_force.1 ∈ lw_tbl := mS 33 (by decide +kernel)
def m_X6_improve : MI := (yX6_improve, cX6_improve, 4, none, 3, 71)
theorem pn_X6_improve : plainName m_X6_improve.1.cls = true := by decide +kernel
set_option maxRecDepth 20000 in
theorem ck_X6_improve : CK m_X6_improve 0 := ⟨⟨by decide +kernel, by decide +kernel⟩, by decide +kernel, mT4 22 rfl, mT1 7 (by decide +kernel)⟩
theorem iv_X6_improve : Cond.instanceMethod m_X6_improve.1 ∈ lw_tbl := mT4 21 (by decide +kernel)
theorem sl_X6_improve : Cond.selects m_X6_improve.1.cls m_X6_improve.1 m_X6_improve.1 ∈ lw_tbl := mS 32 (by decide +kernel)
def m_X6_work : MI := (yX6_work, cX6_work, 3, none, 4, 94)
theorem pn_X6_work : plainName m_X6_work.1.cls = true := by decide +kernel
set_option maxRecDepth 20000 in
theorem ck_X6_work : CK m_X6_work 0 := ⟨⟨by decide +kernel, by decide +kernel⟩, by decide +kernel, mT4 46 rfl, mT1 7 (by decide +kernel)⟩
theorem iv_X6_work : Cond.instanceMethod m_X6_work.1 ∈ lw_tbl := mT4 45 (by decide +kernel)
theorem sl_X6_work : Cond.selects m_X6_work.1.cls m_X6_work.1 m_X6_work.1 ∈ lw_tbl := mS 38 (by decide +kernel)
def m_X6_parts : MI := (yX6_parts, cX6_parts, 3, none, 0, 0)
theorem pn_X6_parts : plainName m_X6_parts.1.cls = true := by decide +kernel
set_option maxRecDepth 20000 in
theorem ck_X6_parts : CK m_X6_parts 0 := ⟨⟨by decide +kernel, by decide +kernel⟩, by decide +kernel, mT4 54 rfl, mT1 7 (by decide +kernel)⟩
theorem iv_X6_parts : Cond.instanceMethod m_X6_parts.1 ∈ lw_tbl := mT4 53 (by decide +kernel)
theorem sl_X6_parts : Cond.selects m_X6_parts.1.cls m_X6_parts.1 m_X6_parts.1 ∈ lw_tbl := mS 40 (by decide +kernel)
def m_X6_blocks : MI := (yX6_blocks, cX6_blocks, 4, none, 0, 0)
theorem pn_X6_blocks : plainName m_X6_blocks.1.cls = true := by decide +kernel
set_option maxRecDepth 20000 in
theorem ck_X6_blocks : CK m_X6_blocks 0 := ⟨⟨by decide +kernel, by decide +kernel⟩, by decide +kernel, mT4 58 rfl, mT1 7 (by decide +kernel)⟩
theorem iv_X6_blocks : Cond.instanceMethod m_X6_blocks.1 ∈ lw_tbl := mT4 57 (by decide +kernel)
theorem sl_X6_blocks : Cond.selects m_X6_blocks.1.cls m_X6_blocks.1 m_X6_blocks.1 ∈ lw_tbl := mS 41 (by decide +kernel)
def m_X6_isNode : MI := (yX6_isNode, cX6_isNode, 3, (some .boolean), 0, 0)
theorem pn_X6_isNode : plainName m_X6_isNode.1.cls = true := by decide +kernel
set_option maxRecDepth 20000 in
theorem ck_X6_isNode : CK m_X6_isNode 2 := ⟨⟨by decide +kernel, by decide +kernel⟩, by decide +kernel, mT3 226 rfl, mT1 7 (by decide +kernel)⟩
theorem iv_X6_isNode : Cond.instanceMethod m_X6_isNode.1 ∈ lw_tbl := mT3 225 (by decide +kernel)
theorem sl_X6_isNode : Cond.selects m_X6_isNode.1.cls m_X6_isNode.1 m_X6_isNode.1 ∈ lw_tbl := mS 24 (by decide +kernel)
def m_X6_node : MI := (yX6_node, cX6_node, 2, (some .int), 0, 0)
theorem pn_X6_node : plainName m_X6_node.1.cls = true := by decide +kernel
set_option maxRecDepth 20000 in
theorem ck_X6_node : CK m_X6_node 1 := ⟨⟨by decide +kernel, by decide +kernel⟩, by decide +kernel, mT3 218 rfl, mT1 7 (by decide +kernel)⟩
theorem iv_X6_node : Cond.instanceMethod m_X6_node.1 ∈ lw_tbl := mT3 216 (by decide +kernel)
theorem sl_X6_node : Cond.selects m_X6_node.1.cls m_X6_node.1 m_X6_node.1 ∈ lw_tbl := mT3 217 (by decide +kernel)
def m_X6_edge : MI := (yX6_edge, cX6_edge, 5, (some .int), 1, 22)
theorem pn_X6_edge : plainName m_X6_edge.1.cls = true := by decide +kernel
set_option maxRecDepth 20000 in
theorem ck_X6_edge : CK m_X6_edge 3 := ⟨⟨by decide +kernel, by decide +kernel⟩, by decide +kernel, mT3 222 rfl, mT1 7 (by decide +kernel)⟩
theorem iv_X6_edge : Cond.instanceMethod m_X6_edge.1 ∈ lw_tbl := mT3 220 (by decide +kernel)
theorem sl_X6_edge : Cond.selects m_X6_edge.1.cls m_X6_edge.1 m_X6_edge.1 ∈ lw_tbl := mT3 221 (by decide +kernel)
def m_X6_edgesMany : MI := (yX6_edgesMany, cX6_edgesMany, 3, (some .int), 0, 0)
theorem pn_X6_edgesMany : plainName m_X6_edgesMany.1.cls = true := by decide +kernel
set_option maxRecDepth 20000 in
theorem ck_X6_edgesMany : CK m_X6_edgesMany 0 := ⟨⟨by decide +kernel, by decide +kernel⟩, by decide +kernel, mT4 62 rfl, mT1 7 (by decide +kernel)⟩
theorem iv_X6_edgesMany : Cond.instanceMethod m_X6_edgesMany.1 ∈ lw_tbl := mT4 61 (by decide +kernel)
theorem sl_X6_edgesMany : Cond.selects m_X6_edgesMany.1.cls m_X6_edgesMany.1 m_X6_edgesMany.1 ∈ lw_tbl := mS 42 (by decide +kernel)
def m_X6_inPart : MI := (yX6_inPart, cX6_inPart, 4, (some .int), 0, 0)
theorem pn_X6_inPart : plainName m_X6_inPart.1.cls = true := by decide +kernel
set_option maxRecDepth 20000 in
theorem ck_X6_inPart : CK m_X6_inPart 1 := ⟨⟨by decide +kernel, by decide +kernel⟩, by decide +kernel, mT4 66 rfl, mT1 7 (by decide +kernel)⟩
theorem iv_X6_inPart : Cond.instanceMethod m_X6_inPart.1 ∈ lw_tbl := mT4 65 (by decide +kernel)
theorem sl_X6_inPart : Cond.selects m_X6_inPart.1.cls m_X6_inPart.1 m_X6_inPart.1 ∈ lw_tbl := mS 43 (by decide +kernel)
def m_X6_count : MI := (yX6_count, cX6_count, 4, (some .int), 5, 117)
theorem pn_X6_count : plainName m_X6_count.1.cls = true := by decide +kernel
set_option maxRecDepth 20000 in
theorem ck_X6_count : CK m_X6_count 1 := ⟨⟨by decide +kernel, by decide +kernel⟩, by decide +kernel, mT3 230 rfl, mT1 7 (by decide +kernel)⟩
theorem iv_X6_count : Cond.instanceMethod m_X6_count.1 ∈ lw_tbl := mT3 228 (by decide +kernel)
theorem sl_X6_count : Cond.selects m_X6_count.1.cls m_X6_count.1 m_X6_count.1 ∈ lw_tbl := mT3 229 (by decide +kernel)
def m_X6_has : MI := (yX6_has, cX6_has, 3, (some .boolean), 1, 22)
theorem pn_X6_has : plainName m_X6_has.1.cls = true := by decide +kernel
set_option maxRecDepth 20000 in
theorem ck_X6_has : CK m_X6_has 2 := ⟨⟨by decide +kernel, by decide +kernel⟩, by decide +kernel, mT4 70 rfl, mT1 7 (by decide +kernel)⟩
theorem iv_X6_has : Cond.instanceMethod m_X6_has.1 ∈ lw_tbl := mT4 68 (by decide +kernel)
theorem sl_X6_has : Cond.selects m_X6_has.1.cls m_X6_has.1 m_X6_has.1 ∈ lw_tbl := mT4 69 (by decide +kernel)
def m_X6_partner : MI := (yX6_partner, cX6_partner, 4, (some .int), 5, 116)
theorem pn_X6_partner : plainName m_X6_partner.1.cls = true := by decide +kernel
set_option maxRecDepth 20000 in
theorem ck_X6_partner : CK m_X6_partner 2 := ⟨⟨by decide +kernel, by decide +kernel⟩, by decide +kernel, mT4 74 rfl, mT1 7 (by decide +kernel)⟩
theorem iv_X6_partner : Cond.instanceMethod m_X6_partner.1 ∈ lw_tbl := mT4 72 (by decide +kernel)
theorem sl_X6_partner : Cond.selects m_X6_partner.1.cls m_X6_partner.1 m_X6_partner.1 ∈ lw_tbl := mT4 73 (by decide +kernel)
def m_X6_edgeIs : MI := (yX6_edgeIs, cX6_edgeIs, 4, (some .int), 5, 116)
theorem pn_X6_edgeIs : plainName m_X6_edgeIs.1.cls = true := by decide +kernel
set_option maxRecDepth 20000 in
theorem ck_X6_edgeIs : CK m_X6_edgeIs 2 := ⟨⟨by decide +kernel, by decide +kernel⟩, by decide +kernel, mT4 78 rfl, mT1 7 (by decide +kernel)⟩
theorem iv_X6_edgeIs : Cond.instanceMethod m_X6_edgeIs.1 ∈ lw_tbl := mT4 76 (by decide +kernel)
theorem sl_X6_edgeIs : Cond.selects m_X6_edgeIs.1.cls m_X6_edgeIs.1 m_X6_edgeIs.1 ∈ lw_tbl := mT4 77 (by decide +kernel)
def m_X6_nodeIs : MI := (yX6_nodeIs, cX6_nodeIs, 3, (some .int), 5, 116)
theorem pn_X6_nodeIs : plainName m_X6_nodeIs.1.cls = true := by decide +kernel
set_option maxRecDepth 20000 in
theorem ck_X6_nodeIs : CK m_X6_nodeIs 2 := ⟨⟨by decide +kernel, by decide +kernel⟩, by decide +kernel, mT4 83 rfl, mT1 7 (by decide +kernel)⟩
theorem iv_X6_nodeIs : Cond.instanceMethod m_X6_nodeIs.1 ∈ lw_tbl := mT4 81 (by decide +kernel)
theorem sl_X6_nodeIs : Cond.selects m_X6_nodeIs.1.cls m_X6_nodeIs.1 m_X6_nodeIs.1 ∈ lw_tbl := mT4 82 (by decide +kernel)
def m_X6_meetsMissed : MI := (yX6_meetsMissed, cX6_meetsMissed, 6, (some .boolean), 0, 0)
theorem pn_X6_meetsMissed : plainName m_X6_meetsMissed.1.cls = true := by decide +kernel
set_option maxRecDepth 20000 in
theorem ck_X6_meetsMissed : CK m_X6_meetsMissed 2 := ⟨⟨by decide +kernel, by decide +kernel⟩, by decide +kernel, mT4 95 rfl, mT1 7 (by decide +kernel)⟩
theorem iv_X6_meetsMissed : Cond.instanceMethod m_X6_meetsMissed.1 ∈ lw_tbl := mT4 94 (by decide +kernel)
theorem sl_X6_meetsMissed : Cond.selects m_X6_meetsMissed.1.cls m_X6_meetsMissed.1 m_X6_meetsMissed.1 ∈ lw_tbl := mS 45 (by decide +kernel)
def m_X6_covers : MI := (yX6_covers, cX6_covers, 4, (some .boolean), 1, 25)
theorem pn_X6_covers : plainName m_X6_covers.1.cls = true := by decide +kernel
set_option maxRecDepth 20000 in
theorem ck_X6_covers : CK m_X6_covers 3 := ⟨⟨by decide +kernel, by decide +kernel⟩, by decide +kernel, mT4 91 rfl, mT1 7 (by decide +kernel)⟩
theorem iv_X6_covers : Cond.instanceMethod m_X6_covers.1 ∈ lw_tbl := mT4 90 (by decide +kernel)
theorem sl_X6_covers : Cond.selects m_X6_covers.1.cls m_X6_covers.1 m_X6_covers.1 ∈ lw_tbl := mS 44 (by decide +kernel)
def m_X6_cover : MI := (yX6_cover, cX6_cover, 4, (some .int), 5, 116)
theorem pn_X6_cover : plainName m_X6_cover.1.cls = true := by decide +kernel
set_option maxRecDepth 20000 in
theorem ck_X6_cover : CK m_X6_cover 3 := ⟨⟨by decide +kernel, by decide +kernel⟩, by decide +kernel, mT4 87 rfl, mT1 7 (by decide +kernel)⟩
theorem iv_X6_cover : Cond.instanceMethod m_X6_cover.1 ∈ lw_tbl := mT4 85 (by decide +kernel)
theorem sl_X6_cover : Cond.selects m_X6_cover.1.cls m_X6_cover.1 m_X6_cover.1 ∈ lw_tbl := mT4 86 (by decide +kernel)
def m_X6_hall : MI := (yX6_hall, cX6_hall, 3, (some .int), 5, 116)
theorem pn_X6_hall : plainName m_X6_hall.1.cls = true := by decide +kernel
set_option maxRecDepth 20000 in
theorem ck_X6_hall : CK m_X6_hall 2 := ⟨⟨by decide +kernel, by decide +kernel⟩, by decide +kernel, mT4 99 rfl, mT1 7 (by decide +kernel)⟩
theorem iv_X6_hall : Cond.instanceMethod m_X6_hall.1 ∈ lw_tbl := mT4 97 (by decide +kernel)
theorem sl_X6_hall : Cond.selects m_X6_hall.1.cls m_X6_hall.1 m_X6_hall.1 ∈ lw_tbl := mT4 98 (by decide +kernel)
def m_X6_part : MI := (yX6_part, cX6_part, 3, (some .int), 5, 116)
theorem pn_X6_part : plainName m_X6_part.1.cls = true := by decide +kernel
set_option maxRecDepth 20000 in
theorem ck_X6_part : CK m_X6_part 2 := ⟨⟨by decide +kernel, by decide +kernel⟩, by decide +kernel, mT4 103 rfl, mT1 7 (by decide +kernel)⟩
theorem iv_X6_part : Cond.instanceMethod m_X6_part.1 ∈ lw_tbl := mT4 101 (by decide +kernel)
theorem sl_X6_part : Cond.selects m_X6_part.1.cls m_X6_part.1 m_X6_part.1 ∈ lw_tbl := mT4 102 (by decide +kernel)
def m_X6_block : MI := (yX6_block, cX6_block, 4, (some .int), 5, 116)
theorem pn_X6_block : plainName m_X6_block.1.cls = true := by decide +kernel
set_option maxRecDepth 20000 in
theorem ck_X6_block : CK m_X6_block 2 := ⟨⟨by decide +kernel, by decide +kernel⟩, by decide +kernel, mT4 107 rfl, mT1 7 (by decide +kernel)⟩
theorem iv_X6_block : Cond.instanceMethod m_X6_block.1 ∈ lw_tbl := mT4 105 (by decide +kernel)
theorem sl_X6_block : Cond.selects m_X6_block.1.cls m_X6_block.1 m_X6_block.1 ∈ lw_tbl := mT4 106 (by decide +kernel)
def m_X6_leads : MI := (yX6_leads, cX6_leads, 6, (some .int), 5, 116)
theorem pn_X6_leads : plainName m_X6_leads.1.cls = true := by decide +kernel
set_option maxRecDepth 20000 in
theorem ck_X6_leads : CK m_X6_leads 2 := ⟨⟨by decide +kernel, by decide +kernel⟩, by decide +kernel, mT4 111 rfl, mT1 7 (by decide +kernel)⟩
theorem iv_X6_leads : Cond.instanceMethod m_X6_leads.1 ∈ lw_tbl := mT4 109 (by decide +kernel)
theorem sl_X6_leads : Cond.selects m_X6_leads.1.cls m_X6_leads.1 m_X6_leads.1 ∈ lw_tbl := mT4 110 (by decide +kernel)
def m_X6_bits : MI := (yX6_bits, cX6_bits, 3, (some .int), 0, 0)
theorem pn_X6_bits : plainName m_X6_bits.1.cls = true := by decide +kernel
set_option maxRecDepth 20000 in
theorem ck_X6_bits : CK m_X6_bits 1 := ⟨⟨by decide +kernel, by decide +kernel⟩, by decide +kernel, mT4 119 rfl, mT1 7 (by decide +kernel)⟩
theorem sv_X6_bits : Cond.static m_X6_bits.1 ∈ lw_tbl := mT4 118 (by decide +kernel)
def m_X6_pairings : MI := (yX6_pairings, cX6_pairings, 5, (some .long), 5, 116)
theorem pn_X6_pairings : plainName m_X6_pairings.1.cls = true := by decide +kernel
set_option maxRecDepth 20000 in
theorem ck_X6_pairings : CK m_X6_pairings 0 := ⟨⟨by decide +kernel, by decide +kernel⟩, by decide +kernel, mT4 115 rfl, mT1 7 (by decide +kernel)⟩
theorem iv_X6_pairings : Cond.instanceMethod m_X6_pairings.1 ∈ lw_tbl := mT4 113 (by decide +kernel)
theorem sl_X6_pairings : Cond.selects m_X6_pairings.1.cls m_X6_pairings.1 m_X6_pairings.1 ∈ lw_tbl := mT4 114 (by decide +kernel)
def m_X6_thing : MI := (yX6_thing, cX6_thing, 1, (some .int), 0, 0)
theorem pn_X6_thing : plainName m_X6_thing.1.cls = true := by decide +kernel
set_option maxRecDepth 20000 in
theorem ck_X6_thing : CK m_X6_thing 0 := ⟨⟨by decide +kernel, by decide +kernel⟩, by decide +kernel, mT4 123 rfl, mT1 7 (by decide +kernel)⟩
theorem iv_X6_thing : Cond.instanceMethod m_X6_thing.1 ∈ lw_tbl := mT4 121 (by decide +kernel)
theorem sl_X6_thing : Cond.selects m_X6_thing.1.cls m_X6_thing.1 m_X6_thing.1 ∈ lw_tbl := mT4 122 (by decide +kernel)
def m_X6_tell : MI := (yX6_tell, cX6_tell, 5, (some .int), 0, 0)
theorem pn_X6_tell : plainName m_X6_tell.1.cls = true := by decide +kernel
set_option maxRecDepth 20000 in
theorem ck_X6_tell : CK m_X6_tell 2 := ⟨⟨by decide +kernel, by decide +kernel⟩, by decide +kernel, mT4 127 rfl, mT1 7 (by decide +kernel)⟩
theorem iv_X6_tell : Cond.instanceMethod m_X6_tell.1 ∈ lw_tbl := mT4 125 (by decide +kernel)
theorem sl_X6_tell : Cond.selects m_X6_tell.1.cls m_X6_tell.1 m_X6_tell.1 ∈ lw_tbl := mT4 126 (by decide +kernel)
def m_X6_below : MI := (yX6_below, cX6_below, 3, (some .boolean), 0, 0)
theorem pn_X6_below : plainName m_X6_below.1.cls = true := by decide +kernel
set_option maxRecDepth 20000 in
theorem ck_X6_below : CK m_X6_below 2 := ⟨⟨by decide +kernel, by decide +kernel⟩, by decide +kernel, mT4 131 rfl, mT1 7 (by decide +kernel)⟩
theorem iv_X6_below : Cond.instanceMethod m_X6_below.1 ∈ lw_tbl := mT4 129 (by decide +kernel)
theorem sl_X6_below : Cond.selects m_X6_below.1.cls m_X6_below.1 m_X6_below.1 ∈ lw_tbl := mT4 130 (by decide +kernel)
def m_X6_widthBeside : MI := (yX6_widthBeside, cX6_widthBeside, 4, (some .int), 3, 68)
theorem pn_X6_widthBeside : plainName m_X6_widthBeside.1.cls = true := by decide +kernel
set_option maxRecDepth 20000 in
theorem ck_X6_widthBeside : CK m_X6_widthBeside 1 := ⟨⟨by decide +kernel, by decide +kernel⟩, by decide +kernel, mT3 238 rfl, mT1 7 (by decide +kernel)⟩
theorem iv_X6_widthBeside : Cond.instanceMethod m_X6_widthBeside.1 ∈ lw_tbl := mT3 237 (by decide +kernel)
theorem sl_X6_widthBeside : Cond.selects m_X6_widthBeside.1.cls m_X6_widthBeside.1 m_X6_widthBeside.1 ∈ lw_tbl := mS 26 (by decide +kernel)
def m_X6_workThings : MI := (yX6_workThings, cX6_workThings, 4, none, 4, 94)
theorem pn_X6_workThings : plainName m_X6_workThings.1.cls = true := by decide +kernel
set_option maxRecDepth 20000 in
theorem ck_X6_workThings : CK m_X6_workThings 0 := ⟨⟨by decide +kernel, by decide +kernel⟩, by decide +kernel, mT3 234 rfl, mT1 7 (by decide +kernel)⟩
theorem iv_X6_workThings : Cond.instanceMethod m_X6_workThings.1 ∈ lw_tbl := mT3 233 (by decide +kernel)
theorem sl_X6_workThings : Cond.selects m_X6_workThings.1.cls m_X6_workThings.1 m_X6_workThings.1 ∈ lw_tbl := mS 25 (by decide +kernel)
def m_X6_levels : MI := (yX6_levels, cX6_levels, 4, none, 0, 0)
theorem pn_X6_levels : plainName m_X6_levels.1.cls = true := by decide +kernel
set_option maxRecDepth 20000 in
theorem ck_X6_levels : CK m_X6_levels 0 := ⟨⟨by decide +kernel, by decide +kernel⟩, by decide +kernel, mT4 38 rfl, mT1 7 (by decide +kernel)⟩
theorem iv_X6_levels : Cond.instanceMethod m_X6_levels.1 ∈ lw_tbl := mT4 37 (by decide +kernel)
theorem sl_X6_levels : Cond.selects m_X6_levels.1.cls m_X6_levels.1 m_X6_levels.1 ∈ lw_tbl := mS 36 (by decide +kernel)
def m_X6_ends : MI := (yX6_ends, cX6_ends, 3, none, 0, 0)
theorem pn_X6_ends : plainName m_X6_ends.1.cls = true := by decide +kernel
set_option maxRecDepth 20000 in
theorem ck_X6_ends : CK m_X6_ends 0 := ⟨⟨by decide +kernel, by decide +kernel⟩, by decide +kernel, mT4 42 rfl, mT1 7 (by decide +kernel)⟩
theorem iv_X6_ends : Cond.instanceMethod m_X6_ends.1 ∈ lw_tbl := mT4 41 (by decide +kernel)
theorem sl_X6_ends : Cond.selects m_X6_ends.1.cls m_X6_ends.1 m_X6_ends.1 ∈ lw_tbl := mS 37 (by decide +kernel)
def m_X6_about : MI := (yX6_about, cX6_about, 3, (some .int), 5, 117)
theorem pn_X6_about : plainName m_X6_about.1.cls = true := by decide +kernel
set_option maxRecDepth 20000 in
theorem ck_X6_about : CK m_X6_about 2 := ⟨⟨by decide +kernel, by decide +kernel⟩, by decide +kernel, mT4 135 rfl, mT1 7 (by decide +kernel)⟩
theorem iv_X6_about : Cond.instanceMethod m_X6_about.1 ∈ lw_tbl := mT4 133 (by decide +kernel)
theorem sl_X6_about : Cond.selects m_X6_about.1.cls m_X6_about.1 m_X6_about.1 ∈ lw_tbl := mT4 134 (by decide +kernel)
def m_X6_clearGraph : MI := (yX6_clearGraph, cX6_clearGraph, 3, (some .int), 0, 0)
theorem pn_X6_clearGraph : plainName m_X6_clearGraph.1.cls = true := by decide +kernel
set_option maxRecDepth 20000 in
theorem ck_X6_clearGraph : CK m_X6_clearGraph 0 := ⟨⟨by decide +kernel, by decide +kernel⟩, by decide +kernel, mT4 139 rfl, mT1 7 (by decide +kernel)⟩
theorem iv_X6_clearGraph : Cond.instanceMethod m_X6_clearGraph.1 ∈ lw_tbl := mT4 137 (by decide +kernel)
theorem sl_X6_clearGraph : Cond.selects m_X6_clearGraph.1.cls m_X6_clearGraph.1 m_X6_clearGraph.1 ∈ lw_tbl := mT4 138 (by decide +kernel)
def m_X6_clearThings : MI := (yX6_clearThings, cX6_clearThings, 3, (some .int), 0, 0)
theorem pn_X6_clearThings : plainName m_X6_clearThings.1.cls = true := by decide +kernel
set_option maxRecDepth 20000 in
theorem ck_X6_clearThings : CK m_X6_clearThings 0 := ⟨⟨by decide +kernel, by decide +kernel⟩, by decide +kernel, mT4 143 rfl, mT1 7 (by decide +kernel)⟩
theorem iv_X6_clearThings : Cond.instanceMethod m_X6_clearThings.1 ∈ lw_tbl := mT4 141 (by decide +kernel)
theorem sl_X6_clearThings : Cond.selects m_X6_clearThings.1.cls m_X6_clearThings.1 m_X6_clearThings.1 ∈ lw_tbl := mT4 142 (by decide +kernel)
def m_J6_bitCount_0f7a4 : MI := (yJ6_bitCount_0f7a4, cJ6_bitCount_0f7a4, 1, (some .int), 0, 0)
theorem pn_J6_bitCount_0f7a4 : plainName m_J6_bitCount_0f7a4.1.cls = true := by decide +kernel
set_option maxRecDepth 20000 in
theorem ck_J6_bitCount_0f7a4 : CK m_J6_bitCount_0f7a4 1 := ⟨⟨by decide +kernel, by decide +kernel⟩, by decide +kernel, mT3 36 rfl, mT1 11 (by decide +kernel)⟩
theorem sv_J6_bitCount_0f7a4 : Cond.static m_J6_bitCount_0f7a4.1 ∈ lw_tbl := mT3 35 (by decide +kernel)
def m_J13_bitCount_95d88 : MI := (yJ13_bitCount_95d88, cJ13_bitCount_95d88, 2, (some .int), 0, 0)
theorem pn_J13_bitCount_95d88 : plainName m_J13_bitCount_95d88.1.cls = true := by decide +kernel
set_option maxRecDepth 20000 in
theorem ck_J13_bitCount_95d88 : CK m_J13_bitCount_95d88 1 := ⟨⟨by decide +kernel, by decide +kernel⟩, by decide +kernel, mT1 237 rfl, mT1 8 (by decide +kernel)⟩
theorem sv_J13_bitCount_95d88 : Cond.static m_J13_bitCount_95d88.1 ∈ lw_tbl := mT1 236 (by decide +kernel)
def m_J9_min_7cf53 : MI := (yJ9_min_7cf53, cJ9_min_7cf53, 2, (some .int), 0, 0)
set_option maxRecDepth 20000 in
theorem ck_J9_min_7cf53 : CK m_J9_min_7cf53 2 := ⟨⟨by decide +kernel, by decide +kernel⟩, by decide +kernel, mT3 11 rfl, mT1 10 (by decide +kernel)⟩
theorem sv_J9_min_7cf53 : Cond.static m_J9_min_7cf53.1 ∈ lw_tbl := mT3 10 (by decide +kernel)
def m_J7_fill_d0a16 : MI := (yJ7_fill_d0a16, cJ7_fill_d0a16, 5, none, 0, 0)
theorem pn_J7_fill_d0a16 : plainName m_J7_fill_d0a16.1.cls = true := by decide +kernel
set_option maxRecDepth 20000 in
theorem ck_J7_fill_d0a16 : CK m_J7_fill_d0a16 2 := ⟨⟨by decide +kernel, by decide +kernel⟩, by decide +kernel, mT3 84 rfl, mT1 9 (by decide +kernel)⟩
theorem sv_J7_fill_d0a16 : Cond.static m_J7_fill_d0a16.1 ∈ lw_tbl := mT3 83 (by decide +kernel)
def m_J7_fill_53178 : MI := (yJ7_fill_53178, cJ7_fill_53178, 4, none, 0, 0)
theorem pn_J7_fill_53178 : plainName m_J7_fill_53178.1.cls = true := by decide +kernel
set_option maxRecDepth 20000 in
theorem ck_J7_fill_53178 : CK m_J7_fill_53178 2 := ⟨⟨by decide +kernel, by decide +kernel⟩, by decide +kernel, mT2 15 rfl, mT1 9 (by decide +kernel)⟩
theorem sv_J7_fill_53178 : Cond.static m_J7_fill_53178.1 ∈ lw_tbl := mT2 14 (by decide +kernel)
theorem lk_RX5_1 : Cond.methodLink RX5 1 objectInit ∈ lw_tbl := mT1 17 (by decide +kernel)
theorem lk_RX5_11 : Cond.methodLink RX5 11 m_X1_init.1 ∈ lw_tbl := mT1 22 (by decide +kernel)
theorem lk_RX5_20 : Cond.methodLink RX5 20 m_X3_init.1 ∈ lw_tbl := mT1 45 (by decide +kernel)
theorem lk_RX5_29 : Cond.methodLink RX5 29 m_X0_init.1 ∈ lw_tbl := mT1 86 (by decide +kernel)
theorem lk_RX5_38 : Cond.methodLink RX5 38 m_X4_init.1 ∈ lw_tbl := mT1 114 (by decide +kernel)
theorem lk_RX5_53 : Cond.methodLink RX5 53 m_X2_init.1 ∈ lw_tbl := mT1 142 (by decide +kernel)
theorem lk_RX5_58 : Cond.methodLink RX5 58 m_X1_add.1 ∈ lw_tbl := mT1 191 (by decide +kernel)
theorem lk_RX5_62 : Cond.methodLink RX5 62 m_X1_holds.1 ∈ lw_tbl := mT1 202 (by decide +kernel)
theorem lk_RX5_66 : Cond.methodLink RX5 66 m_X1_joins.1 ∈ lw_tbl := mT1 206 (by decide +kernel)
theorem lk_RX5_69 : Cond.methodLink RX5 69 m_X1_joinAll.1 ∈ lw_tbl := mT1 214 (by decide +kernel)
theorem lk_RX5_73 : Cond.methodLink RX5 73 m_X1_unjoin.1 ∈ lw_tbl := mT1 218 (by decide +kernel)
theorem lk_RX5_77 : Cond.methodLink RX5 77 m_X1_sizeOf.1 ∈ lw_tbl := mT1 227 (by decide +kernel)
theorem lk_RX5_80 : Cond.methodLink RX5 80 m_X1_edges.1 ∈ lw_tbl := mT1 231 (by decide +kernel)
theorem lk_RX5_84 : Cond.methodLink RX5 84 m_X3_refresh.1 ∈ lw_tbl := mT2 1 (by decide +kernel)
theorem lk_RX5_87 : Cond.methodLink RX5 87 m_X2_refresh.1 ∈ lw_tbl := mT2 81 (by decide +kernel)
theorem lk_RX5_88 : Cond.methodLink RX5 88 m_X3_pairs.1 ∈ lw_tbl := mT2 113 (by decide +kernel)
theorem lk_RX5_91 : Cond.methodLink RX5 91 m_X2_howManyLevels.1 ∈ lw_tbl := mT2 117 (by decide +kernel)
theorem lk_RX5_94 : Cond.methodLink RX5 94 m_X0_refresh.1 ∈ lw_tbl := mT2 121 (by decide +kernel)
theorem lk_RX5_95 : Cond.methodLink RX5 95 m_X5_countFindings.1 ∈ lw_tbl := mT2 147 (by decide +kernel)
theorem lk_RX5_98 : Cond.methodLink RX5 98 m_X3_nodesInPart.1 ∈ lw_tbl := mT2 151 (by decide +kernel)
theorem lk_RX5_101 : Cond.methodLink RX5 101 m_X0_howMany.1 ∈ lw_tbl := mT2 155 (by decide +kernel)
theorem lk_RX5_104 : Cond.methodLink RX5 104 m_X3_mateOf.1 ∈ lw_tbl := mT2 167 (by decide +kernel)
theorem lk_RX5_108 : Cond.methodLink RX5 108 m_X0_usefulRights.1 ∈ lw_tbl := mT2 172 (by decide +kernel)
theorem lk_RX5_112 : Cond.methodLink RX5 112 m_X5_contains.1 ∈ lw_tbl := mT2 190 (by decide +kernel)
theorem lk_RX5_116 : Cond.methodLink RX5 116 m_X0_isLonePair.1 ∈ lw_tbl := mT2 191 (by decide +kernel)
theorem lk_RX5_120 : Cond.methodLink RX5 120 m_X3_partOf.1 ∈ lw_tbl := mT2 200 (by decide +kernel)
theorem lk_RX5_123 : Cond.methodLink RX5 123 m_X5_isOneOfTwo.1 ∈ lw_tbl := mT2 205 (by decide +kernel)
theorem lk_RX5_126 : Cond.methodLink RX5 126 m_X3_isInCover.1 ∈ lw_tbl := mT2 206 (by decide +kernel)
theorem lk_RX5_130 : Cond.methodLink RX5 130 m_X0_numberOf.1 ∈ lw_tbl := mT2 223 (by decide +kernel)
theorem lk_RX5_133 : Cond.methodLink RX5 133 m_X0_holds.1 ∈ lw_tbl := mT2 228 (by decide +kernel)
theorem lk_RX5_135 : Cond.methodLink RX5 135 m_X0_comesTo.1 ∈ lw_tbl := mT2 229 (by decide +kernel)
theorem lk_RX5_140 : Cond.methodLink RX5 140 m_X4_refresh.1 ∈ lw_tbl := mT2 239 (by decide +kernel)
theorem lk_RX5_141 : Cond.methodLink RX5 141 m_X4_total.1 ∈ lw_tbl := mT3 40 (by decide +kernel)
theorem lk_RX5_145 : Cond.methodLink RX5 145 m_X1_across.1 ∈ lw_tbl := mT3 52 (by decide +kernel)
theorem lk_RX5_149 : Cond.methodLink RX5 149 m_X2_chainOf.1 ∈ lw_tbl := mT3 61 (by decide +kernel)
theorem lk_RX5_152 : Cond.methodLink RX5 152 m_X2_levelOf.1 ∈ lw_tbl := mT3 65 (by decide +kernel)
theorem lk_RX5_155 : Cond.methodLink RX5 155 m_X2_isInAntichain.1 ∈ lw_tbl := mT3 69 (by decide +kernel)
theorem lk_RX5_158 : Cond.methodLink RX5 158 m_X1_clear.1 ∈ lw_tbl := mT3 78 (by decide +kernel)
theorem lk_RX5_161 : Cond.methodLink RX5 161 m_J13_bitCount_95d88.1 ∈ lw_tbl := mT2 43 (by decide +kernel)
theorem lk_RX0_3 : Cond.methodLink RX0 3 objectInit ∈ lw_tbl := mT1 89 (by decide +kernel)
theorem lk_RX0_37 : Cond.methodLink RX0 37 m_X1_changes.1 ∈ lw_tbl := mT2 125 (by decide +kernel)
theorem lk_RX0_43 : Cond.methodLink RX0 43 m_X0_findReached.1 ∈ lw_tbl := mT2 126 (by decide +kernel)
theorem lk_RX0_46 : Cond.methodLink RX0 46 m_X0_numberAll.1 ∈ lw_tbl := mT2 138 (by decide +kernel)
theorem lk_RX0_49 : Cond.methodLink RX0 49 m_X3_mateOf.1 ∈ lw_tbl := mT2 180 (by decide +kernel)
theorem lk_RX0_55 : Cond.methodLink RX0 55 m_X1_holds.1 ∈ lw_tbl := mT2 181 (by decide +kernel)
theorem lk_RX0_59 : Cond.methodLink RX0 59 m_X0_holds.1 ∈ lw_tbl := mT2 182 (by decide +kernel)
theorem lk_RX0_62 : Cond.methodLinkNest RX0 62 m_X5_lowest.1 "PairBench" ∈ lw_tbl := mT2 233 (by decide +kernel)
theorem lk_RX0_66 : Cond.methodLink RX0 66 m_X0_numberOf.1 ∈ lw_tbl := mT2 176 (by decide +kernel)
theorem lk_RX0_69 : Cond.methodLink RX0 69 m_J13_bitCount_95d88.1 ∈ lw_tbl := mT2 195 (by decide +kernel)
theorem lk_RX0_74 : Cond.methodLink RX0 74 m_X3_matesOf.1 ∈ lw_tbl := mT2 137 (by decide +kernel)
theorem lk_RX0_78 : Cond.methodLink RX0 78 m_X3_partOf.1 ∈ lw_tbl := mT2 186 (by decide +kernel)
theorem lk_RX0_81 : Cond.methodLink RX0 81 m_X3_nodesOfPart.1 ∈ lw_tbl := mT2 131 (by decide +kernel)
theorem lk_RX0_85 : Cond.methodLink RX0 85 m_X1_across.1 ∈ lw_tbl := mT2 136 (by decide +kernel)
theorem lk_RX0_88 : Cond.methodLink RX0 88 m_X1_sizeOf.1 ∈ lw_tbl := mT2 130 (by decide +kernel)
theorem lk_RX0_92 : Cond.methodLinkNest RX0 92 m_X5_contains.1 "PairBench" ∈ lw_tbl := mT2 135 (by decide +kernel)
theorem lk_RX0_96 : Cond.methodLink RX0 96 m_J7_fill_53178.1 ∈ lw_tbl := mT2 142 (by decide +kernel)
theorem lk_RX0_102 : Cond.methodLink RX0 102 m_X0_gather.1 ∈ lw_tbl := mT2 143 (by decide +kernel)
theorem lk_RX1_3 : Cond.methodLink RX1 3 objectInit ∈ lw_tbl := mT1 25 (by decide +kernel)
theorem lk_RX1_27 : Cond.methodLinkNest RX1 27 m_X5_isOneOfTwo.1 "PairBench" ∈ lw_tbl := mT1 195 (by decide +kernel)
theorem lk_RX1_31 : Cond.methodLink RX1 31 m_X1_holds.1 ∈ lw_tbl := mT1 210 (by decide +kernel)
theorem lk_RX1_35 : Cond.methodLinkNest RX1 35 m_X5_contains.1 "PairBench" ∈ lw_tbl := mT1 211 (by decide +kernel)
theorem lk_RX1_39 : Cond.methodLink RX1 39 m_X1_sizeOf.1 ∈ lw_tbl := mT2 68 (by decide +kernel)
theorem lk_RX1_43 : Cond.methodLink RX1 43 m_J13_bitCount_95d88.1 ∈ lw_tbl := mT1 235 (by decide +kernel)
theorem lk_RX1_51 : Cond.methodLink RX1 51 m_J7_fill_d0a16.1 ∈ lw_tbl := mT3 82 (by decide +kernel)
theorem lk_RX2_3 : Cond.methodLink RX2 3 objectInit ∈ lw_tbl := mT1 145 (by decide +kernel)
theorem lk_RX2_33 : Cond.methodLink RX2 33 m_X1_changes.1 ∈ lw_tbl := mT2 85 (by decide +kernel)
theorem lk_RX2_39 : Cond.methodLink RX2 39 m_X2_findLevels.1 ∈ lw_tbl := mT2 86 (by decide +kernel)
theorem lk_RX2_42 : Cond.methodLink RX2 42 m_X2_findChains.1 ∈ lw_tbl := mT2 99 (by decide +kernel)
theorem lk_RX2_45 : Cond.methodLink RX2 45 m_X1_holds.1 ∈ lw_tbl := mT2 112 (by decide +kernel)
theorem lk_RX2_49 : Cond.methodLink RX2 49 m_X3_isInCover.1 ∈ lw_tbl := mT3 73 (by decide +kernel)
theorem lk_RX2_55 : Cond.methodLink RX2 55 m_X1_all.1 ∈ lw_tbl := mT2 90 (by decide +kernel)
theorem lk_RX2_59 : Cond.methodLink RX2 59 m_X2_bottomOf.1 ∈ lw_tbl := mT2 91 (by decide +kernel)
theorem lk_RX2_63 : Cond.methodLink RX2 63 m_X1_sizeOf.1 ∈ lw_tbl := mT2 95 (by decide +kernel)
theorem lk_RX2_67 : Cond.methodLinkNest RX2 67 m_X5_contains.1 "PairBench" ∈ lw_tbl := mT2 96 (by decide +kernel)
theorem lk_RX2_73 : Cond.methodLink RX2 73 m_X1_across.1 ∈ lw_tbl := mT2 97 (by decide +kernel)
theorem lk_RX2_77 : Cond.methodLink RX2 77 m_X3_mateOf.1 ∈ lw_tbl := mT2 103 (by decide +kernel)
theorem lk_RX2_81 : Cond.methodLink RX2 81 m_X2_numberChain.1 ∈ lw_tbl := mT2 108 (by decide +kernel)
theorem lk_RX3_3 : Cond.methodLink RX3 3 objectInit ∈ lw_tbl := mT1 48 (by decide +kernel)
theorem lk_RX3_15 : Cond.methodLink RX3 15 m_X1_most.1 ∈ lw_tbl := mT1 49 (by decide +kernel)
theorem lk_RX3_52 : Cond.methodLink RX3 52 m_X1_changes.1 ∈ lw_tbl := mT2 5 (by decide +kernel)
theorem lk_RX3_55 : Cond.methodLink RX3 55 m_X3_begin.1 ∈ lw_tbl := mT2 9 (by decide +kernel)
theorem lk_RX3_58 : Cond.methodLink RX3 58 m_X3_lengthen.1 ∈ lw_tbl := mT2 24 (by decide +kernel)
theorem lk_RX3_62 : Cond.methodLink RX3 62 m_X1_sizeOf.1 ∈ lw_tbl := mT2 33 (by decide +kernel)
theorem lk_RX3_66 : Cond.methodLink RX3 66 m_X3_choicesOf.1 ∈ lw_tbl := mT2 52 (by decide +kernel)
theorem lk_RX3_70 : Cond.methodLink RX3 70 m_X3_settle.1 ∈ lw_tbl := mT2 69 (by decide +kernel)
theorem lk_RX3_74 : Cond.methodLink RX3 74 m_X3_openAll.1 ∈ lw_tbl := mT2 16 (by decide +kernel)
theorem lk_RX3_77 : Cond.methodLink RX3 77 m_X3_findParts.1 ∈ lw_tbl := mT2 77 (by decide +kernel)
theorem lk_RX3_80 : Cond.methodLink RX3 80 m_X1_holds.1 ∈ lw_tbl := mT2 107 (by decide +kernel)
theorem lk_RX3_84 : Cond.methodLink RX3 84 m_X1_all.1 ∈ lw_tbl := mT2 20 (by decide +kernel)
theorem lk_RX3_87 : Cond.methodLink RX3 87 m_J13_bitCount_95d88.1 ∈ lw_tbl := mT2 39 (by decide +kernel)
theorem lk_RX3_93 : Cond.methodLinkNest RX3 93 m_X5_lowest.1 "PairBench" ∈ lw_tbl := mT2 40 (by decide +kernel)
theorem lk_RX3_96 : Cond.methodLinkNest RX3 96 m_X5_contains.1 "PairBench" ∈ lw_tbl := mT2 34 (by decide +kernel)
theorem lk_RX3_100 : Cond.methodLink RX3 100 m_X3_partOf.1 ∈ lw_tbl := mT2 210 (by decide +kernel)
theorem lk_RX3_104 : Cond.methodLink RX3 104 m_J7_fill_53178.1 ∈ lw_tbl := mT2 13 (by decide +kernel)
theorem lk_RX3_112 : Cond.methodLink RX3 112 m_X3_bare.1 ∈ lw_tbl := mT2 28 (by decide +kernel)
theorem lk_RX3_115 : Cond.methodLink RX3 115 m_X1_across.1 ∈ lw_tbl := mT2 35 (by decide +kernel)
theorem lk_RX3_119 : Cond.methodLink RX3 119 m_X3_pairAlongPath.1 ∈ lw_tbl := mT2 44 (by decide +kernel)
theorem lk_RX3_123 : Cond.methodLink RX3 123 m_X3_pair.1 ∈ lw_tbl := mT2 48 (by decide +kernel)
theorem lk_RX3_127 : Cond.methodLink RX3 127 m_X3_matesOf.1 ∈ lw_tbl := mT2 60 (by decide +kernel)
theorem lk_RX3_131 : Cond.methodLink RX3 131 m_X3_reach.1 ∈ lw_tbl := mT2 56 (by decide +kernel)
theorem lk_RX3_134 : Cond.methodLink RX3 134 m_X1_neighbours.1 ∈ lw_tbl := mT2 64 (by decide +kernel)
theorem lk_RX3_137 : Cond.methodLink RX3 137 m_X3_loosen.1 ∈ lw_tbl := mT2 73 (by decide +kernel)
theorem lk_RX4_3 : Cond.methodLink RX4 3 objectInit ∈ lw_tbl := mT1 117 (by decide +kernel)
theorem lk_RX4_38 : Cond.methodLink RX4 38 m_X1_changes.1 ∈ lw_tbl := mT3 3 (by decide +kernel)
theorem lk_RX4_44 : Cond.methodLink RX4 44 m_X4_lefts.1 ∈ lw_tbl := mT3 4 (by decide +kernel)
theorem lk_RX4_47 : Cond.methodLink RX4 47 m_X0_usefulRights.1 ∈ lw_tbl := mT3 12 (by decide +kernel)
theorem lk_RX4_53 : Cond.methodLink RX4 53 m_X1_all.1 ∈ lw_tbl := mT3 13 (by decide +kernel)
theorem lk_RX4_56 : Cond.methodLinkNest RX4 56 m_X5_contains.1 "PairBench" ∈ lw_tbl := mT3 14 (by decide +kernel)
theorem lk_RX4_60 : Cond.methodLink RX4 60 m_X4_pieceOf.1 ∈ lw_tbl := mT3 15 (by decide +kernel)
theorem lk_RX4_65 : Cond.methodLink RX4 65 m_X4_waysToPair.1 ∈ lw_tbl := mT3 20 (by decide +kernel)
theorem lk_RX4_69 : Cond.methodLink RX4 69 m_X1_sizeOf.1 ∈ lw_tbl := mT3 8 (by decide +kernel)
theorem lk_RX4_73 : Cond.methodLink RX4 73 m_J9_min_7cf53.1 ∈ lw_tbl := mT3 9 (by decide +kernel)
theorem lk_RX4_79 : Cond.methodLink RX4 79 m_J13_bitCount_95d88.1 ∈ lw_tbl := mT3 24 (by decide +kernel)
theorem lk_RX4_85 : Cond.methodLink RX4 85 m_X4_setChoices.1 ∈ lw_tbl := mT3 25 (by decide +kernel)
theorem lk_RX4_89 : Cond.methodLink RX4 89 m_X4_waysToChoose.1 ∈ lw_tbl := mT3 30 (by decide +kernel)
theorem lk_RX4_93 : Cond.methodLink RX4 93 m_J7_fill_53178.1 ∈ lw_tbl := mT3 29 (by decide +kernel)
theorem lk_RX4_99 : Cond.methodLink RX4 99 m_J6_bitCount_0f7a4.1 ∈ lw_tbl := mT3 34 (by decide +kernel)
theorem lk_RL_9 : Cond.methodLink RL 9 m_X5_init.1 ∈ lw_tbl := mT1 14 (by decide +kernel)
theorem lk_RL_12 : Cond.methodLink RL 12 m_X6_init.1 ∈ lw_tbl := mT3 91 (by decide +kernel)
theorem lk_RL_13 : Cond.methodLink RL 13 m_X5_node.1 ∈ lw_tbl := mT1 187 (by decide +kernel)
theorem lk_RL_17 : Cond.methodLink RL 17 m_X6_node.1 ∈ lw_tbl := mT3 215 (by decide +kernel)
theorem lk_RL_18 : Cond.methodLink RL 18 m_X5_edge.1 ∈ lw_tbl := mT1 198 (by decide +kernel)
theorem lk_RL_22 : Cond.methodLink RL 22 m_X6_edge.1 ∈ lw_tbl := mT3 219 (by decide +kernel)
theorem lk_RL_23 : Cond.methodLink RL 23 m_X5_count.1 ∈ lw_tbl := mT1 223 (by decide +kernel)
theorem lk_RL_26 : Cond.methodLink RL 26 m_X6_count.1 ∈ lw_tbl := mT3 227 (by decide +kernel)
theorem lk_RL_27 : Cond.methodLink RL 27 m_X5_has.1 ∈ lw_tbl := mT2 159 (by decide +kernel)
theorem lk_RL_31 : Cond.methodLink RL 31 m_X6_has.1 ∈ lw_tbl := mT4 67 (by decide +kernel)
theorem lk_RL_32 : Cond.methodLink RL 32 m_X5_partner.1 ∈ lw_tbl := mT2 163 (by decide +kernel)
theorem lk_RL_36 : Cond.methodLink RL 36 m_X6_partner.1 ∈ lw_tbl := mT4 71 (by decide +kernel)
theorem lk_RL_37 : Cond.methodLink RL 37 m_X5_edgeIs.1 ∈ lw_tbl := mT2 168 (by decide +kernel)
theorem lk_RL_40 : Cond.methodLink RL 40 m_X6_edgeIs.1 ∈ lw_tbl := mT4 75 (by decide +kernel)
theorem lk_RL_41 : Cond.methodLink RL 41 m_X5_nodeIs.1 ∈ lw_tbl := mT2 196 (by decide +kernel)
theorem lk_RL_44 : Cond.methodLink RL 44 m_X6_nodeIs.1 ∈ lw_tbl := mT4 80 (by decide +kernel)
theorem lk_RL_45 : Cond.methodLink RL 45 m_X5_cover.1 ∈ lw_tbl := mT2 201 (by decide +kernel)
theorem lk_RL_49 : Cond.methodLink RL 49 m_X6_cover.1 ∈ lw_tbl := mT4 84 (by decide +kernel)
theorem lk_RL_50 : Cond.methodLink RL 50 m_X5_hall.1 ∈ lw_tbl := mT2 211 (by decide +kernel)
theorem lk_RL_53 : Cond.methodLink RL 53 m_X6_hall.1 ∈ lw_tbl := mT4 96 (by decide +kernel)
theorem lk_RL_54 : Cond.methodLink RL 54 m_X5_part.1 ∈ lw_tbl := mT2 215 (by decide +kernel)
theorem lk_RL_57 : Cond.methodLink RL 57 m_X6_part.1 ∈ lw_tbl := mT4 100 (by decide +kernel)
theorem lk_RL_58 : Cond.methodLink RL 58 m_X5_block.1 ∈ lw_tbl := mT2 219 (by decide +kernel)
theorem lk_RL_61 : Cond.methodLink RL 61 m_X6_block.1 ∈ lw_tbl := mT4 104 (by decide +kernel)
theorem lk_RL_62 : Cond.methodLink RL 62 m_X5_leads.1 ∈ lw_tbl := mT2 224 (by decide +kernel)
theorem lk_RL_65 : Cond.methodLink RL 65 m_X6_leads.1 ∈ lw_tbl := mT4 108 (by decide +kernel)
theorem lk_RL_66 : Cond.methodLink RL 66 m_X5_pairings.1 ∈ lw_tbl := mT2 234 (by decide +kernel)
theorem lk_RL_70 : Cond.methodLink RL 70 m_X6_pairings.1 ∈ lw_tbl := mT4 112 (by decide +kernel)
theorem lk_RL_71 : Cond.methodLink RL 71 m_X5_thing.1 ∈ lw_tbl := mT3 44 (by decide +kernel)
theorem lk_RL_75 : Cond.methodLink RL 75 m_X6_thing.1 ∈ lw_tbl := mT4 120 (by decide +kernel)
theorem lk_RL_76 : Cond.methodLink RL 76 m_X5_tell.1 ∈ lw_tbl := mT3 48 (by decide +kernel)
theorem lk_RL_79 : Cond.methodLink RL 79 m_X6_tell.1 ∈ lw_tbl := mT4 124 (by decide +kernel)
theorem lk_RL_80 : Cond.methodLink RL 80 m_X5_below.1 ∈ lw_tbl := mT3 53 (by decide +kernel)
theorem lk_RL_83 : Cond.methodLink RL 83 m_X6_below.1 ∈ lw_tbl := mT4 128 (by decide +kernel)
theorem lk_RL_84 : Cond.methodLink RL 84 m_X5_about.1 ∈ lw_tbl := mT3 57 (by decide +kernel)
theorem lk_RL_87 : Cond.methodLink RL 87 m_X6_about.1 ∈ lw_tbl := mT4 132 (by decide +kernel)
theorem lk_RL_88 : Cond.methodLink RL 88 m_X5_clearGraph.1 ∈ lw_tbl := mT3 74 (by decide +kernel)
theorem lk_RL_91 : Cond.methodLink RL 91 m_X6_clearGraph.1 ∈ lw_tbl := mT4 136 (by decide +kernel)
theorem lk_RL_92 : Cond.methodLink RL 92 m_X5_clearThings.1 ∈ lw_tbl := mT3 85 (by decide +kernel)
theorem lk_RL_95 : Cond.methodLink RL 95 m_X6_clearThings.1 ∈ lw_tbl := mT4 140 (by decide +kernel)
theorem lk_RX6_1 : Cond.methodLink RX6 1 objectInit ∈ lw_tbl := mT3 94 (by decide +kernel)
theorem lk_RX6_101 : Cond.methodLink RX6 101 m_X6_begin.1 ∈ lw_tbl := mT4 11 (by decide +kernel)
theorem lk_RX6_104 : Cond.methodLink RX6 104 m_X6_flip.1 ∈ lw_tbl := mT4 15 (by decide +kernel)
theorem lk_RX6_108 : Cond.methodLink RX6 108 m_X6_grow.1 ∈ lw_tbl := mT4 7 (by decide +kernel)
theorem lk_RX6_112 : Cond.methodLink RX6 112 m_X6_keep.1 ∈ lw_tbl := mT4 27 (by decide +kernel)
theorem lk_RX6_115 : Cond.methodLink RX6 115 m_X6_putBack.1 ∈ lw_tbl := mT4 31 (by decide +kernel)
theorem lk_RX6_118 : Cond.methodLink RX6 118 m_X6_force.1 ∈ lw_tbl := mT4 23 (by decide +kernel)
theorem lk_RX6_132 : Cond.methodLink RX6 132 m_X6_use.1 ∈ lw_tbl := mT3 239 (by decide +kernel)
theorem lk_RX6_136 : Cond.methodLink RX6 136 m_X6_growAll.1 ∈ lw_tbl := mT4 3 (by decide +kernel)
theorem lk_RX6_146 : Cond.methodLink RX6 146 m_X6_canMiss.1 ∈ lw_tbl := mT4 47 (by decide +kernel)
theorem lk_RX6_150 : Cond.methodLink RX6 150 m_X6_parts.1 ∈ lw_tbl := mT4 51 (by decide +kernel)
theorem lk_RX6_153 : Cond.methodLink RX6 153 m_X6_improve.1 ∈ lw_tbl := mT4 19 (by decide +kernel)
theorem lk_RX6_156 : Cond.methodLink RX6 156 m_X6_blocks.1 ∈ lw_tbl := mT4 55 (by decide +kernel)
theorem lk_RX6_161 : Cond.methodLink RX6 161 m_X6_isNode.1 ∈ lw_tbl := mT3 223 (by decide +kernel)
theorem lk_RX6_164 : Cond.methodLink RX6 164 m_X6_workThings.1 ∈ lw_tbl := mT3 231 (by decide +kernel)
theorem lk_RX6_167 : Cond.methodLink RX6 167 m_X6_work.1 ∈ lw_tbl := mT4 43 (by decide +kernel)
theorem lk_RX6_170 : Cond.methodLink RX6 170 m_X6_edgesMany.1 ∈ lw_tbl := mT4 59 (by decide +kernel)
theorem lk_RX6_173 : Cond.methodLink RX6 173 m_X6_inPart.1 ∈ lw_tbl := mT4 63 (by decide +kernel)
theorem lk_RX6_183 : Cond.methodLink RX6 183 m_X6_has.1 ∈ lw_tbl := mT4 79 (by decide +kernel)
theorem lk_RX6_186 : Cond.methodLink RX6 186 m_X6_meetsMissed.1 ∈ lw_tbl := mT4 92 (by decide +kernel)
theorem lk_RX6_189 : Cond.methodLink RX6 189 m_X6_covers.1 ∈ lw_tbl := mT4 88 (by decide +kernel)
theorem lk_RX6_199 : Cond.methodLink RX6 199 m_X6_bits.1 ∈ lw_tbl := mT4 117 (by decide +kernel)
theorem lk_RX6_205 : Cond.methodLink RX6 205 m_X6_widthBeside.1 ∈ lw_tbl := mT3 235 (by decide +kernel)
theorem lk_RX6_208 : Cond.methodLink RX6 208 m_X6_levels.1 ∈ lw_tbl := mT4 35 (by decide +kernel)
theorem lk_RX6_211 : Cond.methodLink RX6 211 m_X6_ends.1 ∈ lw_tbl := mT4 39 (by decide +kernel)
theorem fl_RX5_14 : Cond.fieldLink RX5 14 "PairBench" "graph" "LPairBench$Graph;" ∈ lw_tbl := mT1 165 (by decide +kernel)
theorem fl_RX5_23 : Cond.fieldLink RX5 23 "PairBench" "pairing" "LPairBench$Pairing;" ∈ lw_tbl := mT1 166 (by decide +kernel)
theorem fl_RX5_32 : Cond.fieldLink RX5 32 "PairBench" "blocks" "LPairBench$Blocks;" ∈ lw_tbl := mT1 167 (by decide +kernel)
theorem fl_RX5_41 : Cond.fieldLink RX5 41 "PairBench" "tally" "LPairBench$Tally;" ∈ lw_tbl := mT1 168 (by decide +kernel)
theorem fl_RX5_45 : Cond.fieldLink RX5 45 "PairBench" "things" "LPairBench$Graph;" ∈ lw_tbl := mT1 169 (by decide +kernel)
theorem fl_RX5_48 : Cond.fieldLink RX5 48 "PairBench" "links" "LPairBench$Pairing;" ∈ lw_tbl := mT1 170 (by decide +kernel)
theorem fl_RX5_54 : Cond.fieldLink RX5 54 "PairBench" "order" "LPairBench$Order;" ∈ lw_tbl := mT1 171 (by decide +kernel)
theorem fl_RX0_9 : Cond.fieldLink RX0 9 "PairBench$Blocks" "graph" "LPairBench$Graph;" ∈ lw_tbl := mT1 90 (by decide +kernel)
theorem fl_RX0_15 : Cond.fieldLink RX0 15 "PairBench$Blocks" "pairing" "LPairBench$Pairing;" ∈ lw_tbl := mT1 91 (by decide +kernel)
theorem fl_RX0_19 : Cond.fieldLink RX0 19 "PairBench$Blocks" "reached" "[J" ∈ lw_tbl := mT1 92 (by decide +kernel)
theorem fl_RX0_23 : Cond.fieldLink RX0 23 "PairBench$Blocks" "numbers" "[I" ∈ lw_tbl := mT1 93 (by decide +kernel)
theorem fl_RX0_27 : Cond.fieldLink RX0 27 "PairBench$Blocks" "lefts" "[J" ∈ lw_tbl := mT1 94 (by decide +kernel)
theorem fl_RX0_30 : Cond.fieldLink RX0 30 "PairBench$Blocks" "size" "I" ∈ lw_tbl := mT1 95 (by decide +kernel)
theorem fl_RX0_34 : Cond.fieldLink RX0 34 "PairBench$Blocks" "known" "I" ∈ lw_tbl := mT1 96 (by decide +kernel)
theorem fl_RX1_9 : Cond.fieldLink RX1 9 "PairBench$Graph" "most" "I" ∈ lw_tbl := mT1 28 (by decide +kernel)
theorem fl_RX1_15 : Cond.fieldLink RX1 15 "PairBench$Graph" "sizes" "[I" ∈ lw_tbl := mT1 29 (by decide +kernel)
theorem fl_RX1_21 : Cond.fieldLink RX1 21 "PairBench$Graph" "rows" "[[J" ∈ lw_tbl := mT1 30 (by decide +kernel)
theorem fl_RX1_24 : Cond.fieldLink RX1 24 "PairBench$Graph" "changes" "I" ∈ lw_tbl := mT1 31 (by decide +kernel)
theorem fl_RX2_9 : Cond.fieldLink RX2 9 "PairBench$Order" "things" "LPairBench$Graph;" ∈ lw_tbl := mT1 146 (by decide +kernel)
theorem fl_RX2_15 : Cond.fieldLink RX2 15 "PairBench$Order" "links" "LPairBench$Pairing;" ∈ lw_tbl := mT1 147 (by decide +kernel)
theorem fl_RX2_19 : Cond.fieldLink RX2 19 "PairBench$Order" "levels" "[I" ∈ lw_tbl := mT1 148 (by decide +kernel)
theorem fl_RX2_23 : Cond.fieldLink RX2 23 "PairBench$Order" "chains" "[I" ∈ lw_tbl := mT1 149 (by decide +kernel)
theorem fl_RX2_26 : Cond.fieldLink RX2 26 "PairBench$Order" "levelCount" "I" ∈ lw_tbl := mT1 150 (by decide +kernel)
theorem fl_RX2_30 : Cond.fieldLink RX2 30 "PairBench$Order" "known" "I" ∈ lw_tbl := mT1 151 (by decide +kernel)
theorem fl_RX3_9 : Cond.fieldLink RX3 9 "PairBench$Pairing" "graph" "LPairBench$Graph;" ∈ lw_tbl := mT1 56 (by decide +kernel)
theorem fl_RX3_23 : Cond.fieldLink RX3 23 "PairBench$Pairing" "mates" "[[I" ∈ lw_tbl := mT1 57 (by decide +kernel)
theorem fl_RX3_26 : Cond.fieldLink RX3 26 "PairBench$Pairing" "paired" "[J" ∈ lw_tbl := mT1 58 (by decide +kernel)
theorem fl_RX3_30 : Cond.fieldLink RX3 30 "PairBench$Pairing" "open" "[J" ∈ lw_tbl := mT1 59 (by decide +kernel)
theorem fl_RX3_35 : Cond.fieldLink RX3 35 "PairBench$Pairing" "parts" "[[J" ∈ lw_tbl := mT1 60 (by decide +kernel)
theorem fl_RX3_38 : Cond.fieldLink RX3 38 "PairBench$Pairing" "queue" "[I" ∈ lw_tbl := mT1 61 (by decide +kernel)
theorem fl_RX3_42 : Cond.fieldLink RX3 42 "PairBench$Pairing" "cameFrom" "[I" ∈ lw_tbl := mT1 62 (by decide +kernel)
theorem fl_RX3_45 : Cond.fieldLink RX3 45 "PairBench$Pairing" "pairs" "I" ∈ lw_tbl := mT1 63 (by decide +kernel)
theorem fl_RX3_49 : Cond.fieldLink RX3 49 "PairBench$Pairing" "known" "I" ∈ lw_tbl := mT1 64 (by decide +kernel)
theorem fl_RX4_9 : Cond.fieldLink RX4 9 "PairBench$Tally" "graph" "LPairBench$Graph;" ∈ lw_tbl := mT1 118 (by decide +kernel)
theorem fl_RX4_15 : Cond.fieldLink RX4 15 "PairBench$Tally" "blocks" "LPairBench$Blocks;" ∈ lw_tbl := mT1 119 (by decide +kernel)
theorem fl_RX4_19 : Cond.fieldLink RX4 19 "PairBench$Tally" "useful" "[J" ∈ lw_tbl := mT1 120 (by decide +kernel)
theorem fl_RX4_23 : Cond.fieldLink RX4 23 "PairBench$Tally" "choices" "[I" ∈ lw_tbl := mT1 121 (by decide +kernel)
theorem fl_RX4_27 : Cond.fieldLink RX4 27 "PairBench$Tally" "ways" "[J" ∈ lw_tbl := mT1 122 (by decide +kernel)
theorem fl_RX4_30 : Cond.fieldLink RX4 30 "PairBench$Tally" "total" "J" ∈ lw_tbl := mT1 123 (by decide +kernel)
theorem fl_RX4_34 : Cond.fieldLink RX4 34 "PairBench$Tally" "known" "I" ∈ lw_tbl := mT1 124 (by decide +kernel)
theorem fl_RX6_7 : Cond.fieldLink RX6 7 "PairBenchModel" "graph" "[Z" ∈ lw_tbl := mT3 98 (by decide +kernel)
theorem fl_RX6_13 : Cond.fieldLink RX6 13 "PairBenchModel" "best" "[I" ∈ lw_tbl := mT3 101 (by decide +kernel)
theorem fl_RX6_17 : Cond.fieldLink RX6 17 "PairBenchModel" "bestRight" "[I" ∈ lw_tbl := mT3 102 (by decide +kernel)
theorem fl_RX6_20 : Cond.fieldLink RX6 20 "PairBenchModel" "missesLeft" "[Z" ∈ lw_tbl := mT3 103 (by decide +kernel)
theorem fl_RX6_23 : Cond.fieldLink RX6 23 "PairBenchModel" "missesRight" "[Z" ∈ lw_tbl := mT3 104 (by decide +kernel)
theorem fl_RX6_26 : Cond.fieldLink RX6 26 "PairBenchModel" "partLeft" "[I" ∈ lw_tbl := mT3 105 (by decide +kernel)
theorem fl_RX6_29 : Cond.fieldLink RX6 29 "PairBenchModel" "partRight" "[I" ∈ lw_tbl := mT3 106 (by decide +kernel)
theorem fl_RX6_32 : Cond.fieldLink RX6 32 "PairBenchModel" "blockLeft" "[I" ∈ lw_tbl := mT3 107 (by decide +kernel)
theorem fl_RX6_35 : Cond.fieldLink RX6 35 "PairBenchModel" "comes" "[Z" ∈ lw_tbl := mT3 108 (by decide +kernel)
theorem fl_RX6_39 : Cond.fieldLink RX6 39 "PairBenchModel" "ways" "[J" ∈ lw_tbl := mT3 112 (by decide +kernel)
theorem fl_RX6_43 : Cond.fieldLink RX6 43 "PairBenchModel" "under" "[Z" ∈ lw_tbl := mT3 114 (by decide +kernel)
theorem fl_RX6_46 : Cond.fieldLink RX6 46 "PairBenchModel" "nextThing" "[I" ∈ lw_tbl := mT3 117 (by decide +kernel)
theorem fl_RX6_49 : Cond.fieldLink RX6 49 "PairBenchModel" "chain" "[I" ∈ lw_tbl := mT3 118 (by decide +kernel)
theorem fl_RX6_52 : Cond.fieldLink RX6 52 "PairBenchModel" "level" "[I" ∈ lw_tbl := mT3 119 (by decide +kernel)
theorem fl_RX6_55 : Cond.fieldLink RX6 55 "PairBenchModel" "lowest" "[Z" ∈ lw_tbl := mT3 120 (by decide +kernel)
theorem fl_RX6_58 : Cond.fieldLink RX6 58 "PairBenchModel" "highest" "[Z" ∈ lw_tbl := mT3 121 (by decide +kernel)
theorem fl_RX6_61 : Cond.fieldLink RX6 61 "PairBenchModel" "marks" "[Z" ∈ lw_tbl := mT3 122 (by decide +kernel)
theorem fl_RX6_64 : Cond.fieldLink RX6 64 "PairBenchModel" "edges" "[Z" ∈ lw_tbl := mT3 123 (by decide +kernel)
theorem fl_RX6_67 : Cond.fieldLink RX6 67 "PairBenchModel" "outLeft" "[Z" ∈ lw_tbl := mT3 126 (by decide +kernel)
theorem fl_RX6_70 : Cond.fieldLink RX6 70 "PairBenchModel" "outRight" "[Z" ∈ lw_tbl := mT3 127 (by decide +kernel)
theorem fl_RX6_73 : Cond.fieldLink RX6 73 "PairBenchModel" "pairLeft" "[I" ∈ lw_tbl := mT3 128 (by decide +kernel)
theorem fl_RX6_76 : Cond.fieldLink RX6 76 "PairBenchModel" "pairRight" "[I" ∈ lw_tbl := mT3 129 (by decide +kernel)
theorem fl_RX6_79 : Cond.fieldLink RX6 79 "PairBenchModel" "keptLeft" "[I" ∈ lw_tbl := mT3 130 (by decide +kernel)
theorem fl_RX6_82 : Cond.fieldLink RX6 82 "PairBenchModel" "keptRight" "[I" ∈ lw_tbl := mT3 131 (by decide +kernel)
theorem fl_RX6_85 : Cond.fieldLink RX6 85 "PairBenchModel" "queue" "[I" ∈ lw_tbl := mT3 132 (by decide +kernel)
theorem fl_RX6_88 : Cond.fieldLink RX6 88 "PairBenchModel" "cameFrom" "[I" ∈ lw_tbl := mT3 133 (by decide +kernel)
theorem fl_RX6_91 : Cond.fieldLink RX6 91 "PairBenchModel" "n" "I" ∈ lw_tbl := mT3 124 (by decide +kernel)
theorem fl_RX6_95 : Cond.fieldLink RX6 95 "PairBenchModel" "m" "I" ∈ lw_tbl := mT3 125 (by decide +kernel)
theorem fl_RX6_98 : Cond.fieldLink RX6 98 "PairBenchModel" "queued" "I" ∈ lw_tbl := mT3 134 (by decide +kernel)
theorem fl_RX6_122 : Cond.fieldLink RX6 122 "PairBenchModel" "fresh" "Z" ∈ lw_tbl := mT3 99 (by decide +kernel)
theorem fl_RX6_126 : Cond.fieldLink RX6 126 "PairBenchModel" "lefts" "I" ∈ lw_tbl := mT3 96 (by decide +kernel)
theorem fl_RX6_129 : Cond.fieldLink RX6 129 "PairBenchModel" "rights" "I" ∈ lw_tbl := mT3 97 (by decide +kernel)
theorem fl_RX6_140 : Cond.fieldLink RX6 140 "PairBenchModel" "counted" "Z" ∈ lw_tbl := mT3 110 (by decide +kernel)
theorem fl_RX6_143 : Cond.fieldLink RX6 143 "PairBenchModel" "size" "I" ∈ lw_tbl := mT3 100 (by decide +kernel)
theorem fl_RX6_159 : Cond.fieldLink RX6 159 "PairBenchModel" "blocks" "I" ∈ lw_tbl := mT3 109 (by decide +kernel)
theorem fl_RX6_177 : Cond.fieldLink RX6 177 "PairBenchModel" "things" "I" ∈ lw_tbl := mT3 113 (by decide +kernel)
theorem fl_RX6_180 : Cond.fieldLink RX6 180 "PairBenchModel" "width" "I" ∈ lw_tbl := mT3 116 (by decide +kernel)
theorem fl_RX6_195 : Cond.fieldLink RX6 195 "PairBenchModel" "pairings" "J" ∈ lw_tbl := mT3 111 (by decide +kernel)
theorem fl_RX6_202 : Cond.fieldLink RX6 202 "PairBenchModel" "freshThings" "Z" ∈ lw_tbl := mT3 115 (by decide +kernel)
theorem it_RL : Cond.initialized RL ∈ lw_tbl := mT1 0 (by decide +kernel)
theorem it_RX5 : Cond.initialized RX5 ∈ lw_tbl := mT1 1 (by decide +kernel)
theorem it_RX1 : Cond.initialized RX1 ∈ lw_tbl := mT1 2 (by decide +kernel)
theorem it_RX3 : Cond.initialized RX3 ∈ lw_tbl := mT1 3 (by decide +kernel)
theorem it_RX0 : Cond.initialized RX0 ∈ lw_tbl := mT1 4 (by decide +kernel)
theorem it_RX4 : Cond.initialized RX4 ∈ lw_tbl := mT1 5 (by decide +kernel)
theorem it_RX2 : Cond.initialized RX2 ∈ lw_tbl := mT1 6 (by decide +kernel)
theorem it_RX6 : Cond.initialized RX6 ∈ lw_tbl := mT1 7 (by decide +kernel)
theorem it_RJ13 : Cond.initialized RJ13 ∈ lw_tbl := mT1 8 (by decide +kernel)
theorem it_RJ7 : Cond.initialized RJ7 ∈ lw_tbl := mT1 9 (by decide +kernel)
theorem it_RJ9 : Cond.initialized RJ9 ∈ lw_tbl := mT1 10 (by decide +kernel)
theorem it_RJ6 : Cond.initialized RJ6 ∈ lw_tbl := mT1 11 (by decide +kernel)
theorem cl_RL_7 : Cond.classLink RL 7 "PairBench" ∈ lw_tbl := mT1 12 (by decide +kernel)
theorem in_RX5 : Cond.instantiable RX5 7 ∈ lw_tbl := mT1 13 (by decide +kernel)
theorem cl_RX5_7 : Cond.classLink RX5 7 "PairBench$Graph" ∈ lw_tbl := mT1 20 (by decide +kernel)
theorem in_RX1 : Cond.instantiable RX1 4 ∈ lw_tbl := mT1 21 (by decide +kernel)
theorem cl_RX1_19 : Cond.classLink RX1 19 "[[J" ∈ lw_tbl := mT1 26 (by decide +kernel)
theorem ac_int : Cond.arrayClass .int ∈ lw_tbl := mT1 41 (by decide +kernel)
theorem ac_long : Cond.arrayClass .long ∈ lw_tbl := mT1 42 (by decide +kernel)
theorem cl_RX5_18 : Cond.classLink RX5 18 "PairBench$Pairing" ∈ lw_tbl := mT1 43 (by decide +kernel)
theorem in_RX3 : Cond.instantiable RX3 9 ∈ lw_tbl := mT1 44 (by decide +kernel)
theorem cl_RX3_21 : Cond.classLink RX3 21 "[[I" ∈ lw_tbl := mT1 53 (by decide +kernel)
theorem cl_RX3_33 : Cond.classLink RX3 33 "[[J" ∈ lw_tbl := mT1 55 (by decide +kernel)
theorem cl_RX5_27 : Cond.classLink RX5 27 "PairBench$Blocks" ∈ lw_tbl := mT1 84 (by decide +kernel)
theorem in_RX0 : Cond.instantiable RX0 7 ∈ lw_tbl := mT1 85 (by decide +kernel)
theorem cl_RX5_36 : Cond.classLink RX5 36 "PairBench$Tally" ∈ lw_tbl := mT1 112 (by decide +kernel)
theorem in_RX4 : Cond.instantiable RX4 7 ∈ lw_tbl := mT1 113 (by decide +kernel)
theorem cl_RX5_51 : Cond.classLink RX5 51 "PairBench$Order" ∈ lw_tbl := mT1 140 (by decide +kernel)
theorem in_RX2 : Cond.instantiable RX2 6 ∈ lw_tbl := mT1 141 (by decide +kernel)
theorem cn_RX1_49 : Cond.constantLong RX1 49 (-1) ∈ lw_tbl := mT1 222 (by decide +kernel)
theorem cn_RJ13_314 : Cond.constantLong RJ13 314 (6148914691236517205) ∈ lw_tbl := mT1 238 (by decide +kernel)
theorem cn_RJ13_316 : Cond.constantLong RJ13 316 (3689348814741910323) ∈ lw_tbl := mT1 239 (by decide +kernel)
theorem cn_RJ13_318 : Cond.constantLong RJ13 318 (1085102592571150095) ∈ lw_tbl := mT2 0 (by decide +kernel)
theorem cn_RX3_110 : Cond.constantLong RX3 110 (-1) ∈ lw_tbl := mT2 32 (by decide +kernel)
theorem cn_RX2_71 : Cond.constantLong RX2 71 (-1) ∈ lw_tbl := mT2 98 (by decide +kernel)
theorem cn_RX5_138 : Cond.constantLong RX5 138 (-3) ∈ lw_tbl := mT2 238 (by decide +kernel)
theorem cn_RX4_63 : Cond.constantLong RX4 63 (-1) ∈ lw_tbl := mT3 19 (by decide +kernel)
theorem cn_RJ6_265 : Cond.constant RJ6 265 (1431655765) ∈ lw_tbl := mT3 37 (by decide +kernel)
theorem cn_RJ6_266 : Cond.constant RJ6 266 (858993459) ∈ lw_tbl := mT3 38 (by decide +kernel)
theorem cn_RJ6_267 : Cond.constant RJ6 267 (252645135) ∈ lw_tbl := mT3 39 (by decide +kernel)
theorem cl_RL_10 : Cond.classLink RL 10 "PairBenchModel" ∈ lw_tbl := mT3 89 (by decide +kernel)
theorem in_RX6 : Cond.instantiable RX6 39 ∈ lw_tbl := mT3 90 (by decide +kernel)
theorem cn_RX6_38 : Cond.constant RX6 38 (65536) ∈ lw_tbl := mT3 95 (by decide +kernel)
theorem ac_boolean : Cond.arrayClass .boolean ∈ lw_tbl := mT3 214 (by decide +kernel)
theorem cn_RX6_193 : Cond.constantLong RX6 193 (-3) ∈ lw_tbl := mT4 116 (by decide +kernel)
theorem iv_obj : Cond.instanceMethod objectInit ∈ lw_tbl := mT1 18 (by decide +kernel)
theorem cd_obj : Cond.code objectInit ⟨#[0xb1]⟩ 1 none ∈ lw_tbl := mT1 19 (by decide +kernel)
end
section
section DET
variable {G : GG} {nc ns : Nat} {y : MI} {pc : Nat} {L : List (Option Value)} {S : List Value} {h : PH} {Z : Option Value → PH → Prop}
/-- a call's end that is known: answer and planes -/
def Ret (v : Option Value) (h1 : PH) : Option Value → PH → Prop := fun v' h' => v' = v ∧ h' = h1
theorem r_callV1 {y2 : MI} {n mc ms idx c b : Nat} {q : vw_C} {As : List Value} {v : Option Value} {h1 : PH} {st0 : List Value} (hd : decode y.2.1 pc = .ok (.invokevirtual idx, 3)) (hc : CK y2 n) (hi : Cond.instanceMethod y2.1 ∈ lw_tbl) (hs : Cond.selects y2.1.cls y2.1 y2.1 ∈ lw_tbl) (hw : Cond.methodLink y.1.cls idx y2.1 ∈ lw_tbl) (hq : vwCl[c]? = some q) (hqn : q.1 = y2.1.cls) (hb : hK h b = 10 + c)
    (hfr : y2.2.2.2.2.1 + 1 ≤ y.2.2.2.2.1) (hlo : 8 + (y2.2.2.1 + 11) + y2.2.2.2.2.2 ≤ y.2.2.2.2.2) (hn : As.length = n) (hst : st0 = As.reverse ++ .ref b :: S) (hcat : (S.map fun v => v.category).sum ≤ 8) (e1 : hN h + mc ≤ nc) (e2 : hS h + ms ≤ ns)
    (he : Ev G y2 (.ref b :: As) h mc ms (Ret v h1)) (kk : RR G nc ns y (pc + 3) L (v.toList ++ S) h1 Z) : RR G nc ns y pc L st0 h Z :=
  r_callV hd hc hi hs hw hq hqn hb hfr hlo hn hst hcat e1 e2 he (fun v' h' z _ _ => by obtain ⟨rfl, rfl⟩ := z; exact kk)
theorem r_callI1 {y2 : MI} {n mc ms idx b : Nat} {As : List Value} {v : Option Value} {h1 : PH} {st0 : List Value} (hd : decode y.2.1 pc = .ok (.invokespecial idx, 3)) (hc : CK y2 n) (hi : Cond.instanceMethod y2.1 ∈ lw_tbl) (hini : y2.1.name = "<init>") (hret : y2.2.2.2.1 = none) (hw : Cond.methodLink y.1.cls idx y2.1 ∈ lw_tbl)
    (hfr : y2.2.2.2.2.1 + 1 ≤ y.2.2.2.2.1) (hlo : 8 + (y2.2.2.1 + 11) + y2.2.2.2.2.2 ≤ y.2.2.2.2.2) (hn : As.length = n) (hst : st0 = As.reverse ++ .ref b :: S) (hcat : (S.map fun v => v.category).sum ≤ 8) (e1 : hN h + mc ≤ nc) (e2 : hS h + ms ≤ ns)
    (he : Ev G y2 (.ref b :: As) h mc ms (Ret v h1)) (kk : RR G nc ns y (pc + 3) L (v.toList ++ S) h1 Z) : RR G nc ns y pc L st0 h Z :=
  r_callI hd hc hi hini hret hw hfr hlo hn hst hcat e1 e2 he (fun v' h' z _ _ => by obtain ⟨rfl, rfl⟩ := z; exact kk)
theorem r_callS1 {y2 : MI} {n mc ms idx : Nat} {As : List Value} {v : Option Value} {h1 : PH} {st0 : List Value} (hd : decode y.2.1 pc = .ok (.invokestatic idx, 3)) (hc : CK y2 n) (hi : Cond.static y2.1 ∈ lw_tbl) (hw : Cond.methodLink y.1.cls idx y2.1 ∈ lw_tbl)
    (hfr : y2.2.2.2.2.1 + 1 ≤ y.2.2.2.2.1) (hlo : 8 + (y2.2.2.1 + 11) + y2.2.2.2.2.2 ≤ y.2.2.2.2.2) (hn : As.length = n) (hst : st0 = As.reverse ++ S) (hcat : (S.map fun v => v.category).sum ≤ 8) (e1 : hN h + mc ≤ nc) (e2 : hS h + ms ≤ ns)
    (he : Ev G y2 As h mc ms (Ret v h1)) (kk : RR G nc ns y (pc + 3) L (v.toList ++ S) h1 Z) : RR G nc ns y pc L st0 h Z :=
  r_callS hd hc hi hw hfr hlo hn hst hcat e1 e2 he (fun v' h' z _ _ => by obtain ⟨rfl, rfl⟩ := z; exact kk)
theorem r_callSN1 {y2 : MI} {n mc ms idx : Nat} {host : String} {As : List Value} {v : Option Value} {h1 : PH} {st0 : List Value} (hd : decode y.2.1 pc = .ok (.invokestatic idx, 3)) (hc : CK y2 n) (hi : Cond.static y2.1 ∈ lw_tbl) (hw : Cond.methodLinkNest y.1.cls idx y2.1 host ∈ lw_tbl)
    (hfr : y2.2.2.2.2.1 + 1 ≤ y.2.2.2.2.1) (hlo : 8 + (y2.2.2.1 + 11) + y2.2.2.2.2.2 ≤ y.2.2.2.2.2) (hn : As.length = n) (hst : st0 = As.reverse ++ S) (hcat : (S.map fun v => v.category).sum ≤ 8) (e1 : hN h + mc ≤ nc) (e2 : hS h + ms ≤ ns)
    (he : Ev G y2 As h mc ms (Ret v h1)) (kk : RR G nc ns y (pc + 3) L (v.toList ++ S) h1 Z) : RR G nc ns y pc L st0 h Z :=
  r_callSN hd hc hi hw hfr hlo hn hst hcat e1 e2 he (fun v' h' z _ _ => by obtain ⟨rfl, rfl⟩ := z; exact kk)
theorem r_mmin {idx : Nat} {x z : Int32} (hd : decode y.2.1 pc = .ok (.invokestatic idx, 3)) (hw : Cond.methodLink y.1.cls idx m_J9_min_7cf53.1 ∈ lw_tbl) (hfr : 1 ≤ y.2.2.2.2.1) (hlo : 21 ≤ y.2.2.2.2.2) (hcat : (S.map fun v => v.category).sum ≤ 8)
    (kk : RR G nc ns y (pc + 3) L (.int (if z < x then z else x) :: S) h Z) : RR G nc ns y pc L (.int z :: .int x :: S) h Z := by
  intro p e R s m args below meth cd H locs cells slots c0 s0 ls Q M hp hm hl hr
  have hT := M.2.2.2.2.1
  have f1 := M.2.2.2.2.2.2.2.2.1
  have f2 := M.2.2.2.2.2.2.2.2.2.1
  have f3 := M.2.2.2.2.2.2.2.2.2.2.1
  have f4 := M.2.2.2.2.2.2.2.2.2.2.2
  obtain ⟨g0, g1, g2, g3, -⟩ := id hm
  have c3 := ck_J9_min_7cf53.2.2.1
  refine va_mmin M.1 M.2.1 (M.2.2.1.trans hl.1.symm) M.2.2.2.1 (hT.1 _ hw rfl args) (hT.1 _ sv_J9_min_7cf53 rfl args) (hT.1 _ ck_J9_min_7cf53.2.2.2 rfl args) (hT.1 _ c3 rfl args) (by omega) (by omega) (by omega) (by omega) hd (kk p e R s m args below meth cd H locs cells slots c0 s0 ls Q M hp hm hl hr)
end DET
end
