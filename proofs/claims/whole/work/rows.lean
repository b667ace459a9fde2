section
-- ===== PART A: goes FIRST, ahead of the names: the tables' words, and 'selects' of the private methods out of them =====
/-- a private method of a class that the tables say can be made, by its rows of tables_1 -/
def lw_okq (q : MethodName × Nat) : Prop := (q.1.cls ≠ "java/lang/invoke/MethodHandle" ∧ q.1.cls ≠ "java/lang/invoke/VarHandle") ∧ Cond.instantiable q.1.cls q.2 ∈ tables_1 ∧ Cond.privateMethod q.1 ∈ tables_1 ∧ Cond.instanceMethod q.1 ∈ tables_1
theorem lw_p0 : lw_okq (⟨"SlowWatch", "findTest", "(I)LSlowWatch$Test;"⟩, 15) := ⟨⟨by decide +kernel, by decide +kernel⟩, List.mem_of_getElem? (i := 13) (by decide +kernel), List.mem_of_getElem? (i := 223) (by decide +kernel), List.mem_of_getElem? (i := 224) (by decide +kernel)⟩
theorem lw_p1 : lw_okq (⟨"SlowWatch", "findRow", "(II)LSlowWatch$Row;"⟩, 15) := ⟨⟨by decide +kernel, by decide +kernel⟩, List.mem_of_getElem? (i := 13) (by decide +kernel), List.mem_of_getElem? (i := 231) (by decide +kernel), List.mem_of_getElem? (i := 232) (by decide +kernel)⟩
theorem lw_p2 : lw_okq (⟨"SlowWatch", "refuseWith", "(I)I"⟩, 15) := ⟨⟨by decide +kernel, by decide +kernel⟩, List.mem_of_getElem? (i := 13) (by decide +kernel), List.mem_of_getElem? (i := 244) (by decide +kernel), List.mem_of_getElem? (i := 245) (by decide +kernel)⟩
theorem lw_p3 : lw_okq (⟨"SlowWatch", "refuseRow", "(LSlowWatch$Row;)I"⟩, 15) := ⟨⟨by decide +kernel, by decide +kernel⟩, List.mem_of_getElem? (i := 13) (by decide +kernel), List.mem_of_getElem? (i := 255) (by decide +kernel), List.mem_of_getElem? (i := 256) (by decide +kernel)⟩
theorem lw_p4 : lw_okq (⟨"SlowWatch", "bringUpToDate", "(LSlowWatch$Row;)V"⟩, 15) := ⟨⟨by decide +kernel, by decide +kernel⟩, List.mem_of_getElem? (i := 13) (by decide +kernel), List.mem_of_getElem? (i := 293) (by decide +kernel), List.mem_of_getElem? (i := 294) (by decide +kernel)⟩
theorem lw_p5 : lw_okq (⟨"SlowWatch$Cutter", "solveFrom", "(LSlowWatch$Row;II)V"⟩, 4) := ⟨⟨by decide +kernel, by decide +kernel⟩, List.mem_of_getElem? (i := 23) (by decide +kernel), List.mem_of_getElem? (i := 306) (by decide +kernel), List.mem_of_getElem? (i := 307) (by decide +kernel)⟩
theorem lw_p6 : lw_okq (⟨"SlowWatch$Cutter", "farFromMiddle", "(II)I"⟩, 4) := ⟨⟨by decide +kernel, by decide +kernel⟩, List.mem_of_getElem? (i := 23) (by decide +kernel), List.mem_of_getElem? (i := 310) (by decide +kernel), List.mem_of_getElem? (i := 311) (by decide +kernel)⟩
theorem lw_p7 : lw_okq (⟨"SlowWatch$Cutter", "insert", "(II)V"⟩, 4) := ⟨⟨by decide +kernel, by decide +kernel⟩, List.mem_of_getElem? (i := 23) (by decide +kernel), List.mem_of_getElem? (i := 314) (by decide +kernel), List.mem_of_getElem? (i := 315) (by decide +kernel)⟩
theorem lw_p8 : lw_okq (⟨"SlowWatch$Cutter", "setSpans", "(LSlowWatch$Row;)V"⟩, 4) := ⟨⟨by decide +kernel, by decide +kernel⟩, List.mem_of_getElem? (i := 23) (by decide +kernel), List.mem_of_getElem? (i := 318) (by decide +kernel), List.mem_of_getElem? (i := 319) (by decide +kernel)⟩
theorem lw_p9 : lw_okq (⟨"SlowWatch$Cutter", "setMiddles", "(LSlowWatch$Row;)V"⟩, 4) := ⟨⟨by decide +kernel, by decide +kernel⟩, List.mem_of_getElem? (i := 23) (by decide +kernel), List.mem_of_getElem? (i := 322) (by decide +kernel), List.mem_of_getElem? (i := 323) (by decide +kernel)⟩
theorem lw_p10 : lw_okq (⟨"SlowWatch$Row", "pairStep", "(I)V"⟩, 14) := ⟨⟨by decide +kernel, by decide +kernel⟩, List.mem_of_getElem? (i := 140) (by decide +kernel), List.mem_of_getElem? (i := 338) (by decide +kernel), List.mem_of_getElem? (i := 339) (by decide +kernel)⟩
theorem lw_p11 : lw_okq (⟨"SlowWatch", "bringRowsUpToDate", "(LSlowWatch$Test;)V"⟩, 15) := ⟨⟨by decide +kernel, by decide +kernel⟩, List.mem_of_getElem? (i := 13) (by decide +kernel), List.mem_of_getElem? (i := 375) (by decide +kernel), List.mem_of_getElem? (i := 376) (by decide +kernel)⟩
theorem lw_p12 : lw_okq (⟨"SlowWatch", "isItsOwn", "(LSlowWatch$Test;II)Z"⟩, 15) := ⟨⟨by decide +kernel, by decide +kernel⟩, List.mem_of_getElem? (i := 13) (by decide +kernel), List.mem_of_getElem? (i := 379) (by decide +kernel), List.mem_of_getElem? (i := 380) (by decide +kernel)⟩
theorem lw_p13 : lw_okq (⟨"SlowWatch", "readyChances", "()LSlowWatch$Chances;"⟩, 15) := ⟨⟨by decide +kernel, by decide +kernel⟩, List.mem_of_getElem? (i := 13) (by decide +kernel), List.mem_of_getElem? (i := 408) (by decide +kernel), List.mem_of_getElem? (i := 409) (by decide +kernel)⟩
theorem lw_p14 : lw_okq (⟨"SlowWatch$Chances", "countUpTo", "([IIIIII)I"⟩, 3) := ⟨⟨by decide +kernel, by decide +kernel⟩, List.mem_of_getElem? (i := 412) (by decide +kernel), List.mem_of_getElem? (i := 445) (by decide +kernel), List.mem_of_getElem? (i := 446) (by decide +kernel)⟩
theorem lw_p15 : lw_okq (⟨"SlowWatch$Chances", "clear", "(II)V"⟩, 3) := ⟨⟨by decide +kernel, by decide +kernel⟩, List.mem_of_getElem? (i := 412) (by decide +kernel), List.mem_of_getElem? (i := 449) (by decide +kernel), List.mem_of_getElem? (i := 450) (by decide +kernel)⟩
def lw_privs_1 : List (MethodName × Nat) := [(⟨"SlowWatch", "findTest", "(I)LSlowWatch$Test;"⟩, 15), (⟨"SlowWatch", "findRow", "(II)LSlowWatch$Row;"⟩, 15), (⟨"SlowWatch", "refuseWith", "(I)I"⟩, 15), (⟨"SlowWatch", "refuseRow", "(LSlowWatch$Row;)I"⟩, 15), (⟨"SlowWatch", "bringUpToDate", "(LSlowWatch$Row;)V"⟩, 15), (⟨"SlowWatch$Cutter", "solveFrom", "(LSlowWatch$Row;II)V"⟩, 4), (⟨"SlowWatch$Cutter", "farFromMiddle", "(II)I"⟩, 4), (⟨"SlowWatch$Cutter", "insert", "(II)V"⟩, 4), (⟨"SlowWatch$Cutter", "setSpans", "(LSlowWatch$Row;)V"⟩, 4), (⟨"SlowWatch$Cutter", "setMiddles", "(LSlowWatch$Row;)V"⟩, 4), (⟨"SlowWatch$Row", "pairStep", "(I)V"⟩, 14), (⟨"SlowWatch", "bringRowsUpToDate", "(LSlowWatch$Test;)V"⟩, 15), (⟨"SlowWatch", "isItsOwn", "(LSlowWatch$Test;II)Z"⟩, 15), (⟨"SlowWatch", "readyChances", "()LSlowWatch$Chances;"⟩, 15), (⟨"SlowWatch$Chances", "countUpTo", "([IIIIII)I"⟩, 3), (⟨"SlowWatch$Chances", "clear", "(II)V"⟩, 3)]
theorem lw_r1 : ∀ q ∈ lw_privs_1, lw_okq q := List.forall_mem_cons.mpr ⟨lw_p0, List.forall_mem_cons.mpr ⟨lw_p1, List.forall_mem_cons.mpr ⟨lw_p2, List.forall_mem_cons.mpr ⟨lw_p3, List.forall_mem_cons.mpr ⟨lw_p4, List.forall_mem_cons.mpr ⟨lw_p5, List.forall_mem_cons.mpr ⟨lw_p6, List.forall_mem_cons.mpr ⟨lw_p7, List.forall_mem_cons.mpr ⟨lw_p8, List.forall_mem_cons.mpr ⟨lw_p9, List.forall_mem_cons.mpr ⟨lw_p10, List.forall_mem_cons.mpr ⟨lw_p11, List.forall_mem_cons.mpr ⟨lw_p12, List.forall_mem_cons.mpr ⟨lw_p13, List.forall_mem_cons.mpr ⟨lw_p14, List.forall_mem_cons.mpr ⟨lw_p15, fun _ h => absurd h List.not_mem_nil⟩⟩⟩⟩⟩⟩⟩⟩⟩⟩⟩⟩⟩⟩⟩⟩
theorem lw_p16 : lw_okq (⟨"SlowWatch$Chances", "addOne", "(III)V"⟩, 3) := ⟨⟨by decide +kernel, by decide +kernel⟩, List.mem_of_getElem? (i := 412) (by decide +kernel), List.mem_of_getElem? (i := 453) (by decide +kernel), List.mem_of_getElem? (i := 454) (by decide +kernel)⟩
theorem lw_p17 : lw_okq (⟨"SlowWatch", "cryRow", "(IIIII)I"⟩, 15) := ⟨⟨by decide +kernel, by decide +kernel⟩, List.mem_of_getElem? (i := 13) (by decide +kernel), List.mem_of_getElem? (i := 467) (by decide +kernel), List.mem_of_getElem? (i := 468) (by decide +kernel)⟩
theorem lw_p18 : lw_okq (⟨"SlowWatch", "isAlarming", "(LSlowWatch$Test;II)Z"⟩, 15) := ⟨⟨by decide +kernel, by decide +kernel⟩, List.mem_of_getElem? (i := 13) (by decide +kernel), List.mem_of_getElem? (i := 471) (by decide +kernel), List.mem_of_getElem? (i := 472) (by decide +kernel)⟩
theorem lw_p19 : lw_okq (⟨"SlowWatch", "isRare", "(LSlowWatch$Row;III)Z"⟩, 15) := ⟨⟨by decide +kernel, by decide +kernel⟩, List.mem_of_getElem? (i := 13) (by decide +kernel), List.mem_of_getElem? (i := 479) (by decide +kernel), List.mem_of_getElem? (i := 480) (by decide +kernel)⟩
theorem lw_p20 : lw_okq (⟨"SlowWatch", "keepAlarm", "(I)V"⟩, 15) := ⟨⟨by decide +kernel, by decide +kernel⟩, List.mem_of_getElem? (i := 13) (by decide +kernel), List.mem_of_getElem? (i := 487) (by decide +kernel), List.mem_of_getElem? (i := 488) (by decide +kernel)⟩
theorem lw_p21 : lw_okq (⟨"SlowWatch$Halving", "decide", "()V"⟩, 7) := ⟨⟨by decide +kernel, by decide +kernel⟩, List.mem_of_getElem? (i := 43) (by decide +kernel), List.mem_of_getElem? (i := 527) (by decide +kernel), List.mem_of_getElem? (i := 528) (by decide +kernel)⟩
theorem lw_p22 : lw_okq (⟨"SlowWatch", "countRows", "()I"⟩, 15) := ⟨⟨by decide +kernel, by decide +kernel⟩, List.mem_of_getElem? (i := 13) (by decide +kernel), List.mem_of_getElem? (i := 556) (by decide +kernel), List.mem_of_getElem? (i := 557) (by decide +kernel)⟩
theorem lw_p23 : lw_okq (⟨"SlowWatchModel", "isTest", "(I)Z"⟩, 41) := ⟨⟨by decide +kernel, by decide +kernel⟩, List.mem_of_getElem? (i := 582) (by decide +kernel), List.mem_of_getElem? (i := 742) (by decide +kernel), List.mem_of_getElem? (i := 743) (by decide +kernel)⟩
theorem lw_p24 : lw_okq (⟨"SlowWatchModel", "isRow", "(II)Z"⟩, 41) := ⟨⟨by decide +kernel, by decide +kernel⟩, List.mem_of_getElem? (i := 582) (by decide +kernel), List.mem_of_getElem? (i := 750) (by decide +kernel), List.mem_of_getElem? (i := 751) (by decide +kernel)⟩
theorem lw_p25 : lw_okq (⟨"SlowWatchModel", "meets", "(I)I"⟩, 41) := ⟨⟨by decide +kernel, by decide +kernel⟩, List.mem_of_getElem? (i := 582) (by decide +kernel), List.mem_of_getElem? (i := 759) (by decide +kernel), List.mem_of_getElem? (i := 760) (by decide +kernel)⟩
theorem lw_p26 : lw_okq (⟨"SlowWatchModel", "need", "(II)I"⟩, 41) := ⟨⟨by decide +kernel, by decide +kernel⟩, List.mem_of_getElem? (i := 582) (by decide +kernel), List.mem_of_getElem? (i := 780) (by decide +kernel), List.mem_of_getElem? (i := 781) (by decide +kernel)⟩
theorem lw_p27 : lw_okq (⟨"SlowWatchModel", "layCuts", "(I)V"⟩, 41) := ⟨⟨by decide +kernel, by decide +kernel⟩, List.mem_of_getElem? (i := 582) (by decide +kernel), List.mem_of_getElem? (i := 784) (by decide +kernel), List.mem_of_getElem? (i := 785) (by decide +kernel)⟩
theorem lw_p28 : lw_okq (⟨"SlowWatchModel", "layRow", "(I)V"⟩, 41) := ⟨⟨by decide +kernel, by decide +kernel⟩, List.mem_of_getElem? (i := 582) (by decide +kernel), List.mem_of_getElem? (i := 788) (by decide +kernel), List.mem_of_getElem? (i := 789) (by decide +kernel)⟩
theorem lw_p29 : lw_okq (⟨"SlowWatchModel", "costOf", "(II)I"⟩, 41) := ⟨⟨by decide +kernel, by decide +kernel⟩, List.mem_of_getElem? (i := 582) (by decide +kernel), List.mem_of_getElem? (i := 792) (by decide +kernel), List.mem_of_getElem? (i := 793) (by decide +kernel)⟩
theorem lw_p30 : lw_okq (⟨"SlowWatchModel", "isCut", "(I)Z"⟩, 41) := ⟨⟨by decide +kernel, by decide +kernel⟩, List.mem_of_getElem? (i := 582) (by decide +kernel), List.mem_of_getElem? (i := 812) (by decide +kernel), List.mem_of_getElem? (i := 813) (by decide +kernel)⟩
theorem lw_p31 : lw_okq (⟨"SlowWatchModel", "buildOfCut", "(I)I"⟩, 41) := ⟨⟨by decide +kernel, by decide +kernel⟩, List.mem_of_getElem? (i := 582) (by decide +kernel), List.mem_of_getElem? (i := 816) (by decide +kernel), List.mem_of_getElem? (i := 817) (by decide +kernel)⟩
def lw_privs_2 : List (MethodName × Nat) := [(⟨"SlowWatch$Chances", "addOne", "(III)V"⟩, 3), (⟨"SlowWatch", "cryRow", "(IIIII)I"⟩, 15), (⟨"SlowWatch", "isAlarming", "(LSlowWatch$Test;II)Z"⟩, 15), (⟨"SlowWatch", "isRare", "(LSlowWatch$Row;III)Z"⟩, 15), (⟨"SlowWatch", "keepAlarm", "(I)V"⟩, 15), (⟨"SlowWatch$Halving", "decide", "()V"⟩, 7), (⟨"SlowWatch", "countRows", "()I"⟩, 15), (⟨"SlowWatchModel", "isTest", "(I)Z"⟩, 41), (⟨"SlowWatchModel", "isRow", "(II)Z"⟩, 41), (⟨"SlowWatchModel", "meets", "(I)I"⟩, 41), (⟨"SlowWatchModel", "need", "(II)I"⟩, 41), (⟨"SlowWatchModel", "layCuts", "(I)V"⟩, 41), (⟨"SlowWatchModel", "layRow", "(I)V"⟩, 41), (⟨"SlowWatchModel", "costOf", "(II)I"⟩, 41), (⟨"SlowWatchModel", "isCut", "(I)Z"⟩, 41), (⟨"SlowWatchModel", "buildOfCut", "(I)I"⟩, 41)]
theorem lw_r2 : ∀ q ∈ lw_privs_2, lw_okq q := List.forall_mem_cons.mpr ⟨lw_p16, List.forall_mem_cons.mpr ⟨lw_p17, List.forall_mem_cons.mpr ⟨lw_p18, List.forall_mem_cons.mpr ⟨lw_p19, List.forall_mem_cons.mpr ⟨lw_p20, List.forall_mem_cons.mpr ⟨lw_p21, List.forall_mem_cons.mpr ⟨lw_p22, List.forall_mem_cons.mpr ⟨lw_p23, List.forall_mem_cons.mpr ⟨lw_p24, List.forall_mem_cons.mpr ⟨lw_p25, List.forall_mem_cons.mpr ⟨lw_p26, List.forall_mem_cons.mpr ⟨lw_p27, List.forall_mem_cons.mpr ⟨lw_p28, List.forall_mem_cons.mpr ⟨lw_p29, List.forall_mem_cons.mpr ⟨lw_p30, List.forall_mem_cons.mpr ⟨lw_p31, fun _ h => absurd h List.not_mem_nil⟩⟩⟩⟩⟩⟩⟩⟩⟩⟩⟩⟩⟩⟩⟩⟩
theorem lw_p32 : lw_okq (⟨"SlowWatchModel", "sizeOf", "(I)I"⟩, 41) := ⟨⟨by decide +kernel, by decide +kernel⟩, List.mem_of_getElem? (i := 582) (by decide +kernel), List.mem_of_getElem? (i := 828) (by decide +kernel), List.mem_of_getElem? (i := 829) (by decide +kernel)⟩
theorem lw_p33 : lw_okq (⟨"SlowWatchModel", "isOwn", "(III)Z"⟩, 41) := ⟨⟨by decide +kernel, by decide +kernel⟩, List.mem_of_getElem? (i := 582) (by decide +kernel), List.mem_of_getElem? (i := 840) (by decide +kernel), List.mem_of_getElem? (i := 841) (by decide +kernel)⟩
theorem lw_p34 : lw_okq (⟨"SlowWatchModel", "showsNear", "(II)Z"⟩, 41) := ⟨⟨by decide +kernel, by decide +kernel⟩, List.mem_of_getElem? (i := 582) (by decide +kernel), List.mem_of_getElem? (i := 844) (by decide +kernel), List.mem_of_getElem? (i := 845) (by decide +kernel)⟩
theorem lw_p35 : lw_okq (⟨"SlowWatchModel", "couldShow", "(I)Z"⟩, 41) := ⟨⟨by decide +kernel, by decide +kernel⟩, List.mem_of_getElem? (i := 582) (by decide +kernel), List.mem_of_getElem? (i := 848) (by decide +kernel), List.mem_of_getElem? (i := 849) (by decide +kernel)⟩
theorem lw_p36 : lw_okq (⟨"SlowWatchModel", "layPairs", "()V"⟩, 41) := ⟨⟨by decide +kernel, by decide +kernel⟩, List.mem_of_getElem? (i := 582) (by decide +kernel), List.mem_of_getElem? (i := 856) (by decide +kernel), List.mem_of_getElem? (i := 857) (by decide +kernel)⟩
theorem lw_p37 : lw_okq (⟨"SlowWatchModel", "layOdds", "(I)Z"⟩, 41) := ⟨⟨by decide +kernel, by decide +kernel⟩, List.mem_of_getElem? (i := 582) (by decide +kernel), List.mem_of_getElem? (i := 865) (by decide +kernel), List.mem_of_getElem? (i := 866) (by decide +kernel)⟩
theorem lw_p38 : lw_okq (⟨"SlowWatchModel", "cryOf", "(IIIII)I"⟩, 41) := ⟨⟨by decide +kernel, by decide +kernel⟩, List.mem_of_getElem? (i := 582) (by decide +kernel), List.mem_of_getElem? (i := 884) (by decide +kernel), List.mem_of_getElem? (i := 885) (by decide +kernel)⟩
theorem lw_p39 : lw_okq (⟨"SlowWatchModel", "isLoud", "(IIIIII)Z"⟩, 41) := ⟨⟨by decide +kernel, by decide +kernel⟩, List.mem_of_getElem? (i := 582) (by decide +kernel), List.mem_of_getElem? (i := 888) (by decide +kernel), List.mem_of_getElem? (i := 889) (by decide +kernel)⟩
theorem lw_p40 : lw_okq (⟨"SlowWatchModel", "hasEnded", "()Z"⟩, 41) := ⟨⟨by decide +kernel, by decide +kernel⟩, List.mem_of_getElem? (i := 582) (by decide +kernel), List.mem_of_getElem? (i := 904) (by decide +kernel), List.mem_of_getElem? (i := 905) (by decide +kernel)⟩
theorem lw_p41 : lw_okq (⟨"SlowWatchModel", "middleBuild", "()I"⟩, 41) := ⟨⟨by decide +kernel, by decide +kernel⟩, List.mem_of_getElem? (i := 582) (by decide +kernel), List.mem_of_getElem? (i := 908) (by decide +kernel), List.mem_of_getElem? (i := 909) (by decide +kernel)⟩
def lw_privs_3 : List (MethodName × Nat) := [(⟨"SlowWatchModel", "sizeOf", "(I)I"⟩, 41), (⟨"SlowWatchModel", "isOwn", "(III)Z"⟩, 41), (⟨"SlowWatchModel", "showsNear", "(II)Z"⟩, 41), (⟨"SlowWatchModel", "couldShow", "(I)Z"⟩, 41), (⟨"SlowWatchModel", "layPairs", "()V"⟩, 41), (⟨"SlowWatchModel", "layOdds", "(I)Z"⟩, 41), (⟨"SlowWatchModel", "cryOf", "(IIIII)I"⟩, 41), (⟨"SlowWatchModel", "isLoud", "(IIIIII)Z"⟩, 41), (⟨"SlowWatchModel", "hasEnded", "()Z"⟩, 41), (⟨"SlowWatchModel", "middleBuild", "()I"⟩, 41)]
theorem lw_r3 : ∀ q ∈ lw_privs_3, lw_okq q := List.forall_mem_cons.mpr ⟨lw_p32, List.forall_mem_cons.mpr ⟨lw_p33, List.forall_mem_cons.mpr ⟨lw_p34, List.forall_mem_cons.mpr ⟨lw_p35, List.forall_mem_cons.mpr ⟨lw_p36, List.forall_mem_cons.mpr ⟨lw_p37, List.forall_mem_cons.mpr ⟨lw_p38, List.forall_mem_cons.mpr ⟨lw_p39, List.forall_mem_cons.mpr ⟨lw_p40, List.forall_mem_cons.mpr ⟨lw_p41, fun _ h => absurd h List.not_mem_nil⟩⟩⟩⟩⟩⟩⟩⟩⟩⟩
def lw_privs : List (MethodName × Nat) := lw_privs_1 ++ (lw_privs_2 ++ (lw_privs_3))
def lw_tbl : List Cond := k2_sels lw_privs ++ tables_1
theorem lw_privs_ok : ∀ q ∈ lw_privs, lw_okq q := by
  show ∀ q ∈ lw_privs_1 ++ (lw_privs_2 ++ (lw_privs_3)), lw_okq q
  exact List.forall_mem_append.mpr ⟨lw_r1, List.forall_mem_append.mpr ⟨lw_r2, lw_r3⟩⟩
end
section
def RX0 : String := "SlowWatch$Chances"
def TX0 : u_T := fun k => match k with
  | 0 => ("SlowWatch$Chances", "table", "[I", true)
  | 1 => ("SlowWatch$Chances", "ways", "I", false)
  | _ => ("SlowWatch$Chances", "allWays", "I", false)
def tyX0 : Nat → FieldType := fun k => match k with
  | 0 => .array .int
  | 1 => .int
  | _ => .int
theorem nmX0 : ∀ a, a < 3 → ∀ b, b < 3 → a ≠ b → (TX0 a).2.1 ≠ (TX0 b).2.1 := by decide +kernel
theorem tyX0_ok : ∀ k, k < 3 → parseFieldDescriptor (TX0 k).2.2.1 = some (tyX0 k) := by decide +kernel
abbrev cX0_init : ByteArray := prog_2_method_1_code
def yX0_init : MethodName := ⟨RX0, "<init>", "()V"⟩
abbrev cX0_reckon : ByteArray := prog_2_method_2_code
def yX0_reckon : MethodName := ⟨RX0, "reckon", "(LSlowWatch$Row;I)Z"⟩
abbrev cX0_outermost : ByteArray := prog_2_method_3_code
def yX0_outermost : MethodName := ⟨RX0, "outermost", "([IIIZ)I"⟩
abbrev cX0_countUpTo : ByteArray := prog_2_method_4_code
def yX0_countUpTo : MethodName := ⟨RX0, "countUpTo", "([IIIIII)I"⟩
abbrev cX0_clear : ByteArray := prog_2_method_5_code
def yX0_clear : MethodName := ⟨RX0, "clear", "(II)V"⟩
abbrev cX0_addOne : ByteArray := prog_2_method_6_code
def yX0_addOne : MethodName := ⟨RX0, "addOne", "(III)V"⟩
abbrev cX0_choose : ByteArray := prog_2_method_7_code
def yX0_choose : MethodName := ⟨RX0, "choose", "(II)I"⟩
abbrev cX0_commonDivisor : ByteArray := prog_2_method_8_code
def yX0_commonDivisor : MethodName := ⟨RX0, "commonDivisor", "(II)I"⟩
def RX1 : String := "SlowWatch$Cutter"
def TX1 : u_T := fun k => match k with
  | 0 => ("SlowWatch$Cutter", "sorted", "[I", true)
  | 1 => ("SlowWatch$Cutter", "least", "[I", true)
  | 2 => ("SlowWatch$Cutter", "fewest", "[I", true)
  | _ => ("SlowWatch$Cutter", "next", "[I", true)
def tyX1 : Nat → FieldType := fun k => match k with
  | 0 => .array .int
  | 1 => .array .int
  | 2 => .array .int
  | _ => .array .int
theorem nmX1 : ∀ a, a < 4 → ∀ b, b < 4 → a ≠ b → (TX1 a).2.1 ≠ (TX1 b).2.1 := by decide +kernel
theorem tyX1_ok : ∀ k, k < 4 → parseFieldDescriptor (TX1 k).2.2.1 = some (tyX1 k) := by decide +kernel
abbrev cX1_init : ByteArray := prog_3_method_1_code
def yX1_init : MethodName := ⟨RX1, "<init>", "()V"⟩
abbrev cX1_divide : ByteArray := prog_3_method_2_code
def yX1_divide : MethodName := ⟨RX1, "divide", "(LSlowWatch$Row;II)V"⟩
abbrev cX1_solveFrom : ByteArray := prog_3_method_3_code
def yX1_solveFrom : MethodName := ⟨RX1, "solveFrom", "(LSlowWatch$Row;II)V"⟩
abbrev cX1_farFromMiddle : ByteArray := prog_3_method_4_code
def yX1_farFromMiddle : MethodName := ⟨RX1, "farFromMiddle", "(II)I"⟩
abbrev cX1_insert : ByteArray := prog_3_method_5_code
def yX1_insert : MethodName := ⟨RX1, "insert", "(II)V"⟩
abbrev cX1_setSpans : ByteArray := prog_3_method_6_code
def yX1_setSpans : MethodName := ⟨RX1, "setSpans", "(LSlowWatch$Row;)V"⟩
abbrev cX1_setMiddles : ByteArray := prog_3_method_7_code
def yX1_setMiddles : MethodName := ⟨RX1, "setMiddles", "(LSlowWatch$Row;)V"⟩
def RX2 : String := "SlowWatch$Halving"
def TX2 : u_T := fun k => match k with
  | 0 => ("SlowWatch$Halving", "begun", "Z", false)
  | 1 => ("SlowWatch$Halving", "lo", "I", false)
  | 2 => ("SlowWatch$Halving", "hi", "I", false)
  | 3 => ("SlowWatch$Halving", "votes", "I", false)
  | 4 => ("SlowWatch$Halving", "taken", "I", false)
  | 5 => ("SlowWatch$Halving", "cast", "I", false)
  | _ => ("SlowWatch$Halving", "slowOnes", "I", false)
def tyX2 : Nat → FieldType := fun k => match k with
  | 0 => .boolean
  | 1 => .int
  | 2 => .int
  | 3 => .int
  | 4 => .int
  | 5 => .int
  | _ => .int
theorem nmX2 : ∀ a, a < 7 → ∀ b, b < 7 → a ≠ b → (TX2 a).2.1 ≠ (TX2 b).2.1 := by decide +kernel
theorem tyX2_ok : ∀ k, k < 7 → parseFieldDescriptor (TX2 k).2.2.1 = some (tyX2 k) := by decide +kernel
abbrev cX2_init : ByteArray := prog_4_method_1_code
def yX2_init : MethodName := ⟨RX2, "<init>", "()V"⟩
abbrev cX2_begin : ByteArray := prog_4_method_2_code
def yX2_begin : MethodName := ⟨RX2, "begin", "(III)V"⟩
abbrev cX2_hasEnded : ByteArray := prog_4_method_3_code
def yX2_hasEnded : MethodName := ⟨RX2, "hasEnded", "()Z"⟩
abbrev cX2_middleBuild : ByteArray := prog_4_method_4_code
def yX2_middleBuild : MethodName := ⟨RX2, "middleBuild", "()I"⟩
abbrev cX2_mostReruns : ByteArray := prog_4_method_5_code
def yX2_mostReruns : MethodName := ⟨RX2, "mostReruns", "()I"⟩
abbrev cX2_take : ByteArray := prog_4_method_6_code
def yX2_take : MethodName := ⟨RX2, "take", "(Z)I"⟩
abbrev cX2_decide : ByteArray := prog_4_method_7_code
def yX2_decide : MethodName := ⟨RX2, "decide", "()V"⟩
def RX3 : String := "SlowWatch$Row"
def TX3 : u_T := fun k => match k with
  | 0 => ("SlowWatch$Row", "values", "[I", true)
  | 1 => ("SlowWatch$Row", "there", "Z", false)
  | 2 => ("SlowWatch$Row", "alarmed", "J", false)
  | 3 => ("SlowWatch$Row", "changed", "Z", false)
  | 4 => ("SlowWatch$Row", "cutBuilds", "I", false)
  | 5 => ("SlowWatch$Row", "cutPrice", "I", false)
  | 6 => ("SlowWatch$Row", "measured", "I", false)
  | 7 => ("SlowWatch$Row", "places", "[I", true)
  | 8 => ("SlowWatch$Row", "ranks", "[I", true)
  | 9 => ("SlowWatch$Row", "spans", "I", false)
  | 10 => ("SlowWatch$Row", "firsts", "[I", true)
  | 11 => ("SlowWatch$Row", "middles", "[I", true)
  | 12 => ("SlowWatch$Row", "mates", "[I", true)
  | _ => ("SlowWatch$Row", "total", "I", false)
def tyX3 : Nat → FieldType := fun k => match k with
  | 0 => .array .int
  | 1 => .boolean
  | 2 => .long
  | 3 => .boolean
  | 4 => .int
  | 5 => .int
  | 6 => .int
  | 7 => .array .int
  | 8 => .array .int
  | 9 => .int
  | 10 => .array .int
  | 11 => .array .int
  | 12 => .array .int
  | _ => .int
theorem nmX3 : ∀ a, a < 14 → ∀ b, b < 14 → a ≠ b → (TX3 a).2.1 ≠ (TX3 b).2.1 := by decide +kernel
theorem tyX3_ok : ∀ k, k < 14 → parseFieldDescriptor (TX3 k).2.2.1 = some (tyX3 k) := by decide +kernel
abbrev cX3_init : ByteArray := prog_5_method_1_code
def yX3_init : MethodName := ⟨RX3, "<init>", "()V"⟩
abbrev cX3_empty : ByteArray := prog_5_method_2_code
def yX3_empty : MethodName := ⟨RX3, "empty", "()V"⟩
abbrev cX3_rankOf : ByteArray := prog_5_method_3_code
def yX3_rankOf : MethodName := ⟨RX3, "rankOf", "(II)I"⟩
abbrev cX3_cutCount : ByteArray := prog_5_method_4_code
def yX3_cutCount : MethodName := ⟨RX3, "cutCount", "()I"⟩
abbrev cX3_hasCut : ByteArray := prog_5_method_5_code
def yX3_hasCut : MethodName := ⟨RX3, "hasCut", "(I)Z"⟩
abbrev cX3_cutBuild : ByteArray := prog_5_method_6_code
def yX3_cutBuild : MethodName := ⟨RX3, "cutBuild", "(I)I"⟩
abbrev cX3_stepSize : ByteArray := prog_5_method_7_code
def yX3_stepSize : MethodName := ⟨RX3, "stepSize", "(I)I"⟩
abbrev cX3_undoingOf : ByteArray := prog_5_method_8_code
def yX3_undoingOf : MethodName := ⟨RX3, "undoingOf", "(I)I"⟩
abbrev cX3_stepsNear : ByteArray := prog_5_method_9_code
def yX3_stepsNear : MethodName := ⟨RX3, "stepsNear", "(III)Z"⟩
abbrev cX3_isMeasuredAround : ByteArray := prog_5_method_10_code
def yX3_isMeasuredAround : MethodName := ⟨RX3, "isMeasuredAround", "(I)Z"⟩
abbrev cX3_rememberAlarm : ByteArray := prog_5_method_11_code
def yX3_rememberAlarm : MethodName := ⟨RX3, "rememberAlarm", "(I)V"⟩
abbrev cX3_wasAlarmed : ByteArray := prog_5_method_12_code
def yX3_wasAlarmed : MethodName := ⟨RX3, "wasAlarmed", "(I)Z"⟩
abbrev cX3_digestOnto : ByteArray := prog_5_method_13_code
def yX3_digestOnto : MethodName := ⟨RX3, "digestOnto", "(J)J"⟩
abbrev cX3_gatherMeasured : ByteArray := prog_5_method_14_code
def yX3_gatherMeasured : MethodName := ⟨RX3, "gatherMeasured", "(I)V"⟩
abbrev cX3_pairSteps : ByteArray := prog_5_method_15_code
def yX3_pairSteps : MethodName := ⟨RX3, "pairSteps", "()V"⟩
abbrev cX3_pairStep : ByteArray := prog_5_method_16_code
def yX3_pairStep : MethodName := ⟨RX3, "pairStep", "(I)V"⟩
def RX4 : String := "SlowWatch$Test"
def TX4 : u_T := fun k => match k with
  | 0 => ("SlowWatch$Test", "kind", "I", true)
  | _ => ("SlowWatch$Test", "rows", "[LSlowWatch$Row;", true)
def tyX4 : Nat → FieldType := fun k => match k with
  | 0 => .int
  | _ => .array (.object "SlowWatch$Row")
theorem nmX4 : ∀ a, a < 2 → ∀ b, b < 2 → a ≠ b → (TX4 a).2.1 ≠ (TX4 b).2.1 := by decide +kernel
theorem tyX4_ok : ∀ k, k < 2 → parseFieldDescriptor (TX4 k).2.2.1 = some (tyX4 k) := by decide +kernel
abbrev cX4_init : ByteArray := prog_6_method_1_code
def yX4_init : MethodName := ⟨RX4, "<init>", "(I)V"⟩
def RX5 : String := "SlowWatch"
def TX5 : u_T := fun k => match k with
  | 0 => ("SlowWatch", "tests", "[LSlowWatch$Test;", true)
  | 1 => ("SlowWatch", "findingCounts", "[I", true)
  | 2 => ("SlowWatch", "keptAlarms", "[I", true)
  | 3 => ("SlowWatch", "cutter", "LSlowWatch$Cutter;", true)
  | 4 => ("SlowWatch", "halving", "LSlowWatch$Halving;", true)
  | 5 => ("SlowWatch", "chances", "LSlowWatch$Chances;", false)
  | 6 => ("SlowWatch", "buildCount", "I", false)
  | 7 => ("SlowWatch", "testCount", "I", false)
  | 8 => ("SlowWatch", "cutPrice", "I", false)
  | 9 => ("SlowWatch", "stepReach", "I", false)
  | 10 => ("SlowWatch", "alarmCount", "I", false)
  | 11 => ("SlowWatch", "latestFinding", "I", false)
  | 12 => ("SlowWatch", "oddsUpper", "J", false)
  | 13 => ("SlowWatch", "oddsLower", "J", false)
  | _ => ("SlowWatch", "told", "J", false)
def tyX5 : Nat → FieldType := fun k => match k with
  | 0 => .array (.object "SlowWatch$Test")
  | 1 => .array .int
  | 2 => .array .int
  | 3 => .object "SlowWatch$Cutter"
  | 4 => .object "SlowWatch$Halving"
  | 5 => .object "SlowWatch$Chances"
  | 6 => .int
  | 7 => .int
  | 8 => .int
  | 9 => .int
  | 10 => .int
  | 11 => .int
  | 12 => .long
  | 13 => .long
  | _ => .long
theorem nmX5 : ∀ a, a < 15 → ∀ b, b < 15 → a ≠ b → (TX5 a).2.1 ≠ (TX5 b).2.1 := by decide +kernel
theorem tyX5_ok : ∀ k, k < 15 → parseFieldDescriptor (TX5 k).2.2.1 = some (tyX5 k) := by decide +kernel
abbrev cX5_init : ByteArray := prog_1_method_1_code
def yX5_init : MethodName := ⟨RX5, "<init>", "()V"⟩
abbrev cX5_builds : ByteArray := prog_1_method_2_code
def yX5_builds : MethodName := ⟨RX5, "builds", "(I)I"⟩
abbrev cX5_test : ByteArray := prog_1_method_3_code
def yX5_test : MethodName := ⟨RX5, "test", "(I)I"⟩
abbrev cX5_is : ByteArray := prog_1_method_4_code
def yX5_is : MethodName := ⟨RX5, "is", "(II)I"⟩
abbrev cX5_row : ByteArray := prog_1_method_5_code
def yX5_row : MethodName := ⟨RX5, "row", "(II)I"⟩
abbrev cX5_lay : ByteArray := prog_1_method_6_code
def yX5_lay : MethodName := ⟨RX5, "lay", "(IIII)I"⟩
abbrev cX5_at : ByteArray := prog_1_method_7_code
def yX5_at : MethodName := ⟨RX5, "at", "(III)I"⟩
abbrev cX5_tear : ByteArray := prog_1_method_8_code
def yX5_tear : MethodName := ⟨RX5, "tear", "(II)I"⟩
abbrev cX5_copy : ByteArray := prog_1_method_9_code
def yX5_copy : MethodName := ⟨RX5, "copy", "(IIIIII)I"⟩
abbrev cX5_rank : ByteArray := prog_1_method_10_code
def yX5_rank : MethodName := ⟨RX5, "rank", "(III)I"⟩
abbrev cX5_mean : ByteArray := prog_1_method_11_code
def yX5_mean : MethodName := ⟨RX5, "mean", "(II)I"⟩
abbrev cX5_price : ByteArray := prog_1_method_12_code
def yX5_price : MethodName := ⟨RX5, "price", "(I)I"⟩
abbrev cX5_cuts : ByteArray := prog_1_method_13_code
def yX5_cuts : MethodName := ⟨RX5, "cuts", "(II)I"⟩
abbrev cX5_cut : ByteArray := prog_1_method_14_code
def yX5_cut : MethodName := ⟨RX5, "cut", "(III)I"⟩
abbrev cX5_middle : ByteArray := prog_1_method_15_code
def yX5_middle : MethodName := ⟨RX5, "middle", "(III)I"⟩
abbrev cX5_size : ByteArray := prog_1_method_16_code
def yX5_size : MethodName := ⟨RX5, "size", "(III)I"⟩
abbrev cX5_reach : ByteArray := prog_1_method_17_code
def yX5_reach : MethodName := ⟨RX5, "reach", "(I)I"⟩
abbrev cX5_own : ByteArray := prog_1_method_18_code
def yX5_own : MethodName := ⟨RX5, "own", "(III)I"⟩
abbrev cX5_undone : ByteArray := prog_1_method_19_code
def yX5_undone : MethodName := ⟨RX5, "undone", "(III)I"⟩
abbrev cX5_odds : ByteArray := prog_1_method_20_code
def yX5_odds : MethodName := ⟨RX5, "odds", "(III)I"⟩
abbrev cX5_cry : ByteArray := prog_1_method_21_code
def yX5_cry : MethodName := ⟨RX5, "cry", "(III)I"⟩
abbrev cX5_cried : ByteArray := prog_1_method_22_code
def yX5_cried : MethodName := ⟨RX5, "cried", "(I)I"⟩
abbrev cX5_halve : ByteArray := prog_1_method_23_code
def yX5_halve : MethodName := ⟨RX5, "halve", "(III)I"⟩
abbrev cX5_asks : ByteArray := prog_1_method_24_code
def yX5_asks : MethodName := ⟨RX5, "asks", "()I"⟩
abbrev cX5_rerun : ByteArray := prog_1_method_25_code
def yX5_rerun : MethodName := ⟨RX5, "rerun", "(Z)I"⟩
abbrev cX5_found : ByteArray := prog_1_method_26_code
def yX5_found : MethodName := ⟨RX5, "found", "()I"⟩
abbrev cX5_reruns : ByteArray := prog_1_method_27_code
def yX5_reruns : MethodName := ⟨RX5, "reruns", "()I"⟩
abbrev cX5_upper : ByteArray := prog_1_method_28_code
def yX5_upper : MethodName := ⟨RX5, "upper", "()J"⟩
abbrev cX5_lower : ByteArray := prog_1_method_29_code
def yX5_lower : MethodName := ⟨RX5, "lower", "()J"⟩
abbrev cX5_asked : ByteArray := prog_1_method_30_code
def yX5_asked : MethodName := ⟨RX5, "asked", "()J"⟩
abbrev cX5_count : ByteArray := prog_1_method_31_code
def yX5_count : MethodName := ⟨RX5, "count", "(I)I"⟩
abbrev cX5_finding : ByteArray := prog_1_method_32_code
def yX5_finding : MethodName := ⟨RX5, "finding", "()I"⟩
abbrev cX5_findings : ByteArray := prog_1_method_33_code
def yX5_findings : MethodName := ⟨RX5, "findings", "(I)I"⟩
abbrev cX5_digest : ByteArray := prog_1_method_34_code
def yX5_digest : MethodName := ⟨RX5, "digest", "()J"⟩
abbrev cX5_isWithin : ByteArray := prog_1_method_35_code
def yX5_isWithin : MethodName := ⟨RX5, "isWithin", "(II)Z"⟩
abbrev cX5_isKind : ByteArray := prog_1_method_36_code
def yX5_isKind : MethodName := ⟨RX5, "isKind", "(I)Z"⟩
abbrev cX5_isPlace : ByteArray := prog_1_method_37_code
def yX5_isPlace : MethodName := ⟨RX5, "isPlace", "(I)Z"⟩
abbrev cX5_holds : ByteArray := prog_1_method_38_code
def yX5_holds : MethodName := ⟨RX5, "holds", "(II)Z"⟩
abbrev cX5_findTest : ByteArray := prog_1_method_39_code
def yX5_findTest : MethodName := ⟨RX5, "findTest", "(I)LSlowWatch$Test;"⟩
abbrev cX5_findRow : ByteArray := prog_1_method_40_code
def yX5_findRow : MethodName := ⟨RX5, "findRow", "(II)LSlowWatch$Row;"⟩
abbrev cX5_refuseWith : ByteArray := prog_1_method_41_code
def yX5_refuseWith : MethodName := ⟨RX5, "refuseWith", "(I)I"⟩
abbrev cX5_refuseRow : ByteArray := prog_1_method_42_code
def yX5_refuseRow : MethodName := ⟨RX5, "refuseRow", "(LSlowWatch$Row;)I"⟩
abbrev cX5_bringUpToDate : ByteArray := prog_1_method_43_code
def yX5_bringUpToDate : MethodName := ⟨RX5, "bringUpToDate", "(LSlowWatch$Row;)V"⟩
abbrev cX5_bringRowsUpToDate : ByteArray := prog_1_method_44_code
def yX5_bringRowsUpToDate : MethodName := ⟨RX5, "bringRowsUpToDate", "(LSlowWatch$Test;)V"⟩
abbrev cX5_readyChances : ByteArray := prog_1_method_45_code
def yX5_readyChances : MethodName := ⟨RX5, "readyChances", "()LSlowWatch$Chances;"⟩
abbrev cX5_isItsOwn : ByteArray := prog_1_method_46_code
def yX5_isItsOwn : MethodName := ⟨RX5, "isItsOwn", "(LSlowWatch$Test;II)Z"⟩
abbrev cX5_cryRow : ByteArray := prog_1_method_47_code
def yX5_cryRow : MethodName := ⟨RX5, "cryRow", "(IIIII)I"⟩
abbrev cX5_isAlarming : ByteArray := prog_1_method_48_code
def yX5_isAlarming : MethodName := ⟨RX5, "isAlarming", "(LSlowWatch$Test;II)Z"⟩
abbrev cX5_isRare : ByteArray := prog_1_method_49_code
def yX5_isRare : MethodName := ⟨RX5, "isRare", "(LSlowWatch$Row;III)Z"⟩
abbrev cX5_keepAlarm : ByteArray := prog_1_method_50_code
def yX5_keepAlarm : MethodName := ⟨RX5, "keepAlarm", "(I)V"⟩
abbrev cX5_countRows : ByteArray := prog_1_method_51_code
def yX5_countRows : MethodName := ⟨RX5, "countRows", "()I"⟩
def RX6 : String := "SlowWatchModel"
def TX6 : u_T := fun k => match k with
  | 0 => ("SlowWatchModel", "latest", "I", false)
  | 1 => ("SlowWatchModel", "came", "[I", true)
  | 2 => ("SlowWatchModel", "asked", "J", false)
  | 3 => ("SlowWatchModel", "builds", "I", false)
  | 4 => ("SlowWatchModel", "tests", "I", false)
  | 5 => ("SlowWatchModel", "kindOf", "[I", true)
  | 6 => ("SlowWatchModel", "isThere", "[Z", true)
  | 7 => ("SlowWatchModel", "places", "[I", true)
  | 8 => ("SlowWatchModel", "copied", "[I", true)
  | 9 => ("SlowWatchModel", "many", "I", false)
  | 10 => ("SlowWatchModel", "buildOf", "[I", true)
  | 11 => ("SlowWatchModel", "value", "[I", true)
  | 12 => ("SlowWatchModel", "rank", "[I", true)
  | 13 => ("SlowWatchModel", "price", "I", false)
  | 14 => ("SlowWatchModel", "reach", "I", false)
  | 15 => ("SlowWatchModel", "bestCost", "[I", true)
  | 16 => ("SlowWatchModel", "bestCuts", "[I", true)
  | 17 => ("SlowWatchModel", "bestNext", "[I", true)
  | 18 => ("SlowWatchModel", "spans", "I", false)
  | 19 => ("SlowWatchModel", "spanFirst", "[I", true)
  | 20 => ("SlowWatchModel", "spanMiddle", "[I", true)
  | 21 => ("SlowWatchModel", "sorted", "[I", true)
  | 22 => ("SlowWatchModel", "middlePlace", "I", false)
  | 23 => ("SlowWatchModel", "pairOf", "[I", true)
  | 24 => ("SlowWatchModel", "isPaired", "[Z", true)
  | 25 => ("SlowWatchModel", "ways", "J", false)
  | 26 => ("SlowWatchModel", "all", "J", false)
  | 27 => ("SlowWatchModel", "toldUpper", "J", false)
  | 28 => ("SlowWatchModel", "toldLower", "J", false)
  | 29 => ("SlowWatchModel", "chosen", "[J", true)
  | 30 => ("SlowWatchModel", "alarms", "I", false)
  | 31 => ("SlowWatchModel", "alarm", "[I", true)
  | 32 => ("SlowWatchModel", "wasCried", "[Z", true)
  | 33 => ("SlowWatchModel", "firstCry", "I", false)
  | 34 => ("SlowWatchModel", "isBegun", "Z", false)
  | 35 => ("SlowWatchModel", "low", "I", false)
  | 36 => ("SlowWatchModel", "high", "I", false)
  | 37 => ("SlowWatchModel", "votes", "I", false)
  | 38 => ("SlowWatchModel", "slowVotes", "I", false)
  | 39 => ("SlowWatchModel", "given", "I", false)
  | _ => ("SlowWatchModel", "reruns", "I", false)
def tyX6 : Nat → FieldType := fun k => match k with
  | 0 => .int
  | 1 => .array .int
  | 2 => .long
  | 3 => .int
  | 4 => .int
  | 5 => .array .int
  | 6 => .array .boolean
  | 7 => .array .int
  | 8 => .array .int
  | 9 => .int
  | 10 => .array .int
  | 11 => .array .int
  | 12 => .array .int
  | 13 => .int
  | 14 => .int
  | 15 => .array .int
  | 16 => .array .int
  | 17 => .array .int
  | 18 => .int
  | 19 => .array .int
  | 20 => .array .int
  | 21 => .array .int
  | 22 => .int
  | 23 => .array .int
  | 24 => .array .boolean
  | 25 => .long
  | 26 => .long
  | 27 => .long
  | 28 => .long
  | 29 => .array .long
  | 30 => .int
  | 31 => .array .int
  | 32 => .array .boolean
  | 33 => .int
  | 34 => .boolean
  | 35 => .int
  | 36 => .int
  | 37 => .int
  | 38 => .int
  | 39 => .int
  | _ => .int
theorem nmX6 : ∀ a, a < 41 → ∀ b, b < 41 → a ≠ b → (TX6 a).2.1 ≠ (TX6 b).2.1 := by decide +kernel
theorem tyX6_ok : ∀ k, k < 41 → parseFieldDescriptor (TX6 k).2.2.1 = some (tyX6 k) := by decide +kernel
abbrev cX6_init : ByteArray := prog_8_method_1_code
def yX6_init : MethodName := ⟨RX6, "<init>", "()V"⟩
abbrev cX6_in : ByteArray := prog_8_method_2_code
def yX6_in : MethodName := ⟨RX6, "in", "(III)Z"⟩
abbrev cX6_meets : ByteArray := prog_8_method_3_code
def yX6_meets : MethodName := ⟨RX6, "meets", "(I)I"⟩
abbrev cX6_finding : ByteArray := prog_8_method_4_code
def yX6_finding : MethodName := ⟨RX6, "finding", "()I"⟩
abbrev cX6_findings : ByteArray := prog_8_method_5_code
def yX6_findings : MethodName := ⟨RX6, "findings", "(I)I"⟩
abbrev cX6_asked : ByteArray := prog_8_method_6_code
def yX6_asked : MethodName := ⟨RX6, "asked", "()J"⟩
abbrev cX6_builds : ByteArray := prog_8_method_7_code
def yX6_builds : MethodName := ⟨RX6, "builds", "(I)I"⟩
abbrev cX6_isTest : ByteArray := prog_8_method_8_code
def yX6_isTest : MethodName := ⟨RX6, "isTest", "(I)Z"⟩
abbrev cX6_isRow : ByteArray := prog_8_method_9_code
def yX6_isRow : MethodName := ⟨RX6, "isRow", "(II)Z"⟩
abbrev cX6_test : ByteArray := prog_8_method_10_code
def yX6_test : MethodName := ⟨RX6, "test", "(I)I"⟩
abbrev cX6_is : ByteArray := prog_8_method_11_code
def yX6_is : MethodName := ⟨RX6, "is", "(II)I"⟩
abbrev cX6_row : ByteArray := prog_8_method_12_code
def yX6_row : MethodName := ⟨RX6, "row", "(II)I"⟩
abbrev cX6_lay : ByteArray := prog_8_method_13_code
def yX6_lay : MethodName := ⟨RX6, "lay", "(IIII)I"⟩
abbrev cX6_at : ByteArray := prog_8_method_14_code
def yX6_at : MethodName := ⟨RX6, "at", "(III)I"⟩
abbrev cX6_tear : ByteArray := prog_8_method_15_code
def yX6_tear : MethodName := ⟨RX6, "tear", "(II)I"⟩
abbrev cX6_copy : ByteArray := prog_8_method_16_code
def yX6_copy : MethodName := ⟨RX6, "copy", "(IIIIII)I"⟩
abbrev cX6_layRow : ByteArray := prog_8_method_17_code
def yX6_layRow : MethodName := ⟨RX6, "layRow", "(I)V"⟩
abbrev cX6_need : ByteArray := prog_8_method_18_code
def yX6_need : MethodName := ⟨RX6, "need", "(II)I"⟩
abbrev cX6_rank : ByteArray := prog_8_method_19_code
def yX6_rank : MethodName := ⟨RX6, "rank", "(III)I"⟩
abbrev cX6_mean : ByteArray := prog_8_method_20_code
def yX6_mean : MethodName := ⟨RX6, "mean", "(II)I"⟩
abbrev cX6_costOf : ByteArray := prog_8_method_21_code
def yX6_costOf : MethodName := ⟨RX6, "costOf", "(II)I"⟩
abbrev cX6_layCuts : ByteArray := prog_8_method_22_code
def yX6_layCuts : MethodName := ⟨RX6, "layCuts", "(I)V"⟩
abbrev cX6_isCut : ByteArray := prog_8_method_23_code
def yX6_isCut : MethodName := ⟨RX6, "isCut", "(I)Z"⟩
abbrev cX6_buildOfCut : ByteArray := prog_8_method_24_code
def yX6_buildOfCut : MethodName := ⟨RX6, "buildOfCut", "(I)I"⟩
abbrev cX6_sizeOf : ByteArray := prog_8_method_25_code
def yX6_sizeOf : MethodName := ⟨RX6, "sizeOf", "(I)I"⟩
abbrev cX6_price : ByteArray := prog_8_method_26_code
def yX6_price : MethodName := ⟨RX6, "price", "(I)I"⟩
abbrev cX6_cuts : ByteArray := prog_8_method_27_code
def yX6_cuts : MethodName := ⟨RX6, "cuts", "(II)I"⟩
abbrev cX6_cut : ByteArray := prog_8_method_28_code
def yX6_cut : MethodName := ⟨RX6, "cut", "(III)I"⟩
abbrev cX6_middle : ByteArray := prog_8_method_29_code
def yX6_middle : MethodName := ⟨RX6, "middle", "(III)I"⟩
abbrev cX6_size : ByteArray := prog_8_method_30_code
def yX6_size : MethodName := ⟨RX6, "size", "(III)I"⟩
abbrev cX6_reach : ByteArray := prog_8_method_31_code
def yX6_reach : MethodName := ⟨RX6, "reach", "(I)I"⟩
abbrev cX6_showsNear : ByteArray := prog_8_method_32_code
def yX6_showsNear : MethodName := ⟨RX6, "showsNear", "(II)Z"⟩
abbrev cX6_couldShow : ByteArray := prog_8_method_33_code
def yX6_couldShow : MethodName := ⟨RX6, "couldShow", "(I)Z"⟩
abbrev cX6_isOwn : ByteArray := prog_8_method_34_code
def yX6_isOwn : MethodName := ⟨RX6, "isOwn", "(III)Z"⟩
abbrev cX6_own : ByteArray := prog_8_method_35_code
def yX6_own : MethodName := ⟨RX6, "own", "(III)I"⟩
abbrev cX6_layPairs : ByteArray := prog_8_method_36_code
def yX6_layPairs : MethodName := ⟨RX6, "layPairs", "()V"⟩
abbrev cX6_undone : ByteArray := prog_8_method_37_code
def yX6_undone : MethodName := ⟨RX6, "undone", "(III)I"⟩
abbrev cX6_layOdds : ByteArray := prog_8_method_38_code
def yX6_layOdds : MethodName := ⟨RX6, "layOdds", "(I)Z"⟩
abbrev cX6_gcd : ByteArray := prog_8_method_39_code
def yX6_gcd : MethodName := ⟨RX6, "gcd", "(JJ)J"⟩
abbrev cX6_odds : ByteArray := prog_8_method_40_code
def yX6_odds : MethodName := ⟨RX6, "odds", "(III)I"⟩
abbrev cX6_upper : ByteArray := prog_8_method_41_code
def yX6_upper : MethodName := ⟨RX6, "upper", "()J"⟩
abbrev cX6_lower : ByteArray := prog_8_method_42_code
def yX6_lower : MethodName := ⟨RX6, "lower", "()J"⟩
abbrev cX6_isLoud : ByteArray := prog_8_method_43_code
def yX6_isLoud : MethodName := ⟨RX6, "isLoud", "(IIIIII)Z"⟩
abbrev cX6_cryOf : ByteArray := prog_8_method_44_code
def yX6_cryOf : MethodName := ⟨RX6, "cryOf", "(IIIII)I"⟩
abbrev cX6_cry : ByteArray := prog_8_method_45_code
def yX6_cry : MethodName := ⟨RX6, "cry", "(III)I"⟩
abbrev cX6_cried : ByteArray := prog_8_method_46_code
def yX6_cried : MethodName := ⟨RX6, "cried", "(I)I"⟩
abbrev cX6_middleBuild : ByteArray := prog_8_method_47_code
def yX6_middleBuild : MethodName := ⟨RX6, "middleBuild", "()I"⟩
abbrev cX6_halve : ByteArray := prog_8_method_48_code
def yX6_halve : MethodName := ⟨RX6, "halve", "(III)I"⟩
abbrev cX6_hasEnded : ByteArray := prog_8_method_49_code
def yX6_hasEnded : MethodName := ⟨RX6, "hasEnded", "()Z"⟩
abbrev cX6_asks : ByteArray := prog_8_method_50_code
def yX6_asks : MethodName := ⟨RX6, "asks", "()I"⟩
abbrev cX6_rerun : ByteArray := prog_8_method_51_code
def yX6_rerun : MethodName := ⟨RX6, "rerun", "(Z)I"⟩
abbrev cX6_found : ByteArray := prog_8_method_52_code
def yX6_found : MethodName := ⟨RX6, "found", "()I"⟩
abbrev cX6_reruns : ByteArray := prog_8_method_53_code
def yX6_reruns : MethodName := ⟨RX6, "reruns", "()I"⟩
abbrev cX6_count : ByteArray := prog_8_method_54_code
def yX6_count : MethodName := ⟨RX6, "count", "(I)I"⟩
abbrev cX6_digest : ByteArray := prog_8_method_55_code
def yX6_digest : MethodName := ⟨RX6, "digest", "()J"⟩
def RJ6 : String := "java/lang/Integer"
def TJ6 : u_T := fun k => match k with
  | _ => ("", "", "", false)
def tyJ6 : Nat → FieldType := fun k => match k with
  | _ => .int
theorem nmJ6 : ∀ a, a < 0 → ∀ b, b < 0 → a ≠ b → (TJ6 a).2.1 ≠ (TJ6 b).2.1 := by decide +kernel
theorem tyJ6_ok : ∀ k, k < 0 → parseFieldDescriptor (TJ6 k).2.2.1 = some (tyJ6 k) := by decide +kernel
abbrev cJ6_signum_0f7a4 : ByteArray := prog_9_method_56_code
def yJ6_signum_0f7a4 : MethodName := ⟨RJ6, "signum", "(I)I"⟩
def RJ9 : String := "java/lang/Math"
def TJ9 : u_T := fun k => match k with
  | _ => ("", "", "", false)
def tyJ9 : Nat → FieldType := fun k => match k with
  | _ => .int
theorem nmJ9 : ∀ a, a < 0 → ∀ b, b < 0 → a ≠ b → (TJ9 a).2.1 ≠ (TJ9 b).2.1 := by decide +kernel
theorem tyJ9_ok : ∀ k, k < 0 → parseFieldDescriptor (TJ9 k).2.2.1 = some (tyJ9 k) := by decide +kernel
abbrev cJ9_abs_0f7a4 : ByteArray := prog_10_method_59_code
def yJ9_abs_0f7a4 : MethodName := ⟨RJ9, "abs", "(I)I"⟩
abbrev cJ9_max_7cf53 : ByteArray := prog_10_method_65_code
def yJ9_max_7cf53 : MethodName := ⟨RJ9, "max", "(II)I"⟩
abbrev cJ9_min_7cf53 : ByteArray := prog_10_method_69_code
def yJ9_min_7cf53 : MethodName := ⟨RJ9, "min", "(II)I"⟩
def RJ10 : String := "java/lang/System"
def TJ10 : u_T := fun k => match k with
  | _ => ("", "", "", false)
def tyJ10 : Nat → FieldType := fun k => match k with
  | _ => .int
theorem nmJ10 : ∀ a, a < 0 → ∀ b, b < 0 → a ≠ b → (TJ10 a).2.1 ≠ (TJ10 b).2.1 := by decide +kernel
theorem tyJ10_ok : ∀ k, k < 0 → parseFieldDescriptor (TJ10 k).2.2.1 = some (tyJ10 k) := by decide +kernel
def RJ7 : String := "java/util/Arrays"
def TJ7 : u_T := fun k => match k with
  | _ => ("", "", "", false)
def tyJ7 : Nat → FieldType := fun k => match k with
  | _ => .int
theorem nmJ7 : ∀ a, a < 0 → ∀ b, b < 0 → a ≠ b → (TJ7 a).2.1 ≠ (TJ7 b).2.1 := by decide +kernel
theorem tyJ7_ok : ∀ k, k < 0 → parseFieldDescriptor (TJ7 k).2.2.1 = some (tyJ7 k) := by decide +kernel
abbrev cJ7_fill_53178 : ByteArray := prog_12_method_103_code
def yJ7_fill_53178 : MethodName := ⟨RJ7, "fill", "([II)V"⟩
def RL : String := "SlowWatchLaw"
abbrev cL_law : ByteArray := code
def yL_law : MethodName := ⟨RL, "law", "([I)Z"⟩
abbrev vwCl : List vw_C := [(RX0, TX0, 3), (RX1, TX1, 4), (RX2, TX2, 7), (RX3, TX3, 14), (RX4, TX4, 2), (RX5, TX5, 15), (RX6, TX6, 41)]
end
section
theorem dX0_init_0 : decode cX0_init 0 = .ok (.aload_n 0, 1) := by decide +kernel
theorem dX0_init_1 : decode cX0_init 1 = .ok (.invokespecial 3, 3) := by decide +kernel
theorem dX0_init_4 : decode cX0_init 4 = .ok (.aload_n 0, 1) := by decide +kernel
theorem dX0_init_5 : decode cX0_init 5 = .ok (.sipush 8591, 3) := by decide +kernel
theorem dX0_init_8 : decode cX0_init 8 = .ok (.newarray .int, 2) := by decide +kernel
theorem dX0_init_10 : decode cX0_init 10 = .ok (.putfield 9, 3) := by decide +kernel
theorem dX0_init_13 : decode cX0_init 13 = .ok (.aload_n 0, 1) := by decide +kernel
theorem dX0_init_14 : decode cX0_init 14 = .ok (.iconst 1, 1) := by decide +kernel
theorem dX0_init_15 : decode cX0_init 15 = .ok (.putfield 13, 3) := by decide +kernel
theorem dX0_init_18 : decode cX0_init 18 = .ok (.return_, 1) := by decide +kernel
theorem dX0_reckon_0 : decode cX0_reckon 0 = .ok (.aload_n 1, 1) := by decide +kernel
theorem dX0_reckon_1 : decode cX0_reckon 1 = .ok (.getfield 17, 3) := by decide +kernel
theorem dX0_reckon_4 : decode cX0_reckon 4 = .ok (.iload_n 2, 1) := by decide +kernel
theorem dX0_reckon_5 : decode cX0_reckon 5 = .ok (.iaload, 1) := by decide +kernel
theorem dX0_reckon_6 : decode cX0_reckon 6 = .ok (.istore_n 3, 1) := by decide +kernel
theorem dX0_reckon_7 : decode cX0_reckon 7 = .ok (.aload_n 1, 1) := by decide +kernel
theorem dX0_reckon_8 : decode cX0_reckon 8 = .ok (.getfield 17, 3) := by decide +kernel
theorem dX0_reckon_11 : decode cX0_reckon 11 = .ok (.iload_n 2, 1) := by decide +kernel
theorem dX0_reckon_12 : decode cX0_reckon 12 = .ok (.iconst 1, 1) := by decide +kernel
theorem dX0_reckon_13 : decode cX0_reckon 13 = .ok (.iadd, 1) := by decide +kernel
theorem dX0_reckon_14 : decode cX0_reckon 14 = .ok (.iaload, 1) := by decide +kernel
theorem dX0_reckon_15 : decode cX0_reckon 15 = .ok (.istore 4, 2) := by decide +kernel
theorem dX0_reckon_17 : decode cX0_reckon 17 = .ok (.aload_n 1, 1) := by decide +kernel
theorem dX0_reckon_18 : decode cX0_reckon 18 = .ok (.getfield 17, 3) := by decide +kernel
theorem dX0_reckon_21 : decode cX0_reckon 21 = .ok (.iload_n 2, 1) := by decide +kernel
theorem dX0_reckon_22 : decode cX0_reckon 22 = .ok (.iconst 2, 1) := by decide +kernel
theorem dX0_reckon_23 : decode cX0_reckon 23 = .ok (.iadd, 1) := by decide +kernel
theorem dX0_reckon_24 : decode cX0_reckon 24 = .ok (.iaload, 1) := by decide +kernel
theorem dX0_reckon_25 : decode cX0_reckon 25 = .ok (.istore 5, 2) := by decide +kernel
theorem dX0_reckon_27 : decode cX0_reckon 27 = .ok (.iload 5, 2) := by decide +kernel
theorem dX0_reckon_29 : decode cX0_reckon 29 = .ok (.iload_n 3, 1) := by decide +kernel
theorem dX0_reckon_30 : decode cX0_reckon 30 = .ok (.isub, 1) := by decide +kernel
theorem dX0_reckon_31 : decode cX0_reckon 31 = .ok (.istore 6, 2) := by decide +kernel
theorem dX0_reckon_33 : decode cX0_reckon 33 = .ok (.iload 6, 2) := by decide +kernel
theorem dX0_reckon_35 : decode cX0_reckon 35 = .ok (.bipush 20, 2) := by decide +kernel
theorem dX0_reckon_37 : decode cX0_reckon 37 = .ok (.if_icmp .le 5, 3) := by decide +kernel
theorem dX0_reckon_40 : decode cX0_reckon 40 = .ok (.iconst 0, 1) := by decide +kernel
theorem dX0_reckon_41 : decode cX0_reckon 41 = .ok (.ireturn, 1) := by decide +kernel
theorem dX0_reckon_42 : decode cX0_reckon 42 = .ok (.iload 5, 2) := by decide +kernel
theorem dX0_reckon_44 : decode cX0_reckon 44 = .ok (.iload 4, 2) := by decide +kernel
theorem dX0_reckon_46 : decode cX0_reckon 46 = .ok (.isub, 1) := by decide +kernel
theorem dX0_reckon_47 : decode cX0_reckon 47 = .ok (.iload 4, 2) := by decide +kernel
theorem dX0_reckon_49 : decode cX0_reckon 49 = .ok (.iload_n 3, 1) := by decide +kernel
theorem dX0_reckon_50 : decode cX0_reckon 50 = .ok (.isub, 1) := by decide +kernel
theorem dX0_reckon_51 : decode cX0_reckon 51 = .ok (.if_icmp .gt 7, 3) := by decide +kernel
theorem dX0_reckon_54 : decode cX0_reckon 54 = .ok (.iconst 1, 1) := by decide +kernel
theorem dX0_reckon_55 : decode cX0_reckon 55 = .ok (.goto 4, 3) := by decide +kernel
theorem dX0_reckon_58 : decode cX0_reckon 58 = .ok (.iconst 0, 1) := by decide +kernel
theorem dX0_reckon_59 : decode cX0_reckon 59 = .ok (.istore 7, 2) := by decide +kernel
theorem dX0_reckon_61 : decode cX0_reckon 61 = .ok (.iload 7, 2) := by decide +kernel
theorem dX0_reckon_63 : decode cX0_reckon 63 = .ok (.ifCond .eq 8, 3) := by decide +kernel
theorem dX0_reckon_66 : decode cX0_reckon 66 = .ok (.iload 4, 2) := by decide +kernel
theorem dX0_reckon_68 : decode cX0_reckon 68 = .ok (.goto 4, 3) := by decide +kernel
theorem dX0_reckon_71 : decode cX0_reckon 71 = .ok (.iload_n 3, 1) := by decide +kernel
theorem dX0_reckon_72 : decode cX0_reckon 72 = .ok (.istore 8, 2) := by decide +kernel
theorem dX0_reckon_74 : decode cX0_reckon 74 = .ok (.iload 7, 2) := by decide +kernel
theorem dX0_reckon_76 : decode cX0_reckon 76 = .ok (.ifCond .eq 11, 3) := by decide +kernel
theorem dX0_reckon_79 : decode cX0_reckon 79 = .ok (.iload 5, 2) := by decide +kernel
theorem dX0_reckon_81 : decode cX0_reckon 81 = .ok (.iload 4, 2) := by decide +kernel
theorem dX0_reckon_83 : decode cX0_reckon 83 = .ok (.isub, 1) := by decide +kernel
theorem dX0_reckon_84 : decode cX0_reckon 84 = .ok (.goto 7, 3) := by decide +kernel
theorem dX0_reckon_87 : decode cX0_reckon 87 = .ok (.iload 4, 2) := by decide +kernel
theorem dX0_reckon_89 : decode cX0_reckon 89 = .ok (.iload_n 3, 1) := by decide +kernel
theorem dX0_reckon_90 : decode cX0_reckon 90 = .ok (.isub, 1) := by decide +kernel
theorem dX0_reckon_91 : decode cX0_reckon 91 = .ok (.istore 9, 2) := by decide +kernel
theorem dX0_reckon_93 : decode cX0_reckon 93 = .ok (.aload_n 1, 1) := by decide +kernel
theorem dX0_reckon_94 : decode cX0_reckon 94 = .ok (.iload_n 2, 1) := by decide +kernel
theorem dX0_reckon_95 : decode cX0_reckon 95 = .ok (.invokevirtual 22, 3) := by decide +kernel
theorem dX0_reckon_98 : decode cX0_reckon 98 = .ok (.ifCond .le 7, 3) := by decide +kernel
theorem dX0_reckon_101 : decode cX0_reckon 101 = .ok (.iconst 1, 1) := by decide +kernel
theorem dX0_reckon_102 : decode cX0_reckon 102 = .ok (.goto 4, 3) := by decide +kernel
theorem dX0_reckon_105 : decode cX0_reckon 105 = .ok (.iconst 0, 1) := by decide +kernel
theorem dX0_reckon_106 : decode cX0_reckon 106 = .ok (.iload 7, 2) := by decide +kernel
theorem dX0_reckon_108 : decode cX0_reckon 108 = .ok (.if_icmp .ne 7, 3) := by decide +kernel
theorem dX0_reckon_111 : decode cX0_reckon 111 = .ok (.iconst 1, 1) := by decide +kernel
theorem dX0_reckon_112 : decode cX0_reckon 112 = .ok (.goto 4, 3) := by decide +kernel
theorem dX0_reckon_115 : decode cX0_reckon 115 = .ok (.iconst 0, 1) := by decide +kernel
theorem dX0_reckon_116 : decode cX0_reckon 116 = .ok (.istore 10, 2) := by decide +kernel
theorem dX0_reckon_118 : decode cX0_reckon 118 = .ok (.aload_n 1, 1) := by decide +kernel
theorem dX0_reckon_119 : decode cX0_reckon 119 = .ok (.getfield 26, 3) := by decide +kernel
theorem dX0_reckon_122 : decode cX0_reckon 122 = .ok (.iload_n 3, 1) := by decide +kernel
theorem dX0_reckon_123 : decode cX0_reckon 123 = .ok (.iload 5, 2) := by decide +kernel
theorem dX0_reckon_125 : decode cX0_reckon 125 = .ok (.iload 10, 2) := by decide +kernel
theorem dX0_reckon_127 : decode cX0_reckon 127 = .ok (.invokestatic 29, 3) := by decide +kernel
theorem dX0_reckon_130 : decode cX0_reckon 130 = .ok (.istore 11, 2) := by decide +kernel
theorem dX0_reckon_132 : decode cX0_reckon 132 = .ok (.iconst 0, 1) := by decide +kernel
theorem dX0_reckon_133 : decode cX0_reckon 133 = .ok (.istore 12, 2) := by decide +kernel
theorem dX0_reckon_135 : decode cX0_reckon 135 = .ok (.iload 8, 2) := by decide +kernel
theorem dX0_reckon_137 : decode cX0_reckon 137 = .ok (.istore 13, 2) := by decide +kernel
theorem dX0_reckon_139 : decode cX0_reckon 139 = .ok (.iload 13, 2) := by decide +kernel
theorem dX0_reckon_141 : decode cX0_reckon 141 = .ok (.iload 8, 2) := by decide +kernel
theorem dX0_reckon_143 : decode cX0_reckon 143 = .ok (.iload 9, 2) := by decide +kernel
theorem dX0_reckon_145 : decode cX0_reckon 145 = .ok (.iadd, 1) := by decide +kernel
theorem dX0_reckon_146 : decode cX0_reckon 146 = .ok (.if_icmp .ge 27, 3) := by decide +kernel
theorem dX0_reckon_149 : decode cX0_reckon 149 = .ok (.iload 12, 2) := by decide +kernel
theorem dX0_reckon_151 : decode cX0_reckon 151 = .ok (.iload 11, 2) := by decide +kernel
theorem dX0_reckon_153 : decode cX0_reckon 153 = .ok (.aload_n 1, 1) := by decide +kernel
theorem dX0_reckon_154 : decode cX0_reckon 154 = .ok (.getfield 26, 3) := by decide +kernel
theorem dX0_reckon_157 : decode cX0_reckon 157 = .ok (.iload 13, 2) := by decide +kernel
theorem dX0_reckon_159 : decode cX0_reckon 159 = .ok (.iaload, 1) := by decide +kernel
theorem dX0_reckon_160 : decode cX0_reckon 160 = .ok (.isub, 1) := by decide +kernel
theorem dX0_reckon_161 : decode cX0_reckon 161 = .ok (.invokestatic 33, 3) := by decide +kernel
theorem dX0_reckon_164 : decode cX0_reckon 164 = .ok (.iadd, 1) := by decide +kernel
theorem dX0_reckon_165 : decode cX0_reckon 165 = .ok (.istore 12, 2) := by decide +kernel
theorem dX0_reckon_167 : decode cX0_reckon 167 = .ok (.iinc 13 1, 3) := by decide +kernel
theorem dX0_reckon_170 : decode cX0_reckon 170 = .ok (.goto (-31), 3) := by decide +kernel
theorem dX0_reckon_173 : decode cX0_reckon 173 = .ok (.aload_n 0, 1) := by decide +kernel
theorem dX0_reckon_174 : decode cX0_reckon 174 = .ok (.aload_n 0, 1) := by decide +kernel
theorem dX0_reckon_175 : decode cX0_reckon 175 = .ok (.aload_n 1, 1) := by decide +kernel
theorem dX0_reckon_176 : decode cX0_reckon 176 = .ok (.getfield 26, 3) := by decide +kernel
theorem dX0_reckon_179 : decode cX0_reckon 179 = .ok (.iload_n 3, 1) := by decide +kernel
theorem dX0_reckon_180 : decode cX0_reckon 180 = .ok (.iload 5, 2) := by decide +kernel
theorem dX0_reckon_182 : decode cX0_reckon 182 = .ok (.iload 11, 2) := by decide +kernel
theorem dX0_reckon_184 : decode cX0_reckon 184 = .ok (.iload 9, 2) := by decide +kernel
theorem dX0_reckon_186 : decode cX0_reckon 186 = .ok (.iload 12, 2) := by decide +kernel
theorem dX0_reckon_188 : decode cX0_reckon 188 = .ok (.invokevirtual 38, 3) := by decide +kernel
theorem dX0_reckon_191 : decode cX0_reckon 191 = .ok (.putfield 42, 3) := by decide +kernel
theorem dX0_reckon_194 : decode cX0_reckon 194 = .ok (.aload_n 0, 1) := by decide +kernel
theorem dX0_reckon_195 : decode cX0_reckon 195 = .ok (.iload 6, 2) := by decide +kernel
theorem dX0_reckon_197 : decode cX0_reckon 197 = .ok (.iload 9, 2) := by decide +kernel
theorem dX0_reckon_199 : decode cX0_reckon 199 = .ok (.invokestatic 45, 3) := by decide +kernel
theorem dX0_reckon_202 : decode cX0_reckon 202 = .ok (.putfield 13, 3) := by decide +kernel
theorem dX0_reckon_205 : decode cX0_reckon 205 = .ok (.aload_n 0, 1) := by decide +kernel
theorem dX0_reckon_206 : decode cX0_reckon 206 = .ok (.getfield 13, 3) := by decide +kernel
theorem dX0_reckon_209 : decode cX0_reckon 209 = .ok (.aload_n 0, 1) := by decide +kernel
theorem dX0_reckon_210 : decode cX0_reckon 210 = .ok (.getfield 42, 3) := by decide +kernel
theorem dX0_reckon_213 : decode cX0_reckon 213 = .ok (.invokestatic 49, 3) := by decide +kernel
theorem dX0_reckon_216 : decode cX0_reckon 216 = .ok (.istore 13, 2) := by decide +kernel
theorem dX0_reckon_218 : decode cX0_reckon 218 = .ok (.iload 13, 2) := by decide +kernel
theorem dX0_reckon_220 : decode cX0_reckon 220 = .ok (.iconst 1, 1) := by decide +kernel
theorem dX0_reckon_221 : decode cX0_reckon 221 = .ok (.if_icmp .le 25, 3) := by decide +kernel
theorem dX0_reckon_224 : decode cX0_reckon 224 = .ok (.aload_n 0, 1) := by decide +kernel
theorem dX0_reckon_225 : decode cX0_reckon 225 = .ok (.dup, 1) := by decide +kernel
theorem dX0_reckon_226 : decode cX0_reckon 226 = .ok (.getfield 42, 3) := by decide +kernel
theorem dX0_reckon_229 : decode cX0_reckon 229 = .ok (.iload 13, 2) := by decide +kernel
theorem dX0_reckon_231 : decode cX0_reckon 231 = .ok (.idiv, 1) := by decide +kernel
theorem dX0_reckon_232 : decode cX0_reckon 232 = .ok (.putfield 42, 3) := by decide +kernel
theorem dX0_reckon_235 : decode cX0_reckon 235 = .ok (.aload_n 0, 1) := by decide +kernel
theorem dX0_reckon_236 : decode cX0_reckon 236 = .ok (.dup, 1) := by decide +kernel
theorem dX0_reckon_237 : decode cX0_reckon 237 = .ok (.getfield 13, 3) := by decide +kernel
theorem dX0_reckon_240 : decode cX0_reckon 240 = .ok (.iload 13, 2) := by decide +kernel
theorem dX0_reckon_242 : decode cX0_reckon 242 = .ok (.idiv, 1) := by decide +kernel
theorem dX0_reckon_243 : decode cX0_reckon 243 = .ok (.putfield 13, 3) := by decide +kernel
theorem dX0_reckon_246 : decode cX0_reckon 246 = .ok (.iconst 1, 1) := by decide +kernel
theorem dX0_reckon_247 : decode cX0_reckon 247 = .ok (.ireturn, 1) := by decide +kernel
theorem dX0_outermost_0 : decode cX0_outermost 0 = .ok (.aload_n 0, 1) := by decide +kernel
theorem dX0_outermost_1 : decode cX0_outermost 1 = .ok (.iload_n 1, 1) := by decide +kernel
theorem dX0_outermost_2 : decode cX0_outermost 2 = .ok (.iaload, 1) := by decide +kernel
theorem dX0_outermost_3 : decode cX0_outermost 3 = .ok (.istore 4, 2) := by decide +kernel
theorem dX0_outermost_5 : decode cX0_outermost 5 = .ok (.iload_n 1, 1) := by decide +kernel
theorem dX0_outermost_6 : decode cX0_outermost 6 = .ok (.iconst 1, 1) := by decide +kernel
theorem dX0_outermost_7 : decode cX0_outermost 7 = .ok (.iadd, 1) := by decide +kernel
theorem dX0_outermost_8 : decode cX0_outermost 8 = .ok (.istore 5, 2) := by decide +kernel
theorem dX0_outermost_10 : decode cX0_outermost 10 = .ok (.iload 5, 2) := by decide +kernel
theorem dX0_outermost_12 : decode cX0_outermost 12 = .ok (.iload_n 2, 1) := by decide +kernel
theorem dX0_outermost_13 : decode cX0_outermost 13 = .ok (.if_icmp .ge 36, 3) := by decide +kernel
theorem dX0_outermost_16 : decode cX0_outermost 16 = .ok (.iload_n 3, 1) := by decide +kernel
theorem dX0_outermost_17 : decode cX0_outermost 17 = .ok (.ifCond .eq 15, 3) := by decide +kernel
theorem dX0_outermost_20 : decode cX0_outermost 20 = .ok (.iload 4, 2) := by decide +kernel
theorem dX0_outermost_22 : decode cX0_outermost 22 = .ok (.aload_n 0, 1) := by decide +kernel
theorem dX0_outermost_23 : decode cX0_outermost 23 = .ok (.iload 5, 2) := by decide +kernel
theorem dX0_outermost_25 : decode cX0_outermost 25 = .ok (.iaload, 1) := by decide +kernel
theorem dX0_outermost_26 : decode cX0_outermost 26 = .ok (.invokestatic 52, 3) := by decide +kernel
theorem dX0_outermost_29 : decode cX0_outermost 29 = .ok (.goto 12, 3) := by decide +kernel
theorem dX0_outermost_32 : decode cX0_outermost 32 = .ok (.iload 4, 2) := by decide +kernel
theorem dX0_outermost_34 : decode cX0_outermost 34 = .ok (.aload_n 0, 1) := by decide +kernel
theorem dX0_outermost_35 : decode cX0_outermost 35 = .ok (.iload 5, 2) := by decide +kernel
theorem dX0_outermost_37 : decode cX0_outermost 37 = .ok (.iaload, 1) := by decide +kernel
theorem dX0_outermost_38 : decode cX0_outermost 38 = .ok (.invokestatic 55, 3) := by decide +kernel
theorem dX0_outermost_41 : decode cX0_outermost 41 = .ok (.istore 4, 2) := by decide +kernel
theorem dX0_outermost_43 : decode cX0_outermost 43 = .ok (.iinc 5 1, 3) := by decide +kernel
theorem dX0_outermost_46 : decode cX0_outermost 46 = .ok (.goto (-36), 3) := by decide +kernel
theorem dX0_outermost_49 : decode cX0_outermost 49 = .ok (.iload 4, 2) := by decide +kernel
theorem dX0_outermost_51 : decode cX0_outermost 51 = .ok (.ireturn, 1) := by decide +kernel
theorem dX0_countUpTo_0 : decode cX0_countUpTo 0 = .ok (.aload_n 0, 1) := by decide +kernel
theorem dX0_countUpTo_1 : decode cX0_countUpTo 1 = .ok (.iload 5, 2) := by decide +kernel
theorem dX0_countUpTo_3 : decode cX0_countUpTo 3 = .ok (.iload 6, 2) := by decide +kernel
theorem dX0_countUpTo_5 : decode cX0_countUpTo 5 = .ok (.invokevirtual 58, 3) := by decide +kernel
theorem dX0_countUpTo_8 : decode cX0_countUpTo 8 = .ok (.iload_n 2, 1) := by decide +kernel
theorem dX0_countUpTo_9 : decode cX0_countUpTo 9 = .ok (.istore 7, 2) := by decide +kernel
theorem dX0_countUpTo_11 : decode cX0_countUpTo 11 = .ok (.iload 7, 2) := by decide +kernel
theorem dX0_countUpTo_13 : decode cX0_countUpTo 13 = .ok (.iload_n 3, 1) := by decide +kernel
theorem dX0_countUpTo_14 : decode cX0_countUpTo 14 = .ok (.if_icmp .ge 36, 3) := by decide +kernel
theorem dX0_countUpTo_17 : decode cX0_countUpTo 17 = .ok (.aload_n 0, 1) := by decide +kernel
theorem dX0_countUpTo_18 : decode cX0_countUpTo 18 = .ok (.iload 4, 2) := by decide +kernel
theorem dX0_countUpTo_20 : decode cX0_countUpTo 20 = .ok (.aload_n 1, 1) := by decide +kernel
theorem dX0_countUpTo_21 : decode cX0_countUpTo 21 = .ok (.iload 7, 2) := by decide +kernel
theorem dX0_countUpTo_23 : decode cX0_countUpTo 23 = .ok (.iaload, 1) := by decide +kernel
theorem dX0_countUpTo_24 : decode cX0_countUpTo 24 = .ok (.isub, 1) := by decide +kernel
theorem dX0_countUpTo_25 : decode cX0_countUpTo 25 = .ok (.invokestatic 33, 3) := by decide +kernel
theorem dX0_countUpTo_28 : decode cX0_countUpTo 28 = .ok (.iload 5, 2) := by decide +kernel
theorem dX0_countUpTo_30 : decode cX0_countUpTo 30 = .ok (.iload 7, 2) := by decide +kernel
theorem dX0_countUpTo_32 : decode cX0_countUpTo 32 = .ok (.iload_n 2, 1) := by decide +kernel
theorem dX0_countUpTo_33 : decode cX0_countUpTo 33 = .ok (.isub, 1) := by decide +kernel
theorem dX0_countUpTo_34 : decode cX0_countUpTo 34 = .ok (.iconst 1, 1) := by decide +kernel
theorem dX0_countUpTo_35 : decode cX0_countUpTo 35 = .ok (.iadd, 1) := by decide +kernel
theorem dX0_countUpTo_36 : decode cX0_countUpTo 36 = .ok (.invokestatic 55, 3) := by decide +kernel
theorem dX0_countUpTo_39 : decode cX0_countUpTo 39 = .ok (.iload 6, 2) := by decide +kernel
theorem dX0_countUpTo_41 : decode cX0_countUpTo 41 = .ok (.invokevirtual 62, 3) := by decide +kernel
theorem dX0_countUpTo_44 : decode cX0_countUpTo 44 = .ok (.iinc 7 1, 3) := by decide +kernel
theorem dX0_countUpTo_47 : decode cX0_countUpTo 47 = .ok (.goto (-36), 3) := by decide +kernel
theorem dX0_countUpTo_50 : decode cX0_countUpTo 50 = .ok (.iconst 0, 1) := by decide +kernel
theorem dX0_countUpTo_51 : decode cX0_countUpTo 51 = .ok (.istore 7, 2) := by decide +kernel
theorem dX0_countUpTo_53 : decode cX0_countUpTo 53 = .ok (.iconst 0, 1) := by decide +kernel
theorem dX0_countUpTo_54 : decode cX0_countUpTo 54 = .ok (.istore 8, 2) := by decide +kernel
theorem dX0_countUpTo_56 : decode cX0_countUpTo 56 = .ok (.iload 8, 2) := by decide +kernel
theorem dX0_countUpTo_58 : decode cX0_countUpTo 58 = .ok (.iload 6, 2) := by decide +kernel
theorem dX0_countUpTo_60 : decode cX0_countUpTo 60 = .ok (.if_icmp .gt 28, 3) := by decide +kernel
theorem dX0_countUpTo_63 : decode cX0_countUpTo 63 = .ok (.iload 7, 2) := by decide +kernel
theorem dX0_countUpTo_65 : decode cX0_countUpTo 65 = .ok (.aload_n 0, 1) := by decide +kernel
theorem dX0_countUpTo_66 : decode cX0_countUpTo 66 = .ok (.getfield 9, 3) := by decide +kernel
theorem dX0_countUpTo_69 : decode cX0_countUpTo 69 = .ok (.iload 5, 2) := by decide +kernel
theorem dX0_countUpTo_71 : decode cX0_countUpTo 71 = .ok (.sipush 781, 3) := by decide +kernel
theorem dX0_countUpTo_74 : decode cX0_countUpTo 74 = .ok (.imul, 1) := by decide +kernel
theorem dX0_countUpTo_75 : decode cX0_countUpTo 75 = .ok (.iload 8, 2) := by decide +kernel
theorem dX0_countUpTo_77 : decode cX0_countUpTo 77 = .ok (.iadd, 1) := by decide +kernel
theorem dX0_countUpTo_78 : decode cX0_countUpTo 78 = .ok (.iaload, 1) := by decide +kernel
theorem dX0_countUpTo_79 : decode cX0_countUpTo 79 = .ok (.iadd, 1) := by decide +kernel
theorem dX0_countUpTo_80 : decode cX0_countUpTo 80 = .ok (.istore 7, 2) := by decide +kernel
theorem dX0_countUpTo_82 : decode cX0_countUpTo 82 = .ok (.iinc 8 1, 3) := by decide +kernel
theorem dX0_countUpTo_85 : decode cX0_countUpTo 85 = .ok (.goto (-29), 3) := by decide +kernel
theorem dX0_countUpTo_88 : decode cX0_countUpTo 88 = .ok (.iload 7, 2) := by decide +kernel
theorem dX0_countUpTo_90 : decode cX0_countUpTo 90 = .ok (.ireturn, 1) := by decide +kernel
theorem dX0_clear_0 : decode cX0_clear 0 = .ok (.iconst 0, 1) := by decide +kernel
theorem dX0_clear_1 : decode cX0_clear 1 = .ok (.istore_n 3, 1) := by decide +kernel
theorem dX0_clear_2 : decode cX0_clear 2 = .ok (.iload_n 3, 1) := by decide +kernel
theorem dX0_clear_3 : decode cX0_clear 3 = .ok (.iload_n 1, 1) := by decide +kernel
theorem dX0_clear_4 : decode cX0_clear 4 = .ok (.if_icmp .gt 38, 3) := by decide +kernel
theorem dX0_clear_7 : decode cX0_clear 7 = .ok (.iconst 0, 1) := by decide +kernel
theorem dX0_clear_8 : decode cX0_clear 8 = .ok (.istore 4, 2) := by decide +kernel
theorem dX0_clear_10 : decode cX0_clear 10 = .ok (.iload 4, 2) := by decide +kernel
theorem dX0_clear_12 : decode cX0_clear 12 = .ok (.iload_n 2, 1) := by decide +kernel
theorem dX0_clear_13 : decode cX0_clear 13 = .ok (.if_icmp .gt 23, 3) := by decide +kernel
theorem dX0_clear_16 : decode cX0_clear 16 = .ok (.aload_n 0, 1) := by decide +kernel
theorem dX0_clear_17 : decode cX0_clear 17 = .ok (.getfield 9, 3) := by decide +kernel
theorem dX0_clear_20 : decode cX0_clear 20 = .ok (.iload_n 3, 1) := by decide +kernel
theorem dX0_clear_21 : decode cX0_clear 21 = .ok (.sipush 781, 3) := by decide +kernel
theorem dX0_clear_24 : decode cX0_clear 24 = .ok (.imul, 1) := by decide +kernel
theorem dX0_clear_25 : decode cX0_clear 25 = .ok (.iload 4, 2) := by decide +kernel
theorem dX0_clear_27 : decode cX0_clear 27 = .ok (.iadd, 1) := by decide +kernel
theorem dX0_clear_28 : decode cX0_clear 28 = .ok (.iconst 0, 1) := by decide +kernel
theorem dX0_clear_29 : decode cX0_clear 29 = .ok (.iastore, 1) := by decide +kernel
theorem dX0_clear_30 : decode cX0_clear 30 = .ok (.iinc 4 1, 3) := by decide +kernel
theorem dX0_clear_33 : decode cX0_clear 33 = .ok (.goto (-23), 3) := by decide +kernel
theorem dX0_clear_36 : decode cX0_clear 36 = .ok (.iinc 3 1, 3) := by decide +kernel
theorem dX0_clear_39 : decode cX0_clear 39 = .ok (.goto (-37), 3) := by decide +kernel
theorem dX0_clear_42 : decode cX0_clear 42 = .ok (.aload_n 0, 1) := by decide +kernel
theorem dX0_clear_43 : decode cX0_clear 43 = .ok (.getfield 9, 3) := by decide +kernel
theorem dX0_clear_46 : decode cX0_clear 46 = .ok (.iconst 0, 1) := by decide +kernel
theorem dX0_clear_47 : decode cX0_clear 47 = .ok (.iconst 1, 1) := by decide +kernel
theorem dX0_clear_48 : decode cX0_clear 48 = .ok (.iastore, 1) := by decide +kernel
theorem dX0_clear_49 : decode cX0_clear 49 = .ok (.return_, 1) := by decide +kernel
theorem dX0_addOne_0 : decode cX0_addOne 0 = .ok (.iload_n 2, 1) := by decide +kernel
theorem dX0_addOne_1 : decode cX0_addOne 1 = .ok (.istore 4, 2) := by decide +kernel
theorem dX0_addOne_3 : decode cX0_addOne 3 = .ok (.iload 4, 2) := by decide +kernel
theorem dX0_addOne_5 : decode cX0_addOne 5 = .ok (.ifCond .le 65, 3) := by decide +kernel
theorem dX0_addOne_8 : decode cX0_addOne 8 = .ok (.iload 4, 2) := by decide +kernel
theorem dX0_addOne_10 : decode cX0_addOne 10 = .ok (.sipush 781, 3) := by decide +kernel
theorem dX0_addOne_13 : decode cX0_addOne 13 = .ok (.imul, 1) := by decide +kernel
theorem dX0_addOne_14 : decode cX0_addOne 14 = .ok (.istore 5, 2) := by decide +kernel
theorem dX0_addOne_16 : decode cX0_addOne 16 = .ok (.iload 5, 2) := by decide +kernel
theorem dX0_addOne_18 : decode cX0_addOne 18 = .ok (.sipush 781, 3) := by decide +kernel
theorem dX0_addOne_21 : decode cX0_addOne 21 = .ok (.isub, 1) := by decide +kernel
theorem dX0_addOne_22 : decode cX0_addOne 22 = .ok (.iload_n 1, 1) := by decide +kernel
theorem dX0_addOne_23 : decode cX0_addOne 23 = .ok (.isub, 1) := by decide +kernel
theorem dX0_addOne_24 : decode cX0_addOne 24 = .ok (.istore 6, 2) := by decide +kernel
theorem dX0_addOne_26 : decode cX0_addOne 26 = .ok (.iload_n 1, 1) := by decide +kernel
theorem dX0_addOne_27 : decode cX0_addOne 27 = .ok (.istore 7, 2) := by decide +kernel
theorem dX0_addOne_29 : decode cX0_addOne 29 = .ok (.iload 7, 2) := by decide +kernel
theorem dX0_addOne_31 : decode cX0_addOne 31 = .ok (.iload_n 3, 1) := by decide +kernel
theorem dX0_addOne_32 : decode cX0_addOne 32 = .ok (.if_icmp .gt 32, 3) := by decide +kernel
theorem dX0_addOne_35 : decode cX0_addOne 35 = .ok (.aload_n 0, 1) := by decide +kernel
theorem dX0_addOne_36 : decode cX0_addOne 36 = .ok (.getfield 9, 3) := by decide +kernel
theorem dX0_addOne_39 : decode cX0_addOne 39 = .ok (.iload 5, 2) := by decide +kernel
theorem dX0_addOne_41 : decode cX0_addOne 41 = .ok (.iload 7, 2) := by decide +kernel
theorem dX0_addOne_43 : decode cX0_addOne 43 = .ok (.iadd, 1) := by decide +kernel
theorem dX0_addOne_44 : decode cX0_addOne 44 = .ok (.dup2, 1) := by decide +kernel
theorem dX0_addOne_45 : decode cX0_addOne 45 = .ok (.iaload, 1) := by decide +kernel
theorem dX0_addOne_46 : decode cX0_addOne 46 = .ok (.aload_n 0, 1) := by decide +kernel
theorem dX0_addOne_47 : decode cX0_addOne 47 = .ok (.getfield 9, 3) := by decide +kernel
theorem dX0_addOne_50 : decode cX0_addOne 50 = .ok (.iload 6, 2) := by decide +kernel
theorem dX0_addOne_52 : decode cX0_addOne 52 = .ok (.iload 7, 2) := by decide +kernel
theorem dX0_addOne_54 : decode cX0_addOne 54 = .ok (.iadd, 1) := by decide +kernel
theorem dX0_addOne_55 : decode cX0_addOne 55 = .ok (.iaload, 1) := by decide +kernel
theorem dX0_addOne_56 : decode cX0_addOne 56 = .ok (.iadd, 1) := by decide +kernel
theorem dX0_addOne_57 : decode cX0_addOne 57 = .ok (.iastore, 1) := by decide +kernel
theorem dX0_addOne_58 : decode cX0_addOne 58 = .ok (.iinc 7 1, 3) := by decide +kernel
theorem dX0_addOne_61 : decode cX0_addOne 61 = .ok (.goto (-32), 3) := by decide +kernel
theorem dX0_addOne_64 : decode cX0_addOne 64 = .ok (.iinc 4 (-1), 3) := by decide +kernel
theorem dX0_addOne_67 : decode cX0_addOne 67 = .ok (.goto (-64), 3) := by decide +kernel
theorem dX0_addOne_70 : decode cX0_addOne 70 = .ok (.return_, 1) := by decide +kernel
theorem dX0_choose_0 : decode cX0_choose 0 = .ok (.iconst 1, 1) := by decide +kernel
theorem dX0_choose_1 : decode cX0_choose 1 = .ok (.istore_n 2, 1) := by decide +kernel
theorem dX0_choose_2 : decode cX0_choose 2 = .ok (.iconst 1, 1) := by decide +kernel
theorem dX0_choose_3 : decode cX0_choose 3 = .ok (.istore_n 3, 1) := by decide +kernel
theorem dX0_choose_4 : decode cX0_choose 4 = .ok (.iload_n 3, 1) := by decide +kernel
theorem dX0_choose_5 : decode cX0_choose 5 = .ok (.iload_n 1, 1) := by decide +kernel
theorem dX0_choose_6 : decode cX0_choose 6 = .ok (.if_icmp .gt 19, 3) := by decide +kernel
theorem dX0_choose_9 : decode cX0_choose 9 = .ok (.iload_n 2, 1) := by decide +kernel
theorem dX0_choose_10 : decode cX0_choose 10 = .ok (.iload_n 0, 1) := by decide +kernel
theorem dX0_choose_11 : decode cX0_choose 11 = .ok (.iload_n 1, 1) := by decide +kernel
theorem dX0_choose_12 : decode cX0_choose 12 = .ok (.isub, 1) := by decide +kernel
theorem dX0_choose_13 : decode cX0_choose 13 = .ok (.iload_n 3, 1) := by decide +kernel
theorem dX0_choose_14 : decode cX0_choose 14 = .ok (.iadd, 1) := by decide +kernel
theorem dX0_choose_15 : decode cX0_choose 15 = .ok (.imul, 1) := by decide +kernel
theorem dX0_choose_16 : decode cX0_choose 16 = .ok (.iload_n 3, 1) := by decide +kernel
theorem dX0_choose_17 : decode cX0_choose 17 = .ok (.idiv, 1) := by decide +kernel
theorem dX0_choose_18 : decode cX0_choose 18 = .ok (.istore_n 2, 1) := by decide +kernel
theorem dX0_choose_19 : decode cX0_choose 19 = .ok (.iinc 3 1, 3) := by decide +kernel
theorem dX0_choose_22 : decode cX0_choose 22 = .ok (.goto (-18), 3) := by decide +kernel
theorem dX0_choose_25 : decode cX0_choose 25 = .ok (.iload_n 2, 1) := by decide +kernel
theorem dX0_choose_26 : decode cX0_choose 26 = .ok (.ireturn, 1) := by decide +kernel
theorem dX0_commonDivisor_0 : decode cX0_commonDivisor 0 = .ok (.iload_n 0, 1) := by decide +kernel
theorem dX0_commonDivisor_1 : decode cX0_commonDivisor 1 = .ok (.istore_n 2, 1) := by decide +kernel
theorem dX0_commonDivisor_2 : decode cX0_commonDivisor 2 = .ok (.iload_n 1, 1) := by decide +kernel
theorem dX0_commonDivisor_3 : decode cX0_commonDivisor 3 = .ok (.istore_n 3, 1) := by decide +kernel
theorem dX0_commonDivisor_4 : decode cX0_commonDivisor 4 = .ok (.iconst 0, 1) := by decide +kernel
theorem dX0_commonDivisor_5 : decode cX0_commonDivisor 5 = .ok (.istore 4, 2) := by decide +kernel
theorem dX0_commonDivisor_7 : decode cX0_commonDivisor 7 = .ok (.iload 4, 2) := by decide +kernel
theorem dX0_commonDivisor_9 : decode cX0_commonDivisor 9 = .ok (.bipush 64, 2) := by decide +kernel
theorem dX0_commonDivisor_11 : decode cX0_commonDivisor 11 = .ok (.if_icmp .ge 23, 3) := by decide +kernel
theorem dX0_commonDivisor_14 : decode cX0_commonDivisor 14 = .ok (.iload_n 3, 1) := by decide +kernel
theorem dX0_commonDivisor_15 : decode cX0_commonDivisor 15 = .ok (.ifCond .eq 19, 3) := by decide +kernel
theorem dX0_commonDivisor_18 : decode cX0_commonDivisor 18 = .ok (.iload_n 2, 1) := by decide +kernel
theorem dX0_commonDivisor_19 : decode cX0_commonDivisor 19 = .ok (.iload_n 3, 1) := by decide +kernel
theorem dX0_commonDivisor_20 : decode cX0_commonDivisor 20 = .ok (.irem, 1) := by decide +kernel
theorem dX0_commonDivisor_21 : decode cX0_commonDivisor 21 = .ok (.istore 5, 2) := by decide +kernel
theorem dX0_commonDivisor_23 : decode cX0_commonDivisor 23 = .ok (.iload_n 3, 1) := by decide +kernel
theorem dX0_commonDivisor_24 : decode cX0_commonDivisor 24 = .ok (.istore_n 2, 1) := by decide +kernel
theorem dX0_commonDivisor_25 : decode cX0_commonDivisor 25 = .ok (.iload 5, 2) := by decide +kernel
theorem dX0_commonDivisor_27 : decode cX0_commonDivisor 27 = .ok (.istore_n 3, 1) := by decide +kernel
theorem dX0_commonDivisor_28 : decode cX0_commonDivisor 28 = .ok (.iinc 4 1, 3) := by decide +kernel
theorem dX0_commonDivisor_31 : decode cX0_commonDivisor 31 = .ok (.goto (-24), 3) := by decide +kernel
theorem dX0_commonDivisor_34 : decode cX0_commonDivisor 34 = .ok (.iload_n 2, 1) := by decide +kernel
theorem dX0_commonDivisor_35 : decode cX0_commonDivisor 35 = .ok (.ireturn, 1) := by decide +kernel
theorem dX1_init_0 : decode cX1_init 0 = .ok (.aload_n 0, 1) := by decide +kernel
theorem dX1_init_1 : decode cX1_init 1 = .ok (.invokespecial 3, 3) := by decide +kernel
theorem dX1_init_4 : decode cX1_init 4 = .ok (.aload_n 0, 1) := by decide +kernel
theorem dX1_init_5 : decode cX1_init 5 = .ok (.bipush 40, 2) := by decide +kernel
theorem dX1_init_7 : decode cX1_init 7 = .ok (.newarray .int, 2) := by decide +kernel
theorem dX1_init_9 : decode cX1_init 9 = .ok (.putfield 9, 3) := by decide +kernel
theorem dX1_init_12 : decode cX1_init 12 = .ok (.aload_n 0, 1) := by decide +kernel
theorem dX1_init_13 : decode cX1_init 13 = .ok (.bipush 40, 2) := by decide +kernel
theorem dX1_init_15 : decode cX1_init 15 = .ok (.newarray .int, 2) := by decide +kernel
theorem dX1_init_17 : decode cX1_init 17 = .ok (.putfield 15, 3) := by decide +kernel
theorem dX1_init_20 : decode cX1_init 20 = .ok (.aload_n 0, 1) := by decide +kernel
theorem dX1_init_21 : decode cX1_init 21 = .ok (.bipush 40, 2) := by decide +kernel
theorem dX1_init_23 : decode cX1_init 23 = .ok (.newarray .int, 2) := by decide +kernel
theorem dX1_init_25 : decode cX1_init 25 = .ok (.putfield 18, 3) := by decide +kernel
theorem dX1_init_28 : decode cX1_init 28 = .ok (.aload_n 0, 1) := by decide +kernel
theorem dX1_init_29 : decode cX1_init 29 = .ok (.bipush 40, 2) := by decide +kernel
theorem dX1_init_31 : decode cX1_init 31 = .ok (.newarray .int, 2) := by decide +kernel
theorem dX1_init_33 : decode cX1_init 33 = .ok (.putfield 21, 3) := by decide +kernel
theorem dX1_init_36 : decode cX1_init 36 = .ok (.return_, 1) := by decide +kernel
theorem dX1_divide_0 : decode cX1_divide 0 = .ok (.aload_n 1, 1) := by decide +kernel
theorem dX1_divide_1 : decode cX1_divide 1 = .ok (.iload_n 2, 1) := by decide +kernel
theorem dX1_divide_2 : decode cX1_divide 2 = .ok (.invokevirtual 24, 3) := by decide +kernel
theorem dX1_divide_5 : decode cX1_divide 5 = .ok (.aload_n 1, 1) := by decide +kernel
theorem dX1_divide_6 : decode cX1_divide 6 = .ok (.getfield 30, 3) := by decide +kernel
theorem dX1_divide_9 : decode cX1_divide 9 = .ok (.iconst 1, 1) := by decide +kernel
theorem dX1_divide_10 : decode cX1_divide 10 = .ok (.isub, 1) := by decide +kernel
theorem dX1_divide_11 : decode cX1_divide 11 = .ok (.istore 4, 2) := by decide +kernel
theorem dX1_divide_13 : decode cX1_divide 13 = .ok (.iload 4, 2) := by decide +kernel
theorem dX1_divide_15 : decode cX1_divide 15 = .ok (.ifCond .lt 17, 3) := by decide +kernel
theorem dX1_divide_18 : decode cX1_divide 18 = .ok (.aload_n 0, 1) := by decide +kernel
theorem dX1_divide_19 : decode cX1_divide 19 = .ok (.aload_n 1, 1) := by decide +kernel
theorem dX1_divide_20 : decode cX1_divide 20 = .ok (.iload 4, 2) := by decide +kernel
theorem dX1_divide_22 : decode cX1_divide 22 = .ok (.iload_n 3, 1) := by decide +kernel
theorem dX1_divide_23 : decode cX1_divide 23 = .ok (.invokevirtual 34, 3) := by decide +kernel
theorem dX1_divide_26 : decode cX1_divide 26 = .ok (.iinc 4 (-1), 3) := by decide +kernel
theorem dX1_divide_29 : decode cX1_divide 29 = .ok (.goto (-16), 3) := by decide +kernel
theorem dX1_divide_32 : decode cX1_divide 32 = .ok (.aload_n 1, 1) := by decide +kernel
theorem dX1_divide_33 : decode cX1_divide 33 = .ok (.aload_n 1, 1) := by decide +kernel
theorem dX1_divide_34 : decode cX1_divide 34 = .ok (.getfield 30, 3) := by decide +kernel
theorem dX1_divide_37 : decode cX1_divide 37 = .ok (.ifCond .le 12, 3) := by decide +kernel
theorem dX1_divide_40 : decode cX1_divide 40 = .ok (.aload_n 0, 1) := by decide +kernel
theorem dX1_divide_41 : decode cX1_divide 41 = .ok (.getfield 15, 3) := by decide +kernel
theorem dX1_divide_44 : decode cX1_divide 44 = .ok (.iconst 0, 1) := by decide +kernel
theorem dX1_divide_45 : decode cX1_divide 45 = .ok (.iaload, 1) := by decide +kernel
theorem dX1_divide_46 : decode cX1_divide 46 = .ok (.goto 4, 3) := by decide +kernel
theorem dX1_divide_49 : decode cX1_divide 49 = .ok (.iconst 0, 1) := by decide +kernel
theorem dX1_divide_50 : decode cX1_divide 50 = .ok (.putfield 38, 3) := by decide +kernel
theorem dX1_divide_53 : decode cX1_divide 53 = .ok (.aload_n 0, 1) := by decide +kernel
theorem dX1_divide_54 : decode cX1_divide 54 = .ok (.aload_n 1, 1) := by decide +kernel
theorem dX1_divide_55 : decode cX1_divide 55 = .ok (.invokevirtual 41, 3) := by decide +kernel
theorem dX1_divide_58 : decode cX1_divide 58 = .ok (.aload_n 0, 1) := by decide +kernel
theorem dX1_divide_59 : decode cX1_divide 59 = .ok (.aload_n 1, 1) := by decide +kernel
theorem dX1_divide_60 : decode cX1_divide 60 = .ok (.invokevirtual 45, 3) := by decide +kernel
theorem dX1_divide_63 : decode cX1_divide 63 = .ok (.aload_n 1, 1) := by decide +kernel
theorem dX1_divide_64 : decode cX1_divide 64 = .ok (.invokevirtual 48, 3) := by decide +kernel
theorem dX1_divide_67 : decode cX1_divide 67 = .ok (.aload_n 1, 1) := by decide +kernel
theorem dX1_divide_68 : decode cX1_divide 68 = .ok (.iconst 0, 1) := by decide +kernel
theorem dX1_divide_69 : decode cX1_divide 69 = .ok (.putfield 51, 3) := by decide +kernel
theorem dX1_divide_72 : decode cX1_divide 72 = .ok (.aload_n 1, 1) := by decide +kernel
theorem dX1_divide_73 : decode cX1_divide 73 = .ok (.iload_n 2, 1) := by decide +kernel
theorem dX1_divide_74 : decode cX1_divide 74 = .ok (.putfield 55, 3) := by decide +kernel
theorem dX1_divide_77 : decode cX1_divide 77 = .ok (.aload_n 1, 1) := by decide +kernel
theorem dX1_divide_78 : decode cX1_divide 78 = .ok (.iload_n 3, 1) := by decide +kernel
theorem dX1_divide_79 : decode cX1_divide 79 = .ok (.putfield 58, 3) := by decide +kernel
theorem dX1_divide_82 : decode cX1_divide 82 = .ok (.return_, 1) := by decide +kernel
theorem dX1_solveFrom_0 : decode cX1_solveFrom 0 = .ok (.iconst 0, 1) := by decide +kernel
theorem dX1_solveFrom_1 : decode cX1_solveFrom 1 = .ok (.istore 4, 2) := by decide +kernel
theorem dX1_solveFrom_3 : decode cX1_solveFrom 3 = .ok (.iload_n 2, 1) := by decide +kernel
theorem dX1_solveFrom_4 : decode cX1_solveFrom 4 = .ok (.istore 5, 2) := by decide +kernel
theorem dX1_solveFrom_6 : decode cX1_solveFrom 6 = .ok (.iload 5, 2) := by decide +kernel
theorem dX1_solveFrom_8 : decode cX1_solveFrom 8 = .ok (.aload_n 1, 1) := by decide +kernel
theorem dX1_solveFrom_9 : decode cX1_solveFrom 9 = .ok (.getfield 30, 3) := by decide +kernel
theorem dX1_solveFrom_12 : decode cX1_solveFrom 12 = .ok (.if_icmp .ge 186, 3) := by decide +kernel
theorem dX1_solveFrom_15 : decode cX1_solveFrom 15 = .ok (.iload 5, 2) := by decide +kernel
theorem dX1_solveFrom_17 : decode cX1_solveFrom 17 = .ok (.iload_n 2, 1) := by decide +kernel
theorem dX1_solveFrom_18 : decode cX1_solveFrom 18 = .ok (.isub, 1) := by decide +kernel
theorem dX1_solveFrom_19 : decode cX1_solveFrom 19 = .ok (.istore 6, 2) := by decide +kernel
theorem dX1_solveFrom_21 : decode cX1_solveFrom 21 = .ok (.iload 4, 2) := by decide +kernel
theorem dX1_solveFrom_23 : decode cX1_solveFrom 23 = .ok (.aload_n 0, 1) := by decide +kernel
theorem dX1_solveFrom_24 : decode cX1_solveFrom 24 = .ok (.aload_n 1, 1) := by decide +kernel
theorem dX1_solveFrom_25 : decode cX1_solveFrom 25 = .ok (.getfield 61, 3) := by decide +kernel
theorem dX1_solveFrom_28 : decode cX1_solveFrom 28 = .ok (.iload 5, 2) := by decide +kernel
theorem dX1_solveFrom_30 : decode cX1_solveFrom 30 = .ok (.iaload, 1) := by decide +kernel
theorem dX1_solveFrom_31 : decode cX1_solveFrom 31 = .ok (.iload 6, 2) := by decide +kernel
theorem dX1_solveFrom_33 : decode cX1_solveFrom 33 = .ok (.invokevirtual 64, 3) := by decide +kernel
theorem dX1_solveFrom_36 : decode cX1_solveFrom 36 = .ok (.iadd, 1) := by decide +kernel
theorem dX1_solveFrom_37 : decode cX1_solveFrom 37 = .ok (.istore 4, 2) := by decide +kernel
theorem dX1_solveFrom_39 : decode cX1_solveFrom 39 = .ok (.aload_n 0, 1) := by decide +kernel
theorem dX1_solveFrom_40 : decode cX1_solveFrom 40 = .ok (.aload_n 1, 1) := by decide +kernel
theorem dX1_solveFrom_41 : decode cX1_solveFrom 41 = .ok (.getfield 61, 3) := by decide +kernel
theorem dX1_solveFrom_44 : decode cX1_solveFrom 44 = .ok (.iload 5, 2) := by decide +kernel
theorem dX1_solveFrom_46 : decode cX1_solveFrom 46 = .ok (.iaload, 1) := by decide +kernel
theorem dX1_solveFrom_47 : decode cX1_solveFrom 47 = .ok (.iload 6, 2) := by decide +kernel
theorem dX1_solveFrom_49 : decode cX1_solveFrom 49 = .ok (.invokevirtual 68, 3) := by decide +kernel
theorem dX1_solveFrom_52 : decode cX1_solveFrom 52 = .ok (.iload 5, 2) := by decide +kernel
theorem dX1_solveFrom_54 : decode cX1_solveFrom 54 = .ok (.iconst 1, 1) := by decide +kernel
theorem dX1_solveFrom_55 : decode cX1_solveFrom 55 = .ok (.iadd, 1) := by decide +kernel
theorem dX1_solveFrom_56 : decode cX1_solveFrom 56 = .ok (.istore 7, 2) := by decide +kernel
theorem dX1_solveFrom_58 : decode cX1_solveFrom 58 = .ok (.iload 7, 2) := by decide +kernel
theorem dX1_solveFrom_60 : decode cX1_solveFrom 60 = .ok (.aload_n 1, 1) := by decide +kernel
theorem dX1_solveFrom_61 : decode cX1_solveFrom 61 = .ok (.getfield 30, 3) := by decide +kernel
theorem dX1_solveFrom_64 : decode cX1_solveFrom 64 = .ok (.if_icmp .ne 7, 3) := by decide +kernel
theorem dX1_solveFrom_67 : decode cX1_solveFrom 67 = .ok (.iconst 1, 1) := by decide +kernel
theorem dX1_solveFrom_68 : decode cX1_solveFrom 68 = .ok (.goto 4, 3) := by decide +kernel
theorem dX1_solveFrom_71 : decode cX1_solveFrom 71 = .ok (.iconst 0, 1) := by decide +kernel
theorem dX1_solveFrom_72 : decode cX1_solveFrom 72 = .ok (.istore 8, 2) := by decide +kernel
theorem dX1_solveFrom_74 : decode cX1_solveFrom 74 = .ok (.iload 8, 2) := by decide +kernel
theorem dX1_solveFrom_76 : decode cX1_solveFrom 76 = .ok (.ifCond .eq 8, 3) := by decide +kernel
theorem dX1_solveFrom_79 : decode cX1_solveFrom 79 = .ok (.iload 4, 2) := by decide +kernel
theorem dX1_solveFrom_81 : decode cX1_solveFrom 81 = .ok (.goto 15, 3) := by decide +kernel
theorem dX1_solveFrom_84 : decode cX1_solveFrom 84 = .ok (.iload 4, 2) := by decide +kernel
theorem dX1_solveFrom_86 : decode cX1_solveFrom 86 = .ok (.iload_n 3, 1) := by decide +kernel
theorem dX1_solveFrom_87 : decode cX1_solveFrom 87 = .ok (.iadd, 1) := by decide +kernel
theorem dX1_solveFrom_88 : decode cX1_solveFrom 88 = .ok (.aload_n 0, 1) := by decide +kernel
theorem dX1_solveFrom_89 : decode cX1_solveFrom 89 = .ok (.getfield 15, 3) := by decide +kernel
theorem dX1_solveFrom_92 : decode cX1_solveFrom 92 = .ok (.iload 7, 2) := by decide +kernel
theorem dX1_solveFrom_94 : decode cX1_solveFrom 94 = .ok (.iaload, 1) := by decide +kernel
theorem dX1_solveFrom_95 : decode cX1_solveFrom 95 = .ok (.iadd, 1) := by decide +kernel
theorem dX1_solveFrom_96 : decode cX1_solveFrom 96 = .ok (.istore 9, 2) := by decide +kernel
theorem dX1_solveFrom_98 : decode cX1_solveFrom 98 = .ok (.iload 8, 2) := by decide +kernel
theorem dX1_solveFrom_100 : decode cX1_solveFrom 100 = .ok (.ifCond .eq 7, 3) := by decide +kernel
theorem dX1_solveFrom_103 : decode cX1_solveFrom 103 = .ok (.iconst 0, 1) := by decide +kernel
theorem dX1_solveFrom_104 : decode cX1_solveFrom 104 = .ok (.goto 12, 3) := by decide +kernel
theorem dX1_solveFrom_107 : decode cX1_solveFrom 107 = .ok (.iconst 1, 1) := by decide +kernel
theorem dX1_solveFrom_108 : decode cX1_solveFrom 108 = .ok (.aload_n 0, 1) := by decide +kernel
theorem dX1_solveFrom_109 : decode cX1_solveFrom 109 = .ok (.getfield 18, 3) := by decide +kernel
theorem dX1_solveFrom_112 : decode cX1_solveFrom 112 = .ok (.iload 7, 2) := by decide +kernel
theorem dX1_solveFrom_114 : decode cX1_solveFrom 114 = .ok (.iaload, 1) := by decide +kernel
theorem dX1_solveFrom_115 : decode cX1_solveFrom 115 = .ok (.iadd, 1) := by decide +kernel
theorem dX1_solveFrom_116 : decode cX1_solveFrom 116 = .ok (.istore 10, 2) := by decide +kernel
theorem dX1_solveFrom_118 : decode cX1_solveFrom 118 = .ok (.iload 9, 2) := by decide +kernel
theorem dX1_solveFrom_120 : decode cX1_solveFrom 120 = .ok (.aload_n 0, 1) := by decide +kernel
theorem dX1_solveFrom_121 : decode cX1_solveFrom 121 = .ok (.getfield 15, 3) := by decide +kernel
theorem dX1_solveFrom_124 : decode cX1_solveFrom 124 = .ok (.iload_n 2, 1) := by decide +kernel
theorem dX1_solveFrom_125 : decode cX1_solveFrom 125 = .ok (.iaload, 1) := by decide +kernel
theorem dX1_solveFrom_126 : decode cX1_solveFrom 126 = .ok (.if_icmp .lt 25, 3) := by decide +kernel
theorem dX1_solveFrom_129 : decode cX1_solveFrom 129 = .ok (.iload 9, 2) := by decide +kernel
theorem dX1_solveFrom_131 : decode cX1_solveFrom 131 = .ok (.aload_n 0, 1) := by decide +kernel
theorem dX1_solveFrom_132 : decode cX1_solveFrom 132 = .ok (.getfield 15, 3) := by decide +kernel
theorem dX1_solveFrom_135 : decode cX1_solveFrom 135 = .ok (.iload_n 2, 1) := by decide +kernel
theorem dX1_solveFrom_136 : decode cX1_solveFrom 136 = .ok (.iaload, 1) := by decide +kernel
theorem dX1_solveFrom_137 : decode cX1_solveFrom 137 = .ok (.if_icmp .ne 18, 3) := by decide +kernel
theorem dX1_solveFrom_140 : decode cX1_solveFrom 140 = .ok (.iload 10, 2) := by decide +kernel
theorem dX1_solveFrom_142 : decode cX1_solveFrom 142 = .ok (.aload_n 0, 1) := by decide +kernel
theorem dX1_solveFrom_143 : decode cX1_solveFrom 143 = .ok (.getfield 18, 3) := by decide +kernel
theorem dX1_solveFrom_146 : decode cX1_solveFrom 146 = .ok (.iload_n 2, 1) := by decide +kernel
theorem dX1_solveFrom_147 : decode cX1_solveFrom 147 = .ok (.iaload, 1) := by decide +kernel
theorem dX1_solveFrom_148 : decode cX1_solveFrom 148 = .ok (.if_icmp .ge 7, 3) := by decide +kernel
theorem dX1_solveFrom_151 : decode cX1_solveFrom 151 = .ok (.iconst 1, 1) := by decide +kernel
theorem dX1_solveFrom_152 : decode cX1_solveFrom 152 = .ok (.goto 4, 3) := by decide +kernel
theorem dX1_solveFrom_155 : decode cX1_solveFrom 155 = .ok (.iconst 0, 1) := by decide +kernel
theorem dX1_solveFrom_156 : decode cX1_solveFrom 156 = .ok (.istore 11, 2) := by decide +kernel
theorem dX1_solveFrom_158 : decode cX1_solveFrom 158 = .ok (.iload 6, 2) := by decide +kernel
theorem dX1_solveFrom_160 : decode cX1_solveFrom 160 = .ok (.ifCond .eq 8, 3) := by decide +kernel
theorem dX1_solveFrom_163 : decode cX1_solveFrom 163 = .ok (.iload 11, 2) := by decide +kernel
theorem dX1_solveFrom_165 : decode cX1_solveFrom 165 = .ok (.ifCond .eq 27, 3) := by decide +kernel
theorem dX1_solveFrom_168 : decode cX1_solveFrom 168 = .ok (.aload_n 0, 1) := by decide +kernel
theorem dX1_solveFrom_169 : decode cX1_solveFrom 169 = .ok (.getfield 15, 3) := by decide +kernel
theorem dX1_solveFrom_172 : decode cX1_solveFrom 172 = .ok (.iload_n 2, 1) := by decide +kernel
theorem dX1_solveFrom_173 : decode cX1_solveFrom 173 = .ok (.iload 9, 2) := by decide +kernel
theorem dX1_solveFrom_175 : decode cX1_solveFrom 175 = .ok (.iastore, 1) := by decide +kernel
theorem dX1_solveFrom_176 : decode cX1_solveFrom 176 = .ok (.aload_n 0, 1) := by decide +kernel
theorem dX1_solveFrom_177 : decode cX1_solveFrom 177 = .ok (.getfield 18, 3) := by decide +kernel
theorem dX1_solveFrom_180 : decode cX1_solveFrom 180 = .ok (.iload_n 2, 1) := by decide +kernel
theorem dX1_solveFrom_181 : decode cX1_solveFrom 181 = .ok (.iload 10, 2) := by decide +kernel
theorem dX1_solveFrom_183 : decode cX1_solveFrom 183 = .ok (.iastore, 1) := by decide +kernel
theorem dX1_solveFrom_184 : decode cX1_solveFrom 184 = .ok (.aload_n 0, 1) := by decide +kernel
theorem dX1_solveFrom_185 : decode cX1_solveFrom 185 = .ok (.getfield 21, 3) := by decide +kernel
theorem dX1_solveFrom_188 : decode cX1_solveFrom 188 = .ok (.iload_n 2, 1) := by decide +kernel
theorem dX1_solveFrom_189 : decode cX1_solveFrom 189 = .ok (.iload 7, 2) := by decide +kernel
theorem dX1_solveFrom_191 : decode cX1_solveFrom 191 = .ok (.iastore, 1) := by decide +kernel
theorem dX1_solveFrom_192 : decode cX1_solveFrom 192 = .ok (.iinc 5 1, 3) := by decide +kernel
theorem dX1_solveFrom_195 : decode cX1_solveFrom 195 = .ok (.goto (-189), 3) := by decide +kernel
theorem dX1_solveFrom_198 : decode cX1_solveFrom 198 = .ok (.return_, 1) := by decide +kernel
theorem dX1_farFromMiddle_0 : decode cX1_farFromMiddle 0 = .ok (.iload_n 2, 1) := by decide +kernel
theorem dX1_farFromMiddle_1 : decode cX1_farFromMiddle 1 = .ok (.ifCond .ne 5, 3) := by decide +kernel
theorem dX1_farFromMiddle_4 : decode cX1_farFromMiddle 4 = .ok (.iconst 0, 1) := by decide +kernel
theorem dX1_farFromMiddle_5 : decode cX1_farFromMiddle 5 = .ok (.ireturn, 1) := by decide +kernel
theorem dX1_farFromMiddle_6 : decode cX1_farFromMiddle 6 = .ok (.aload_n 0, 1) := by decide +kernel
theorem dX1_farFromMiddle_7 : decode cX1_farFromMiddle 7 = .ok (.getfield 9, 3) := by decide +kernel
theorem dX1_farFromMiddle_10 : decode cX1_farFromMiddle 10 = .ok (.iload_n 2, 1) := by decide +kernel
theorem dX1_farFromMiddle_11 : decode cX1_farFromMiddle 11 = .ok (.iconst 1, 1) := by decide +kernel
theorem dX1_farFromMiddle_12 : decode cX1_farFromMiddle 12 = .ok (.isub, 1) := by decide +kernel
theorem dX1_farFromMiddle_13 : decode cX1_farFromMiddle 13 = .ok (.iconst 2, 1) := by decide +kernel
theorem dX1_farFromMiddle_14 : decode cX1_farFromMiddle 14 = .ok (.idiv, 1) := by decide +kernel
theorem dX1_farFromMiddle_15 : decode cX1_farFromMiddle 15 = .ok (.iaload, 1) := by decide +kernel
theorem dX1_farFromMiddle_16 : decode cX1_farFromMiddle 16 = .ok (.istore_n 3, 1) := by decide +kernel
theorem dX1_farFromMiddle_17 : decode cX1_farFromMiddle 17 = .ok (.aload_n 0, 1) := by decide +kernel
theorem dX1_farFromMiddle_18 : decode cX1_farFromMiddle 18 = .ok (.getfield 9, 3) := by decide +kernel
theorem dX1_farFromMiddle_21 : decode cX1_farFromMiddle 21 = .ok (.iload_n 2, 1) := by decide +kernel
theorem dX1_farFromMiddle_22 : decode cX1_farFromMiddle 22 = .ok (.iconst 2, 1) := by decide +kernel
theorem dX1_farFromMiddle_23 : decode cX1_farFromMiddle 23 = .ok (.idiv, 1) := by decide +kernel
theorem dX1_farFromMiddle_24 : decode cX1_farFromMiddle 24 = .ok (.iaload, 1) := by decide +kernel
theorem dX1_farFromMiddle_25 : decode cX1_farFromMiddle 25 = .ok (.istore 4, 2) := by decide +kernel
theorem dX1_farFromMiddle_27 : decode cX1_farFromMiddle 27 = .ok (.iload_n 1, 1) := by decide +kernel
theorem dX1_farFromMiddle_28 : decode cX1_farFromMiddle 28 = .ok (.iload_n 3, 1) := by decide +kernel
theorem dX1_farFromMiddle_29 : decode cX1_farFromMiddle 29 = .ok (.if_icmp .ge 9, 3) := by decide +kernel
theorem dX1_farFromMiddle_32 : decode cX1_farFromMiddle 32 = .ok (.iload_n 3, 1) := by decide +kernel
theorem dX1_farFromMiddle_33 : decode cX1_farFromMiddle 33 = .ok (.iload_n 1, 1) := by decide +kernel
theorem dX1_farFromMiddle_34 : decode cX1_farFromMiddle 34 = .ok (.isub, 1) := by decide +kernel
theorem dX1_farFromMiddle_35 : decode cX1_farFromMiddle 35 = .ok (.goto 17, 3) := by decide +kernel
theorem dX1_farFromMiddle_38 : decode cX1_farFromMiddle 38 = .ok (.iload_n 1, 1) := by decide +kernel
theorem dX1_farFromMiddle_39 : decode cX1_farFromMiddle 39 = .ok (.iload 4, 2) := by decide +kernel
theorem dX1_farFromMiddle_41 : decode cX1_farFromMiddle 41 = .ok (.if_icmp .le 10, 3) := by decide +kernel
theorem dX1_farFromMiddle_44 : decode cX1_farFromMiddle 44 = .ok (.iload_n 1, 1) := by decide +kernel
theorem dX1_farFromMiddle_45 : decode cX1_farFromMiddle 45 = .ok (.iload 4, 2) := by decide +kernel
theorem dX1_farFromMiddle_47 : decode cX1_farFromMiddle 47 = .ok (.isub, 1) := by decide +kernel
theorem dX1_farFromMiddle_48 : decode cX1_farFromMiddle 48 = .ok (.goto 4, 3) := by decide +kernel
theorem dX1_farFromMiddle_51 : decode cX1_farFromMiddle 51 = .ok (.iconst 0, 1) := by decide +kernel
theorem dX1_farFromMiddle_52 : decode cX1_farFromMiddle 52 = .ok (.ireturn, 1) := by decide +kernel
theorem dX1_insert_0 : decode cX1_insert 0 = .ok (.iload_n 2, 1) := by decide +kernel
theorem dX1_insert_1 : decode cX1_insert 1 = .ok (.istore_n 3, 1) := by decide +kernel
theorem dX1_insert_2 : decode cX1_insert 2 = .ok (.iload_n 3, 1) := by decide +kernel
theorem dX1_insert_3 : decode cX1_insert 3 = .ok (.ifCond .le 35, 3) := by decide +kernel
theorem dX1_insert_6 : decode cX1_insert 6 = .ok (.aload_n 0, 1) := by decide +kernel
theorem dX1_insert_7 : decode cX1_insert 7 = .ok (.getfield 9, 3) := by decide +kernel
theorem dX1_insert_10 : decode cX1_insert 10 = .ok (.iload_n 3, 1) := by decide +kernel
theorem dX1_insert_11 : decode cX1_insert 11 = .ok (.iconst 1, 1) := by decide +kernel
theorem dX1_insert_12 : decode cX1_insert 12 = .ok (.isub, 1) := by decide +kernel
theorem dX1_insert_13 : decode cX1_insert 13 = .ok (.iaload, 1) := by decide +kernel
theorem dX1_insert_14 : decode cX1_insert 14 = .ok (.iload_n 1, 1) := by decide +kernel
theorem dX1_insert_15 : decode cX1_insert 15 = .ok (.if_icmp .le 23, 3) := by decide +kernel
theorem dX1_insert_18 : decode cX1_insert 18 = .ok (.aload_n 0, 1) := by decide +kernel
theorem dX1_insert_19 : decode cX1_insert 19 = .ok (.getfield 9, 3) := by decide +kernel
theorem dX1_insert_22 : decode cX1_insert 22 = .ok (.iload_n 3, 1) := by decide +kernel
theorem dX1_insert_23 : decode cX1_insert 23 = .ok (.aload_n 0, 1) := by decide +kernel
theorem dX1_insert_24 : decode cX1_insert 24 = .ok (.getfield 9, 3) := by decide +kernel
theorem dX1_insert_27 : decode cX1_insert 27 = .ok (.iload_n 3, 1) := by decide +kernel
theorem dX1_insert_28 : decode cX1_insert 28 = .ok (.iconst 1, 1) := by decide +kernel
theorem dX1_insert_29 : decode cX1_insert 29 = .ok (.isub, 1) := by decide +kernel
theorem dX1_insert_30 : decode cX1_insert 30 = .ok (.iaload, 1) := by decide +kernel
theorem dX1_insert_31 : decode cX1_insert 31 = .ok (.iastore, 1) := by decide +kernel
theorem dX1_insert_32 : decode cX1_insert 32 = .ok (.iinc 3 (-1), 3) := by decide +kernel
theorem dX1_insert_35 : decode cX1_insert 35 = .ok (.goto (-33), 3) := by decide +kernel
theorem dX1_insert_38 : decode cX1_insert 38 = .ok (.aload_n 0, 1) := by decide +kernel
theorem dX1_insert_39 : decode cX1_insert 39 = .ok (.getfield 9, 3) := by decide +kernel
theorem dX1_insert_42 : decode cX1_insert 42 = .ok (.iload_n 3, 1) := by decide +kernel
theorem dX1_insert_43 : decode cX1_insert 43 = .ok (.iload_n 1, 1) := by decide +kernel
theorem dX1_insert_44 : decode cX1_insert 44 = .ok (.iastore, 1) := by decide +kernel
theorem dX1_insert_45 : decode cX1_insert 45 = .ok (.return_, 1) := by decide +kernel
theorem dX1_setSpans_0 : decode cX1_setSpans 0 = .ok (.aload_n 1, 1) := by decide +kernel
theorem dX1_setSpans_1 : decode cX1_setSpans 1 = .ok (.iconst 0, 1) := by decide +kernel
theorem dX1_setSpans_2 : decode cX1_setSpans 2 = .ok (.putfield 72, 3) := by decide +kernel
theorem dX1_setSpans_5 : decode cX1_setSpans 5 = .ok (.iconst 0, 1) := by decide +kernel
theorem dX1_setSpans_6 : decode cX1_setSpans 6 = .ok (.istore_n 2, 1) := by decide +kernel
theorem dX1_setSpans_7 : decode cX1_setSpans 7 = .ok (.iconst 0, 1) := by decide +kernel
theorem dX1_setSpans_8 : decode cX1_setSpans 8 = .ok (.istore_n 3, 1) := by decide +kernel
theorem dX1_setSpans_9 : decode cX1_setSpans 9 = .ok (.iload_n 3, 1) := by decide +kernel
theorem dX1_setSpans_10 : decode cX1_setSpans 10 = .ok (.aload_n 1, 1) := by decide +kernel
theorem dX1_setSpans_11 : decode cX1_setSpans 11 = .ok (.getfield 30, 3) := by decide +kernel
theorem dX1_setSpans_14 : decode cX1_setSpans 14 = .ok (.if_icmp .ge 41, 3) := by decide +kernel
theorem dX1_setSpans_17 : decode cX1_setSpans 17 = .ok (.iload_n 3, 1) := by decide +kernel
theorem dX1_setSpans_18 : decode cX1_setSpans 18 = .ok (.iload_n 2, 1) := by decide +kernel
theorem dX1_setSpans_19 : decode cX1_setSpans 19 = .ok (.if_icmp .ne 30, 3) := by decide +kernel
theorem dX1_setSpans_22 : decode cX1_setSpans 22 = .ok (.aload_n 1, 1) := by decide +kernel
theorem dX1_setSpans_23 : decode cX1_setSpans 23 = .ok (.getfield 75, 3) := by decide +kernel
theorem dX1_setSpans_26 : decode cX1_setSpans 26 = .ok (.aload_n 1, 1) := by decide +kernel
theorem dX1_setSpans_27 : decode cX1_setSpans 27 = .ok (.getfield 72, 3) := by decide +kernel
theorem dX1_setSpans_30 : decode cX1_setSpans 30 = .ok (.iload_n 3, 1) := by decide +kernel
theorem dX1_setSpans_31 : decode cX1_setSpans 31 = .ok (.iastore, 1) := by decide +kernel
theorem dX1_setSpans_32 : decode cX1_setSpans 32 = .ok (.aload_n 1, 1) := by decide +kernel
theorem dX1_setSpans_33 : decode cX1_setSpans 33 = .ok (.dup, 1) := by decide +kernel
theorem dX1_setSpans_34 : decode cX1_setSpans 34 = .ok (.getfield 72, 3) := by decide +kernel
theorem dX1_setSpans_37 : decode cX1_setSpans 37 = .ok (.iconst 1, 1) := by decide +kernel
theorem dX1_setSpans_38 : decode cX1_setSpans 38 = .ok (.iadd, 1) := by decide +kernel
theorem dX1_setSpans_39 : decode cX1_setSpans 39 = .ok (.putfield 72, 3) := by decide +kernel
theorem dX1_setSpans_42 : decode cX1_setSpans 42 = .ok (.aload_n 0, 1) := by decide +kernel
theorem dX1_setSpans_43 : decode cX1_setSpans 43 = .ok (.getfield 21, 3) := by decide +kernel
theorem dX1_setSpans_46 : decode cX1_setSpans 46 = .ok (.iload_n 3, 1) := by decide +kernel
theorem dX1_setSpans_47 : decode cX1_setSpans 47 = .ok (.iaload, 1) := by decide +kernel
theorem dX1_setSpans_48 : decode cX1_setSpans 48 = .ok (.istore_n 2, 1) := by decide +kernel
theorem dX1_setSpans_49 : decode cX1_setSpans 49 = .ok (.iinc 3 1, 3) := by decide +kernel
theorem dX1_setSpans_52 : decode cX1_setSpans 52 = .ok (.goto (-43), 3) := by decide +kernel
theorem dX1_setSpans_55 : decode cX1_setSpans 55 = .ok (.aload_n 1, 1) := by decide +kernel
theorem dX1_setSpans_56 : decode cX1_setSpans 56 = .ok (.getfield 75, 3) := by decide +kernel
theorem dX1_setSpans_59 : decode cX1_setSpans 59 = .ok (.aload_n 1, 1) := by decide +kernel
theorem dX1_setSpans_60 : decode cX1_setSpans 60 = .ok (.getfield 72, 3) := by decide +kernel
theorem dX1_setSpans_63 : decode cX1_setSpans 63 = .ok (.aload_n 1, 1) := by decide +kernel
theorem dX1_setSpans_64 : decode cX1_setSpans 64 = .ok (.getfield 30, 3) := by decide +kernel
theorem dX1_setSpans_67 : decode cX1_setSpans 67 = .ok (.iastore, 1) := by decide +kernel
theorem dX1_setSpans_68 : decode cX1_setSpans 68 = .ok (.return_, 1) := by decide +kernel
theorem dX1_setMiddles_0 : decode cX1_setMiddles 0 = .ok (.iconst 0, 1) := by decide +kernel
theorem dX1_setMiddles_1 : decode cX1_setMiddles 1 = .ok (.istore_n 2, 1) := by decide +kernel
theorem dX1_setMiddles_2 : decode cX1_setMiddles 2 = .ok (.iload_n 2, 1) := by decide +kernel
theorem dX1_setMiddles_3 : decode cX1_setMiddles 3 = .ok (.aload_n 1, 1) := by decide +kernel
theorem dX1_setMiddles_4 : decode cX1_setMiddles 4 = .ok (.getfield 72, 3) := by decide +kernel
theorem dX1_setMiddles_7 : decode cX1_setMiddles 7 = .ok (.if_icmp .ge 72, 3) := by decide +kernel
theorem dX1_setMiddles_10 : decode cX1_setMiddles 10 = .ok (.iconst 0, 1) := by decide +kernel
theorem dX1_setMiddles_11 : decode cX1_setMiddles 11 = .ok (.istore_n 3, 1) := by decide +kernel
theorem dX1_setMiddles_12 : decode cX1_setMiddles 12 = .ok (.aload_n 1, 1) := by decide +kernel
theorem dX1_setMiddles_13 : decode cX1_setMiddles 13 = .ok (.getfield 75, 3) := by decide +kernel
theorem dX1_setMiddles_16 : decode cX1_setMiddles 16 = .ok (.iload_n 2, 1) := by decide +kernel
theorem dX1_setMiddles_17 : decode cX1_setMiddles 17 = .ok (.iaload, 1) := by decide +kernel
theorem dX1_setMiddles_18 : decode cX1_setMiddles 18 = .ok (.istore 4, 2) := by decide +kernel
theorem dX1_setMiddles_20 : decode cX1_setMiddles 20 = .ok (.iload 4, 2) := by decide +kernel
theorem dX1_setMiddles_22 : decode cX1_setMiddles 22 = .ok (.aload_n 1, 1) := by decide +kernel
theorem dX1_setMiddles_23 : decode cX1_setMiddles 23 = .ok (.getfield 75, 3) := by decide +kernel
theorem dX1_setMiddles_26 : decode cX1_setMiddles 26 = .ok (.iload_n 2, 1) := by decide +kernel
theorem dX1_setMiddles_27 : decode cX1_setMiddles 27 = .ok (.iconst 1, 1) := by decide +kernel
theorem dX1_setMiddles_28 : decode cX1_setMiddles 28 = .ok (.iadd, 1) := by decide +kernel
theorem dX1_setMiddles_29 : decode cX1_setMiddles 29 = .ok (.iaload, 1) := by decide +kernel
theorem dX1_setMiddles_30 : decode cX1_setMiddles 30 = .ok (.if_icmp .ge 29, 3) := by decide +kernel
theorem dX1_setMiddles_33 : decode cX1_setMiddles 33 = .ok (.aload_n 0, 1) := by decide +kernel
theorem dX1_setMiddles_34 : decode cX1_setMiddles 34 = .ok (.aload_n 1, 1) := by decide +kernel
theorem dX1_setMiddles_35 : decode cX1_setMiddles 35 = .ok (.getfield 78, 3) := by decide +kernel
theorem dX1_setMiddles_38 : decode cX1_setMiddles 38 = .ok (.aload_n 1, 1) := by decide +kernel
theorem dX1_setMiddles_39 : decode cX1_setMiddles 39 = .ok (.getfield 81, 3) := by decide +kernel
theorem dX1_setMiddles_42 : decode cX1_setMiddles 42 = .ok (.iload 4, 2) := by decide +kernel
theorem dX1_setMiddles_44 : decode cX1_setMiddles 44 = .ok (.iaload, 1) := by decide +kernel
theorem dX1_setMiddles_45 : decode cX1_setMiddles 45 = .ok (.iaload, 1) := by decide +kernel
theorem dX1_setMiddles_46 : decode cX1_setMiddles 46 = .ok (.iload_n 3, 1) := by decide +kernel
theorem dX1_setMiddles_47 : decode cX1_setMiddles 47 = .ok (.invokevirtual 68, 3) := by decide +kernel
theorem dX1_setMiddles_50 : decode cX1_setMiddles 50 = .ok (.iinc 3 1, 3) := by decide +kernel
theorem dX1_setMiddles_53 : decode cX1_setMiddles 53 = .ok (.iinc 4 1, 3) := by decide +kernel
theorem dX1_setMiddles_56 : decode cX1_setMiddles 56 = .ok (.goto (-36), 3) := by decide +kernel
theorem dX1_setMiddles_59 : decode cX1_setMiddles 59 = .ok (.aload_n 1, 1) := by decide +kernel
theorem dX1_setMiddles_60 : decode cX1_setMiddles 60 = .ok (.getfield 84, 3) := by decide +kernel
theorem dX1_setMiddles_63 : decode cX1_setMiddles 63 = .ok (.iload_n 2, 1) := by decide +kernel
theorem dX1_setMiddles_64 : decode cX1_setMiddles 64 = .ok (.aload_n 0, 1) := by decide +kernel
theorem dX1_setMiddles_65 : decode cX1_setMiddles 65 = .ok (.getfield 9, 3) := by decide +kernel
theorem dX1_setMiddles_68 : decode cX1_setMiddles 68 = .ok (.iload_n 3, 1) := by decide +kernel
theorem dX1_setMiddles_69 : decode cX1_setMiddles 69 = .ok (.iconst 2, 1) := by decide +kernel
theorem dX1_setMiddles_70 : decode cX1_setMiddles 70 = .ok (.idiv, 1) := by decide +kernel
theorem dX1_setMiddles_71 : decode cX1_setMiddles 71 = .ok (.iaload, 1) := by decide +kernel
theorem dX1_setMiddles_72 : decode cX1_setMiddles 72 = .ok (.iastore, 1) := by decide +kernel
theorem dX1_setMiddles_73 : decode cX1_setMiddles 73 = .ok (.iinc 2 1, 3) := by decide +kernel
theorem dX1_setMiddles_76 : decode cX1_setMiddles 76 = .ok (.goto (-74), 3) := by decide +kernel
theorem dX1_setMiddles_79 : decode cX1_setMiddles 79 = .ok (.return_, 1) := by decide +kernel
theorem dX2_init_0 : decode cX2_init 0 = .ok (.aload_n 0, 1) := by decide +kernel
theorem dX2_init_1 : decode cX2_init 1 = .ok (.invokespecial 1, 3) := by decide +kernel
theorem dX2_init_4 : decode cX2_init 4 = .ok (.return_, 1) := by decide +kernel
theorem dX2_begin_0 : decode cX2_begin 0 = .ok (.aload_n 0, 1) := by decide +kernel
theorem dX2_begin_1 : decode cX2_begin 1 = .ok (.iconst 1, 1) := by decide +kernel
theorem dX2_begin_2 : decode cX2_begin 2 = .ok (.putfield 7, 3) := by decide +kernel
theorem dX2_begin_5 : decode cX2_begin 5 = .ok (.aload_n 0, 1) := by decide +kernel
theorem dX2_begin_6 : decode cX2_begin 6 = .ok (.iload_n 1, 1) := by decide +kernel
theorem dX2_begin_7 : decode cX2_begin 7 = .ok (.putfield 13, 3) := by decide +kernel
theorem dX2_begin_10 : decode cX2_begin 10 = .ok (.aload_n 0, 1) := by decide +kernel
theorem dX2_begin_11 : decode cX2_begin 11 = .ok (.iload_n 2, 1) := by decide +kernel
theorem dX2_begin_12 : decode cX2_begin 12 = .ok (.putfield 17, 3) := by decide +kernel
theorem dX2_begin_15 : decode cX2_begin 15 = .ok (.aload_n 0, 1) := by decide +kernel
theorem dX2_begin_16 : decode cX2_begin 16 = .ok (.iload_n 3, 1) := by decide +kernel
theorem dX2_begin_17 : decode cX2_begin 17 = .ok (.putfield 20, 3) := by decide +kernel
theorem dX2_begin_20 : decode cX2_begin 20 = .ok (.aload_n 0, 1) := by decide +kernel
theorem dX2_begin_21 : decode cX2_begin 21 = .ok (.iconst 0, 1) := by decide +kernel
theorem dX2_begin_22 : decode cX2_begin 22 = .ok (.putfield 23, 3) := by decide +kernel
theorem dX2_begin_25 : decode cX2_begin 25 = .ok (.aload_n 0, 1) := by decide +kernel
theorem dX2_begin_26 : decode cX2_begin 26 = .ok (.iconst 0, 1) := by decide +kernel
theorem dX2_begin_27 : decode cX2_begin 27 = .ok (.putfield 26, 3) := by decide +kernel
theorem dX2_begin_30 : decode cX2_begin 30 = .ok (.aload_n 0, 1) := by decide +kernel
theorem dX2_begin_31 : decode cX2_begin 31 = .ok (.iconst 0, 1) := by decide +kernel
theorem dX2_begin_32 : decode cX2_begin 32 = .ok (.putfield 29, 3) := by decide +kernel
theorem dX2_begin_35 : decode cX2_begin 35 = .ok (.return_, 1) := by decide +kernel
theorem dX2_hasEnded_0 : decode cX2_hasEnded 0 = .ok (.aload_n 0, 1) := by decide +kernel
theorem dX2_hasEnded_1 : decode cX2_hasEnded 1 = .ok (.getfield 17, 3) := by decide +kernel
theorem dX2_hasEnded_4 : decode cX2_hasEnded 4 = .ok (.aload_n 0, 1) := by decide +kernel
theorem dX2_hasEnded_5 : decode cX2_hasEnded 5 = .ok (.getfield 13, 3) := by decide +kernel
theorem dX2_hasEnded_8 : decode cX2_hasEnded 8 = .ok (.isub, 1) := by decide +kernel
theorem dX2_hasEnded_9 : decode cX2_hasEnded 9 = .ok (.iconst 1, 1) := by decide +kernel
theorem dX2_hasEnded_10 : decode cX2_hasEnded 10 = .ok (.if_icmp .gt 7, 3) := by decide +kernel
theorem dX2_hasEnded_13 : decode cX2_hasEnded 13 = .ok (.iconst 1, 1) := by decide +kernel
theorem dX2_hasEnded_14 : decode cX2_hasEnded 14 = .ok (.goto 4, 3) := by decide +kernel
theorem dX2_hasEnded_17 : decode cX2_hasEnded 17 = .ok (.iconst 0, 1) := by decide +kernel
theorem dX2_hasEnded_18 : decode cX2_hasEnded 18 = .ok (.ireturn, 1) := by decide +kernel
theorem dX2_middleBuild_0 : decode cX2_middleBuild 0 = .ok (.aload_n 0, 1) := by decide +kernel
theorem dX2_middleBuild_1 : decode cX2_middleBuild 1 = .ok (.getfield 13, 3) := by decide +kernel
theorem dX2_middleBuild_4 : decode cX2_middleBuild 4 = .ok (.aload_n 0, 1) := by decide +kernel
theorem dX2_middleBuild_5 : decode cX2_middleBuild 5 = .ok (.getfield 17, 3) := by decide +kernel
theorem dX2_middleBuild_8 : decode cX2_middleBuild 8 = .ok (.aload_n 0, 1) := by decide +kernel
theorem dX2_middleBuild_9 : decode cX2_middleBuild 9 = .ok (.getfield 13, 3) := by decide +kernel
theorem dX2_middleBuild_12 : decode cX2_middleBuild 12 = .ok (.isub, 1) := by decide +kernel
theorem dX2_middleBuild_13 : decode cX2_middleBuild 13 = .ok (.iconst 2, 1) := by decide +kernel
theorem dX2_middleBuild_14 : decode cX2_middleBuild 14 = .ok (.idiv, 1) := by decide +kernel
theorem dX2_middleBuild_15 : decode cX2_middleBuild 15 = .ok (.iadd, 1) := by decide +kernel
theorem dX2_middleBuild_16 : decode cX2_middleBuild 16 = .ok (.ireturn, 1) := by decide +kernel
theorem dX2_mostReruns_0 : decode cX2_mostReruns 0 = .ok (.iconst 0, 1) := by decide +kernel
theorem dX2_mostReruns_1 : decode cX2_mostReruns 1 = .ok (.istore_n 1, 1) := by decide +kernel
theorem dX2_mostReruns_2 : decode cX2_mostReruns 2 = .ok (.aload_n 0, 1) := by decide +kernel
theorem dX2_mostReruns_3 : decode cX2_mostReruns 3 = .ok (.getfield 17, 3) := by decide +kernel
theorem dX2_mostReruns_6 : decode cX2_mostReruns 6 = .ok (.aload_n 0, 1) := by decide +kernel
theorem dX2_mostReruns_7 : decode cX2_mostReruns 7 = .ok (.getfield 13, 3) := by decide +kernel
theorem dX2_mostReruns_10 : decode cX2_mostReruns 10 = .ok (.isub, 1) := by decide +kernel
theorem dX2_mostReruns_11 : decode cX2_mostReruns 11 = .ok (.istore_n 2, 1) := by decide +kernel
theorem dX2_mostReruns_12 : decode cX2_mostReruns 12 = .ok (.iload_n 2, 1) := by decide +kernel
theorem dX2_mostReruns_13 : decode cX2_mostReruns 13 = .ok (.iconst 1, 1) := by decide +kernel
theorem dX2_mostReruns_14 : decode cX2_mostReruns 14 = .ok (.if_icmp .le 19, 3) := by decide +kernel
theorem dX2_mostReruns_17 : decode cX2_mostReruns 17 = .ok (.iload_n 1, 1) := by decide +kernel
theorem dX2_mostReruns_18 : decode cX2_mostReruns 18 = .ok (.aload_n 0, 1) := by decide +kernel
theorem dX2_mostReruns_19 : decode cX2_mostReruns 19 = .ok (.getfield 20, 3) := by decide +kernel
theorem dX2_mostReruns_22 : decode cX2_mostReruns 22 = .ok (.iadd, 1) := by decide +kernel
theorem dX2_mostReruns_23 : decode cX2_mostReruns 23 = .ok (.istore_n 1, 1) := by decide +kernel
theorem dX2_mostReruns_24 : decode cX2_mostReruns 24 = .ok (.iload_n 2, 1) := by decide +kernel
theorem dX2_mostReruns_25 : decode cX2_mostReruns 25 = .ok (.iload_n 2, 1) := by decide +kernel
theorem dX2_mostReruns_26 : decode cX2_mostReruns 26 = .ok (.iconst 2, 1) := by decide +kernel
theorem dX2_mostReruns_27 : decode cX2_mostReruns 27 = .ok (.idiv, 1) := by decide +kernel
theorem dX2_mostReruns_28 : decode cX2_mostReruns 28 = .ok (.isub, 1) := by decide +kernel
theorem dX2_mostReruns_29 : decode cX2_mostReruns 29 = .ok (.istore_n 2, 1) := by decide +kernel
theorem dX2_mostReruns_30 : decode cX2_mostReruns 30 = .ok (.goto (-18), 3) := by decide +kernel
theorem dX2_mostReruns_33 : decode cX2_mostReruns 33 = .ok (.iload_n 1, 1) := by decide +kernel
theorem dX2_mostReruns_34 : decode cX2_mostReruns 34 = .ok (.ireturn, 1) := by decide +kernel
theorem dX2_take_0 : decode cX2_take 0 = .ok (.aload_n 0, 1) := by decide +kernel
theorem dX2_take_1 : decode cX2_take 1 = .ok (.dup, 1) := by decide +kernel
theorem dX2_take_2 : decode cX2_take 2 = .ok (.getfield 23, 3) := by decide +kernel
theorem dX2_take_5 : decode cX2_take 5 = .ok (.iconst 1, 1) := by decide +kernel
theorem dX2_take_6 : decode cX2_take 6 = .ok (.iadd, 1) := by decide +kernel
theorem dX2_take_7 : decode cX2_take 7 = .ok (.putfield 23, 3) := by decide +kernel
theorem dX2_take_10 : decode cX2_take 10 = .ok (.aload_n 0, 1) := by decide +kernel
theorem dX2_take_11 : decode cX2_take 11 = .ok (.dup, 1) := by decide +kernel
theorem dX2_take_12 : decode cX2_take 12 = .ok (.getfield 26, 3) := by decide +kernel
theorem dX2_take_15 : decode cX2_take 15 = .ok (.iconst 1, 1) := by decide +kernel
theorem dX2_take_16 : decode cX2_take 16 = .ok (.iadd, 1) := by decide +kernel
theorem dX2_take_17 : decode cX2_take 17 = .ok (.putfield 26, 3) := by decide +kernel
theorem dX2_take_20 : decode cX2_take 20 = .ok (.iload_n 1, 1) := by decide +kernel
theorem dX2_take_21 : decode cX2_take 21 = .ok (.ifCond .eq 13, 3) := by decide +kernel
theorem dX2_take_24 : decode cX2_take 24 = .ok (.aload_n 0, 1) := by decide +kernel
theorem dX2_take_25 : decode cX2_take 25 = .ok (.dup, 1) := by decide +kernel
theorem dX2_take_26 : decode cX2_take 26 = .ok (.getfield 29, 3) := by decide +kernel
theorem dX2_take_29 : decode cX2_take 29 = .ok (.iconst 1, 1) := by decide +kernel
theorem dX2_take_30 : decode cX2_take 30 = .ok (.iadd, 1) := by decide +kernel
theorem dX2_take_31 : decode cX2_take 31 = .ok (.putfield 29, 3) := by decide +kernel
theorem dX2_take_34 : decode cX2_take 34 = .ok (.aload_n 0, 1) := by decide +kernel
theorem dX2_take_35 : decode cX2_take 35 = .ok (.getfield 26, 3) := by decide +kernel
theorem dX2_take_38 : decode cX2_take 38 = .ok (.aload_n 0, 1) := by decide +kernel
theorem dX2_take_39 : decode cX2_take 39 = .ok (.getfield 20, 3) := by decide +kernel
theorem dX2_take_42 : decode cX2_take 42 = .ok (.if_icmp .ge 13, 3) := by decide +kernel
theorem dX2_take_45 : decode cX2_take 45 = .ok (.aload_n 0, 1) := by decide +kernel
theorem dX2_take_46 : decode cX2_take 46 = .ok (.getfield 20, 3) := by decide +kernel
theorem dX2_take_49 : decode cX2_take 49 = .ok (.aload_n 0, 1) := by decide +kernel
theorem dX2_take_50 : decode cX2_take 50 = .ok (.getfield 26, 3) := by decide +kernel
theorem dX2_take_53 : decode cX2_take 53 = .ok (.isub, 1) := by decide +kernel
theorem dX2_take_54 : decode cX2_take 54 = .ok (.ireturn, 1) := by decide +kernel
theorem dX2_take_55 : decode cX2_take 55 = .ok (.aload_n 0, 1) := by decide +kernel
theorem dX2_take_56 : decode cX2_take 56 = .ok (.invokevirtual 32, 3) := by decide +kernel
theorem dX2_take_59 : decode cX2_take 59 = .ok (.iconst 0, 1) := by decide +kernel
theorem dX2_take_60 : decode cX2_take 60 = .ok (.ireturn, 1) := by decide +kernel
theorem dX2_decide_0 : decode cX2_decide 0 = .ok (.aload_n 0, 1) := by decide +kernel
theorem dX2_decide_1 : decode cX2_decide 1 = .ok (.invokevirtual 35, 3) := by decide +kernel
theorem dX2_decide_4 : decode cX2_decide 4 = .ok (.istore_n 1, 1) := by decide +kernel
theorem dX2_decide_5 : decode cX2_decide 5 = .ok (.aload_n 0, 1) := by decide +kernel
theorem dX2_decide_6 : decode cX2_decide 6 = .ok (.getfield 29, 3) := by decide +kernel
theorem dX2_decide_9 : decode cX2_decide 9 = .ok (.aload_n 0, 1) := by decide +kernel
theorem dX2_decide_10 : decode cX2_decide 10 = .ok (.getfield 26, 3) := by decide +kernel
theorem dX2_decide_13 : decode cX2_decide 13 = .ok (.aload_n 0, 1) := by decide +kernel
theorem dX2_decide_14 : decode cX2_decide 14 = .ok (.getfield 29, 3) := by decide +kernel
theorem dX2_decide_17 : decode cX2_decide 17 = .ok (.isub, 1) := by decide +kernel
theorem dX2_decide_18 : decode cX2_decide 18 = .ok (.if_icmp .le 11, 3) := by decide +kernel
theorem dX2_decide_21 : decode cX2_decide 21 = .ok (.aload_n 0, 1) := by decide +kernel
theorem dX2_decide_22 : decode cX2_decide 22 = .ok (.iload_n 1, 1) := by decide +kernel
theorem dX2_decide_23 : decode cX2_decide 23 = .ok (.putfield 17, 3) := by decide +kernel
theorem dX2_decide_26 : decode cX2_decide 26 = .ok (.goto 8, 3) := by decide +kernel
theorem dX2_decide_29 : decode cX2_decide 29 = .ok (.aload_n 0, 1) := by decide +kernel
theorem dX2_decide_30 : decode cX2_decide 30 = .ok (.iload_n 1, 1) := by decide +kernel
theorem dX2_decide_31 : decode cX2_decide 31 = .ok (.putfield 13, 3) := by decide +kernel
theorem dX2_decide_34 : decode cX2_decide 34 = .ok (.aload_n 0, 1) := by decide +kernel
theorem dX2_decide_35 : decode cX2_decide 35 = .ok (.iconst 0, 1) := by decide +kernel
theorem dX2_decide_36 : decode cX2_decide 36 = .ok (.putfield 26, 3) := by decide +kernel
theorem dX2_decide_39 : decode cX2_decide 39 = .ok (.aload_n 0, 1) := by decide +kernel
theorem dX2_decide_40 : decode cX2_decide 40 = .ok (.iconst 0, 1) := by decide +kernel
theorem dX2_decide_41 : decode cX2_decide 41 = .ok (.putfield 29, 3) := by decide +kernel
theorem dX2_decide_44 : decode cX2_decide 44 = .ok (.return_, 1) := by decide +kernel
theorem dX3_init_0 : decode cX3_init 0 = .ok (.aload_n 0, 1) := by decide +kernel
theorem dX3_init_1 : decode cX3_init 1 = .ok (.invokespecial 3, 3) := by decide +kernel
theorem dX3_init_4 : decode cX3_init 4 = .ok (.aload_n 0, 1) := by decide +kernel
theorem dX3_init_5 : decode cX3_init 5 = .ok (.bipush 40, 2) := by decide +kernel
theorem dX3_init_7 : decode cX3_init 7 = .ok (.newarray .int, 2) := by decide +kernel
theorem dX3_init_9 : decode cX3_init 9 = .ok (.putfield 9, 3) := by decide +kernel
theorem dX3_init_12 : decode cX3_init 12 = .ok (.aload_n 0, 1) := by decide +kernel
theorem dX3_init_13 : decode cX3_init 13 = .ok (.iconst 1, 1) := by decide +kernel
theorem dX3_init_14 : decode cX3_init 14 = .ok (.putfield 15, 3) := by decide +kernel
theorem dX3_init_17 : decode cX3_init 17 = .ok (.aload_n 0, 1) := by decide +kernel
theorem dX3_init_18 : decode cX3_init 18 = .ok (.bipush 40, 2) := by decide +kernel
theorem dX3_init_20 : decode cX3_init 20 = .ok (.newarray .int, 2) := by decide +kernel
theorem dX3_init_22 : decode cX3_init 22 = .ok (.putfield 19, 3) := by decide +kernel
theorem dX3_init_25 : decode cX3_init 25 = .ok (.aload_n 0, 1) := by decide +kernel
theorem dX3_init_26 : decode cX3_init 26 = .ok (.bipush 40, 2) := by decide +kernel
theorem dX3_init_28 : decode cX3_init 28 = .ok (.newarray .int, 2) := by decide +kernel
theorem dX3_init_30 : decode cX3_init 30 = .ok (.putfield 22, 3) := by decide +kernel
theorem dX3_init_33 : decode cX3_init 33 = .ok (.aload_n 0, 1) := by decide +kernel
theorem dX3_init_34 : decode cX3_init 34 = .ok (.bipush 41, 2) := by decide +kernel
theorem dX3_init_36 : decode cX3_init 36 = .ok (.newarray .int, 2) := by decide +kernel
theorem dX3_init_38 : decode cX3_init 38 = .ok (.putfield 25, 3) := by decide +kernel
theorem dX3_init_41 : decode cX3_init 41 = .ok (.aload_n 0, 1) := by decide +kernel
theorem dX3_init_42 : decode cX3_init 42 = .ok (.bipush 40, 2) := by decide +kernel
theorem dX3_init_44 : decode cX3_init 44 = .ok (.newarray .int, 2) := by decide +kernel
theorem dX3_init_46 : decode cX3_init 46 = .ok (.putfield 28, 3) := by decide +kernel
theorem dX3_init_49 : decode cX3_init 49 = .ok (.aload_n 0, 1) := by decide +kernel
theorem dX3_init_50 : decode cX3_init 50 = .ok (.bipush 40, 2) := by decide +kernel
theorem dX3_init_52 : decode cX3_init 52 = .ok (.newarray .int, 2) := by decide +kernel
theorem dX3_init_54 : decode cX3_init 54 = .ok (.putfield 31, 3) := by decide +kernel
theorem dX3_init_57 : decode cX3_init 57 = .ok (.aload_n 0, 1) := by decide +kernel
theorem dX3_init_58 : decode cX3_init 58 = .ok (.getfield 9, 3) := by decide +kernel
theorem dX3_init_61 : decode cX3_init 61 = .ok (.bipush (-9), 2) := by decide +kernel
theorem dX3_init_63 : decode cX3_init 63 = .ok (.invokestatic 34, 3) := by decide +kernel
theorem dX3_init_66 : decode cX3_init 66 = .ok (.return_, 1) := by decide +kernel
theorem dX3_empty_0 : decode cX3_empty 0 = .ok (.aload_n 0, 1) := by decide +kernel
theorem dX3_empty_1 : decode cX3_empty 1 = .ok (.getfield 9, 3) := by decide +kernel
theorem dX3_empty_4 : decode cX3_empty 4 = .ok (.bipush (-9), 2) := by decide +kernel
theorem dX3_empty_6 : decode cX3_empty 6 = .ok (.invokestatic 34, 3) := by decide +kernel
theorem dX3_empty_9 : decode cX3_empty 9 = .ok (.aload_n 0, 1) := by decide +kernel
theorem dX3_empty_10 : decode cX3_empty 10 = .ok (.iconst 1, 1) := by decide +kernel
theorem dX3_empty_11 : decode cX3_empty 11 = .ok (.putfield 15, 3) := by decide +kernel
theorem dX3_empty_14 : decode cX3_empty 14 = .ok (.return_, 1) := by decide +kernel
theorem dX3_rankOf_0 : decode cX3_rankOf 0 = .ok (.iconst 0, 1) := by decide +kernel
theorem dX3_rankOf_1 : decode cX3_rankOf 1 = .ok (.istore_n 3, 1) := by decide +kernel
theorem dX3_rankOf_2 : decode cX3_rankOf 2 = .ok (.iconst 0, 1) := by decide +kernel
theorem dX3_rankOf_3 : decode cX3_rankOf 3 = .ok (.istore 4, 2) := by decide +kernel
theorem dX3_rankOf_5 : decode cX3_rankOf 5 = .ok (.iconst 0, 1) := by decide +kernel
theorem dX3_rankOf_6 : decode cX3_rankOf 6 = .ok (.istore 5, 2) := by decide +kernel
theorem dX3_rankOf_8 : decode cX3_rankOf 8 = .ok (.iload 5, 2) := by decide +kernel
theorem dX3_rankOf_10 : decode cX3_rankOf 10 = .ok (.iload_n 2, 1) := by decide +kernel
theorem dX3_rankOf_11 : decode cX3_rankOf 11 = .ok (.if_icmp .ge 46, 3) := by decide +kernel
theorem dX3_rankOf_14 : decode cX3_rankOf 14 = .ok (.aload_n 0, 1) := by decide +kernel
theorem dX3_rankOf_15 : decode cX3_rankOf 15 = .ok (.getfield 9, 3) := by decide +kernel
theorem dX3_rankOf_18 : decode cX3_rankOf 18 = .ok (.iload 5, 2) := by decide +kernel
theorem dX3_rankOf_20 : decode cX3_rankOf 20 = .ok (.iaload, 1) := by decide +kernel
theorem dX3_rankOf_21 : decode cX3_rankOf 21 = .ok (.istore 6, 2) := by decide +kernel
theorem dX3_rankOf_23 : decode cX3_rankOf 23 = .ok (.iload 6, 2) := by decide +kernel
theorem dX3_rankOf_25 : decode cX3_rankOf 25 = .ok (.iload_n 1, 1) := by decide +kernel
theorem dX3_rankOf_26 : decode cX3_rankOf 26 = .ok (.if_icmp .ne 9, 3) := by decide +kernel
theorem dX3_rankOf_29 : decode cX3_rankOf 29 = .ok (.iinc 4 1, 3) := by decide +kernel
theorem dX3_rankOf_32 : decode cX3_rankOf 32 = .ok (.goto 19, 3) := by decide +kernel
theorem dX3_rankOf_35 : decode cX3_rankOf 35 = .ok (.iload 6, 2) := by decide +kernel
theorem dX3_rankOf_37 : decode cX3_rankOf 37 = .ok (.bipush (-9), 2) := by decide +kernel
theorem dX3_rankOf_39 : decode cX3_rankOf 39 = .ok (.if_icmp .eq 12, 3) := by decide +kernel
theorem dX3_rankOf_42 : decode cX3_rankOf 42 = .ok (.iload 6, 2) := by decide +kernel
theorem dX3_rankOf_44 : decode cX3_rankOf 44 = .ok (.iload_n 1, 1) := by decide +kernel
theorem dX3_rankOf_45 : decode cX3_rankOf 45 = .ok (.if_icmp .ge 6, 3) := by decide +kernel
theorem dX3_rankOf_48 : decode cX3_rankOf 48 = .ok (.iinc 3 1, 3) := by decide +kernel
theorem dX3_rankOf_51 : decode cX3_rankOf 51 = .ok (.iinc 5 1, 3) := by decide +kernel
theorem dX3_rankOf_54 : decode cX3_rankOf 54 = .ok (.goto (-46), 3) := by decide +kernel
theorem dX3_rankOf_57 : decode cX3_rankOf 57 = .ok (.iconst 2, 1) := by decide +kernel
theorem dX3_rankOf_58 : decode cX3_rankOf 58 = .ok (.iload_n 3, 1) := by decide +kernel
theorem dX3_rankOf_59 : decode cX3_rankOf 59 = .ok (.imul, 1) := by decide +kernel
theorem dX3_rankOf_60 : decode cX3_rankOf 60 = .ok (.iload 4, 2) := by decide +kernel
theorem dX3_rankOf_62 : decode cX3_rankOf 62 = .ok (.iadd, 1) := by decide +kernel
theorem dX3_rankOf_63 : decode cX3_rankOf 63 = .ok (.ireturn, 1) := by decide +kernel
theorem dX3_cutCount_0 : decode cX3_cutCount 0 = .ok (.aload_n 0, 1) := by decide +kernel
theorem dX3_cutCount_1 : decode cX3_cutCount 1 = .ok (.getfield 40, 3) := by decide +kernel
theorem dX3_cutCount_4 : decode cX3_cutCount 4 = .ok (.ifCond .le 12, 3) := by decide +kernel
theorem dX3_cutCount_7 : decode cX3_cutCount 7 = .ok (.aload_n 0, 1) := by decide +kernel
theorem dX3_cutCount_8 : decode cX3_cutCount 8 = .ok (.getfield 40, 3) := by decide +kernel
theorem dX3_cutCount_11 : decode cX3_cutCount 11 = .ok (.iconst 1, 1) := by decide +kernel
theorem dX3_cutCount_12 : decode cX3_cutCount 12 = .ok (.isub, 1) := by decide +kernel
theorem dX3_cutCount_13 : decode cX3_cutCount 13 = .ok (.goto 4, 3) := by decide +kernel
theorem dX3_cutCount_16 : decode cX3_cutCount 16 = .ok (.iconst 0, 1) := by decide +kernel
theorem dX3_cutCount_17 : decode cX3_cutCount 17 = .ok (.ireturn, 1) := by decide +kernel
theorem dX3_hasCut_0 : decode cX3_hasCut 0 = .ok (.iload_n 1, 1) := by decide +kernel
theorem dX3_hasCut_1 : decode cX3_hasCut 1 = .ok (.ifCond .lt 15, 3) := by decide +kernel
theorem dX3_hasCut_4 : decode cX3_hasCut 4 = .ok (.iload_n 1, 1) := by decide +kernel
theorem dX3_hasCut_5 : decode cX3_hasCut 5 = .ok (.aload_n 0, 1) := by decide +kernel
theorem dX3_hasCut_6 : decode cX3_hasCut 6 = .ok (.invokevirtual 44, 3) := by decide +kernel
theorem dX3_hasCut_9 : decode cX3_hasCut 9 = .ok (.if_icmp .ge 7, 3) := by decide +kernel
theorem dX3_hasCut_12 : decode cX3_hasCut 12 = .ok (.iconst 1, 1) := by decide +kernel
theorem dX3_hasCut_13 : decode cX3_hasCut 13 = .ok (.goto 4, 3) := by decide +kernel
theorem dX3_hasCut_16 : decode cX3_hasCut 16 = .ok (.iconst 0, 1) := by decide +kernel
theorem dX3_hasCut_17 : decode cX3_hasCut 17 = .ok (.ireturn, 1) := by decide +kernel
theorem dX3_cutBuild_0 : decode cX3_cutBuild 0 = .ok (.aload_n 0, 1) := by decide +kernel
theorem dX3_cutBuild_1 : decode cX3_cutBuild 1 = .ok (.getfield 19, 3) := by decide +kernel
theorem dX3_cutBuild_4 : decode cX3_cutBuild 4 = .ok (.aload_n 0, 1) := by decide +kernel
theorem dX3_cutBuild_5 : decode cX3_cutBuild 5 = .ok (.getfield 25, 3) := by decide +kernel
theorem dX3_cutBuild_8 : decode cX3_cutBuild 8 = .ok (.iload_n 1, 1) := by decide +kernel
theorem dX3_cutBuild_9 : decode cX3_cutBuild 9 = .ok (.iconst 1, 1) := by decide +kernel
theorem dX3_cutBuild_10 : decode cX3_cutBuild 10 = .ok (.iadd, 1) := by decide +kernel
theorem dX3_cutBuild_11 : decode cX3_cutBuild 11 = .ok (.iaload, 1) := by decide +kernel
theorem dX3_cutBuild_12 : decode cX3_cutBuild 12 = .ok (.iaload, 1) := by decide +kernel
theorem dX3_cutBuild_13 : decode cX3_cutBuild 13 = .ok (.ireturn, 1) := by decide +kernel
theorem dX3_stepSize_0 : decode cX3_stepSize 0 = .ok (.aload_n 0, 1) := by decide +kernel
theorem dX3_stepSize_1 : decode cX3_stepSize 1 = .ok (.getfield 28, 3) := by decide +kernel
theorem dX3_stepSize_4 : decode cX3_stepSize 4 = .ok (.iload_n 1, 1) := by decide +kernel
theorem dX3_stepSize_5 : decode cX3_stepSize 5 = .ok (.iconst 1, 1) := by decide +kernel
theorem dX3_stepSize_6 : decode cX3_stepSize 6 = .ok (.iadd, 1) := by decide +kernel
theorem dX3_stepSize_7 : decode cX3_stepSize 7 = .ok (.iaload, 1) := by decide +kernel
theorem dX3_stepSize_8 : decode cX3_stepSize 8 = .ok (.aload_n 0, 1) := by decide +kernel
theorem dX3_stepSize_9 : decode cX3_stepSize 9 = .ok (.getfield 28, 3) := by decide +kernel
theorem dX3_stepSize_12 : decode cX3_stepSize 12 = .ok (.iload_n 1, 1) := by decide +kernel
theorem dX3_stepSize_13 : decode cX3_stepSize 13 = .ok (.iaload, 1) := by decide +kernel
theorem dX3_stepSize_14 : decode cX3_stepSize 14 = .ok (.isub, 1) := by decide +kernel
theorem dX3_stepSize_15 : decode cX3_stepSize 15 = .ok (.ireturn, 1) := by decide +kernel
theorem dX3_undoingOf_0 : decode cX3_undoingOf 0 = .ok (.aload_n 0, 1) := by decide +kernel
theorem dX3_undoingOf_1 : decode cX3_undoingOf 1 = .ok (.iload_n 1, 1) := by decide +kernel
theorem dX3_undoingOf_2 : decode cX3_undoingOf 2 = .ok (.invokevirtual 48, 3) := by decide +kernel
theorem dX3_undoingOf_5 : decode cX3_undoingOf 5 = .ok (.ifCond .le 12, 3) := by decide +kernel
theorem dX3_undoingOf_8 : decode cX3_undoingOf 8 = .ok (.aload_n 0, 1) := by decide +kernel
theorem dX3_undoingOf_9 : decode cX3_undoingOf 9 = .ok (.getfield 31, 3) := by decide +kernel
theorem dX3_undoingOf_12 : decode cX3_undoingOf 12 = .ok (.iload_n 1, 1) := by decide +kernel
theorem dX3_undoingOf_13 : decode cX3_undoingOf 13 = .ok (.iaload, 1) := by decide +kernel
theorem dX3_undoingOf_14 : decode cX3_undoingOf 14 = .ok (.goto 5, 3) := by decide +kernel
theorem dX3_undoingOf_17 : decode cX3_undoingOf 17 = .ok (.bipush (-9), 2) := by decide +kernel
theorem dX3_undoingOf_19 : decode cX3_undoingOf 19 = .ok (.ireturn, 1) := by decide +kernel
theorem dX3_stepsNear_0 : decode cX3_stepsNear 0 = .ok (.iconst 0, 1) := by decide +kernel
theorem dX3_stepsNear_1 : decode cX3_stepsNear 1 = .ok (.istore 4, 2) := by decide +kernel
theorem dX3_stepsNear_3 : decode cX3_stepsNear 3 = .ok (.iload 4, 2) := by decide +kernel
theorem dX3_stepsNear_5 : decode cX3_stepsNear 5 = .ok (.aload_n 0, 1) := by decide +kernel
theorem dX3_stepsNear_6 : decode cX3_stepsNear 6 = .ok (.invokevirtual 44, 3) := by decide +kernel
theorem dX3_stepsNear_9 : decode cX3_stepsNear 9 = .ok (.if_icmp .ge 55, 3) := by decide +kernel
theorem dX3_stepsNear_12 : decode cX3_stepsNear 12 = .ok (.iload_n 3, 1) := by decide +kernel
theorem dX3_stepsNear_13 : decode cX3_stepsNear 13 = .ok (.ifCond .eq 20, 3) := by decide +kernel
theorem dX3_stepsNear_16 : decode cX3_stepsNear 16 = .ok (.aload_n 0, 1) := by decide +kernel
theorem dX3_stepsNear_17 : decode cX3_stepsNear 17 = .ok (.iload 4, 2) := by decide +kernel
theorem dX3_stepsNear_19 : decode cX3_stepsNear 19 = .ok (.invokevirtual 48, 3) := by decide +kernel
theorem dX3_stepsNear_22 : decode cX3_stepsNear 22 = .ok (.invokestatic 52, 3) := by decide +kernel
theorem dX3_stepsNear_25 : decode cX3_stepsNear 25 = .ok (.iload_n 3, 1) := by decide +kernel
theorem dX3_stepsNear_26 : decode cX3_stepsNear 26 = .ok (.if_icmp .ne 7, 3) := by decide +kernel
theorem dX3_stepsNear_29 : decode cX3_stepsNear 29 = .ok (.iconst 1, 1) := by decide +kernel
theorem dX3_stepsNear_30 : decode cX3_stepsNear 30 = .ok (.goto 4, 3) := by decide +kernel
theorem dX3_stepsNear_33 : decode cX3_stepsNear 33 = .ok (.iconst 0, 1) := by decide +kernel
theorem dX3_stepsNear_34 : decode cX3_stepsNear 34 = .ok (.istore 5, 2) := by decide +kernel
theorem dX3_stepsNear_36 : decode cX3_stepsNear 36 = .ok (.iload 5, 2) := by decide +kernel
theorem dX3_stepsNear_38 : decode cX3_stepsNear 38 = .ok (.ifCond .eq 20, 3) := by decide +kernel
theorem dX3_stepsNear_41 : decode cX3_stepsNear 41 = .ok (.aload_n 0, 1) := by decide +kernel
theorem dX3_stepsNear_42 : decode cX3_stepsNear 42 = .ok (.iload 4, 2) := by decide +kernel
theorem dX3_stepsNear_44 : decode cX3_stepsNear 44 = .ok (.invokevirtual 57, 3) := by decide +kernel
theorem dX3_stepsNear_47 : decode cX3_stepsNear 47 = .ok (.iload_n 1, 1) := by decide +kernel
theorem dX3_stepsNear_48 : decode cX3_stepsNear 48 = .ok (.isub, 1) := by decide +kernel
theorem dX3_stepsNear_49 : decode cX3_stepsNear 49 = .ok (.invokestatic 60, 3) := by decide +kernel
theorem dX3_stepsNear_52 : decode cX3_stepsNear 52 = .ok (.iload_n 2, 1) := by decide +kernel
theorem dX3_stepsNear_53 : decode cX3_stepsNear 53 = .ok (.if_icmp .gt 5, 3) := by decide +kernel
theorem dX3_stepsNear_56 : decode cX3_stepsNear 56 = .ok (.iconst 1, 1) := by decide +kernel
theorem dX3_stepsNear_57 : decode cX3_stepsNear 57 = .ok (.ireturn, 1) := by decide +kernel
theorem dX3_stepsNear_58 : decode cX3_stepsNear 58 = .ok (.iinc 4 1, 3) := by decide +kernel
theorem dX3_stepsNear_61 : decode cX3_stepsNear 61 = .ok (.goto (-58), 3) := by decide +kernel
theorem dX3_stepsNear_64 : decode cX3_stepsNear 64 = .ok (.iconst 0, 1) := by decide +kernel
theorem dX3_stepsNear_65 : decode cX3_stepsNear 65 = .ok (.ireturn, 1) := by decide +kernel
theorem dX3_isMeasuredAround_0 : decode cX3_isMeasuredAround 0 = .ok (.aload_n 0, 1) := by decide +kernel
theorem dX3_isMeasuredAround_1 : decode cX3_isMeasuredAround 1 = .ok (.getfield 65, 3) := by decide +kernel
theorem dX3_isMeasuredAround_4 : decode cX3_isMeasuredAround 4 = .ok (.ifCond .le 32, 3) := by decide +kernel
theorem dX3_isMeasuredAround_7 : decode cX3_isMeasuredAround 7 = .ok (.aload_n 0, 1) := by decide +kernel
theorem dX3_isMeasuredAround_8 : decode cX3_isMeasuredAround 8 = .ok (.getfield 19, 3) := by decide +kernel
theorem dX3_isMeasuredAround_11 : decode cX3_isMeasuredAround 11 = .ok (.iconst 0, 1) := by decide +kernel
theorem dX3_isMeasuredAround_12 : decode cX3_isMeasuredAround 12 = .ok (.iaload, 1) := by decide +kernel
theorem dX3_isMeasuredAround_13 : decode cX3_isMeasuredAround 13 = .ok (.iload_n 1, 1) := by decide +kernel
theorem dX3_isMeasuredAround_14 : decode cX3_isMeasuredAround 14 = .ok (.if_icmp .ge 22, 3) := by decide +kernel
theorem dX3_isMeasuredAround_17 : decode cX3_isMeasuredAround 17 = .ok (.aload_n 0, 1) := by decide +kernel
theorem dX3_isMeasuredAround_18 : decode cX3_isMeasuredAround 18 = .ok (.getfield 19, 3) := by decide +kernel
theorem dX3_isMeasuredAround_21 : decode cX3_isMeasuredAround 21 = .ok (.aload_n 0, 1) := by decide +kernel
theorem dX3_isMeasuredAround_22 : decode cX3_isMeasuredAround 22 = .ok (.getfield 65, 3) := by decide +kernel
theorem dX3_isMeasuredAround_25 : decode cX3_isMeasuredAround 25 = .ok (.iconst 1, 1) := by decide +kernel
theorem dX3_isMeasuredAround_26 : decode cX3_isMeasuredAround 26 = .ok (.isub, 1) := by decide +kernel
theorem dX3_isMeasuredAround_27 : decode cX3_isMeasuredAround 27 = .ok (.iaload, 1) := by decide +kernel
theorem dX3_isMeasuredAround_28 : decode cX3_isMeasuredAround 28 = .ok (.iload_n 1, 1) := by decide +kernel
theorem dX3_isMeasuredAround_29 : decode cX3_isMeasuredAround 29 = .ok (.if_icmp .lt 7, 3) := by decide +kernel
theorem dX3_isMeasuredAround_32 : decode cX3_isMeasuredAround 32 = .ok (.iconst 1, 1) := by decide +kernel
theorem dX3_isMeasuredAround_33 : decode cX3_isMeasuredAround 33 = .ok (.goto 4, 3) := by decide +kernel
theorem dX3_isMeasuredAround_36 : decode cX3_isMeasuredAround 36 = .ok (.iconst 0, 1) := by decide +kernel
theorem dX3_isMeasuredAround_37 : decode cX3_isMeasuredAround 37 = .ok (.ireturn, 1) := by decide +kernel
theorem dX3_rememberAlarm_0 : decode cX3_rememberAlarm 0 = .ok (.aload_n 0, 1) := by decide +kernel
theorem dX3_rememberAlarm_1 : decode cX3_rememberAlarm 1 = .ok (.dup, 1) := by decide +kernel
theorem dX3_rememberAlarm_2 : decode cX3_rememberAlarm 2 = .ok (.getfield 68, 3) := by decide +kernel
theorem dX3_rememberAlarm_5 : decode cX3_rememberAlarm 5 = .ok (.lconst 1, 1) := by decide +kernel
theorem dX3_rememberAlarm_6 : decode cX3_rememberAlarm 6 = .ok (.aload_n 0, 1) := by decide +kernel
theorem dX3_rememberAlarm_7 : decode cX3_rememberAlarm 7 = .ok (.iload_n 1, 1) := by decide +kernel
theorem dX3_rememberAlarm_8 : decode cX3_rememberAlarm 8 = .ok (.invokevirtual 57, 3) := by decide +kernel
theorem dX3_rememberAlarm_11 : decode cX3_rememberAlarm 11 = .ok (.lshl, 1) := by decide +kernel
theorem dX3_rememberAlarm_12 : decode cX3_rememberAlarm 12 = .ok (.lor, 1) := by decide +kernel
theorem dX3_rememberAlarm_13 : decode cX3_rememberAlarm 13 = .ok (.putfield 68, 3) := by decide +kernel
theorem dX3_rememberAlarm_16 : decode cX3_rememberAlarm 16 = .ok (.return_, 1) := by decide +kernel
theorem dX3_wasAlarmed_0 : decode cX3_wasAlarmed 0 = .ok (.aload_n 0, 1) := by decide +kernel
theorem dX3_wasAlarmed_1 : decode cX3_wasAlarmed 1 = .ok (.getfield 68, 3) := by decide +kernel
theorem dX3_wasAlarmed_4 : decode cX3_wasAlarmed 4 = .ok (.aload_n 0, 1) := by decide +kernel
theorem dX3_wasAlarmed_5 : decode cX3_wasAlarmed 5 = .ok (.iload_n 1, 1) := by decide +kernel
theorem dX3_wasAlarmed_6 : decode cX3_wasAlarmed 6 = .ok (.invokevirtual 57, 3) := by decide +kernel
theorem dX3_wasAlarmed_9 : decode cX3_wasAlarmed 9 = .ok (.lshr, 1) := by decide +kernel
theorem dX3_wasAlarmed_10 : decode cX3_wasAlarmed 10 = .ok (.lconst 1, 1) := by decide +kernel
theorem dX3_wasAlarmed_11 : decode cX3_wasAlarmed 11 = .ok (.land, 1) := by decide +kernel
theorem dX3_wasAlarmed_12 : decode cX3_wasAlarmed 12 = .ok (.lconst 0, 1) := by decide +kernel
theorem dX3_wasAlarmed_13 : decode cX3_wasAlarmed 13 = .ok (.lcmp, 1) := by decide +kernel
theorem dX3_wasAlarmed_14 : decode cX3_wasAlarmed 14 = .ok (.ifCond .eq 7, 3) := by decide +kernel
theorem dX3_wasAlarmed_17 : decode cX3_wasAlarmed 17 = .ok (.iconst 1, 1) := by decide +kernel
theorem dX3_wasAlarmed_18 : decode cX3_wasAlarmed 18 = .ok (.goto 4, 3) := by decide +kernel
theorem dX3_wasAlarmed_21 : decode cX3_wasAlarmed 21 = .ok (.iconst 0, 1) := by decide +kernel
theorem dX3_wasAlarmed_22 : decode cX3_wasAlarmed 22 = .ok (.ireturn, 1) := by decide +kernel
theorem dX3_digestOnto_0 : decode cX3_digestOnto 0 = .ok (.aload_n 0, 1) := by decide +kernel
theorem dX3_digestOnto_1 : decode cX3_digestOnto 1 = .ok (.getfield 72, 3) := by decide +kernel
theorem dX3_digestOnto_4 : decode cX3_digestOnto 4 = .ok (.ifCond .ne 11, 3) := by decide +kernel
theorem dX3_digestOnto_7 : decode cX3_digestOnto 7 = .ok (.ldc2_w 75, 3) := by decide +kernel
theorem dX3_digestOnto_10 : decode cX3_digestOnto 10 = .ok (.lload_n 1, 1) := by decide +kernel
theorem dX3_digestOnto_11 : decode cX3_digestOnto 11 = .ok (.lmul, 1) := by decide +kernel
theorem dX3_digestOnto_12 : decode cX3_digestOnto 12 = .ok (.lconst 1, 1) := by decide +kernel
theorem dX3_digestOnto_13 : decode cX3_digestOnto 13 = .ok (.lsub, 1) := by decide +kernel
theorem dX3_digestOnto_14 : decode cX3_digestOnto 14 = .ok (.lreturn, 1) := by decide +kernel
theorem dX3_digestOnto_15 : decode cX3_digestOnto 15 = .ok (.lload_n 1, 1) := by decide +kernel
theorem dX3_digestOnto_16 : decode cX3_digestOnto 16 = .ok (.lstore_n 3, 1) := by decide +kernel
theorem dX3_digestOnto_17 : decode cX3_digestOnto 17 = .ok (.iconst 0, 1) := by decide +kernel
theorem dX3_digestOnto_18 : decode cX3_digestOnto 18 = .ok (.istore 5, 2) := by decide +kernel
theorem dX3_digestOnto_20 : decode cX3_digestOnto 20 = .ok (.iload 5, 2) := by decide +kernel
theorem dX3_digestOnto_22 : decode cX3_digestOnto 22 = .ok (.bipush 40, 2) := by decide +kernel
theorem dX3_digestOnto_24 : decode cX3_digestOnto 24 = .ok (.if_icmp .ge 24, 3) := by decide +kernel
theorem dX3_digestOnto_27 : decode cX3_digestOnto 27 = .ok (.ldc2_w 75, 3) := by decide +kernel
theorem dX3_digestOnto_30 : decode cX3_digestOnto 30 = .ok (.lload_n 3, 1) := by decide +kernel
theorem dX3_digestOnto_31 : decode cX3_digestOnto 31 = .ok (.lmul, 1) := by decide +kernel
theorem dX3_digestOnto_32 : decode cX3_digestOnto 32 = .ok (.aload_n 0, 1) := by decide +kernel
theorem dX3_digestOnto_33 : decode cX3_digestOnto 33 = .ok (.getfield 9, 3) := by decide +kernel
theorem dX3_digestOnto_36 : decode cX3_digestOnto 36 = .ok (.iload 5, 2) := by decide +kernel
theorem dX3_digestOnto_38 : decode cX3_digestOnto 38 = .ok (.iaload, 1) := by decide +kernel
theorem dX3_digestOnto_39 : decode cX3_digestOnto 39 = .ok (.i2l, 1) := by decide +kernel
theorem dX3_digestOnto_40 : decode cX3_digestOnto 40 = .ok (.ladd, 1) := by decide +kernel
theorem dX3_digestOnto_41 : decode cX3_digestOnto 41 = .ok (.lstore_n 3, 1) := by decide +kernel
theorem dX3_digestOnto_42 : decode cX3_digestOnto 42 = .ok (.iinc 5 1, 3) := by decide +kernel
theorem dX3_digestOnto_45 : decode cX3_digestOnto 45 = .ok (.goto (-25), 3) := by decide +kernel
theorem dX3_digestOnto_48 : decode cX3_digestOnto 48 = .ok (.lload_n 3, 1) := by decide +kernel
theorem dX3_digestOnto_49 : decode cX3_digestOnto 49 = .ok (.lreturn, 1) := by decide +kernel
theorem dX3_gatherMeasured_0 : decode cX3_gatherMeasured 0 = .ok (.aload_n 0, 1) := by decide +kernel
theorem dX3_gatherMeasured_1 : decode cX3_gatherMeasured 1 = .ok (.iconst 0, 1) := by decide +kernel
theorem dX3_gatherMeasured_2 : decode cX3_gatherMeasured 2 = .ok (.putfield 65, 3) := by decide +kernel
theorem dX3_gatherMeasured_5 : decode cX3_gatherMeasured 5 = .ok (.iconst 0, 1) := by decide +kernel
theorem dX3_gatherMeasured_6 : decode cX3_gatherMeasured 6 = .ok (.istore_n 2, 1) := by decide +kernel
theorem dX3_gatherMeasured_7 : decode cX3_gatherMeasured 7 = .ok (.iload_n 2, 1) := by decide +kernel
theorem dX3_gatherMeasured_8 : decode cX3_gatherMeasured 8 = .ok (.iload_n 1, 1) := by decide +kernel
theorem dX3_gatherMeasured_9 : decode cX3_gatherMeasured 9 = .ok (.if_icmp .ge 60, 3) := by decide +kernel
theorem dX3_gatherMeasured_12 : decode cX3_gatherMeasured 12 = .ok (.aload_n 0, 1) := by decide +kernel
theorem dX3_gatherMeasured_13 : decode cX3_gatherMeasured 13 = .ok (.getfield 9, 3) := by decide +kernel
theorem dX3_gatherMeasured_16 : decode cX3_gatherMeasured 16 = .ok (.iload_n 2, 1) := by decide +kernel
theorem dX3_gatherMeasured_17 : decode cX3_gatherMeasured 17 = .ok (.iaload, 1) := by decide +kernel
theorem dX3_gatherMeasured_18 : decode cX3_gatherMeasured 18 = .ok (.bipush (-9), 2) := by decide +kernel
theorem dX3_gatherMeasured_20 : decode cX3_gatherMeasured 20 = .ok (.if_icmp .eq 43, 3) := by decide +kernel
theorem dX3_gatherMeasured_23 : decode cX3_gatherMeasured 23 = .ok (.aload_n 0, 1) := by decide +kernel
theorem dX3_gatherMeasured_24 : decode cX3_gatherMeasured 24 = .ok (.getfield 19, 3) := by decide +kernel
theorem dX3_gatherMeasured_27 : decode cX3_gatherMeasured 27 = .ok (.aload_n 0, 1) := by decide +kernel
theorem dX3_gatherMeasured_28 : decode cX3_gatherMeasured 28 = .ok (.getfield 65, 3) := by decide +kernel
theorem dX3_gatherMeasured_31 : decode cX3_gatherMeasured 31 = .ok (.iload_n 2, 1) := by decide +kernel
theorem dX3_gatherMeasured_32 : decode cX3_gatherMeasured 32 = .ok (.iastore, 1) := by decide +kernel
theorem dX3_gatherMeasured_33 : decode cX3_gatherMeasured 33 = .ok (.aload_n 0, 1) := by decide +kernel
theorem dX3_gatherMeasured_34 : decode cX3_gatherMeasured 34 = .ok (.getfield 22, 3) := by decide +kernel
theorem dX3_gatherMeasured_37 : decode cX3_gatherMeasured 37 = .ok (.aload_n 0, 1) := by decide +kernel
theorem dX3_gatherMeasured_38 : decode cX3_gatherMeasured 38 = .ok (.getfield 65, 3) := by decide +kernel
theorem dX3_gatherMeasured_41 : decode cX3_gatherMeasured 41 = .ok (.aload_n 0, 1) := by decide +kernel
theorem dX3_gatherMeasured_42 : decode cX3_gatherMeasured 42 = .ok (.aload_n 0, 1) := by decide +kernel
theorem dX3_gatherMeasured_43 : decode cX3_gatherMeasured 43 = .ok (.getfield 9, 3) := by decide +kernel
theorem dX3_gatherMeasured_46 : decode cX3_gatherMeasured 46 = .ok (.iload_n 2, 1) := by decide +kernel
theorem dX3_gatherMeasured_47 : decode cX3_gatherMeasured 47 = .ok (.iaload, 1) := by decide +kernel
theorem dX3_gatherMeasured_48 : decode cX3_gatherMeasured 48 = .ok (.iload_n 1, 1) := by decide +kernel
theorem dX3_gatherMeasured_49 : decode cX3_gatherMeasured 49 = .ok (.invokevirtual 77, 3) := by decide +kernel
theorem dX3_gatherMeasured_52 : decode cX3_gatherMeasured 52 = .ok (.iastore, 1) := by decide +kernel
theorem dX3_gatherMeasured_53 : decode cX3_gatherMeasured 53 = .ok (.aload_n 0, 1) := by decide +kernel
theorem dX3_gatherMeasured_54 : decode cX3_gatherMeasured 54 = .ok (.dup, 1) := by decide +kernel
theorem dX3_gatherMeasured_55 : decode cX3_gatherMeasured 55 = .ok (.getfield 65, 3) := by decide +kernel
theorem dX3_gatherMeasured_58 : decode cX3_gatherMeasured 58 = .ok (.iconst 1, 1) := by decide +kernel
theorem dX3_gatherMeasured_59 : decode cX3_gatherMeasured 59 = .ok (.iadd, 1) := by decide +kernel
theorem dX3_gatherMeasured_60 : decode cX3_gatherMeasured 60 = .ok (.putfield 65, 3) := by decide +kernel
theorem dX3_gatherMeasured_63 : decode cX3_gatherMeasured 63 = .ok (.iinc 2 1, 3) := by decide +kernel
theorem dX3_gatherMeasured_66 : decode cX3_gatherMeasured 66 = .ok (.goto (-59), 3) := by decide +kernel
theorem dX3_gatherMeasured_69 : decode cX3_gatherMeasured 69 = .ok (.return_, 1) := by decide +kernel
theorem dX3_pairSteps_0 : decode cX3_pairSteps 0 = .ok (.aload_n 0, 1) := by decide +kernel
theorem dX3_pairSteps_1 : decode cX3_pairSteps 1 = .ok (.getfield 31, 3) := by decide +kernel
theorem dX3_pairSteps_4 : decode cX3_pairSteps 4 = .ok (.bipush (-9), 2) := by decide +kernel
theorem dX3_pairSteps_6 : decode cX3_pairSteps 6 = .ok (.invokestatic 34, 3) := by decide +kernel
theorem dX3_pairSteps_9 : decode cX3_pairSteps 9 = .ok (.iconst 0, 1) := by decide +kernel
theorem dX3_pairSteps_10 : decode cX3_pairSteps 10 = .ok (.istore_n 1, 1) := by decide +kernel
theorem dX3_pairSteps_11 : decode cX3_pairSteps 11 = .ok (.iload_n 1, 1) := by decide +kernel
theorem dX3_pairSteps_12 : decode cX3_pairSteps 12 = .ok (.aload_n 0, 1) := by decide +kernel
theorem dX3_pairSteps_13 : decode cX3_pairSteps 13 = .ok (.invokevirtual 44, 3) := by decide +kernel
theorem dX3_pairSteps_16 : decode cX3_pairSteps 16 = .ok (.if_icmp .ge 22, 3) := by decide +kernel
theorem dX3_pairSteps_19 : decode cX3_pairSteps 19 = .ok (.aload_n 0, 1) := by decide +kernel
theorem dX3_pairSteps_20 : decode cX3_pairSteps 20 = .ok (.iload_n 1, 1) := by decide +kernel
theorem dX3_pairSteps_21 : decode cX3_pairSteps 21 = .ok (.invokevirtual 48, 3) := by decide +kernel
theorem dX3_pairSteps_24 : decode cX3_pairSteps 24 = .ok (.ifCond .le 8, 3) := by decide +kernel
theorem dX3_pairSteps_27 : decode cX3_pairSteps 27 = .ok (.aload_n 0, 1) := by decide +kernel
theorem dX3_pairSteps_28 : decode cX3_pairSteps 28 = .ok (.iload_n 1, 1) := by decide +kernel
theorem dX3_pairSteps_29 : decode cX3_pairSteps 29 = .ok (.invokevirtual 81, 3) := by decide +kernel
theorem dX3_pairSteps_32 : decode cX3_pairSteps 32 = .ok (.iinc 1 1, 3) := by decide +kernel
theorem dX3_pairSteps_35 : decode cX3_pairSteps 35 = .ok (.goto (-24), 3) := by decide +kernel
theorem dX3_pairSteps_38 : decode cX3_pairSteps 38 = .ok (.return_, 1) := by decide +kernel
theorem dX3_pairStep_0 : decode cX3_pairStep 0 = .ok (.aload_n 0, 1) := by decide +kernel
theorem dX3_pairStep_1 : decode cX3_pairStep 1 = .ok (.iload_n 1, 1) := by decide +kernel
theorem dX3_pairStep_2 : decode cX3_pairStep 2 = .ok (.invokevirtual 48, 3) := by decide +kernel
theorem dX3_pairStep_5 : decode cX3_pairStep 5 = .ok (.istore_n 2, 1) := by decide +kernel
theorem dX3_pairStep_6 : decode cX3_pairStep 6 = .ok (.iload_n 1, 1) := by decide +kernel
theorem dX3_pairStep_7 : decode cX3_pairStep 7 = .ok (.iconst 1, 1) := by decide +kernel
theorem dX3_pairStep_8 : decode cX3_pairStep 8 = .ok (.iadd, 1) := by decide +kernel
theorem dX3_pairStep_9 : decode cX3_pairStep 9 = .ok (.istore_n 3, 1) := by decide +kernel
theorem dX3_pairStep_10 : decode cX3_pairStep 10 = .ok (.iload_n 3, 1) := by decide +kernel
theorem dX3_pairStep_11 : decode cX3_pairStep 11 = .ok (.aload_n 0, 1) := by decide +kernel
theorem dX3_pairStep_12 : decode cX3_pairStep 12 = .ok (.invokevirtual 44, 3) := by decide +kernel
theorem dX3_pairStep_15 : decode cX3_pairStep 15 = .ok (.if_icmp .ge 74, 3) := by decide +kernel
theorem dX3_pairStep_18 : decode cX3_pairStep 18 = .ok (.aload_n 0, 1) := by decide +kernel
theorem dX3_pairStep_19 : decode cX3_pairStep 19 = .ok (.iload_n 3, 1) := by decide +kernel
theorem dX3_pairStep_20 : decode cX3_pairStep 20 = .ok (.invokevirtual 48, 3) := by decide +kernel
theorem dX3_pairStep_23 : decode cX3_pairStep 23 = .ok (.ineg, 1) := by decide +kernel
theorem dX3_pairStep_24 : decode cX3_pairStep 24 = .ok (.istore 4, 2) := by decide +kernel
theorem dX3_pairStep_26 : decode cX3_pairStep 26 = .ok (.bipush 10, 2) := by decide +kernel
theorem dX3_pairStep_28 : decode cX3_pairStep 28 = .ok (.iload_n 2, 1) := by decide +kernel
theorem dX3_pairStep_29 : decode cX3_pairStep 29 = .ok (.iload 4, 2) := by decide +kernel
theorem dX3_pairStep_31 : decode cX3_pairStep 31 = .ok (.isub, 1) := by decide +kernel
theorem dX3_pairStep_32 : decode cX3_pairStep 32 = .ok (.invokestatic 60, 3) := by decide +kernel
theorem dX3_pairStep_35 : decode cX3_pairStep 35 = .ok (.imul, 1) := by decide +kernel
theorem dX3_pairStep_36 : decode cX3_pairStep 36 = .ok (.iload_n 2, 1) := by decide +kernel
theorem dX3_pairStep_37 : decode cX3_pairStep 37 = .ok (.if_icmp .gt 7, 3) := by decide +kernel
theorem dX3_pairStep_40 : decode cX3_pairStep 40 = .ok (.iconst 1, 1) := by decide +kernel
theorem dX3_pairStep_41 : decode cX3_pairStep 41 = .ok (.goto 4, 3) := by decide +kernel
theorem dX3_pairStep_44 : decode cX3_pairStep 44 = .ok (.iconst 0, 1) := by decide +kernel
theorem dX3_pairStep_45 : decode cX3_pairStep 45 = .ok (.istore 5, 2) := by decide +kernel
theorem dX3_pairStep_47 : decode cX3_pairStep 47 = .ok (.iload 4, 2) := by decide +kernel
theorem dX3_pairStep_49 : decode cX3_pairStep 49 = .ok (.ifCond .le 34, 3) := by decide +kernel
theorem dX3_pairStep_52 : decode cX3_pairStep 52 = .ok (.aload_n 0, 1) := by decide +kernel
theorem dX3_pairStep_53 : decode cX3_pairStep 53 = .ok (.getfield 31, 3) := by decide +kernel
theorem dX3_pairStep_56 : decode cX3_pairStep 56 = .ok (.iload_n 3, 1) := by decide +kernel
theorem dX3_pairStep_57 : decode cX3_pairStep 57 = .ok (.iaload, 1) := by decide +kernel
theorem dX3_pairStep_58 : decode cX3_pairStep 58 = .ok (.bipush (-9), 2) := by decide +kernel
theorem dX3_pairStep_60 : decode cX3_pairStep 60 = .ok (.if_icmp .ne 23, 3) := by decide +kernel
theorem dX3_pairStep_63 : decode cX3_pairStep 63 = .ok (.iload 5, 2) := by decide +kernel
theorem dX3_pairStep_65 : decode cX3_pairStep 65 = .ok (.ifCond .eq 18, 3) := by decide +kernel
theorem dX3_pairStep_68 : decode cX3_pairStep 68 = .ok (.aload_n 0, 1) := by decide +kernel
theorem dX3_pairStep_69 : decode cX3_pairStep 69 = .ok (.getfield 31, 3) := by decide +kernel
theorem dX3_pairStep_72 : decode cX3_pairStep 72 = .ok (.iload_n 1, 1) := by decide +kernel
theorem dX3_pairStep_73 : decode cX3_pairStep 73 = .ok (.iload_n 3, 1) := by decide +kernel
theorem dX3_pairStep_74 : decode cX3_pairStep 74 = .ok (.iastore, 1) := by decide +kernel
theorem dX3_pairStep_75 : decode cX3_pairStep 75 = .ok (.aload_n 0, 1) := by decide +kernel
theorem dX3_pairStep_76 : decode cX3_pairStep 76 = .ok (.getfield 31, 3) := by decide +kernel
theorem dX3_pairStep_79 : decode cX3_pairStep 79 = .ok (.iload_n 3, 1) := by decide +kernel
theorem dX3_pairStep_80 : decode cX3_pairStep 80 = .ok (.iload_n 1, 1) := by decide +kernel
theorem dX3_pairStep_81 : decode cX3_pairStep 81 = .ok (.iastore, 1) := by decide +kernel
theorem dX3_pairStep_82 : decode cX3_pairStep 82 = .ok (.return_, 1) := by decide +kernel
theorem dX3_pairStep_83 : decode cX3_pairStep 83 = .ok (.iinc 3 1, 3) := by decide +kernel
theorem dX3_pairStep_86 : decode cX3_pairStep 86 = .ok (.goto (-76), 3) := by decide +kernel
theorem dX3_pairStep_89 : decode cX3_pairStep 89 = .ok (.return_, 1) := by decide +kernel
theorem dX4_init_0 : decode cX4_init 0 = .ok (.aload_n 0, 1) := by decide +kernel
theorem dX4_init_1 : decode cX4_init 1 = .ok (.invokespecial 3, 3) := by decide +kernel
theorem dX4_init_4 : decode cX4_init 4 = .ok (.aload_n 0, 1) := by decide +kernel
theorem dX4_init_5 : decode cX4_init 5 = .ok (.iconst 4, 1) := by decide +kernel
theorem dX4_init_6 : decode cX4_init 6 = .ok (.anewarray 9, 3) := by decide +kernel
theorem dX4_init_9 : decode cX4_init 9 = .ok (.putfield 11, 3) := by decide +kernel
theorem dX4_init_12 : decode cX4_init 12 = .ok (.aload_n 0, 1) := by decide +kernel
theorem dX4_init_13 : decode cX4_init 13 = .ok (.iload_n 1, 1) := by decide +kernel
theorem dX4_init_14 : decode cX4_init 14 = .ok (.putfield 17, 3) := by decide +kernel
theorem dX4_init_17 : decode cX4_init 17 = .ok (.iconst 0, 1) := by decide +kernel
theorem dX4_init_18 : decode cX4_init 18 = .ok (.istore_n 2, 1) := by decide +kernel
theorem dX4_init_19 : decode cX4_init 19 = .ok (.iload_n 2, 1) := by decide +kernel
theorem dX4_init_20 : decode cX4_init 20 = .ok (.iconst 4, 1) := by decide +kernel
theorem dX4_init_21 : decode cX4_init 21 = .ok (.if_icmp .ge 22, 3) := by decide +kernel
theorem dX4_init_24 : decode cX4_init 24 = .ok (.aload_n 0, 1) := by decide +kernel
theorem dX4_init_25 : decode cX4_init 25 = .ok (.getfield 11, 3) := by decide +kernel
theorem dX4_init_28 : decode cX4_init 28 = .ok (.iload_n 2, 1) := by decide +kernel
theorem dX4_init_29 : decode cX4_init 29 = .ok (.new 9, 3) := by decide +kernel
theorem dX4_init_32 : decode cX4_init 32 = .ok (.dup, 1) := by decide +kernel
theorem dX4_init_33 : decode cX4_init 33 = .ok (.invokespecial 21, 3) := by decide +kernel
theorem dX4_init_36 : decode cX4_init 36 = .ok (.aastore, 1) := by decide +kernel
theorem dX4_init_37 : decode cX4_init 37 = .ok (.iinc 2 1, 3) := by decide +kernel
theorem dX4_init_40 : decode cX4_init 40 = .ok (.goto (-21), 3) := by decide +kernel
theorem dX4_init_43 : decode cX4_init 43 = .ok (.return_, 1) := by decide +kernel
theorem dJ6_signum_0f7a4_0 : decode cJ6_signum_0f7a4 0 = .ok (.iload_n 0, 1) := by decide +kernel
theorem dJ6_signum_0f7a4_1 : decode cJ6_signum_0f7a4 1 = .ok (.bipush 31, 2) := by decide +kernel
theorem dJ6_signum_0f7a4_3 : decode cJ6_signum_0f7a4 3 = .ok (.ishr, 1) := by decide +kernel
theorem dJ6_signum_0f7a4_4 : decode cJ6_signum_0f7a4 4 = .ok (.iload_n 0, 1) := by decide +kernel
theorem dJ6_signum_0f7a4_5 : decode cJ6_signum_0f7a4 5 = .ok (.ineg, 1) := by decide +kernel
theorem dJ6_signum_0f7a4_6 : decode cJ6_signum_0f7a4 6 = .ok (.bipush 31, 2) := by decide +kernel
theorem dJ6_signum_0f7a4_8 : decode cJ6_signum_0f7a4 8 = .ok (.iushr, 1) := by decide +kernel
theorem dJ6_signum_0f7a4_9 : decode cJ6_signum_0f7a4 9 = .ok (.ior, 1) := by decide +kernel
theorem dJ6_signum_0f7a4_10 : decode cJ6_signum_0f7a4 10 = .ok (.ireturn, 1) := by decide +kernel
theorem dJ9_abs_0f7a4_0 : decode cJ9_abs_0f7a4 0 = .ok (.iload_n 0, 1) := by decide +kernel
theorem dJ9_abs_0f7a4_1 : decode cJ9_abs_0f7a4 1 = .ok (.ifCond .ge 8, 3) := by decide +kernel
theorem dJ9_abs_0f7a4_4 : decode cJ9_abs_0f7a4 4 = .ok (.iload_n 0, 1) := by decide +kernel
theorem dJ9_abs_0f7a4_5 : decode cJ9_abs_0f7a4 5 = .ok (.ineg, 1) := by decide +kernel
theorem dJ9_abs_0f7a4_6 : decode cJ9_abs_0f7a4 6 = .ok (.goto 4, 3) := by decide +kernel
theorem dJ9_abs_0f7a4_9 : decode cJ9_abs_0f7a4 9 = .ok (.iload_n 0, 1) := by decide +kernel
theorem dJ9_abs_0f7a4_10 : decode cJ9_abs_0f7a4 10 = .ok (.ireturn, 1) := by decide +kernel
theorem dJ9_max_7cf53_0 : decode cJ9_max_7cf53 0 = .ok (.iload_n 0, 1) := by decide +kernel
theorem dJ9_max_7cf53_1 : decode cJ9_max_7cf53 1 = .ok (.iload_n 1, 1) := by decide +kernel
theorem dJ9_max_7cf53_2 : decode cJ9_max_7cf53 2 = .ok (.if_icmp .lt 7, 3) := by decide +kernel
theorem dJ9_max_7cf53_5 : decode cJ9_max_7cf53 5 = .ok (.iload_n 0, 1) := by decide +kernel
theorem dJ9_max_7cf53_6 : decode cJ9_max_7cf53 6 = .ok (.goto 4, 3) := by decide +kernel
theorem dJ9_max_7cf53_9 : decode cJ9_max_7cf53 9 = .ok (.iload_n 1, 1) := by decide +kernel
theorem dJ9_max_7cf53_10 : decode cJ9_max_7cf53 10 = .ok (.ireturn, 1) := by decide +kernel
theorem dJ9_min_7cf53_0 : decode cJ9_min_7cf53 0 = .ok (.iload_n 0, 1) := by decide +kernel
theorem dJ9_min_7cf53_1 : decode cJ9_min_7cf53 1 = .ok (.iload_n 1, 1) := by decide +kernel
theorem dJ9_min_7cf53_2 : decode cJ9_min_7cf53 2 = .ok (.if_icmp .gt 7, 3) := by decide +kernel
theorem dJ9_min_7cf53_5 : decode cJ9_min_7cf53 5 = .ok (.iload_n 0, 1) := by decide +kernel
theorem dJ9_min_7cf53_6 : decode cJ9_min_7cf53 6 = .ok (.goto 4, 3) := by decide +kernel
theorem dJ9_min_7cf53_9 : decode cJ9_min_7cf53 9 = .ok (.iload_n 1, 1) := by decide +kernel
theorem dJ9_min_7cf53_10 : decode cJ9_min_7cf53 10 = .ok (.ireturn, 1) := by decide +kernel
theorem dJ7_fill_53178_0 : decode cJ7_fill_53178 0 = .ok (.iconst 0, 1) := by decide +kernel
theorem dJ7_fill_53178_1 : decode cJ7_fill_53178 1 = .ok (.istore_n 2, 1) := by decide +kernel
theorem dJ7_fill_53178_2 : decode cJ7_fill_53178 2 = .ok (.aload_n 0, 1) := by decide +kernel
theorem dJ7_fill_53178_3 : decode cJ7_fill_53178 3 = .ok (.arraylength, 1) := by decide +kernel
theorem dJ7_fill_53178_4 : decode cJ7_fill_53178 4 = .ok (.istore_n 3, 1) := by decide +kernel
theorem dJ7_fill_53178_5 : decode cJ7_fill_53178 5 = .ok (.iload_n 2, 1) := by decide +kernel
theorem dJ7_fill_53178_6 : decode cJ7_fill_53178 6 = .ok (.iload_n 3, 1) := by decide +kernel
theorem dJ7_fill_53178_7 : decode cJ7_fill_53178 7 = .ok (.if_icmp .ge 13, 3) := by decide +kernel
theorem dJ7_fill_53178_10 : decode cJ7_fill_53178 10 = .ok (.aload_n 0, 1) := by decide +kernel
theorem dJ7_fill_53178_11 : decode cJ7_fill_53178 11 = .ok (.iload_n 2, 1) := by decide +kernel
theorem dJ7_fill_53178_12 : decode cJ7_fill_53178 12 = .ok (.iload_n 1, 1) := by decide +kernel
theorem dJ7_fill_53178_13 : decode cJ7_fill_53178 13 = .ok (.iastore, 1) := by decide +kernel
theorem dJ7_fill_53178_14 : decode cJ7_fill_53178 14 = .ok (.iinc 2 1, 3) := by decide +kernel
theorem dJ7_fill_53178_17 : decode cJ7_fill_53178 17 = .ok (.goto (-12), 3) := by decide +kernel
theorem dJ7_fill_53178_20 : decode cJ7_fill_53178 20 = .ok (.return_, 1) := by decide +kernel
end
section
theorem dX5_init_0 : decode cX5_init 0 = .ok (.aload_n 0, 1) := by decide +kernel
theorem dX5_init_1 : decode cX5_init 1 = .ok (.invokespecial 1, 3) := by decide +kernel
theorem dX5_init_4 : decode cX5_init 4 = .ok (.aload_n 0, 1) := by decide +kernel
theorem dX5_init_5 : decode cX5_init 5 = .ok (.bipush 8, 2) := by decide +kernel
theorem dX5_init_7 : decode cX5_init 7 = .ok (.anewarray 9, 3) := by decide +kernel
theorem dX5_init_10 : decode cX5_init 10 = .ok (.putfield 11, 3) := by decide +kernel
theorem dX5_init_13 : decode cX5_init 13 = .ok (.aload_n 0, 1) := by decide +kernel
theorem dX5_init_14 : decode cX5_init 14 = .ok (.bipush 6, 2) := by decide +kernel
theorem dX5_init_16 : decode cX5_init 16 = .ok (.newarray .int, 2) := by decide +kernel
theorem dX5_init_18 : decode cX5_init 18 = .ok (.putfield 15, 3) := by decide +kernel
theorem dX5_init_21 : decode cX5_init 21 = .ok (.aload_n 0, 1) := by decide +kernel
theorem dX5_init_22 : decode cX5_init 22 = .ok (.sipush 300, 3) := by decide +kernel
theorem dX5_init_25 : decode cX5_init 25 = .ok (.newarray .int, 2) := by decide +kernel
theorem dX5_init_27 : decode cX5_init 27 = .ok (.putfield 19, 3) := by decide +kernel
theorem dX5_init_30 : decode cX5_init 30 = .ok (.aload_n 0, 1) := by decide +kernel
theorem dX5_init_31 : decode cX5_init 31 = .ok (.new 22, 3) := by decide +kernel
theorem dX5_init_34 : decode cX5_init 34 = .ok (.dup, 1) := by decide +kernel
theorem dX5_init_35 : decode cX5_init 35 = .ok (.invokespecial 24, 3) := by decide +kernel
theorem dX5_init_38 : decode cX5_init 38 = .ok (.putfield 25, 3) := by decide +kernel
theorem dX5_init_41 : decode cX5_init 41 = .ok (.aload_n 0, 1) := by decide +kernel
theorem dX5_init_42 : decode cX5_init 42 = .ok (.new 29, 3) := by decide +kernel
theorem dX5_init_45 : decode cX5_init 45 = .ok (.dup, 1) := by decide +kernel
theorem dX5_init_46 : decode cX5_init 46 = .ok (.invokespecial 31, 3) := by decide +kernel
theorem dX5_init_49 : decode cX5_init 49 = .ok (.putfield 32, 3) := by decide +kernel
theorem dX5_init_52 : decode cX5_init 52 = .ok (.aload_n 0, 1) := by decide +kernel
theorem dX5_init_53 : decode cX5_init 53 = .ok (.bipush 20, 2) := by decide +kernel
theorem dX5_init_55 : decode cX5_init 55 = .ok (.putfield 36, 3) := by decide +kernel
theorem dX5_init_58 : decode cX5_init 58 = .ok (.aload_n 0, 1) := by decide +kernel
theorem dX5_init_59 : decode cX5_init 59 = .ok (.iconst 1, 1) := by decide +kernel
theorem dX5_init_60 : decode cX5_init 60 = .ok (.putfield 40, 3) := by decide +kernel
theorem dX5_init_63 : decode cX5_init 63 = .ok (.aload_n 0, 1) := by decide +kernel
theorem dX5_init_64 : decode cX5_init 64 = .ok (.lconst 1, 1) := by decide +kernel
theorem dX5_init_65 : decode cX5_init 65 = .ok (.putfield 43, 3) := by decide +kernel
theorem dX5_init_68 : decode cX5_init 68 = .ok (.return_, 1) := by decide +kernel
theorem dX5_builds_0 : decode cX5_builds 0 = .ok (.iload_n 1, 1) := by decide +kernel
theorem dX5_builds_1 : decode cX5_builds 1 = .ok (.aload_n 0, 1) := by decide +kernel
theorem dX5_builds_2 : decode cX5_builds 2 = .ok (.getfield 47, 3) := by decide +kernel
theorem dX5_builds_5 : decode cX5_builds 5 = .ok (.if_icmp .lt 9, 3) := by decide +kernel
theorem dX5_builds_8 : decode cX5_builds 8 = .ok (.iload_n 1, 1) := by decide +kernel
theorem dX5_builds_9 : decode cX5_builds 9 = .ok (.bipush 40, 2) := by decide +kernel
theorem dX5_builds_11 : decode cX5_builds 11 = .ok (.if_icmp .le 5, 3) := by decide +kernel
theorem dX5_builds_14 : decode cX5_builds 14 = .ok (.iconst (-1), 1) := by decide +kernel
theorem dX5_builds_15 : decode cX5_builds 15 = .ok (.ireturn, 1) := by decide +kernel
theorem dX5_builds_16 : decode cX5_builds 16 = .ok (.aload_n 0, 1) := by decide +kernel
theorem dX5_builds_17 : decode cX5_builds 17 = .ok (.iload_n 1, 1) := by decide +kernel
theorem dX5_builds_18 : decode cX5_builds 18 = .ok (.putfield 47, 3) := by decide +kernel
theorem dX5_builds_21 : decode cX5_builds 21 = .ok (.iload_n 1, 1) := by decide +kernel
theorem dX5_builds_22 : decode cX5_builds 22 = .ok (.ireturn, 1) := by decide +kernel
theorem dX5_test_0 : decode cX5_test 0 = .ok (.iload_n 1, 1) := by decide +kernel
theorem dX5_test_1 : decode cX5_test 1 = .ok (.invokestatic 50, 3) := by decide +kernel
theorem dX5_test_4 : decode cX5_test 4 = .ok (.ifCond .ne 5, 3) := by decide +kernel
theorem dX5_test_7 : decode cX5_test 7 = .ok (.iconst (-1), 1) := by decide +kernel
theorem dX5_test_8 : decode cX5_test 8 = .ok (.ireturn, 1) := by decide +kernel
theorem dX5_test_9 : decode cX5_test 9 = .ok (.aload_n 0, 1) := by decide +kernel
theorem dX5_test_10 : decode cX5_test 10 = .ok (.getfield 54, 3) := by decide +kernel
theorem dX5_test_13 : decode cX5_test 13 = .ok (.bipush 8, 2) := by decide +kernel
theorem dX5_test_15 : decode cX5_test 15 = .ok (.if_icmp .lt 6, 3) := by decide +kernel
theorem dX5_test_18 : decode cX5_test 18 = .ok (.bipush (-2), 2) := by decide +kernel
theorem dX5_test_20 : decode cX5_test 20 = .ok (.ireturn, 1) := by decide +kernel
theorem dX5_test_21 : decode cX5_test 21 = .ok (.aload_n 0, 1) := by decide +kernel
theorem dX5_test_22 : decode cX5_test 22 = .ok (.getfield 11, 3) := by decide +kernel
theorem dX5_test_25 : decode cX5_test 25 = .ok (.aload_n 0, 1) := by decide +kernel
theorem dX5_test_26 : decode cX5_test 26 = .ok (.getfield 54, 3) := by decide +kernel
theorem dX5_test_29 : decode cX5_test 29 = .ok (.new 9, 3) := by decide +kernel
theorem dX5_test_32 : decode cX5_test 32 = .ok (.dup, 1) := by decide +kernel
theorem dX5_test_33 : decode cX5_test 33 = .ok (.iload_n 1, 1) := by decide +kernel
theorem dX5_test_34 : decode cX5_test 34 = .ok (.invokespecial 57, 3) := by decide +kernel
theorem dX5_test_37 : decode cX5_test 37 = .ok (.aastore, 1) := by decide +kernel
theorem dX5_test_38 : decode cX5_test 38 = .ok (.aload_n 0, 1) := by decide +kernel
theorem dX5_test_39 : decode cX5_test 39 = .ok (.dup, 1) := by decide +kernel
theorem dX5_test_40 : decode cX5_test 40 = .ok (.getfield 54, 3) := by decide +kernel
theorem dX5_test_43 : decode cX5_test 43 = .ok (.iconst 1, 1) := by decide +kernel
theorem dX5_test_44 : decode cX5_test 44 = .ok (.iadd, 1) := by decide +kernel
theorem dX5_test_45 : decode cX5_test 45 = .ok (.putfield 54, 3) := by decide +kernel
theorem dX5_test_48 : decode cX5_test 48 = .ok (.aload_n 0, 1) := by decide +kernel
theorem dX5_test_49 : decode cX5_test 49 = .ok (.getfield 54, 3) := by decide +kernel
theorem dX5_test_52 : decode cX5_test 52 = .ok (.iconst 1, 1) := by decide +kernel
theorem dX5_test_53 : decode cX5_test 53 = .ok (.isub, 1) := by decide +kernel
theorem dX5_test_54 : decode cX5_test 54 = .ok (.ireturn, 1) := by decide +kernel
theorem dX5_is_0 : decode cX5_is 0 = .ok (.aload_n 0, 1) := by decide +kernel
theorem dX5_is_1 : decode cX5_is 1 = .ok (.iload_n 1, 1) := by decide +kernel
theorem dX5_is_2 : decode cX5_is 2 = .ok (.invokevirtual 60, 3) := by decide +kernel
theorem dX5_is_5 : decode cX5_is 5 = .ok (.astore_n 3, 1) := by decide +kernel
theorem dX5_is_6 : decode cX5_is 6 = .ok (.aload_n 3, 1) := by decide +kernel
theorem dX5_is_7 : decode cX5_is 7 = .ok (.ifnull 10, 3) := by decide +kernel
theorem dX5_is_10 : decode cX5_is 10 = .ok (.iload_n 2, 1) := by decide +kernel
theorem dX5_is_11 : decode cX5_is 11 = .ok (.invokestatic 50, 3) := by decide +kernel
theorem dX5_is_14 : decode cX5_is 14 = .ok (.ifCond .ne 5, 3) := by decide +kernel
theorem dX5_is_17 : decode cX5_is 17 = .ok (.iconst (-1), 1) := by decide +kernel
theorem dX5_is_18 : decode cX5_is 18 = .ok (.ireturn, 1) := by decide +kernel
theorem dX5_is_19 : decode cX5_is 19 = .ok (.iload_n 2, 1) := by decide +kernel
theorem dX5_is_20 : decode cX5_is 20 = .ok (.ifCond .eq 11, 3) := by decide +kernel
theorem dX5_is_23 : decode cX5_is 23 = .ok (.iload_n 2, 1) := by decide +kernel
theorem dX5_is_24 : decode cX5_is 24 = .ok (.aload_n 3, 1) := by decide +kernel
theorem dX5_is_25 : decode cX5_is 25 = .ok (.getfield 64, 3) := by decide +kernel
theorem dX5_is_28 : decode cX5_is 28 = .ok (.if_icmp .ne 7, 3) := by decide +kernel
theorem dX5_is_31 : decode cX5_is 31 = .ok (.iconst 1, 1) := by decide +kernel
theorem dX5_is_32 : decode cX5_is 32 = .ok (.goto 4, 3) := by decide +kernel
theorem dX5_is_35 : decode cX5_is 35 = .ok (.iconst 0, 1) := by decide +kernel
theorem dX5_is_36 : decode cX5_is 36 = .ok (.ireturn, 1) := by decide +kernel
theorem dX5_row_0 : decode cX5_row 0 = .ok (.aload_n 0, 1) := by decide +kernel
theorem dX5_row_1 : decode cX5_row 1 = .ok (.iload_n 1, 1) := by decide +kernel
theorem dX5_row_2 : decode cX5_row 2 = .ok (.iload_n 2, 1) := by decide +kernel
theorem dX5_row_3 : decode cX5_row 3 = .ok (.invokevirtual 67, 3) := by decide +kernel
theorem dX5_row_6 : decode cX5_row 6 = .ok (.astore_n 3, 1) := by decide +kernel
theorem dX5_row_7 : decode cX5_row 7 = .ok (.aload_n 3, 1) := by decide +kernel
theorem dX5_row_8 : decode cX5_row 8 = .ok (.ifnonnull 5, 3) := by decide +kernel
theorem dX5_row_11 : decode cX5_row 11 = .ok (.iconst (-1), 1) := by decide +kernel
theorem dX5_row_12 : decode cX5_row 12 = .ok (.ireturn, 1) := by decide +kernel
theorem dX5_row_13 : decode cX5_row 13 = .ok (.aload_n 3, 1) := by decide +kernel
theorem dX5_row_14 : decode cX5_row 14 = .ok (.getfield 71, 3) := by decide +kernel
theorem dX5_row_17 : decode cX5_row 17 = .ok (.ifCond .eq 7, 3) := by decide +kernel
theorem dX5_row_20 : decode cX5_row 20 = .ok (.iconst 1, 1) := by decide +kernel
theorem dX5_row_21 : decode cX5_row 21 = .ok (.goto 4, 3) := by decide +kernel
theorem dX5_row_24 : decode cX5_row 24 = .ok (.iconst 0, 1) := by decide +kernel
theorem dX5_row_25 : decode cX5_row 25 = .ok (.istore 4, 2) := by decide +kernel
theorem dX5_row_27 : decode cX5_row 27 = .ok (.aload_n 3, 1) := by decide +kernel
theorem dX5_row_28 : decode cX5_row 28 = .ok (.invokevirtual 77, 3) := by decide +kernel
theorem dX5_row_31 : decode cX5_row 31 = .ok (.aload_n 3, 1) := by decide +kernel
theorem dX5_row_32 : decode cX5_row 32 = .ok (.iconst 1, 1) := by decide +kernel
theorem dX5_row_33 : decode cX5_row 33 = .ok (.putfield 71, 3) := by decide +kernel
theorem dX5_row_36 : decode cX5_row 36 = .ok (.iload 4, 2) := by decide +kernel
theorem dX5_row_38 : decode cX5_row 38 = .ok (.ireturn, 1) := by decide +kernel
theorem dX5_lay_0 : decode cX5_lay 0 = .ok (.aload_n 0, 1) := by decide +kernel
theorem dX5_lay_1 : decode cX5_lay 1 = .ok (.iload_n 1, 1) := by decide +kernel
theorem dX5_lay_2 : decode cX5_lay 2 = .ok (.iload_n 2, 1) := by decide +kernel
theorem dX5_lay_3 : decode cX5_lay 3 = .ok (.invokevirtual 67, 3) := by decide +kernel
theorem dX5_lay_6 : decode cX5_lay 6 = .ok (.astore 5, 2) := by decide +kernel
theorem dX5_lay_8 : decode cX5_lay 8 = .ok (.aload 5, 2) := by decide +kernel
theorem dX5_lay_10 : decode cX5_lay 10 = .ok (.ifnull 20, 3) := by decide +kernel
theorem dX5_lay_13 : decode cX5_lay 13 = .ok (.iload 4, 2) := by decide +kernel
theorem dX5_lay_15 : decode cX5_lay 15 = .ok (.bipush (-9), 2) := by decide +kernel
theorem dX5_lay_17 : decode cX5_lay 17 = .ok (.if_icmp .eq 15, 3) := by decide +kernel
theorem dX5_lay_20 : decode cX5_lay 20 = .ok (.iload 4, 2) := by decide +kernel
theorem dX5_lay_22 : decode cX5_lay 22 = .ok (.ldc 80, 2) := by decide +kernel
theorem dX5_lay_24 : decode cX5_lay 24 = .ok (.invokestatic 81, 3) := by decide +kernel
theorem dX5_lay_27 : decode cX5_lay 27 = .ok (.ifCond .ne 5, 3) := by decide +kernel
theorem dX5_lay_30 : decode cX5_lay 30 = .ok (.iconst (-1), 1) := by decide +kernel
theorem dX5_lay_31 : decode cX5_lay 31 = .ok (.ireturn, 1) := by decide +kernel
theorem dX5_lay_32 : decode cX5_lay 32 = .ok (.aload 5, 2) := by decide +kernel
theorem dX5_lay_34 : decode cX5_lay 34 = .ok (.getfield 71, 3) := by decide +kernel
theorem dX5_lay_37 : decode cX5_lay 37 = .ok (.ifCond .ne 9, 3) := by decide +kernel
theorem dX5_lay_40 : decode cX5_lay 40 = .ok (.aload_n 0, 1) := by decide +kernel
theorem dX5_lay_41 : decode cX5_lay 41 = .ok (.iconst 1, 1) := by decide +kernel
theorem dX5_lay_42 : decode cX5_lay 42 = .ok (.invokevirtual 85, 3) := by decide +kernel
theorem dX5_lay_45 : decode cX5_lay 45 = .ok (.ireturn, 1) := by decide +kernel
theorem dX5_lay_46 : decode cX5_lay 46 = .ok (.iload_n 3, 1) := by decide +kernel
theorem dX5_lay_47 : decode cX5_lay 47 = .ok (.invokestatic 89, 3) := by decide +kernel
theorem dX5_lay_50 : decode cX5_lay 50 = .ok (.ifCond .ne 9, 3) := by decide +kernel
theorem dX5_lay_53 : decode cX5_lay 53 = .ok (.aload_n 0, 1) := by decide +kernel
theorem dX5_lay_54 : decode cX5_lay 54 = .ok (.iconst 2, 1) := by decide +kernel
theorem dX5_lay_55 : decode cX5_lay 55 = .ok (.invokevirtual 85, 3) := by decide +kernel
theorem dX5_lay_58 : decode cX5_lay 58 = .ok (.ireturn, 1) := by decide +kernel
theorem dX5_lay_59 : decode cX5_lay 59 = .ok (.aload 5, 2) := by decide +kernel
theorem dX5_lay_61 : decode cX5_lay 61 = .ok (.getfield 92, 3) := by decide +kernel
theorem dX5_lay_64 : decode cX5_lay 64 = .ok (.iload_n 3, 1) := by decide +kernel
theorem dX5_lay_65 : decode cX5_lay 65 = .ok (.iaload, 1) := by decide +kernel
theorem dX5_lay_66 : decode cX5_lay 66 = .ok (.istore 6, 2) := by decide +kernel
theorem dX5_lay_68 : decode cX5_lay 68 = .ok (.aload 5, 2) := by decide +kernel
theorem dX5_lay_70 : decode cX5_lay 70 = .ok (.getfield 92, 3) := by decide +kernel
theorem dX5_lay_73 : decode cX5_lay 73 = .ok (.iload_n 3, 1) := by decide +kernel
theorem dX5_lay_74 : decode cX5_lay 74 = .ok (.iload 4, 2) := by decide +kernel
theorem dX5_lay_76 : decode cX5_lay 76 = .ok (.iastore, 1) := by decide +kernel
theorem dX5_lay_77 : decode cX5_lay 77 = .ok (.aload 5, 2) := by decide +kernel
theorem dX5_lay_79 : decode cX5_lay 79 = .ok (.iconst 1, 1) := by decide +kernel
theorem dX5_lay_80 : decode cX5_lay 80 = .ok (.putfield 95, 3) := by decide +kernel
theorem dX5_lay_83 : decode cX5_lay 83 = .ok (.iload 6, 2) := by decide +kernel
theorem dX5_lay_85 : decode cX5_lay 85 = .ok (.ireturn, 1) := by decide +kernel
theorem dX5_at_0 : decode cX5_at 0 = .ok (.aload_n 0, 1) := by decide +kernel
theorem dX5_at_1 : decode cX5_at 1 = .ok (.iload_n 1, 1) := by decide +kernel
theorem dX5_at_2 : decode cX5_at 2 = .ok (.iload_n 2, 1) := by decide +kernel
theorem dX5_at_3 : decode cX5_at 3 = .ok (.invokevirtual 67, 3) := by decide +kernel
theorem dX5_at_6 : decode cX5_at 6 = .ok (.astore 4, 2) := by decide +kernel
theorem dX5_at_8 : decode cX5_at 8 = .ok (.aload 4, 2) := by decide +kernel
theorem dX5_at_10 : decode cX5_at 10 = .ok (.ifnull 11, 3) := by decide +kernel
theorem dX5_at_13 : decode cX5_at 13 = .ok (.aload 4, 2) := by decide +kernel
theorem dX5_at_15 : decode cX5_at 15 = .ok (.getfield 71, 3) := by decide +kernel
theorem dX5_at_18 : decode cX5_at 18 = .ok (.ifCond .ne 10, 3) := by decide +kernel
theorem dX5_at_21 : decode cX5_at 21 = .ok (.aload_n 0, 1) := by decide +kernel
theorem dX5_at_22 : decode cX5_at 22 = .ok (.aload 4, 2) := by decide +kernel
theorem dX5_at_24 : decode cX5_at 24 = .ok (.invokevirtual 98, 3) := by decide +kernel
theorem dX5_at_27 : decode cX5_at 27 = .ok (.ireturn, 1) := by decide +kernel
theorem dX5_at_28 : decode cX5_at 28 = .ok (.iload_n 3, 1) := by decide +kernel
theorem dX5_at_29 : decode cX5_at 29 = .ok (.invokestatic 89, 3) := by decide +kernel
theorem dX5_at_32 : decode cX5_at 32 = .ok (.ifCond .ne 9, 3) := by decide +kernel
theorem dX5_at_35 : decode cX5_at 35 = .ok (.aload_n 0, 1) := by decide +kernel
theorem dX5_at_36 : decode cX5_at 36 = .ok (.iconst 2, 1) := by decide +kernel
theorem dX5_at_37 : decode cX5_at 37 = .ok (.invokevirtual 85, 3) := by decide +kernel
theorem dX5_at_40 : decode cX5_at 40 = .ok (.ireturn, 1) := by decide +kernel
theorem dX5_at_41 : decode cX5_at 41 = .ok (.aload 4, 2) := by decide +kernel
theorem dX5_at_43 : decode cX5_at 43 = .ok (.getfield 92, 3) := by decide +kernel
theorem dX5_at_46 : decode cX5_at 46 = .ok (.iload_n 3, 1) := by decide +kernel
theorem dX5_at_47 : decode cX5_at 47 = .ok (.iaload, 1) := by decide +kernel
theorem dX5_at_48 : decode cX5_at 48 = .ok (.ireturn, 1) := by decide +kernel
theorem dX5_tear_0 : decode cX5_tear 0 = .ok (.aload_n 0, 1) := by decide +kernel
theorem dX5_tear_1 : decode cX5_tear 1 = .ok (.iload_n 1, 1) := by decide +kernel
theorem dX5_tear_2 : decode cX5_tear 2 = .ok (.iload_n 2, 1) := by decide +kernel
theorem dX5_tear_3 : decode cX5_tear 3 = .ok (.invokevirtual 67, 3) := by decide +kernel
theorem dX5_tear_6 : decode cX5_tear 6 = .ok (.astore_n 3, 1) := by decide +kernel
theorem dX5_tear_7 : decode cX5_tear 7 = .ok (.aload_n 3, 1) := by decide +kernel
theorem dX5_tear_8 : decode cX5_tear 8 = .ok (.ifnull 10, 3) := by decide +kernel
theorem dX5_tear_11 : decode cX5_tear 11 = .ok (.aload_n 3, 1) := by decide +kernel
theorem dX5_tear_12 : decode cX5_tear 12 = .ok (.getfield 71, 3) := by decide +kernel
theorem dX5_tear_15 : decode cX5_tear 15 = .ok (.ifCond .ne 9, 3) := by decide +kernel
theorem dX5_tear_18 : decode cX5_tear 18 = .ok (.aload_n 0, 1) := by decide +kernel
theorem dX5_tear_19 : decode cX5_tear 19 = .ok (.aload_n 3, 1) := by decide +kernel
theorem dX5_tear_20 : decode cX5_tear 20 = .ok (.invokevirtual 98, 3) := by decide +kernel
theorem dX5_tear_23 : decode cX5_tear 23 = .ok (.ireturn, 1) := by decide +kernel
theorem dX5_tear_24 : decode cX5_tear 24 = .ok (.aload_n 3, 1) := by decide +kernel
theorem dX5_tear_25 : decode cX5_tear 25 = .ok (.invokevirtual 77, 3) := by decide +kernel
theorem dX5_tear_28 : decode cX5_tear 28 = .ok (.aload_n 3, 1) := by decide +kernel
theorem dX5_tear_29 : decode cX5_tear 29 = .ok (.iconst 0, 1) := by decide +kernel
theorem dX5_tear_30 : decode cX5_tear 30 = .ok (.putfield 71, 3) := by decide +kernel
theorem dX5_tear_33 : decode cX5_tear 33 = .ok (.iconst 1, 1) := by decide +kernel
theorem dX5_tear_34 : decode cX5_tear 34 = .ok (.ireturn, 1) := by decide +kernel
theorem dX5_copy_0 : decode cX5_copy 0 = .ok (.aload_n 0, 1) := by decide +kernel
theorem dX5_copy_1 : decode cX5_copy 1 = .ok (.iload_n 1, 1) := by decide +kernel
theorem dX5_copy_2 : decode cX5_copy 2 = .ok (.iload_n 2, 1) := by decide +kernel
theorem dX5_copy_3 : decode cX5_copy 3 = .ok (.invokevirtual 67, 3) := by decide +kernel
theorem dX5_copy_6 : decode cX5_copy 6 = .ok (.astore 7, 2) := by decide +kernel
theorem dX5_copy_8 : decode cX5_copy 8 = .ok (.aload_n 0, 1) := by decide +kernel
theorem dX5_copy_9 : decode cX5_copy 9 = .ok (.iload_n 1, 1) := by decide +kernel
theorem dX5_copy_10 : decode cX5_copy 10 = .ok (.iload 4, 2) := by decide +kernel
theorem dX5_copy_12 : decode cX5_copy 12 = .ok (.invokevirtual 67, 3) := by decide +kernel
theorem dX5_copy_15 : decode cX5_copy 15 = .ok (.astore 8, 2) := by decide +kernel
theorem dX5_copy_17 : decode cX5_copy 17 = .ok (.aload 7, 2) := by decide +kernel
theorem dX5_copy_19 : decode cX5_copy 19 = .ok (.ifnull 8, 3) := by decide +kernel
theorem dX5_copy_22 : decode cX5_copy 22 = .ok (.aload 8, 2) := by decide +kernel
theorem dX5_copy_24 : decode cX5_copy 24 = .ok (.ifnonnull 5, 3) := by decide +kernel
theorem dX5_copy_27 : decode cX5_copy 27 = .ok (.iconst (-1), 1) := by decide +kernel
theorem dX5_copy_28 : decode cX5_copy 28 = .ok (.ireturn, 1) := by decide +kernel
theorem dX5_copy_29 : decode cX5_copy 29 = .ok (.iload 6, 2) := by decide +kernel
theorem dX5_copy_31 : decode cX5_copy 31 = .ok (.ifCond .ge 9, 3) := by decide +kernel
theorem dX5_copy_34 : decode cX5_copy 34 = .ok (.aload_n 0, 1) := by decide +kernel
theorem dX5_copy_35 : decode cX5_copy 35 = .ok (.iconst 5, 1) := by decide +kernel
theorem dX5_copy_36 : decode cX5_copy 36 = .ok (.invokevirtual 85, 3) := by decide +kernel
theorem dX5_copy_39 : decode cX5_copy 39 = .ok (.ireturn, 1) := by decide +kernel
theorem dX5_copy_40 : decode cX5_copy 40 = .ok (.aload 7, 2) := by decide +kernel
theorem dX5_copy_42 : decode cX5_copy 42 = .ok (.getfield 71, 3) := by decide +kernel
theorem dX5_copy_45 : decode cX5_copy 45 = .ok (.ifCond .eq 11, 3) := by decide +kernel
theorem dX5_copy_48 : decode cX5_copy 48 = .ok (.aload 8, 2) := by decide +kernel
theorem dX5_copy_50 : decode cX5_copy 50 = .ok (.getfield 71, 3) := by decide +kernel
theorem dX5_copy_53 : decode cX5_copy 53 = .ok (.ifCond .ne 9, 3) := by decide +kernel
theorem dX5_copy_56 : decode cX5_copy 56 = .ok (.aload_n 0, 1) := by decide +kernel
theorem dX5_copy_57 : decode cX5_copy 57 = .ok (.iconst 1, 1) := by decide +kernel
theorem dX5_copy_58 : decode cX5_copy 58 = .ok (.invokevirtual 85, 3) := by decide +kernel
theorem dX5_copy_61 : decode cX5_copy 61 = .ok (.ireturn, 1) := by decide +kernel
theorem dX5_copy_62 : decode cX5_copy 62 = .ok (.iload_n 3, 1) := by decide +kernel
theorem dX5_copy_63 : decode cX5_copy 63 = .ok (.iload 6, 2) := by decide +kernel
theorem dX5_copy_65 : decode cX5_copy 65 = .ok (.invokestatic 102, 3) := by decide +kernel
theorem dX5_copy_68 : decode cX5_copy 68 = .ok (.ifCond .eq 13, 3) := by decide +kernel
theorem dX5_copy_71 : decode cX5_copy 71 = .ok (.iload 5, 2) := by decide +kernel
theorem dX5_copy_73 : decode cX5_copy 73 = .ok (.iload 6, 2) := by decide +kernel
theorem dX5_copy_75 : decode cX5_copy 75 = .ok (.invokestatic 102, 3) := by decide +kernel
theorem dX5_copy_78 : decode cX5_copy 78 = .ok (.ifCond .ne 9, 3) := by decide +kernel
theorem dX5_copy_81 : decode cX5_copy 81 = .ok (.aload_n 0, 1) := by decide +kernel
theorem dX5_copy_82 : decode cX5_copy 82 = .ok (.iconst 2, 1) := by decide +kernel
theorem dX5_copy_83 : decode cX5_copy 83 = .ok (.invokevirtual 85, 3) := by decide +kernel
theorem dX5_copy_86 : decode cX5_copy 86 = .ok (.ireturn, 1) := by decide +kernel
theorem dX5_copy_87 : decode cX5_copy 87 = .ok (.aload 7, 2) := by decide +kernel
theorem dX5_copy_89 : decode cX5_copy 89 = .ok (.getfield 92, 3) := by decide +kernel
theorem dX5_copy_92 : decode cX5_copy 92 = .ok (.iload_n 3, 1) := by decide +kernel
theorem dX5_copy_93 : decode cX5_copy 93 = .ok (.aload 8, 2) := by decide +kernel
theorem dX5_copy_95 : decode cX5_copy 95 = .ok (.getfield 92, 3) := by decide +kernel
theorem dX5_copy_98 : decode cX5_copy 98 = .ok (.iload 5, 2) := by decide +kernel
theorem dX5_copy_100 : decode cX5_copy 100 = .ok (.iload 6, 2) := by decide +kernel
theorem dX5_copy_102 : decode cX5_copy 102 = .ok (.invokestatic 105, 3) := by decide +kernel
theorem dX5_copy_105 : decode cX5_copy 105 = .ok (.aload 8, 2) := by decide +kernel
theorem dX5_copy_107 : decode cX5_copy 107 = .ok (.iconst 1, 1) := by decide +kernel
theorem dX5_copy_108 : decode cX5_copy 108 = .ok (.putfield 95, 3) := by decide +kernel
theorem dX5_copy_111 : decode cX5_copy 111 = .ok (.iconst 1, 1) := by decide +kernel
theorem dX5_copy_112 : decode cX5_copy 112 = .ok (.ireturn, 1) := by decide +kernel
theorem dX5_rank_0 : decode cX5_rank 0 = .ok (.aload_n 0, 1) := by decide +kernel
theorem dX5_rank_1 : decode cX5_rank 1 = .ok (.iload_n 1, 1) := by decide +kernel
theorem dX5_rank_2 : decode cX5_rank 2 = .ok (.iload_n 2, 1) := by decide +kernel
theorem dX5_rank_3 : decode cX5_rank 3 = .ok (.invokevirtual 67, 3) := by decide +kernel
theorem dX5_rank_6 : decode cX5_rank 6 = .ok (.astore 4, 2) := by decide +kernel
theorem dX5_rank_8 : decode cX5_rank 8 = .ok (.aload 4, 2) := by decide +kernel
theorem dX5_rank_10 : decode cX5_rank 10 = .ok (.ifnull 11, 3) := by decide +kernel
theorem dX5_rank_13 : decode cX5_rank 13 = .ok (.aload 4, 2) := by decide +kernel
theorem dX5_rank_15 : decode cX5_rank 15 = .ok (.getfield 71, 3) := by decide +kernel
theorem dX5_rank_18 : decode cX5_rank 18 = .ok (.ifCond .ne 10, 3) := by decide +kernel
theorem dX5_rank_21 : decode cX5_rank 21 = .ok (.aload_n 0, 1) := by decide +kernel
theorem dX5_rank_22 : decode cX5_rank 22 = .ok (.aload 4, 2) := by decide +kernel
theorem dX5_rank_24 : decode cX5_rank 24 = .ok (.invokevirtual 98, 3) := by decide +kernel
theorem dX5_rank_27 : decode cX5_rank 27 = .ok (.ireturn, 1) := by decide +kernel
theorem dX5_rank_28 : decode cX5_rank 28 = .ok (.iload_n 3, 1) := by decide +kernel
theorem dX5_rank_29 : decode cX5_rank 29 = .ok (.invokestatic 89, 3) := by decide +kernel
theorem dX5_rank_32 : decode cX5_rank 32 = .ok (.ifCond .eq 11, 3) := by decide +kernel
theorem dX5_rank_35 : decode cX5_rank 35 = .ok (.iload_n 3, 1) := by decide +kernel
theorem dX5_rank_36 : decode cX5_rank 36 = .ok (.aload_n 0, 1) := by decide +kernel
theorem dX5_rank_37 : decode cX5_rank 37 = .ok (.getfield 47, 3) := by decide +kernel
theorem dX5_rank_40 : decode cX5_rank 40 = .ok (.if_icmp .lt 9, 3) := by decide +kernel
theorem dX5_rank_43 : decode cX5_rank 43 = .ok (.aload_n 0, 1) := by decide +kernel
theorem dX5_rank_44 : decode cX5_rank 44 = .ok (.iconst 2, 1) := by decide +kernel
theorem dX5_rank_45 : decode cX5_rank 45 = .ok (.invokevirtual 85, 3) := by decide +kernel
theorem dX5_rank_48 : decode cX5_rank 48 = .ok (.ireturn, 1) := by decide +kernel
theorem dX5_rank_49 : decode cX5_rank 49 = .ok (.aload 4, 2) := by decide +kernel
theorem dX5_rank_51 : decode cX5_rank 51 = .ok (.getfield 92, 3) := by decide +kernel
theorem dX5_rank_54 : decode cX5_rank 54 = .ok (.iload_n 3, 1) := by decide +kernel
theorem dX5_rank_55 : decode cX5_rank 55 = .ok (.iaload, 1) := by decide +kernel
theorem dX5_rank_56 : decode cX5_rank 56 = .ok (.bipush (-9), 2) := by decide +kernel
theorem dX5_rank_58 : decode cX5_rank 58 = .ok (.if_icmp .ne 9, 3) := by decide +kernel
theorem dX5_rank_61 : decode cX5_rank 61 = .ok (.aload_n 0, 1) := by decide +kernel
theorem dX5_rank_62 : decode cX5_rank 62 = .ok (.iconst 4, 1) := by decide +kernel
theorem dX5_rank_63 : decode cX5_rank 63 = .ok (.invokevirtual 85, 3) := by decide +kernel
theorem dX5_rank_66 : decode cX5_rank 66 = .ok (.ireturn, 1) := by decide +kernel
theorem dX5_rank_67 : decode cX5_rank 67 = .ok (.aload 4, 2) := by decide +kernel
theorem dX5_rank_69 : decode cX5_rank 69 = .ok (.aload 4, 2) := by decide +kernel
theorem dX5_rank_71 : decode cX5_rank 71 = .ok (.getfield 92, 3) := by decide +kernel
theorem dX5_rank_74 : decode cX5_rank 74 = .ok (.iload_n 3, 1) := by decide +kernel
theorem dX5_rank_75 : decode cX5_rank 75 = .ok (.iaload, 1) := by decide +kernel
theorem dX5_rank_76 : decode cX5_rank 76 = .ok (.aload_n 0, 1) := by decide +kernel
theorem dX5_rank_77 : decode cX5_rank 77 = .ok (.getfield 47, 3) := by decide +kernel
theorem dX5_rank_80 : decode cX5_rank 80 = .ok (.invokevirtual 111, 3) := by decide +kernel
theorem dX5_rank_83 : decode cX5_rank 83 = .ok (.ireturn, 1) := by decide +kernel
theorem dX5_mean_0 : decode cX5_mean 0 = .ok (.aload_n 0, 1) := by decide +kernel
theorem dX5_mean_1 : decode cX5_mean 1 = .ok (.iload_n 1, 1) := by decide +kernel
theorem dX5_mean_2 : decode cX5_mean 2 = .ok (.iload_n 2, 1) := by decide +kernel
theorem dX5_mean_3 : decode cX5_mean 3 = .ok (.invokevirtual 67, 3) := by decide +kernel
theorem dX5_mean_6 : decode cX5_mean 6 = .ok (.astore_n 3, 1) := by decide +kernel
theorem dX5_mean_7 : decode cX5_mean 7 = .ok (.aload_n 3, 1) := by decide +kernel
theorem dX5_mean_8 : decode cX5_mean 8 = .ok (.ifnull 10, 3) := by decide +kernel
theorem dX5_mean_11 : decode cX5_mean 11 = .ok (.aload_n 3, 1) := by decide +kernel
theorem dX5_mean_12 : decode cX5_mean 12 = .ok (.getfield 71, 3) := by decide +kernel
theorem dX5_mean_15 : decode cX5_mean 15 = .ok (.ifCond .ne 9, 3) := by decide +kernel
theorem dX5_mean_18 : decode cX5_mean 18 = .ok (.aload_n 0, 1) := by decide +kernel
theorem dX5_mean_19 : decode cX5_mean 19 = .ok (.aload_n 3, 1) := by decide +kernel
theorem dX5_mean_20 : decode cX5_mean 20 = .ok (.invokevirtual 98, 3) := by decide +kernel
theorem dX5_mean_23 : decode cX5_mean 23 = .ok (.ireturn, 1) := by decide +kernel
theorem dX5_mean_24 : decode cX5_mean 24 = .ok (.iconst 0, 1) := by decide +kernel
theorem dX5_mean_25 : decode cX5_mean 25 = .ok (.istore 4, 2) := by decide +kernel
theorem dX5_mean_27 : decode cX5_mean 27 = .ok (.iconst 0, 1) := by decide +kernel
theorem dX5_mean_28 : decode cX5_mean 28 = .ok (.istore 5, 2) := by decide +kernel
theorem dX5_mean_30 : decode cX5_mean 30 = .ok (.iconst 0, 1) := by decide +kernel
theorem dX5_mean_31 : decode cX5_mean 31 = .ok (.istore 6, 2) := by decide +kernel
theorem dX5_mean_33 : decode cX5_mean 33 = .ok (.iload 6, 2) := by decide +kernel
theorem dX5_mean_35 : decode cX5_mean 35 = .ok (.aload_n 0, 1) := by decide +kernel
theorem dX5_mean_36 : decode cX5_mean 36 = .ok (.getfield 47, 3) := by decide +kernel
theorem dX5_mean_39 : decode cX5_mean 39 = .ok (.if_icmp .ge 36, 3) := by decide +kernel
theorem dX5_mean_42 : decode cX5_mean 42 = .ok (.aload_n 3, 1) := by decide +kernel
theorem dX5_mean_43 : decode cX5_mean 43 = .ok (.getfield 92, 3) := by decide +kernel
theorem dX5_mean_46 : decode cX5_mean 46 = .ok (.iload 6, 2) := by decide +kernel
theorem dX5_mean_48 : decode cX5_mean 48 = .ok (.iaload, 1) := by decide +kernel
theorem dX5_mean_49 : decode cX5_mean 49 = .ok (.bipush (-9), 2) := by decide +kernel
theorem dX5_mean_51 : decode cX5_mean 51 = .ok (.if_icmp .eq 18, 3) := by decide +kernel
theorem dX5_mean_54 : decode cX5_mean 54 = .ok (.iload 4, 2) := by decide +kernel
theorem dX5_mean_56 : decode cX5_mean 56 = .ok (.aload_n 3, 1) := by decide +kernel
theorem dX5_mean_57 : decode cX5_mean 57 = .ok (.getfield 92, 3) := by decide +kernel
theorem dX5_mean_60 : decode cX5_mean 60 = .ok (.iload 6, 2) := by decide +kernel
theorem dX5_mean_62 : decode cX5_mean 62 = .ok (.iaload, 1) := by decide +kernel
theorem dX5_mean_63 : decode cX5_mean 63 = .ok (.iadd, 1) := by decide +kernel
theorem dX5_mean_64 : decode cX5_mean 64 = .ok (.istore 4, 2) := by decide +kernel
theorem dX5_mean_66 : decode cX5_mean 66 = .ok (.iinc 5 1, 3) := by decide +kernel
theorem dX5_mean_69 : decode cX5_mean 69 = .ok (.iinc 6 1, 3) := by decide +kernel
theorem dX5_mean_72 : decode cX5_mean 72 = .ok (.goto (-39), 3) := by decide +kernel
theorem dX5_mean_75 : decode cX5_mean 75 = .ok (.iload 5, 2) := by decide +kernel
theorem dX5_mean_77 : decode cX5_mean 77 = .ok (.ifCond .ne 11, 3) := by decide +kernel
theorem dX5_mean_80 : decode cX5_mean 80 = .ok (.aload_n 0, 1) := by decide +kernel
theorem dX5_mean_81 : decode cX5_mean 81 = .ok (.iconst 4, 1) := by decide +kernel
theorem dX5_mean_82 : decode cX5_mean 82 = .ok (.invokevirtual 85, 3) := by decide +kernel
theorem dX5_mean_85 : decode cX5_mean 85 = .ok (.goto 8, 3) := by decide +kernel
theorem dX5_mean_88 : decode cX5_mean 88 = .ok (.iload 4, 2) := by decide +kernel
theorem dX5_mean_90 : decode cX5_mean 90 = .ok (.iload 5, 2) := by decide +kernel
theorem dX5_mean_92 : decode cX5_mean 92 = .ok (.idiv, 1) := by decide +kernel
theorem dX5_mean_93 : decode cX5_mean 93 = .ok (.ireturn, 1) := by decide +kernel
theorem dX5_price_0 : decode cX5_price 0 = .ok (.iload_n 1, 1) := by decide +kernel
theorem dX5_price_1 : decode cX5_price 1 = .ok (.sipush 1000, 3) := by decide +kernel
theorem dX5_price_4 : decode cX5_price 4 = .ok (.invokestatic 81, 3) := by decide +kernel
theorem dX5_price_7 : decode cX5_price 7 = .ok (.ifCond .ne 5, 3) := by decide +kernel
theorem dX5_price_10 : decode cX5_price 10 = .ok (.iconst (-1), 1) := by decide +kernel
theorem dX5_price_11 : decode cX5_price 11 = .ok (.ireturn, 1) := by decide +kernel
theorem dX5_price_12 : decode cX5_price 12 = .ok (.aload_n 0, 1) := by decide +kernel
theorem dX5_price_13 : decode cX5_price 13 = .ok (.getfield 36, 3) := by decide +kernel
theorem dX5_price_16 : decode cX5_price 16 = .ok (.istore_n 2, 1) := by decide +kernel
theorem dX5_price_17 : decode cX5_price 17 = .ok (.aload_n 0, 1) := by decide +kernel
theorem dX5_price_18 : decode cX5_price 18 = .ok (.iload_n 1, 1) := by decide +kernel
theorem dX5_price_19 : decode cX5_price 19 = .ok (.putfield 36, 3) := by decide +kernel
theorem dX5_price_22 : decode cX5_price 22 = .ok (.iload_n 2, 1) := by decide +kernel
theorem dX5_price_23 : decode cX5_price 23 = .ok (.ireturn, 1) := by decide +kernel
theorem dX5_cuts_0 : decode cX5_cuts 0 = .ok (.aload_n 0, 1) := by decide +kernel
theorem dX5_cuts_1 : decode cX5_cuts 1 = .ok (.iload_n 1, 1) := by decide +kernel
theorem dX5_cuts_2 : decode cX5_cuts 2 = .ok (.iload_n 2, 1) := by decide +kernel
theorem dX5_cuts_3 : decode cX5_cuts 3 = .ok (.invokevirtual 67, 3) := by decide +kernel
theorem dX5_cuts_6 : decode cX5_cuts 6 = .ok (.astore_n 3, 1) := by decide +kernel
theorem dX5_cuts_7 : decode cX5_cuts 7 = .ok (.aload_n 3, 1) := by decide +kernel
theorem dX5_cuts_8 : decode cX5_cuts 8 = .ok (.ifnull 10, 3) := by decide +kernel
theorem dX5_cuts_11 : decode cX5_cuts 11 = .ok (.aload_n 3, 1) := by decide +kernel
theorem dX5_cuts_12 : decode cX5_cuts 12 = .ok (.getfield 71, 3) := by decide +kernel
theorem dX5_cuts_15 : decode cX5_cuts 15 = .ok (.ifCond .ne 9, 3) := by decide +kernel
theorem dX5_cuts_18 : decode cX5_cuts 18 = .ok (.aload_n 0, 1) := by decide +kernel
theorem dX5_cuts_19 : decode cX5_cuts 19 = .ok (.aload_n 3, 1) := by decide +kernel
theorem dX5_cuts_20 : decode cX5_cuts 20 = .ok (.invokevirtual 98, 3) := by decide +kernel
theorem dX5_cuts_23 : decode cX5_cuts 23 = .ok (.ireturn, 1) := by decide +kernel
theorem dX5_cuts_24 : decode cX5_cuts 24 = .ok (.aload_n 0, 1) := by decide +kernel
theorem dX5_cuts_25 : decode cX5_cuts 25 = .ok (.aload_n 3, 1) := by decide +kernel
theorem dX5_cuts_26 : decode cX5_cuts 26 = .ok (.invokevirtual 115, 3) := by decide +kernel
theorem dX5_cuts_29 : decode cX5_cuts 29 = .ok (.aload_n 0, 1) := by decide +kernel
theorem dX5_cuts_30 : decode cX5_cuts 30 = .ok (.aload_n 3, 1) := by decide +kernel
theorem dX5_cuts_31 : decode cX5_cuts 31 = .ok (.getfield 119, 3) := by decide +kernel
theorem dX5_cuts_34 : decode cX5_cuts 34 = .ok (.i2l, 1) := by decide +kernel
theorem dX5_cuts_35 : decode cX5_cuts 35 = .ok (.putfield 122, 3) := by decide +kernel
theorem dX5_cuts_38 : decode cX5_cuts 38 = .ok (.aload_n 3, 1) := by decide +kernel
theorem dX5_cuts_39 : decode cX5_cuts 39 = .ok (.invokevirtual 125, 3) := by decide +kernel
theorem dX5_cuts_42 : decode cX5_cuts 42 = .ok (.ireturn, 1) := by decide +kernel
theorem dX5_cut_0 : decode cX5_cut 0 = .ok (.aload_n 0, 1) := by decide +kernel
theorem dX5_cut_1 : decode cX5_cut 1 = .ok (.iload_n 1, 1) := by decide +kernel
theorem dX5_cut_2 : decode cX5_cut 2 = .ok (.iload_n 2, 1) := by decide +kernel
theorem dX5_cut_3 : decode cX5_cut 3 = .ok (.invokevirtual 67, 3) := by decide +kernel
theorem dX5_cut_6 : decode cX5_cut 6 = .ok (.astore 4, 2) := by decide +kernel
theorem dX5_cut_8 : decode cX5_cut 8 = .ok (.aload 4, 2) := by decide +kernel
theorem dX5_cut_10 : decode cX5_cut 10 = .ok (.ifnull 11, 3) := by decide +kernel
theorem dX5_cut_13 : decode cX5_cut 13 = .ok (.aload 4, 2) := by decide +kernel
theorem dX5_cut_15 : decode cX5_cut 15 = .ok (.getfield 71, 3) := by decide +kernel
theorem dX5_cut_18 : decode cX5_cut 18 = .ok (.ifCond .ne 10, 3) := by decide +kernel
theorem dX5_cut_21 : decode cX5_cut 21 = .ok (.aload_n 0, 1) := by decide +kernel
theorem dX5_cut_22 : decode cX5_cut 22 = .ok (.aload 4, 2) := by decide +kernel
theorem dX5_cut_24 : decode cX5_cut 24 = .ok (.invokevirtual 98, 3) := by decide +kernel
theorem dX5_cut_27 : decode cX5_cut 27 = .ok (.ireturn, 1) := by decide +kernel
theorem dX5_cut_28 : decode cX5_cut 28 = .ok (.aload_n 0, 1) := by decide +kernel
theorem dX5_cut_29 : decode cX5_cut 29 = .ok (.aload 4, 2) := by decide +kernel
theorem dX5_cut_31 : decode cX5_cut 31 = .ok (.invokevirtual 115, 3) := by decide +kernel
theorem dX5_cut_34 : decode cX5_cut 34 = .ok (.aload 4, 2) := by decide +kernel
theorem dX5_cut_36 : decode cX5_cut 36 = .ok (.iload_n 3, 1) := by decide +kernel
theorem dX5_cut_37 : decode cX5_cut 37 = .ok (.invokevirtual 129, 3) := by decide +kernel
theorem dX5_cut_40 : decode cX5_cut 40 = .ok (.ifCond .eq 12, 3) := by decide +kernel
theorem dX5_cut_43 : decode cX5_cut 43 = .ok (.aload 4, 2) := by decide +kernel
theorem dX5_cut_45 : decode cX5_cut 45 = .ok (.iload_n 3, 1) := by decide +kernel
theorem dX5_cut_46 : decode cX5_cut 46 = .ok (.invokevirtual 132, 3) := by decide +kernel
theorem dX5_cut_49 : decode cX5_cut 49 = .ok (.goto 5, 3) := by decide +kernel
theorem dX5_cut_52 : decode cX5_cut 52 = .ok (.bipush (-9), 2) := by decide +kernel
theorem dX5_cut_54 : decode cX5_cut 54 = .ok (.ireturn, 1) := by decide +kernel
theorem dX5_middle_0 : decode cX5_middle 0 = .ok (.aload_n 0, 1) := by decide +kernel
theorem dX5_middle_1 : decode cX5_middle 1 = .ok (.iload_n 1, 1) := by decide +kernel
theorem dX5_middle_2 : decode cX5_middle 2 = .ok (.iload_n 2, 1) := by decide +kernel
theorem dX5_middle_3 : decode cX5_middle 3 = .ok (.invokevirtual 67, 3) := by decide +kernel
theorem dX5_middle_6 : decode cX5_middle 6 = .ok (.astore 4, 2) := by decide +kernel
theorem dX5_middle_8 : decode cX5_middle 8 = .ok (.aload 4, 2) := by decide +kernel
theorem dX5_middle_10 : decode cX5_middle 10 = .ok (.ifnull 11, 3) := by decide +kernel
theorem dX5_middle_13 : decode cX5_middle 13 = .ok (.aload 4, 2) := by decide +kernel
theorem dX5_middle_15 : decode cX5_middle 15 = .ok (.getfield 71, 3) := by decide +kernel
theorem dX5_middle_18 : decode cX5_middle 18 = .ok (.ifCond .ne 10, 3) := by decide +kernel
theorem dX5_middle_21 : decode cX5_middle 21 = .ok (.aload_n 0, 1) := by decide +kernel
theorem dX5_middle_22 : decode cX5_middle 22 = .ok (.aload 4, 2) := by decide +kernel
theorem dX5_middle_24 : decode cX5_middle 24 = .ok (.invokevirtual 98, 3) := by decide +kernel
theorem dX5_middle_27 : decode cX5_middle 27 = .ok (.ireturn, 1) := by decide +kernel
theorem dX5_middle_28 : decode cX5_middle 28 = .ok (.aload_n 0, 1) := by decide +kernel
theorem dX5_middle_29 : decode cX5_middle 29 = .ok (.aload 4, 2) := by decide +kernel
theorem dX5_middle_31 : decode cX5_middle 31 = .ok (.invokevirtual 115, 3) := by decide +kernel
theorem dX5_middle_34 : decode cX5_middle 34 = .ok (.iload_n 3, 1) := by decide +kernel
theorem dX5_middle_35 : decode cX5_middle 35 = .ok (.ifCond .lt 22, 3) := by decide +kernel
theorem dX5_middle_38 : decode cX5_middle 38 = .ok (.iload_n 3, 1) := by decide +kernel
theorem dX5_middle_39 : decode cX5_middle 39 = .ok (.aload 4, 2) := by decide +kernel
theorem dX5_middle_41 : decode cX5_middle 41 = .ok (.getfield 135, 3) := by decide +kernel
theorem dX5_middle_44 : decode cX5_middle 44 = .ok (.if_icmp .ge 13, 3) := by decide +kernel
theorem dX5_middle_47 : decode cX5_middle 47 = .ok (.aload 4, 2) := by decide +kernel
theorem dX5_middle_49 : decode cX5_middle 49 = .ok (.getfield 138, 3) := by decide +kernel
theorem dX5_middle_52 : decode cX5_middle 52 = .ok (.iload_n 3, 1) := by decide +kernel
theorem dX5_middle_53 : decode cX5_middle 53 = .ok (.iaload, 1) := by decide +kernel
theorem dX5_middle_54 : decode cX5_middle 54 = .ok (.goto 5, 3) := by decide +kernel
theorem dX5_middle_57 : decode cX5_middle 57 = .ok (.bipush (-9), 2) := by decide +kernel
theorem dX5_middle_59 : decode cX5_middle 59 = .ok (.ireturn, 1) := by decide +kernel
theorem dX5_size_0 : decode cX5_size 0 = .ok (.aload_n 0, 1) := by decide +kernel
theorem dX5_size_1 : decode cX5_size 1 = .ok (.iload_n 1, 1) := by decide +kernel
theorem dX5_size_2 : decode cX5_size 2 = .ok (.iload_n 2, 1) := by decide +kernel
theorem dX5_size_3 : decode cX5_size 3 = .ok (.invokevirtual 67, 3) := by decide +kernel
theorem dX5_size_6 : decode cX5_size 6 = .ok (.astore 4, 2) := by decide +kernel
theorem dX5_size_8 : decode cX5_size 8 = .ok (.aload 4, 2) := by decide +kernel
theorem dX5_size_10 : decode cX5_size 10 = .ok (.ifnull 11, 3) := by decide +kernel
theorem dX5_size_13 : decode cX5_size 13 = .ok (.aload 4, 2) := by decide +kernel
theorem dX5_size_15 : decode cX5_size 15 = .ok (.getfield 71, 3) := by decide +kernel
theorem dX5_size_18 : decode cX5_size 18 = .ok (.ifCond .ne 10, 3) := by decide +kernel
theorem dX5_size_21 : decode cX5_size 21 = .ok (.aload_n 0, 1) := by decide +kernel
theorem dX5_size_22 : decode cX5_size 22 = .ok (.aload 4, 2) := by decide +kernel
theorem dX5_size_24 : decode cX5_size 24 = .ok (.invokevirtual 98, 3) := by decide +kernel
theorem dX5_size_27 : decode cX5_size 27 = .ok (.ireturn, 1) := by decide +kernel
theorem dX5_size_28 : decode cX5_size 28 = .ok (.aload_n 0, 1) := by decide +kernel
theorem dX5_size_29 : decode cX5_size 29 = .ok (.aload 4, 2) := by decide +kernel
theorem dX5_size_31 : decode cX5_size 31 = .ok (.invokevirtual 115, 3) := by decide +kernel
theorem dX5_size_34 : decode cX5_size 34 = .ok (.aload 4, 2) := by decide +kernel
theorem dX5_size_36 : decode cX5_size 36 = .ok (.iload_n 3, 1) := by decide +kernel
theorem dX5_size_37 : decode cX5_size 37 = .ok (.invokevirtual 129, 3) := by decide +kernel
theorem dX5_size_40 : decode cX5_size 40 = .ok (.ifCond .ne 6, 3) := by decide +kernel
theorem dX5_size_43 : decode cX5_size 43 = .ok (.bipush (-9), 2) := by decide +kernel
theorem dX5_size_45 : decode cX5_size 45 = .ok (.ireturn, 1) := by decide +kernel
theorem dX5_size_46 : decode cX5_size 46 = .ok (.aload_n 0, 1) := by decide +kernel
theorem dX5_size_47 : decode cX5_size 47 = .ok (.aload 4, 2) := by decide +kernel
theorem dX5_size_49 : decode cX5_size 49 = .ok (.iload_n 3, 1) := by decide +kernel
theorem dX5_size_50 : decode cX5_size 50 = .ok (.invokevirtual 141, 3) := by decide +kernel
theorem dX5_size_53 : decode cX5_size 53 = .ok (.i2l, 1) := by decide +kernel
theorem dX5_size_54 : decode cX5_size 54 = .ok (.putfield 122, 3) := by decide +kernel
theorem dX5_size_57 : decode cX5_size 57 = .ok (.iconst 1, 1) := by decide +kernel
theorem dX5_size_58 : decode cX5_size 58 = .ok (.ireturn, 1) := by decide +kernel
theorem dX5_reach_0 : decode cX5_reach 0 = .ok (.iload_n 1, 1) := by decide +kernel
theorem dX5_reach_1 : decode cX5_reach 1 = .ok (.iconst 5, 1) := by decide +kernel
theorem dX5_reach_2 : decode cX5_reach 2 = .ok (.invokestatic 81, 3) := by decide +kernel
theorem dX5_reach_5 : decode cX5_reach 5 = .ok (.ifCond .ne 5, 3) := by decide +kernel
theorem dX5_reach_8 : decode cX5_reach 8 = .ok (.iconst (-1), 1) := by decide +kernel
theorem dX5_reach_9 : decode cX5_reach 9 = .ok (.ireturn, 1) := by decide +kernel
theorem dX5_reach_10 : decode cX5_reach 10 = .ok (.aload_n 0, 1) := by decide +kernel
theorem dX5_reach_11 : decode cX5_reach 11 = .ok (.getfield 40, 3) := by decide +kernel
theorem dX5_reach_14 : decode cX5_reach 14 = .ok (.istore_n 2, 1) := by decide +kernel
theorem dX5_reach_15 : decode cX5_reach 15 = .ok (.aload_n 0, 1) := by decide +kernel
theorem dX5_reach_16 : decode cX5_reach 16 = .ok (.iload_n 1, 1) := by decide +kernel
theorem dX5_reach_17 : decode cX5_reach 17 = .ok (.putfield 40, 3) := by decide +kernel
theorem dX5_reach_20 : decode cX5_reach 20 = .ok (.iload_n 2, 1) := by decide +kernel
theorem dX5_reach_21 : decode cX5_reach 21 = .ok (.ireturn, 1) := by decide +kernel
theorem dX5_own_0 : decode cX5_own 0 = .ok (.aload_n 0, 1) := by decide +kernel
theorem dX5_own_1 : decode cX5_own 1 = .ok (.iload_n 1, 1) := by decide +kernel
theorem dX5_own_2 : decode cX5_own 2 = .ok (.invokevirtual 60, 3) := by decide +kernel
theorem dX5_own_5 : decode cX5_own 5 = .ok (.astore 4, 2) := by decide +kernel
theorem dX5_own_7 : decode cX5_own 7 = .ok (.aload_n 0, 1) := by decide +kernel
theorem dX5_own_8 : decode cX5_own 8 = .ok (.iload_n 1, 1) := by decide +kernel
theorem dX5_own_9 : decode cX5_own 9 = .ok (.iload_n 2, 1) := by decide +kernel
theorem dX5_own_10 : decode cX5_own 10 = .ok (.invokevirtual 67, 3) := by decide +kernel
theorem dX5_own_13 : decode cX5_own 13 = .ok (.astore 5, 2) := by decide +kernel
theorem dX5_own_15 : decode cX5_own 15 = .ok (.aload 4, 2) := by decide +kernel
theorem dX5_own_17 : decode cX5_own 17 = .ok (.ifnull 16, 3) := by decide +kernel
theorem dX5_own_20 : decode cX5_own 20 = .ok (.aload 5, 2) := by decide +kernel
theorem dX5_own_22 : decode cX5_own 22 = .ok (.ifnull 11, 3) := by decide +kernel
theorem dX5_own_25 : decode cX5_own 25 = .ok (.aload 5, 2) := by decide +kernel
theorem dX5_own_27 : decode cX5_own 27 = .ok (.getfield 71, 3) := by decide +kernel
theorem dX5_own_30 : decode cX5_own 30 = .ok (.ifCond .ne 10, 3) := by decide +kernel
theorem dX5_own_33 : decode cX5_own 33 = .ok (.aload_n 0, 1) := by decide +kernel
theorem dX5_own_34 : decode cX5_own 34 = .ok (.aload 5, 2) := by decide +kernel
theorem dX5_own_36 : decode cX5_own 36 = .ok (.invokevirtual 98, 3) := by decide +kernel
theorem dX5_own_39 : decode cX5_own 39 = .ok (.ireturn, 1) := by decide +kernel
theorem dX5_own_40 : decode cX5_own 40 = .ok (.aload_n 0, 1) := by decide +kernel
theorem dX5_own_41 : decode cX5_own 41 = .ok (.aload 4, 2) := by decide +kernel
theorem dX5_own_43 : decode cX5_own 43 = .ok (.invokevirtual 144, 3) := by decide +kernel
theorem dX5_own_46 : decode cX5_own 46 = .ok (.aload 5, 2) := by decide +kernel
theorem dX5_own_48 : decode cX5_own 48 = .ok (.iload_n 3, 1) := by decide +kernel
theorem dX5_own_49 : decode cX5_own 49 = .ok (.invokevirtual 129, 3) := by decide +kernel
theorem dX5_own_52 : decode cX5_own 52 = .ok (.ifCond .ne 6, 3) := by decide +kernel
theorem dX5_own_55 : decode cX5_own 55 = .ok (.bipush (-9), 2) := by decide +kernel
theorem dX5_own_57 : decode cX5_own 57 = .ok (.ireturn, 1) := by decide +kernel
theorem dX5_own_58 : decode cX5_own 58 = .ok (.aload_n 0, 1) := by decide +kernel
theorem dX5_own_59 : decode cX5_own 59 = .ok (.aload 4, 2) := by decide +kernel
theorem dX5_own_61 : decode cX5_own 61 = .ok (.iload_n 2, 1) := by decide +kernel
theorem dX5_own_62 : decode cX5_own 62 = .ok (.iload_n 3, 1) := by decide +kernel
theorem dX5_own_63 : decode cX5_own 63 = .ok (.invokevirtual 148, 3) := by decide +kernel
theorem dX5_own_66 : decode cX5_own 66 = .ok (.ifCond .eq 7, 3) := by decide +kernel
theorem dX5_own_69 : decode cX5_own 69 = .ok (.iconst 1, 1) := by decide +kernel
theorem dX5_own_70 : decode cX5_own 70 = .ok (.goto 4, 3) := by decide +kernel
theorem dX5_own_73 : decode cX5_own 73 = .ok (.iconst 0, 1) := by decide +kernel
theorem dX5_own_74 : decode cX5_own 74 = .ok (.ireturn, 1) := by decide +kernel
theorem dX5_undone_0 : decode cX5_undone 0 = .ok (.aload_n 0, 1) := by decide +kernel
theorem dX5_undone_1 : decode cX5_undone 1 = .ok (.iload_n 1, 1) := by decide +kernel
theorem dX5_undone_2 : decode cX5_undone 2 = .ok (.invokevirtual 60, 3) := by decide +kernel
theorem dX5_undone_5 : decode cX5_undone 5 = .ok (.astore 4, 2) := by decide +kernel
theorem dX5_undone_7 : decode cX5_undone 7 = .ok (.aload_n 0, 1) := by decide +kernel
theorem dX5_undone_8 : decode cX5_undone 8 = .ok (.iload_n 1, 1) := by decide +kernel
theorem dX5_undone_9 : decode cX5_undone 9 = .ok (.iload_n 2, 1) := by decide +kernel
theorem dX5_undone_10 : decode cX5_undone 10 = .ok (.invokevirtual 67, 3) := by decide +kernel
theorem dX5_undone_13 : decode cX5_undone 13 = .ok (.astore 5, 2) := by decide +kernel
theorem dX5_undone_15 : decode cX5_undone 15 = .ok (.aload 4, 2) := by decide +kernel
theorem dX5_undone_17 : decode cX5_undone 17 = .ok (.ifnull 16, 3) := by decide +kernel
theorem dX5_undone_20 : decode cX5_undone 20 = .ok (.aload 5, 2) := by decide +kernel
theorem dX5_undone_22 : decode cX5_undone 22 = .ok (.ifnull 11, 3) := by decide +kernel
theorem dX5_undone_25 : decode cX5_undone 25 = .ok (.aload 5, 2) := by decide +kernel
theorem dX5_undone_27 : decode cX5_undone 27 = .ok (.getfield 71, 3) := by decide +kernel
theorem dX5_undone_30 : decode cX5_undone 30 = .ok (.ifCond .ne 10, 3) := by decide +kernel
theorem dX5_undone_33 : decode cX5_undone 33 = .ok (.aload_n 0, 1) := by decide +kernel
theorem dX5_undone_34 : decode cX5_undone 34 = .ok (.aload 5, 2) := by decide +kernel
theorem dX5_undone_36 : decode cX5_undone 36 = .ok (.invokevirtual 98, 3) := by decide +kernel
theorem dX5_undone_39 : decode cX5_undone 39 = .ok (.ireturn, 1) := by decide +kernel
theorem dX5_undone_40 : decode cX5_undone 40 = .ok (.aload 4, 2) := by decide +kernel
theorem dX5_undone_42 : decode cX5_undone 42 = .ok (.getfield 64, 3) := by decide +kernel
theorem dX5_undone_45 : decode cX5_undone 45 = .ok (.iconst 1, 1) := by decide +kernel
theorem dX5_undone_46 : decode cX5_undone 46 = .ok (.if_icmp .eq 9, 3) := by decide +kernel
theorem dX5_undone_49 : decode cX5_undone 49 = .ok (.aload_n 0, 1) := by decide +kernel
theorem dX5_undone_50 : decode cX5_undone 50 = .ok (.iconst 3, 1) := by decide +kernel
theorem dX5_undone_51 : decode cX5_undone 51 = .ok (.invokevirtual 85, 3) := by decide +kernel
theorem dX5_undone_54 : decode cX5_undone 54 = .ok (.ireturn, 1) := by decide +kernel
theorem dX5_undone_55 : decode cX5_undone 55 = .ok (.aload_n 0, 1) := by decide +kernel
theorem dX5_undone_56 : decode cX5_undone 56 = .ok (.aload 5, 2) := by decide +kernel
theorem dX5_undone_58 : decode cX5_undone 58 = .ok (.invokevirtual 115, 3) := by decide +kernel
theorem dX5_undone_61 : decode cX5_undone 61 = .ok (.aload 5, 2) := by decide +kernel
theorem dX5_undone_63 : decode cX5_undone 63 = .ok (.iload_n 3, 1) := by decide +kernel
theorem dX5_undone_64 : decode cX5_undone 64 = .ok (.invokevirtual 129, 3) := by decide +kernel
theorem dX5_undone_67 : decode cX5_undone 67 = .ok (.ifCond .eq 12, 3) := by decide +kernel
theorem dX5_undone_70 : decode cX5_undone 70 = .ok (.aload 5, 2) := by decide +kernel
theorem dX5_undone_72 : decode cX5_undone 72 = .ok (.iload_n 3, 1) := by decide +kernel
theorem dX5_undone_73 : decode cX5_undone 73 = .ok (.invokevirtual 152, 3) := by decide +kernel
theorem dX5_undone_76 : decode cX5_undone 76 = .ok (.goto 5, 3) := by decide +kernel
theorem dX5_undone_79 : decode cX5_undone 79 = .ok (.bipush (-9), 2) := by decide +kernel
theorem dX5_undone_81 : decode cX5_undone 81 = .ok (.ireturn, 1) := by decide +kernel
theorem dX5_odds_0 : decode cX5_odds 0 = .ok (.aload_n 0, 1) := by decide +kernel
theorem dX5_odds_1 : decode cX5_odds 1 = .ok (.iload_n 1, 1) := by decide +kernel
theorem dX5_odds_2 : decode cX5_odds 2 = .ok (.iload_n 2, 1) := by decide +kernel
theorem dX5_odds_3 : decode cX5_odds 3 = .ok (.invokevirtual 67, 3) := by decide +kernel
theorem dX5_odds_6 : decode cX5_odds 6 = .ok (.astore 4, 2) := by decide +kernel
theorem dX5_odds_8 : decode cX5_odds 8 = .ok (.aload 4, 2) := by decide +kernel
theorem dX5_odds_10 : decode cX5_odds 10 = .ok (.ifnull 11, 3) := by decide +kernel
theorem dX5_odds_13 : decode cX5_odds 13 = .ok (.aload 4, 2) := by decide +kernel
theorem dX5_odds_15 : decode cX5_odds 15 = .ok (.getfield 71, 3) := by decide +kernel
theorem dX5_odds_18 : decode cX5_odds 18 = .ok (.ifCond .ne 10, 3) := by decide +kernel
theorem dX5_odds_21 : decode cX5_odds 21 = .ok (.aload_n 0, 1) := by decide +kernel
theorem dX5_odds_22 : decode cX5_odds 22 = .ok (.aload 4, 2) := by decide +kernel
theorem dX5_odds_24 : decode cX5_odds 24 = .ok (.invokevirtual 98, 3) := by decide +kernel
theorem dX5_odds_27 : decode cX5_odds 27 = .ok (.ireturn, 1) := by decide +kernel
theorem dX5_odds_28 : decode cX5_odds 28 = .ok (.aload_n 0, 1) := by decide +kernel
theorem dX5_odds_29 : decode cX5_odds 29 = .ok (.aload 4, 2) := by decide +kernel
theorem dX5_odds_31 : decode cX5_odds 31 = .ok (.invokevirtual 115, 3) := by decide +kernel
theorem dX5_odds_34 : decode cX5_odds 34 = .ok (.aload 4, 2) := by decide +kernel
theorem dX5_odds_36 : decode cX5_odds 36 = .ok (.iload_n 3, 1) := by decide +kernel
theorem dX5_odds_37 : decode cX5_odds 37 = .ok (.invokevirtual 129, 3) := by decide +kernel
theorem dX5_odds_40 : decode cX5_odds 40 = .ok (.ifCond .ne 6, 3) := by decide +kernel
theorem dX5_odds_43 : decode cX5_odds 43 = .ok (.bipush (-9), 2) := by decide +kernel
theorem dX5_odds_45 : decode cX5_odds 45 = .ok (.ireturn, 1) := by decide +kernel
theorem dX5_odds_46 : decode cX5_odds 46 = .ok (.aload_n 0, 1) := by decide +kernel
theorem dX5_odds_47 : decode cX5_odds 47 = .ok (.invokevirtual 155, 3) := by decide +kernel
theorem dX5_odds_50 : decode cX5_odds 50 = .ok (.astore 5, 2) := by decide +kernel
theorem dX5_odds_52 : decode cX5_odds 52 = .ok (.aload 5, 2) := by decide +kernel
theorem dX5_odds_54 : decode cX5_odds 54 = .ok (.aload 4, 2) := by decide +kernel
theorem dX5_odds_56 : decode cX5_odds 56 = .ok (.iload_n 3, 1) := by decide +kernel
theorem dX5_odds_57 : decode cX5_odds 57 = .ok (.invokevirtual 159, 3) := by decide +kernel
theorem dX5_odds_60 : decode cX5_odds 60 = .ok (.ifCond .ne 5, 3) := by decide +kernel
theorem dX5_odds_63 : decode cX5_odds 63 = .ok (.iconst 0, 1) := by decide +kernel
theorem dX5_odds_64 : decode cX5_odds 64 = .ok (.ireturn, 1) := by decide +kernel
theorem dX5_odds_65 : decode cX5_odds 65 = .ok (.aload_n 0, 1) := by decide +kernel
theorem dX5_odds_66 : decode cX5_odds 66 = .ok (.aload 5, 2) := by decide +kernel
theorem dX5_odds_68 : decode cX5_odds 68 = .ok (.getfield 165, 3) := by decide +kernel
theorem dX5_odds_71 : decode cX5_odds 71 = .ok (.i2l, 1) := by decide +kernel
theorem dX5_odds_72 : decode cX5_odds 72 = .ok (.putfield 168, 3) := by decide +kernel
theorem dX5_odds_75 : decode cX5_odds 75 = .ok (.aload_n 0, 1) := by decide +kernel
theorem dX5_odds_76 : decode cX5_odds 76 = .ok (.aload 5, 2) := by decide +kernel
theorem dX5_odds_78 : decode cX5_odds 78 = .ok (.getfield 171, 3) := by decide +kernel
theorem dX5_odds_81 : decode cX5_odds 81 = .ok (.i2l, 1) := by decide +kernel
theorem dX5_odds_82 : decode cX5_odds 82 = .ok (.putfield 43, 3) := by decide +kernel
theorem dX5_odds_85 : decode cX5_odds 85 = .ok (.iconst 1, 1) := by decide +kernel
theorem dX5_odds_86 : decode cX5_odds 86 = .ok (.ireturn, 1) := by decide +kernel
theorem dX5_cry_0 : decode cX5_cry 0 = .ok (.iload_n 1, 1) := by decide +kernel
theorem dX5_cry_1 : decode cX5_cry 1 = .ok (.ldc 80, 2) := by decide +kernel
theorem dX5_cry_3 : decode cX5_cry 3 = .ok (.invokestatic 81, 3) := by decide +kernel
theorem dX5_cry_6 : decode cX5_cry 6 = .ok (.ifCond .eq 23, 3) := by decide +kernel
theorem dX5_cry_9 : decode cX5_cry 9 = .ok (.iload_n 2, 1) := by decide +kernel
theorem dX5_cry_10 : decode cX5_cry 10 = .ok (.ldc 80, 2) := by decide +kernel
theorem dX5_cry_12 : decode cX5_cry 12 = .ok (.invokestatic 81, 3) := by decide +kernel
theorem dX5_cry_15 : decode cX5_cry 15 = .ok (.ifCond .eq 14, 3) := by decide +kernel
theorem dX5_cry_18 : decode cX5_cry 18 = .ok (.iload_n 3, 1) := by decide +kernel
theorem dX5_cry_19 : decode cX5_cry 19 = .ok (.iconst 1, 1) := by decide +kernel
theorem dX5_cry_20 : decode cX5_cry 20 = .ok (.if_icmp .lt 9, 3) := by decide +kernel
theorem dX5_cry_23 : decode cX5_cry 23 = .ok (.iload_n 3, 1) := by decide +kernel
theorem dX5_cry_24 : decode cX5_cry 24 = .ok (.ldc 80, 2) := by decide +kernel
theorem dX5_cry_26 : decode cX5_cry 26 = .ok (.if_icmp .le 5, 3) := by decide +kernel
theorem dX5_cry_29 : decode cX5_cry 29 = .ok (.iconst (-1), 1) := by decide +kernel
theorem dX5_cry_30 : decode cX5_cry 30 = .ok (.ireturn, 1) := by decide +kernel
theorem dX5_cry_31 : decode cX5_cry 31 = .ok (.aload_n 0, 1) := by decide +kernel
theorem dX5_cry_32 : decode cX5_cry 32 = .ok (.getfield 174, 3) := by decide +kernel
theorem dX5_cry_35 : decode cX5_cry 35 = .ok (.istore 4, 2) := by decide +kernel
theorem dX5_cry_37 : decode cX5_cry 37 = .ok (.iconst 0, 1) := by decide +kernel
theorem dX5_cry_38 : decode cX5_cry 38 = .ok (.istore 5, 2) := by decide +kernel
theorem dX5_cry_40 : decode cX5_cry 40 = .ok (.iconst 0, 1) := by decide +kernel
theorem dX5_cry_41 : decode cX5_cry 41 = .ok (.istore 6, 2) := by decide +kernel
theorem dX5_cry_43 : decode cX5_cry 43 = .ok (.iload 6, 2) := by decide +kernel
theorem dX5_cry_45 : decode cX5_cry 45 = .ok (.aload_n 0, 1) := by decide +kernel
theorem dX5_cry_46 : decode cX5_cry 46 = .ok (.getfield 54, 3) := by decide +kernel
theorem dX5_cry_49 : decode cX5_cry 49 = .ok (.if_icmp .ge 79, 3) := by decide +kernel
theorem dX5_cry_52 : decode cX5_cry 52 = .ok (.aload_n 0, 1) := by decide +kernel
theorem dX5_cry_53 : decode cX5_cry 53 = .ok (.getfield 11, 3) := by decide +kernel
theorem dX5_cry_56 : decode cX5_cry 56 = .ok (.iload 6, 2) := by decide +kernel
theorem dX5_cry_58 : decode cX5_cry 58 = .ok (.aaload, 1) := by decide +kernel
theorem dX5_cry_59 : decode cX5_cry 59 = .ok (.getfield 64, 3) := by decide +kernel
theorem dX5_cry_62 : decode cX5_cry 62 = .ok (.iconst 2, 1) := by decide +kernel
theorem dX5_cry_63 : decode cX5_cry 63 = .ok (.if_icmp .ne 6, 3) := by decide +kernel
theorem dX5_cry_66 : decode cX5_cry 66 = .ok (.goto 56, 3) := by decide +kernel
theorem dX5_cry_69 : decode cX5_cry 69 = .ok (.aload_n 0, 1) := by decide +kernel
theorem dX5_cry_70 : decode cX5_cry 70 = .ok (.aload_n 0, 1) := by decide +kernel
theorem dX5_cry_71 : decode cX5_cry 71 = .ok (.getfield 11, 3) := by decide +kernel
theorem dX5_cry_74 : decode cX5_cry 74 = .ok (.iload 6, 2) := by decide +kernel
theorem dX5_cry_76 : decode cX5_cry 76 = .ok (.aaload, 1) := by decide +kernel
theorem dX5_cry_77 : decode cX5_cry 77 = .ok (.invokevirtual 144, 3) := by decide +kernel
theorem dX5_cry_80 : decode cX5_cry 80 = .ok (.iconst 0, 1) := by decide +kernel
theorem dX5_cry_81 : decode cX5_cry 81 = .ok (.istore 7, 2) := by decide +kernel
theorem dX5_cry_83 : decode cX5_cry 83 = .ok (.iload 7, 2) := by decide +kernel
theorem dX5_cry_85 : decode cX5_cry 85 = .ok (.iconst 4, 1) := by decide +kernel
theorem dX5_cry_86 : decode cX5_cry 86 = .ok (.if_icmp .ge 36, 3) := by decide +kernel
theorem dX5_cry_89 : decode cX5_cry 89 = .ok (.aload_n 0, 1) := by decide +kernel
theorem dX5_cry_90 : decode cX5_cry 90 = .ok (.iload 6, 2) := by decide +kernel
theorem dX5_cry_92 : decode cX5_cry 92 = .ok (.iload 7, 2) := by decide +kernel
theorem dX5_cry_94 : decode cX5_cry 94 = .ok (.iload_n 1, 1) := by decide +kernel
theorem dX5_cry_95 : decode cX5_cry 95 = .ok (.iload_n 2, 1) := by decide +kernel
theorem dX5_cry_96 : decode cX5_cry 96 = .ok (.iload_n 3, 1) := by decide +kernel
theorem dX5_cry_97 : decode cX5_cry 97 = .ok (.invokevirtual 177, 3) := by decide +kernel
theorem dX5_cry_100 : decode cX5_cry 100 = .ok (.istore 8, 2) := by decide +kernel
theorem dX5_cry_102 : decode cX5_cry 102 = .ok (.iload 5, 2) := by decide +kernel
theorem dX5_cry_104 : decode cX5_cry 104 = .ok (.ifCond .ne 8, 3) := by decide +kernel
theorem dX5_cry_107 : decode cX5_cry 107 = .ok (.iload 8, 2) := by decide +kernel
theorem dX5_cry_109 : decode cX5_cry 109 = .ok (.goto 5, 3) := by decide +kernel
theorem dX5_cry_112 : decode cX5_cry 112 = .ok (.iload 5, 2) := by decide +kernel
theorem dX5_cry_114 : decode cX5_cry 114 = .ok (.istore 5, 2) := by decide +kernel
theorem dX5_cry_116 : decode cX5_cry 116 = .ok (.iinc 7 1, 3) := by decide +kernel
theorem dX5_cry_119 : decode cX5_cry 119 = .ok (.goto (-36), 3) := by decide +kernel
theorem dX5_cry_122 : decode cX5_cry 122 = .ok (.iinc 6 1, 3) := by decide +kernel
theorem dX5_cry_125 : decode cX5_cry 125 = .ok (.goto (-82), 3) := by decide +kernel
theorem dX5_cry_128 : decode cX5_cry 128 = .ok (.iload 5, 2) := by decide +kernel
theorem dX5_cry_130 : decode cX5_cry 130 = .ok (.ifCond .eq 10, 3) := by decide +kernel
theorem dX5_cry_133 : decode cX5_cry 133 = .ok (.aload_n 0, 1) := by decide +kernel
theorem dX5_cry_134 : decode cX5_cry 134 = .ok (.iload 5, 2) := by decide +kernel
theorem dX5_cry_136 : decode cX5_cry 136 = .ok (.i2l, 1) := by decide +kernel
theorem dX5_cry_137 : decode cX5_cry 137 = .ok (.putfield 122, 3) := by decide +kernel
theorem dX5_cry_140 : decode cX5_cry 140 = .ok (.aload_n 0, 1) := by decide +kernel
theorem dX5_cry_141 : decode cX5_cry 141 = .ok (.getfield 174, 3) := by decide +kernel
theorem dX5_cry_144 : decode cX5_cry 144 = .ok (.iload 4, 2) := by decide +kernel
theorem dX5_cry_146 : decode cX5_cry 146 = .ok (.isub, 1) := by decide +kernel
theorem dX5_cry_147 : decode cX5_cry 147 = .ok (.ireturn, 1) := by decide +kernel
theorem dX5_cried_0 : decode cX5_cried 0 = .ok (.iload_n 1, 1) := by decide +kernel
theorem dX5_cried_1 : decode cX5_cried 1 = .ok (.ifCond .lt 27, 3) := by decide +kernel
theorem dX5_cried_4 : decode cX5_cried 4 = .ok (.iload_n 1, 1) := by decide +kernel
theorem dX5_cried_5 : decode cX5_cried 5 = .ok (.aload_n 0, 1) := by decide +kernel
theorem dX5_cried_6 : decode cX5_cried 6 = .ok (.getfield 174, 3) := by decide +kernel
theorem dX5_cried_9 : decode cX5_cried 9 = .ok (.if_icmp .ge 19, 3) := by decide +kernel
theorem dX5_cried_12 : decode cX5_cried 12 = .ok (.iload_n 1, 1) := by decide +kernel
theorem dX5_cried_13 : decode cX5_cried 13 = .ok (.sipush 300, 3) := by decide +kernel
theorem dX5_cried_16 : decode cX5_cried 16 = .ok (.if_icmp .ge 12, 3) := by decide +kernel
theorem dX5_cried_19 : decode cX5_cried 19 = .ok (.aload_n 0, 1) := by decide +kernel
theorem dX5_cried_20 : decode cX5_cried 20 = .ok (.getfield 19, 3) := by decide +kernel
theorem dX5_cried_23 : decode cX5_cried 23 = .ok (.iload_n 1, 1) := by decide +kernel
theorem dX5_cried_24 : decode cX5_cried 24 = .ok (.iaload, 1) := by decide +kernel
theorem dX5_cried_25 : decode cX5_cried 25 = .ok (.goto 5, 3) := by decide +kernel
theorem dX5_cried_28 : decode cX5_cried 28 = .ok (.bipush (-9), 2) := by decide +kernel
theorem dX5_cried_30 : decode cX5_cried 30 = .ok (.ireturn, 1) := by decide +kernel
theorem dX5_halve_0 : decode cX5_halve 0 = .ok (.iload_n 1, 1) := by decide +kernel
theorem dX5_halve_1 : decode cX5_halve 1 = .ok (.ifCond .lt 16, 3) := by decide +kernel
theorem dX5_halve_4 : decode cX5_halve 4 = .ok (.iload_n 1, 1) := by decide +kernel
theorem dX5_halve_5 : decode cX5_halve 5 = .ok (.iload_n 2, 1) := by decide +kernel
theorem dX5_halve_6 : decode cX5_halve 6 = .ok (.if_icmp .ge 11, 3) := by decide +kernel
theorem dX5_halve_9 : decode cX5_halve 9 = .ok (.iload_n 2, 1) := by decide +kernel
theorem dX5_halve_10 : decode cX5_halve 10 = .ok (.aload_n 0, 1) := by decide +kernel
theorem dX5_halve_11 : decode cX5_halve 11 = .ok (.getfield 47, 3) := by decide +kernel
theorem dX5_halve_14 : decode cX5_halve 14 = .ok (.if_icmp .lt 5, 3) := by decide +kernel
theorem dX5_halve_17 : decode cX5_halve 17 = .ok (.iconst (-1), 1) := by decide +kernel
theorem dX5_halve_18 : decode cX5_halve 18 = .ok (.ireturn, 1) := by decide +kernel
theorem dX5_halve_19 : decode cX5_halve 19 = .ok (.iload_n 3, 1) := by decide +kernel
theorem dX5_halve_20 : decode cX5_halve 20 = .ok (.iconst 1, 1) := by decide +kernel
theorem dX5_halve_21 : decode cX5_halve 21 = .ok (.if_icmp .eq 15, 3) := by decide +kernel
theorem dX5_halve_24 : decode cX5_halve 24 = .ok (.iload_n 3, 1) := by decide +kernel
theorem dX5_halve_25 : decode cX5_halve 25 = .ok (.iconst 3, 1) := by decide +kernel
theorem dX5_halve_26 : decode cX5_halve 26 = .ok (.if_icmp .eq 10, 3) := by decide +kernel
theorem dX5_halve_29 : decode cX5_halve 29 = .ok (.iload_n 3, 1) := by decide +kernel
theorem dX5_halve_30 : decode cX5_halve 30 = .ok (.iconst 5, 1) := by decide +kernel
theorem dX5_halve_31 : decode cX5_halve 31 = .ok (.if_icmp .eq 5, 3) := by decide +kernel
theorem dX5_halve_34 : decode cX5_halve 34 = .ok (.iconst (-1), 1) := by decide +kernel
theorem dX5_halve_35 : decode cX5_halve 35 = .ok (.ireturn, 1) := by decide +kernel
theorem dX5_halve_36 : decode cX5_halve 36 = .ok (.aload_n 0, 1) := by decide +kernel
theorem dX5_halve_37 : decode cX5_halve 37 = .ok (.getfield 32, 3) := by decide +kernel
theorem dX5_halve_40 : decode cX5_halve 40 = .ok (.iload_n 1, 1) := by decide +kernel
theorem dX5_halve_41 : decode cX5_halve 41 = .ok (.iload_n 2, 1) := by decide +kernel
theorem dX5_halve_42 : decode cX5_halve 42 = .ok (.iload_n 3, 1) := by decide +kernel
theorem dX5_halve_43 : decode cX5_halve 43 = .ok (.invokevirtual 181, 3) := by decide +kernel
theorem dX5_halve_46 : decode cX5_halve 46 = .ok (.aload_n 0, 1) := by decide +kernel
theorem dX5_halve_47 : decode cX5_halve 47 = .ok (.getfield 32, 3) := by decide +kernel
theorem dX5_halve_50 : decode cX5_halve 50 = .ok (.invokevirtual 185, 3) := by decide +kernel
theorem dX5_halve_53 : decode cX5_halve 53 = .ok (.ireturn, 1) := by decide +kernel
theorem dX5_asks_0 : decode cX5_asks 0 = .ok (.aload_n 0, 1) := by decide +kernel
theorem dX5_asks_1 : decode cX5_asks 1 = .ok (.getfield 32, 3) := by decide +kernel
theorem dX5_asks_4 : decode cX5_asks 4 = .ok (.getfield 188, 3) := by decide +kernel
theorem dX5_asks_7 : decode cX5_asks 7 = .ok (.ifCond .ne 6, 3) := by decide +kernel
theorem dX5_asks_10 : decode cX5_asks 10 = .ok (.bipush (-4), 2) := by decide +kernel
theorem dX5_asks_12 : decode cX5_asks 12 = .ok (.ireturn, 1) := by decide +kernel
theorem dX5_asks_13 : decode cX5_asks 13 = .ok (.aload_n 0, 1) := by decide +kernel
theorem dX5_asks_14 : decode cX5_asks 14 = .ok (.getfield 32, 3) := by decide +kernel
theorem dX5_asks_17 : decode cX5_asks 17 = .ok (.invokevirtual 191, 3) := by decide +kernel
theorem dX5_asks_20 : decode cX5_asks 20 = .ok (.ifCond .eq 8, 3) := by decide +kernel
theorem dX5_asks_23 : decode cX5_asks 23 = .ok (.bipush (-9), 2) := by decide +kernel
theorem dX5_asks_25 : decode cX5_asks 25 = .ok (.goto 10, 3) := by decide +kernel
theorem dX5_asks_28 : decode cX5_asks 28 = .ok (.aload_n 0, 1) := by decide +kernel
theorem dX5_asks_29 : decode cX5_asks 29 = .ok (.getfield 32, 3) := by decide +kernel
theorem dX5_asks_32 : decode cX5_asks 32 = .ok (.invokevirtual 195, 3) := by decide +kernel
theorem dX5_asks_35 : decode cX5_asks 35 = .ok (.ireturn, 1) := by decide +kernel
theorem dX5_rerun_0 : decode cX5_rerun 0 = .ok (.aload_n 0, 1) := by decide +kernel
theorem dX5_rerun_1 : decode cX5_rerun 1 = .ok (.getfield 32, 3) := by decide +kernel
theorem dX5_rerun_4 : decode cX5_rerun 4 = .ok (.getfield 188, 3) := by decide +kernel
theorem dX5_rerun_7 : decode cX5_rerun 7 = .ok (.ifCond .eq 13, 3) := by decide +kernel
theorem dX5_rerun_10 : decode cX5_rerun 10 = .ok (.aload_n 0, 1) := by decide +kernel
theorem dX5_rerun_11 : decode cX5_rerun 11 = .ok (.getfield 32, 3) := by decide +kernel
theorem dX5_rerun_14 : decode cX5_rerun 14 = .ok (.invokevirtual 191, 3) := by decide +kernel
theorem dX5_rerun_17 : decode cX5_rerun 17 = .ok (.ifCond .eq 6, 3) := by decide +kernel
theorem dX5_rerun_20 : decode cX5_rerun 20 = .ok (.bipush (-4), 2) := by decide +kernel
theorem dX5_rerun_22 : decode cX5_rerun 22 = .ok (.ireturn, 1) := by decide +kernel
theorem dX5_rerun_23 : decode cX5_rerun 23 = .ok (.aload_n 0, 1) := by decide +kernel
theorem dX5_rerun_24 : decode cX5_rerun 24 = .ok (.getfield 32, 3) := by decide +kernel
theorem dX5_rerun_27 : decode cX5_rerun 27 = .ok (.iload_n 1, 1) := by decide +kernel
theorem dX5_rerun_28 : decode cX5_rerun 28 = .ok (.invokevirtual 198, 3) := by decide +kernel
theorem dX5_rerun_31 : decode cX5_rerun 31 = .ok (.ireturn, 1) := by decide +kernel
theorem dX5_found_0 : decode cX5_found 0 = .ok (.aload_n 0, 1) := by decide +kernel
theorem dX5_found_1 : decode cX5_found 1 = .ok (.getfield 32, 3) := by decide +kernel
theorem dX5_found_4 : decode cX5_found 4 = .ok (.getfield 188, 3) := by decide +kernel
theorem dX5_found_7 : decode cX5_found 7 = .ok (.ifCond .ne 6, 3) := by decide +kernel
theorem dX5_found_10 : decode cX5_found 10 = .ok (.bipush (-4), 2) := by decide +kernel
theorem dX5_found_12 : decode cX5_found 12 = .ok (.ireturn, 1) := by decide +kernel
theorem dX5_found_13 : decode cX5_found 13 = .ok (.aload_n 0, 1) := by decide +kernel
theorem dX5_found_14 : decode cX5_found 14 = .ok (.getfield 32, 3) := by decide +kernel
theorem dX5_found_17 : decode cX5_found 17 = .ok (.invokevirtual 191, 3) := by decide +kernel
theorem dX5_found_20 : decode cX5_found 20 = .ok (.ifCond .eq 13, 3) := by decide +kernel
theorem dX5_found_23 : decode cX5_found 23 = .ok (.aload_n 0, 1) := by decide +kernel
theorem dX5_found_24 : decode cX5_found 24 = .ok (.getfield 32, 3) := by decide +kernel
theorem dX5_found_27 : decode cX5_found 27 = .ok (.getfield 202, 3) := by decide +kernel
theorem dX5_found_30 : decode cX5_found 30 = .ok (.goto 5, 3) := by decide +kernel
theorem dX5_found_33 : decode cX5_found 33 = .ok (.bipush (-9), 2) := by decide +kernel
theorem dX5_found_35 : decode cX5_found 35 = .ok (.ireturn, 1) := by decide +kernel
theorem dX5_reruns_0 : decode cX5_reruns 0 = .ok (.aload_n 0, 1) := by decide +kernel
theorem dX5_reruns_1 : decode cX5_reruns 1 = .ok (.getfield 32, 3) := by decide +kernel
theorem dX5_reruns_4 : decode cX5_reruns 4 = .ok (.getfield 205, 3) := by decide +kernel
theorem dX5_reruns_7 : decode cX5_reruns 7 = .ok (.ireturn, 1) := by decide +kernel
theorem dX5_upper_0 : decode cX5_upper 0 = .ok (.aload_n 0, 1) := by decide +kernel
theorem dX5_upper_1 : decode cX5_upper 1 = .ok (.getfield 168, 3) := by decide +kernel
theorem dX5_upper_4 : decode cX5_upper 4 = .ok (.lreturn, 1) := by decide +kernel
theorem dX5_lower_0 : decode cX5_lower 0 = .ok (.aload_n 0, 1) := by decide +kernel
theorem dX5_lower_1 : decode cX5_lower 1 = .ok (.getfield 43, 3) := by decide +kernel
theorem dX5_lower_4 : decode cX5_lower 4 = .ok (.lreturn, 1) := by decide +kernel
theorem dX5_asked_0 : decode cX5_asked 0 = .ok (.aload_n 0, 1) := by decide +kernel
theorem dX5_asked_1 : decode cX5_asked 1 = .ok (.getfield 122, 3) := by decide +kernel
theorem dX5_asked_4 : decode cX5_asked 4 = .ok (.lreturn, 1) := by decide +kernel
theorem dX5_count_0 : decode cX5_count 0 = .ok (.iload_n 1, 1) := by decide +kernel
theorem dX5_count_1 : decode cX5_count 1 = .ok (.tableswitch 51 0 3 #[31, 36, 41, 46], 31) := by decide +kernel
theorem dX5_count_32 : decode cX5_count 32 = .ok (.aload_n 0, 1) := by decide +kernel
theorem dX5_count_33 : decode cX5_count 33 = .ok (.getfield 47, 3) := by decide +kernel
theorem dX5_count_36 : decode cX5_count 36 = .ok (.ireturn, 1) := by decide +kernel
theorem dX5_count_37 : decode cX5_count 37 = .ok (.aload_n 0, 1) := by decide +kernel
theorem dX5_count_38 : decode cX5_count 38 = .ok (.getfield 54, 3) := by decide +kernel
theorem dX5_count_41 : decode cX5_count 41 = .ok (.ireturn, 1) := by decide +kernel
theorem dX5_count_42 : decode cX5_count 42 = .ok (.aload_n 0, 1) := by decide +kernel
theorem dX5_count_43 : decode cX5_count 43 = .ok (.invokevirtual 208, 3) := by decide +kernel
theorem dX5_count_46 : decode cX5_count 46 = .ok (.ireturn, 1) := by decide +kernel
theorem dX5_count_47 : decode cX5_count 47 = .ok (.aload_n 0, 1) := by decide +kernel
theorem dX5_count_48 : decode cX5_count 48 = .ok (.getfield 174, 3) := by decide +kernel
theorem dX5_count_51 : decode cX5_count 51 = .ok (.ireturn, 1) := by decide +kernel
theorem dX5_count_52 : decode cX5_count 52 = .ok (.iconst (-1), 1) := by decide +kernel
theorem dX5_count_53 : decode cX5_count 53 = .ok (.ireturn, 1) := by decide +kernel
theorem dX5_finding_0 : decode cX5_finding 0 = .ok (.aload_n 0, 1) := by decide +kernel
theorem dX5_finding_1 : decode cX5_finding 1 = .ok (.getfield 211, 3) := by decide +kernel
theorem dX5_finding_4 : decode cX5_finding 4 = .ok (.ireturn, 1) := by decide +kernel
theorem dX5_findings_0 : decode cX5_findings 0 = .ok (.iload_n 1, 1) := by decide +kernel
theorem dX5_findings_1 : decode cX5_findings 1 = .ok (.iconst 1, 1) := by decide +kernel
theorem dX5_findings_2 : decode cX5_findings 2 = .ok (.if_icmp .lt 17, 3) := by decide +kernel
theorem dX5_findings_5 : decode cX5_findings 5 = .ok (.iload_n 1, 1) := by decide +kernel
theorem dX5_findings_6 : decode cX5_findings 6 = .ok (.iconst 5, 1) := by decide +kernel
theorem dX5_findings_7 : decode cX5_findings 7 = .ok (.if_icmp .gt 12, 3) := by decide +kernel
theorem dX5_findings_10 : decode cX5_findings 10 = .ok (.aload_n 0, 1) := by decide +kernel
theorem dX5_findings_11 : decode cX5_findings 11 = .ok (.getfield 15, 3) := by decide +kernel
theorem dX5_findings_14 : decode cX5_findings 14 = .ok (.iload_n 1, 1) := by decide +kernel
theorem dX5_findings_15 : decode cX5_findings 15 = .ok (.iaload, 1) := by decide +kernel
theorem dX5_findings_16 : decode cX5_findings 16 = .ok (.goto 4, 3) := by decide +kernel
theorem dX5_findings_19 : decode cX5_findings 19 = .ok (.iconst (-1), 1) := by decide +kernel
theorem dX5_findings_20 : decode cX5_findings 20 = .ok (.ireturn, 1) := by decide +kernel
theorem dX5_digest_0 : decode cX5_digest 0 = .ok (.ldc2_w 214, 3) := by decide +kernel
theorem dX5_digest_3 : decode cX5_digest 3 = .ok (.lstore_n 1, 1) := by decide +kernel
theorem dX5_digest_4 : decode cX5_digest 4 = .ok (.ldc2_w 216, 3) := by decide +kernel
theorem dX5_digest_7 : decode cX5_digest 7 = .ok (.lload_n 1, 1) := by decide +kernel
theorem dX5_digest_8 : decode cX5_digest 8 = .ok (.lmul, 1) := by decide +kernel
theorem dX5_digest_9 : decode cX5_digest 9 = .ok (.aload_n 0, 1) := by decide +kernel
theorem dX5_digest_10 : decode cX5_digest 10 = .ok (.getfield 47, 3) := by decide +kernel
theorem dX5_digest_13 : decode cX5_digest 13 = .ok (.i2l, 1) := by decide +kernel
theorem dX5_digest_14 : decode cX5_digest 14 = .ok (.ladd, 1) := by decide +kernel
theorem dX5_digest_15 : decode cX5_digest 15 = .ok (.lstore_n 1, 1) := by decide +kernel
theorem dX5_digest_16 : decode cX5_digest 16 = .ok (.ldc2_w 216, 3) := by decide +kernel
theorem dX5_digest_19 : decode cX5_digest 19 = .ok (.lload_n 1, 1) := by decide +kernel
theorem dX5_digest_20 : decode cX5_digest 20 = .ok (.lmul, 1) := by decide +kernel
theorem dX5_digest_21 : decode cX5_digest 21 = .ok (.aload_n 0, 1) := by decide +kernel
theorem dX5_digest_22 : decode cX5_digest 22 = .ok (.getfield 36, 3) := by decide +kernel
theorem dX5_digest_25 : decode cX5_digest 25 = .ok (.i2l, 1) := by decide +kernel
theorem dX5_digest_26 : decode cX5_digest 26 = .ok (.ladd, 1) := by decide +kernel
theorem dX5_digest_27 : decode cX5_digest 27 = .ok (.lstore_n 1, 1) := by decide +kernel
theorem dX5_digest_28 : decode cX5_digest 28 = .ok (.ldc2_w 216, 3) := by decide +kernel
theorem dX5_digest_31 : decode cX5_digest 31 = .ok (.lload_n 1, 1) := by decide +kernel
theorem dX5_digest_32 : decode cX5_digest 32 = .ok (.lmul, 1) := by decide +kernel
theorem dX5_digest_33 : decode cX5_digest 33 = .ok (.aload_n 0, 1) := by decide +kernel
theorem dX5_digest_34 : decode cX5_digest 34 = .ok (.getfield 40, 3) := by decide +kernel
theorem dX5_digest_37 : decode cX5_digest 37 = .ok (.i2l, 1) := by decide +kernel
theorem dX5_digest_38 : decode cX5_digest 38 = .ok (.ladd, 1) := by decide +kernel
theorem dX5_digest_39 : decode cX5_digest 39 = .ok (.lstore_n 1, 1) := by decide +kernel
theorem dX5_digest_40 : decode cX5_digest 40 = .ok (.iconst 0, 1) := by decide +kernel
theorem dX5_digest_41 : decode cX5_digest 41 = .ok (.istore_n 3, 1) := by decide +kernel
theorem dX5_digest_42 : decode cX5_digest 42 = .ok (.iload_n 3, 1) := by decide +kernel
theorem dX5_digest_43 : decode cX5_digest 43 = .ok (.aload_n 0, 1) := by decide +kernel
theorem dX5_digest_44 : decode cX5_digest 44 = .ok (.getfield 54, 3) := by decide +kernel
theorem dX5_digest_47 : decode cX5_digest 47 = .ok (.if_icmp .ge 58, 3) := by decide +kernel
theorem dX5_digest_50 : decode cX5_digest 50 = .ok (.ldc2_w 216, 3) := by decide +kernel
theorem dX5_digest_53 : decode cX5_digest 53 = .ok (.lload_n 1, 1) := by decide +kernel
theorem dX5_digest_54 : decode cX5_digest 54 = .ok (.lmul, 1) := by decide +kernel
theorem dX5_digest_55 : decode cX5_digest 55 = .ok (.aload_n 0, 1) := by decide +kernel
theorem dX5_digest_56 : decode cX5_digest 56 = .ok (.getfield 11, 3) := by decide +kernel
theorem dX5_digest_59 : decode cX5_digest 59 = .ok (.iload_n 3, 1) := by decide +kernel
theorem dX5_digest_60 : decode cX5_digest 60 = .ok (.aaload, 1) := by decide +kernel
theorem dX5_digest_61 : decode cX5_digest 61 = .ok (.getfield 64, 3) := by decide +kernel
theorem dX5_digest_64 : decode cX5_digest 64 = .ok (.i2l, 1) := by decide +kernel
theorem dX5_digest_65 : decode cX5_digest 65 = .ok (.ladd, 1) := by decide +kernel
theorem dX5_digest_66 : decode cX5_digest 66 = .ok (.lstore_n 1, 1) := by decide +kernel
theorem dX5_digest_67 : decode cX5_digest 67 = .ok (.iconst 0, 1) := by decide +kernel
theorem dX5_digest_68 : decode cX5_digest 68 = .ok (.istore 4, 2) := by decide +kernel
theorem dX5_digest_70 : decode cX5_digest 70 = .ok (.iload 4, 2) := by decide +kernel
theorem dX5_digest_72 : decode cX5_digest 72 = .ok (.iconst 4, 1) := by decide +kernel
theorem dX5_digest_73 : decode cX5_digest 73 = .ok (.if_icmp .ge 26, 3) := by decide +kernel
theorem dX5_digest_76 : decode cX5_digest 76 = .ok (.aload_n 0, 1) := by decide +kernel
theorem dX5_digest_77 : decode cX5_digest 77 = .ok (.getfield 11, 3) := by decide +kernel
theorem dX5_digest_80 : decode cX5_digest 80 = .ok (.iload_n 3, 1) := by decide +kernel
theorem dX5_digest_81 : decode cX5_digest 81 = .ok (.aaload, 1) := by decide +kernel
theorem dX5_digest_82 : decode cX5_digest 82 = .ok (.getfield 218, 3) := by decide +kernel
theorem dX5_digest_85 : decode cX5_digest 85 = .ok (.iload 4, 2) := by decide +kernel
theorem dX5_digest_87 : decode cX5_digest 87 = .ok (.aaload, 1) := by decide +kernel
theorem dX5_digest_88 : decode cX5_digest 88 = .ok (.lload_n 1, 1) := by decide +kernel
theorem dX5_digest_89 : decode cX5_digest 89 = .ok (.invokevirtual 222, 3) := by decide +kernel
theorem dX5_digest_92 : decode cX5_digest 92 = .ok (.lstore_n 1, 1) := by decide +kernel
theorem dX5_digest_93 : decode cX5_digest 93 = .ok (.iinc 4 1, 3) := by decide +kernel
theorem dX5_digest_96 : decode cX5_digest 96 = .ok (.goto (-26), 3) := by decide +kernel
theorem dX5_digest_99 : decode cX5_digest 99 = .ok (.iinc 3 1, 3) := by decide +kernel
theorem dX5_digest_102 : decode cX5_digest 102 = .ok (.goto (-60), 3) := by decide +kernel
theorem dX5_digest_105 : decode cX5_digest 105 = .ok (.ldc2_w 216, 3) := by decide +kernel
theorem dX5_digest_108 : decode cX5_digest 108 = .ok (.lload_n 1, 1) := by decide +kernel
theorem dX5_digest_109 : decode cX5_digest 109 = .ok (.lmul, 1) := by decide +kernel
theorem dX5_digest_110 : decode cX5_digest 110 = .ok (.aload_n 0, 1) := by decide +kernel
theorem dX5_digest_111 : decode cX5_digest 111 = .ok (.getfield 174, 3) := by decide +kernel
theorem dX5_digest_114 : decode cX5_digest 114 = .ok (.i2l, 1) := by decide +kernel
theorem dX5_digest_115 : decode cX5_digest 115 = .ok (.ladd, 1) := by decide +kernel
theorem dX5_digest_116 : decode cX5_digest 116 = .ok (.lstore_n 1, 1) := by decide +kernel
theorem dX5_digest_117 : decode cX5_digest 117 = .ok (.ldc2_w 216, 3) := by decide +kernel
theorem dX5_digest_120 : decode cX5_digest 120 = .ok (.lload_n 1, 1) := by decide +kernel
theorem dX5_digest_121 : decode cX5_digest 121 = .ok (.lmul, 1) := by decide +kernel
theorem dX5_digest_122 : decode cX5_digest 122 = .ok (.aload_n 0, 1) := by decide +kernel
theorem dX5_digest_123 : decode cX5_digest 123 = .ok (.invokevirtual 226, 3) := by decide +kernel
theorem dX5_digest_126 : decode cX5_digest 126 = .ok (.i2l, 1) := by decide +kernel
theorem dX5_digest_127 : decode cX5_digest 127 = .ok (.ladd, 1) := by decide +kernel
theorem dX5_digest_128 : decode cX5_digest 128 = .ok (.lstore_n 1, 1) := by decide +kernel
theorem dX5_digest_129 : decode cX5_digest 129 = .ok (.ldc2_w 216, 3) := by decide +kernel
theorem dX5_digest_132 : decode cX5_digest 132 = .ok (.lload_n 1, 1) := by decide +kernel
theorem dX5_digest_133 : decode cX5_digest 133 = .ok (.lmul, 1) := by decide +kernel
theorem dX5_digest_134 : decode cX5_digest 134 = .ok (.aload_n 0, 1) := by decide +kernel
theorem dX5_digest_135 : decode cX5_digest 135 = .ok (.invokevirtual 229, 3) := by decide +kernel
theorem dX5_digest_138 : decode cX5_digest 138 = .ok (.i2l, 1) := by decide +kernel
theorem dX5_digest_139 : decode cX5_digest 139 = .ok (.ladd, 1) := by decide +kernel
theorem dX5_digest_140 : decode cX5_digest 140 = .ok (.lstore_n 1, 1) := by decide +kernel
theorem dX5_digest_141 : decode cX5_digest 141 = .ok (.ldc2_w 216, 3) := by decide +kernel
theorem dX5_digest_144 : decode cX5_digest 144 = .ok (.lload_n 1, 1) := by decide +kernel
theorem dX5_digest_145 : decode cX5_digest 145 = .ok (.lmul, 1) := by decide +kernel
theorem dX5_digest_146 : decode cX5_digest 146 = .ok (.aload_n 0, 1) := by decide +kernel
theorem dX5_digest_147 : decode cX5_digest 147 = .ok (.invokevirtual 232, 3) := by decide +kernel
theorem dX5_digest_150 : decode cX5_digest 150 = .ok (.i2l, 1) := by decide +kernel
theorem dX5_digest_151 : decode cX5_digest 151 = .ok (.ladd, 1) := by decide +kernel
theorem dX5_digest_152 : decode cX5_digest 152 = .ok (.lreturn, 1) := by decide +kernel
theorem dX5_isWithin_0 : decode cX5_isWithin 0 = .ok (.iload_n 0, 1) := by decide +kernel
theorem dX5_isWithin_1 : decode cX5_isWithin 1 = .ok (.ifCond .lt 12, 3) := by decide +kernel
theorem dX5_isWithin_4 : decode cX5_isWithin 4 = .ok (.iload_n 0, 1) := by decide +kernel
theorem dX5_isWithin_5 : decode cX5_isWithin 5 = .ok (.iload_n 1, 1) := by decide +kernel
theorem dX5_isWithin_6 : decode cX5_isWithin 6 = .ok (.if_icmp .gt 7, 3) := by decide +kernel
theorem dX5_isWithin_9 : decode cX5_isWithin 9 = .ok (.iconst 1, 1) := by decide +kernel
theorem dX5_isWithin_10 : decode cX5_isWithin 10 = .ok (.goto 4, 3) := by decide +kernel
theorem dX5_isWithin_13 : decode cX5_isWithin 13 = .ok (.iconst 0, 1) := by decide +kernel
theorem dX5_isWithin_14 : decode cX5_isWithin 14 = .ok (.ireturn, 1) := by decide +kernel
theorem dX5_isKind_0 : decode cX5_isKind 0 = .ok (.iload_n 0, 1) := by decide +kernel
theorem dX5_isKind_1 : decode cX5_isKind 1 = .ok (.iconst 2, 1) := by decide +kernel
theorem dX5_isKind_2 : decode cX5_isKind 2 = .ok (.invokestatic 81, 3) := by decide +kernel
theorem dX5_isKind_5 : decode cX5_isKind 5 = .ok (.ireturn, 1) := by decide +kernel
theorem dX5_isPlace_0 : decode cX5_isPlace 0 = .ok (.iload_n 0, 1) := by decide +kernel
theorem dX5_isPlace_1 : decode cX5_isPlace 1 = .ok (.ifCond .lt 13, 3) := by decide +kernel
theorem dX5_isPlace_4 : decode cX5_isPlace 4 = .ok (.iload_n 0, 1) := by decide +kernel
theorem dX5_isPlace_5 : decode cX5_isPlace 5 = .ok (.bipush 40, 2) := by decide +kernel
theorem dX5_isPlace_7 : decode cX5_isPlace 7 = .ok (.if_icmp .ge 7, 3) := by decide +kernel
theorem dX5_isPlace_10 : decode cX5_isPlace 10 = .ok (.iconst 1, 1) := by decide +kernel
theorem dX5_isPlace_11 : decode cX5_isPlace 11 = .ok (.goto 4, 3) := by decide +kernel
theorem dX5_isPlace_14 : decode cX5_isPlace 14 = .ok (.iconst 0, 1) := by decide +kernel
theorem dX5_isPlace_15 : decode cX5_isPlace 15 = .ok (.ireturn, 1) := by decide +kernel
theorem dX5_holds_0 : decode cX5_holds 0 = .ok (.iload_n 0, 1) := by decide +kernel
theorem dX5_holds_1 : decode cX5_holds 1 = .ok (.bipush 40, 2) := by decide +kernel
theorem dX5_holds_3 : decode cX5_holds 3 = .ok (.invokestatic 81, 3) := by decide +kernel
theorem dX5_holds_6 : decode cX5_holds 6 = .ok (.ifCond .eq 15, 3) := by decide +kernel
theorem dX5_holds_9 : decode cX5_holds 9 = .ok (.iload_n 1, 1) := by decide +kernel
theorem dX5_holds_10 : decode cX5_holds 10 = .ok (.bipush 40, 2) := by decide +kernel
theorem dX5_holds_12 : decode cX5_holds 12 = .ok (.iload_n 0, 1) := by decide +kernel
theorem dX5_holds_13 : decode cX5_holds 13 = .ok (.isub, 1) := by decide +kernel
theorem dX5_holds_14 : decode cX5_holds 14 = .ok (.if_icmp .gt 7, 3) := by decide +kernel
theorem dX5_holds_17 : decode cX5_holds 17 = .ok (.iconst 1, 1) := by decide +kernel
theorem dX5_holds_18 : decode cX5_holds 18 = .ok (.goto 4, 3) := by decide +kernel
theorem dX5_holds_21 : decode cX5_holds 21 = .ok (.iconst 0, 1) := by decide +kernel
theorem dX5_holds_22 : decode cX5_holds 22 = .ok (.ireturn, 1) := by decide +kernel
theorem dX5_findTest_0 : decode cX5_findTest 0 = .ok (.iload_n 1, 1) := by decide +kernel
theorem dX5_findTest_1 : decode cX5_findTest 1 = .ok (.ifCond .lt 20, 3) := by decide +kernel
theorem dX5_findTest_4 : decode cX5_findTest 4 = .ok (.iload_n 1, 1) := by decide +kernel
theorem dX5_findTest_5 : decode cX5_findTest 5 = .ok (.aload_n 0, 1) := by decide +kernel
theorem dX5_findTest_6 : decode cX5_findTest 6 = .ok (.getfield 54, 3) := by decide +kernel
theorem dX5_findTest_9 : decode cX5_findTest 9 = .ok (.if_icmp .ge 12, 3) := by decide +kernel
theorem dX5_findTest_12 : decode cX5_findTest 12 = .ok (.aload_n 0, 1) := by decide +kernel
theorem dX5_findTest_13 : decode cX5_findTest 13 = .ok (.getfield 11, 3) := by decide +kernel
theorem dX5_findTest_16 : decode cX5_findTest 16 = .ok (.iload_n 1, 1) := by decide +kernel
theorem dX5_findTest_17 : decode cX5_findTest 17 = .ok (.aaload, 1) := by decide +kernel
theorem dX5_findTest_18 : decode cX5_findTest 18 = .ok (.goto 4, 3) := by decide +kernel
theorem dX5_findTest_21 : decode cX5_findTest 21 = .ok (.aconst_null, 1) := by decide +kernel
theorem dX5_findTest_22 : decode cX5_findTest 22 = .ok (.areturn, 1) := by decide +kernel
theorem dX5_findRow_0 : decode cX5_findRow 0 = .ok (.aload_n 0, 1) := by decide +kernel
theorem dX5_findRow_1 : decode cX5_findRow 1 = .ok (.iload_n 1, 1) := by decide +kernel
theorem dX5_findRow_2 : decode cX5_findRow 2 = .ok (.invokevirtual 60, 3) := by decide +kernel
theorem dX5_findRow_5 : decode cX5_findRow 5 = .ok (.astore_n 3, 1) := by decide +kernel
theorem dX5_findRow_6 : decode cX5_findRow 6 = .ok (.aload_n 3, 1) := by decide +kernel
theorem dX5_findRow_7 : decode cX5_findRow 7 = .ok (.ifnull 12, 3) := by decide +kernel
theorem dX5_findRow_10 : decode cX5_findRow 10 = .ok (.iload_n 2, 1) := by decide +kernel
theorem dX5_findRow_11 : decode cX5_findRow 11 = .ok (.ifCond .lt 8, 3) := by decide +kernel
theorem dX5_findRow_14 : decode cX5_findRow 14 = .ok (.iload_n 2, 1) := by decide +kernel
theorem dX5_findRow_15 : decode cX5_findRow 15 = .ok (.iconst 4, 1) := by decide +kernel
theorem dX5_findRow_16 : decode cX5_findRow 16 = .ok (.if_icmp .lt 7, 3) := by decide +kernel
theorem dX5_findRow_19 : decode cX5_findRow 19 = .ok (.aconst_null, 1) := by decide +kernel
theorem dX5_findRow_20 : decode cX5_findRow 20 = .ok (.goto 9, 3) := by decide +kernel
theorem dX5_findRow_23 : decode cX5_findRow 23 = .ok (.aload_n 3, 1) := by decide +kernel
theorem dX5_findRow_24 : decode cX5_findRow 24 = .ok (.getfield 218, 3) := by decide +kernel
theorem dX5_findRow_27 : decode cX5_findRow 27 = .ok (.iload_n 2, 1) := by decide +kernel
theorem dX5_findRow_28 : decode cX5_findRow 28 = .ok (.aaload, 1) := by decide +kernel
theorem dX5_findRow_29 : decode cX5_findRow 29 = .ok (.areturn, 1) := by decide +kernel
theorem dX5_refuseWith_0 : decode cX5_refuseWith 0 = .ok (.aload_n 0, 1) := by decide +kernel
theorem dX5_refuseWith_1 : decode cX5_refuseWith 1 = .ok (.iload_n 1, 1) := by decide +kernel
theorem dX5_refuseWith_2 : decode cX5_refuseWith 2 = .ok (.putfield 211, 3) := by decide +kernel
theorem dX5_refuseWith_5 : decode cX5_refuseWith 5 = .ok (.aload_n 0, 1) := by decide +kernel
theorem dX5_refuseWith_6 : decode cX5_refuseWith 6 = .ok (.getfield 15, 3) := by decide +kernel
theorem dX5_refuseWith_9 : decode cX5_refuseWith 9 = .ok (.iload_n 1, 1) := by decide +kernel
theorem dX5_refuseWith_10 : decode cX5_refuseWith 10 = .ok (.dup2, 1) := by decide +kernel
theorem dX5_refuseWith_11 : decode cX5_refuseWith 11 = .ok (.iaload, 1) := by decide +kernel
theorem dX5_refuseWith_12 : decode cX5_refuseWith 12 = .ok (.iconst 1, 1) := by decide +kernel
theorem dX5_refuseWith_13 : decode cX5_refuseWith 13 = .ok (.iadd, 1) := by decide +kernel
theorem dX5_refuseWith_14 : decode cX5_refuseWith 14 = .ok (.iastore, 1) := by decide +kernel
theorem dX5_refuseWith_15 : decode cX5_refuseWith 15 = .ok (.bipush (-3), 2) := by decide +kernel
theorem dX5_refuseWith_17 : decode cX5_refuseWith 17 = .ok (.ireturn, 1) := by decide +kernel
theorem dX5_refuseRow_0 : decode cX5_refuseRow 0 = .ok (.aload_n 1, 1) := by decide +kernel
theorem dX5_refuseRow_1 : decode cX5_refuseRow 1 = .ok (.ifnonnull 7, 3) := by decide +kernel
theorem dX5_refuseRow_4 : decode cX5_refuseRow 4 = .ok (.iconst (-1), 1) := by decide +kernel
theorem dX5_refuseRow_5 : decode cX5_refuseRow 5 = .ok (.goto 8, 3) := by decide +kernel
theorem dX5_refuseRow_8 : decode cX5_refuseRow 8 = .ok (.aload_n 0, 1) := by decide +kernel
theorem dX5_refuseRow_9 : decode cX5_refuseRow 9 = .ok (.iconst 1, 1) := by decide +kernel
theorem dX5_refuseRow_10 : decode cX5_refuseRow 10 = .ok (.invokevirtual 85, 3) := by decide +kernel
theorem dX5_refuseRow_13 : decode cX5_refuseRow 13 = .ok (.ireturn, 1) := by decide +kernel
theorem dX5_bringUpToDate_0 : decode cX5_bringUpToDate 0 = .ok (.aload_n 1, 1) := by decide +kernel
theorem dX5_bringUpToDate_1 : decode cX5_bringUpToDate 1 = .ok (.getfield 95, 3) := by decide +kernel
theorem dX5_bringUpToDate_4 : decode cX5_bringUpToDate 4 = .ok (.ifCond .ne 25, 3) := by decide +kernel
theorem dX5_bringUpToDate_7 : decode cX5_bringUpToDate 7 = .ok (.aload_n 1, 1) := by decide +kernel
theorem dX5_bringUpToDate_8 : decode cX5_bringUpToDate 8 = .ok (.getfield 235, 3) := by decide +kernel
theorem dX5_bringUpToDate_11 : decode cX5_bringUpToDate 11 = .ok (.aload_n 0, 1) := by decide +kernel
theorem dX5_bringUpToDate_12 : decode cX5_bringUpToDate 12 = .ok (.getfield 47, 3) := by decide +kernel
theorem dX5_bringUpToDate_15 : decode cX5_bringUpToDate 15 = .ok (.if_icmp .ne 14, 3) := by decide +kernel
theorem dX5_bringUpToDate_18 : decode cX5_bringUpToDate 18 = .ok (.aload_n 1, 1) := by decide +kernel
theorem dX5_bringUpToDate_19 : decode cX5_bringUpToDate 19 = .ok (.getfield 238, 3) := by decide +kernel
theorem dX5_bringUpToDate_22 : decode cX5_bringUpToDate 22 = .ok (.aload_n 0, 1) := by decide +kernel
theorem dX5_bringUpToDate_23 : decode cX5_bringUpToDate 23 = .ok (.getfield 36, 3) := by decide +kernel
theorem dX5_bringUpToDate_26 : decode cX5_bringUpToDate 26 = .ok (.if_icmp .eq 19, 3) := by decide +kernel
theorem dX5_bringUpToDate_29 : decode cX5_bringUpToDate 29 = .ok (.aload_n 0, 1) := by decide +kernel
theorem dX5_bringUpToDate_30 : decode cX5_bringUpToDate 30 = .ok (.getfield 25, 3) := by decide +kernel
theorem dX5_bringUpToDate_33 : decode cX5_bringUpToDate 33 = .ok (.aload_n 1, 1) := by decide +kernel
theorem dX5_bringUpToDate_34 : decode cX5_bringUpToDate 34 = .ok (.aload_n 0, 1) := by decide +kernel
theorem dX5_bringUpToDate_35 : decode cX5_bringUpToDate 35 = .ok (.getfield 47, 3) := by decide +kernel
theorem dX5_bringUpToDate_38 : decode cX5_bringUpToDate 38 = .ok (.aload_n 0, 1) := by decide +kernel
theorem dX5_bringUpToDate_39 : decode cX5_bringUpToDate 39 = .ok (.getfield 36, 3) := by decide +kernel
theorem dX5_bringUpToDate_42 : decode cX5_bringUpToDate 42 = .ok (.invokevirtual 239, 3) := by decide +kernel
theorem dX5_bringUpToDate_45 : decode cX5_bringUpToDate 45 = .ok (.return_, 1) := by decide +kernel
theorem dX5_bringRowsUpToDate_0 : decode cX5_bringRowsUpToDate 0 = .ok (.iconst 0, 1) := by decide +kernel
theorem dX5_bringRowsUpToDate_1 : decode cX5_bringRowsUpToDate 1 = .ok (.istore_n 2, 1) := by decide +kernel
theorem dX5_bringRowsUpToDate_2 : decode cX5_bringRowsUpToDate 2 = .ok (.iload_n 2, 1) := by decide +kernel
theorem dX5_bringRowsUpToDate_3 : decode cX5_bringRowsUpToDate 3 = .ok (.iconst 4, 1) := by decide +kernel
theorem dX5_bringRowsUpToDate_4 : decode cX5_bringRowsUpToDate 4 = .ok (.if_icmp .ge 31, 3) := by decide +kernel
theorem dX5_bringRowsUpToDate_7 : decode cX5_bringRowsUpToDate 7 = .ok (.aload_n 1, 1) := by decide +kernel
theorem dX5_bringRowsUpToDate_8 : decode cX5_bringRowsUpToDate 8 = .ok (.getfield 218, 3) := by decide +kernel
theorem dX5_bringRowsUpToDate_11 : decode cX5_bringRowsUpToDate 11 = .ok (.iload_n 2, 1) := by decide +kernel
theorem dX5_bringRowsUpToDate_12 : decode cX5_bringRowsUpToDate 12 = .ok (.aaload, 1) := by decide +kernel
theorem dX5_bringRowsUpToDate_13 : decode cX5_bringRowsUpToDate 13 = .ok (.getfield 71, 3) := by decide +kernel
theorem dX5_bringRowsUpToDate_16 : decode cX5_bringRowsUpToDate 16 = .ok (.ifCond .eq 13, 3) := by decide +kernel
theorem dX5_bringRowsUpToDate_19 : decode cX5_bringRowsUpToDate 19 = .ok (.aload_n 0, 1) := by decide +kernel
theorem dX5_bringRowsUpToDate_20 : decode cX5_bringRowsUpToDate 20 = .ok (.aload_n 1, 1) := by decide +kernel
theorem dX5_bringRowsUpToDate_21 : decode cX5_bringRowsUpToDate 21 = .ok (.getfield 218, 3) := by decide +kernel
theorem dX5_bringRowsUpToDate_24 : decode cX5_bringRowsUpToDate 24 = .ok (.iload_n 2, 1) := by decide +kernel
theorem dX5_bringRowsUpToDate_25 : decode cX5_bringRowsUpToDate 25 = .ok (.aaload, 1) := by decide +kernel
theorem dX5_bringRowsUpToDate_26 : decode cX5_bringRowsUpToDate 26 = .ok (.invokevirtual 115, 3) := by decide +kernel
theorem dX5_bringRowsUpToDate_29 : decode cX5_bringRowsUpToDate 29 = .ok (.iinc 2 1, 3) := by decide +kernel
theorem dX5_bringRowsUpToDate_32 : decode cX5_bringRowsUpToDate 32 = .ok (.goto (-30), 3) := by decide +kernel
theorem dX5_bringRowsUpToDate_35 : decode cX5_bringRowsUpToDate 35 = .ok (.return_, 1) := by decide +kernel
theorem dX5_readyChances_0 : decode cX5_readyChances 0 = .ok (.aload_n 0, 1) := by decide +kernel
theorem dX5_readyChances_1 : decode cX5_readyChances 1 = .ok (.getfield 243, 3) := by decide +kernel
theorem dX5_readyChances_4 : decode cX5_readyChances 4 = .ok (.ifnonnull 14, 3) := by decide +kernel
theorem dX5_readyChances_7 : decode cX5_readyChances 7 = .ok (.aload_n 0, 1) := by decide +kernel
theorem dX5_readyChances_8 : decode cX5_readyChances 8 = .ok (.new 160, 3) := by decide +kernel
theorem dX5_readyChances_11 : decode cX5_readyChances 11 = .ok (.dup, 1) := by decide +kernel
theorem dX5_readyChances_12 : decode cX5_readyChances 12 = .ok (.invokespecial 247, 3) := by decide +kernel
theorem dX5_readyChances_15 : decode cX5_readyChances 15 = .ok (.putfield 243, 3) := by decide +kernel
theorem dX5_readyChances_18 : decode cX5_readyChances 18 = .ok (.aload_n 0, 1) := by decide +kernel
theorem dX5_readyChances_19 : decode cX5_readyChances 19 = .ok (.getfield 243, 3) := by decide +kernel
theorem dX5_readyChances_22 : decode cX5_readyChances 22 = .ok (.areturn, 1) := by decide +kernel
theorem dX5_isItsOwn_0 : decode cX5_isItsOwn 0 = .ok (.aload_n 1, 1) := by decide +kernel
theorem dX5_isItsOwn_1 : decode cX5_isItsOwn 1 = .ok (.getfield 218, 3) := by decide +kernel
theorem dX5_isItsOwn_4 : decode cX5_isItsOwn 4 = .ok (.iload_n 2, 1) := by decide +kernel
theorem dX5_isItsOwn_5 : decode cX5_isItsOwn 5 = .ok (.aaload, 1) := by decide +kernel
theorem dX5_isItsOwn_6 : decode cX5_isItsOwn 6 = .ok (.astore 4, 2) := by decide +kernel
theorem dX5_isItsOwn_8 : decode cX5_isItsOwn 8 = .ok (.aload 4, 2) := by decide +kernel
theorem dX5_isItsOwn_10 : decode cX5_isItsOwn 10 = .ok (.iload_n 3, 1) := by decide +kernel
theorem dX5_isItsOwn_11 : decode cX5_isItsOwn 11 = .ok (.invokevirtual 132, 3) := by decide +kernel
theorem dX5_isItsOwn_14 : decode cX5_isItsOwn 14 = .ok (.istore 5, 2) := by decide +kernel
theorem dX5_isItsOwn_16 : decode cX5_isItsOwn 16 = .ok (.aload 4, 2) := by decide +kernel
theorem dX5_isItsOwn_18 : decode cX5_isItsOwn 18 = .ok (.iload_n 3, 1) := by decide +kernel
theorem dX5_isItsOwn_19 : decode cX5_isItsOwn 19 = .ok (.invokevirtual 141, 3) := by decide +kernel
theorem dX5_isItsOwn_22 : decode cX5_isItsOwn 22 = .ok (.invokestatic 248, 3) := by decide +kernel
theorem dX5_isItsOwn_25 : decode cX5_isItsOwn 25 = .ok (.istore 6, 2) := by decide +kernel
theorem dX5_isItsOwn_27 : decode cX5_isItsOwn 27 = .ok (.iconst 0, 1) := by decide +kernel
theorem dX5_isItsOwn_28 : decode cX5_isItsOwn 28 = .ok (.istore 7, 2) := by decide +kernel
theorem dX5_isItsOwn_30 : decode cX5_isItsOwn 30 = .ok (.iconst 0, 1) := by decide +kernel
theorem dX5_isItsOwn_31 : decode cX5_isItsOwn 31 = .ok (.istore 8, 2) := by decide +kernel
theorem dX5_isItsOwn_33 : decode cX5_isItsOwn 33 = .ok (.iload 8, 2) := by decide +kernel
theorem dX5_isItsOwn_35 : decode cX5_isItsOwn 35 = .ok (.iconst 4, 1) := by decide +kernel
theorem dX5_isItsOwn_36 : decode cX5_isItsOwn 36 = .ok (.if_icmp .ge 75, 3) := by decide +kernel
theorem dX5_isItsOwn_39 : decode cX5_isItsOwn 39 = .ok (.aload_n 1, 1) := by decide +kernel
theorem dX5_isItsOwn_40 : decode cX5_isItsOwn 40 = .ok (.getfield 218, 3) := by decide +kernel
theorem dX5_isItsOwn_43 : decode cX5_isItsOwn 43 = .ok (.iload 8, 2) := by decide +kernel
theorem dX5_isItsOwn_45 : decode cX5_isItsOwn 45 = .ok (.aaload, 1) := by decide +kernel
theorem dX5_isItsOwn_46 : decode cX5_isItsOwn 46 = .ok (.astore 9, 2) := by decide +kernel
theorem dX5_isItsOwn_48 : decode cX5_isItsOwn 48 = .ok (.iload 8, 2) := by decide +kernel
theorem dX5_isItsOwn_50 : decode cX5_isItsOwn 50 = .ok (.iload_n 2, 1) := by decide +kernel
theorem dX5_isItsOwn_51 : decode cX5_isItsOwn 51 = .ok (.if_icmp .eq 54, 3) := by decide +kernel
theorem dX5_isItsOwn_54 : decode cX5_isItsOwn 54 = .ok (.aload 9, 2) := by decide +kernel
theorem dX5_isItsOwn_56 : decode cX5_isItsOwn 56 = .ok (.getfield 71, 3) := by decide +kernel
theorem dX5_isItsOwn_59 : decode cX5_isItsOwn 59 = .ok (.ifCond .ne 6, 3) := by decide +kernel
theorem dX5_isItsOwn_62 : decode cX5_isItsOwn 62 = .ok (.goto 43, 3) := by decide +kernel
theorem dX5_isItsOwn_65 : decode cX5_isItsOwn 65 = .ok (.aload 9, 2) := by decide +kernel
theorem dX5_isItsOwn_67 : decode cX5_isItsOwn 67 = .ok (.iload 5, 2) := by decide +kernel
theorem dX5_isItsOwn_69 : decode cX5_isItsOwn 69 = .ok (.aload_n 0, 1) := by decide +kernel
theorem dX5_isItsOwn_70 : decode cX5_isItsOwn 70 = .ok (.getfield 40, 3) := by decide +kernel
theorem dX5_isItsOwn_73 : decode cX5_isItsOwn 73 = .ok (.iload 6, 2) := by decide +kernel
theorem dX5_isItsOwn_75 : decode cX5_isItsOwn 75 = .ok (.invokevirtual 253, 3) := by decide +kernel
theorem dX5_isItsOwn_78 : decode cX5_isItsOwn 78 = .ok (.ifCond .eq 5, 3) := by decide +kernel
theorem dX5_isItsOwn_81 : decode cX5_isItsOwn 81 = .ok (.iconst 0, 1) := by decide +kernel
theorem dX5_isItsOwn_82 : decode cX5_isItsOwn 82 = .ok (.ireturn, 1) := by decide +kernel
theorem dX5_isItsOwn_83 : decode cX5_isItsOwn 83 = .ok (.iload 7, 2) := by decide +kernel
theorem dX5_isItsOwn_85 : decode cX5_isItsOwn 85 = .ok (.ifCond .ne 13, 3) := by decide +kernel
theorem dX5_isItsOwn_88 : decode cX5_isItsOwn 88 = .ok (.aload 9, 2) := by decide +kernel
theorem dX5_isItsOwn_90 : decode cX5_isItsOwn 90 = .ok (.iload 5, 2) := by decide +kernel
theorem dX5_isItsOwn_92 : decode cX5_isItsOwn 92 = .ok (.invokevirtual 257, 3) := by decide +kernel
theorem dX5_isItsOwn_95 : decode cX5_isItsOwn 95 = .ok (.ifCond .eq 7, 3) := by decide +kernel
theorem dX5_isItsOwn_98 : decode cX5_isItsOwn 98 = .ok (.iconst 1, 1) := by decide +kernel
theorem dX5_isItsOwn_99 : decode cX5_isItsOwn 99 = .ok (.goto 4, 3) := by decide +kernel
theorem dX5_isItsOwn_102 : decode cX5_isItsOwn 102 = .ok (.iconst 0, 1) := by decide +kernel
theorem dX5_isItsOwn_103 : decode cX5_isItsOwn 103 = .ok (.istore 7, 2) := by decide +kernel
theorem dX5_isItsOwn_105 : decode cX5_isItsOwn 105 = .ok (.iinc 8 1, 3) := by decide +kernel
theorem dX5_isItsOwn_108 : decode cX5_isItsOwn 108 = .ok (.goto (-75), 3) := by decide +kernel
theorem dX5_isItsOwn_111 : decode cX5_isItsOwn 111 = .ok (.iload 7, 2) := by decide +kernel
theorem dX5_isItsOwn_113 : decode cX5_isItsOwn 113 = .ok (.ireturn, 1) := by decide +kernel
theorem dX5_cryRow_0 : decode cX5_cryRow 0 = .ok (.aload_n 0, 1) := by decide +kernel
theorem dX5_cryRow_1 : decode cX5_cryRow 1 = .ok (.getfield 11, 3) := by decide +kernel
theorem dX5_cryRow_4 : decode cX5_cryRow 4 = .ok (.iload_n 1, 1) := by decide +kernel
theorem dX5_cryRow_5 : decode cX5_cryRow 5 = .ok (.aaload, 1) := by decide +kernel
theorem dX5_cryRow_6 : decode cX5_cryRow 6 = .ok (.getfield 218, 3) := by decide +kernel
theorem dX5_cryRow_9 : decode cX5_cryRow 9 = .ok (.iload_n 2, 1) := by decide +kernel
theorem dX5_cryRow_10 : decode cX5_cryRow 10 = .ok (.aaload, 1) := by decide +kernel
theorem dX5_cryRow_11 : decode cX5_cryRow 11 = .ok (.astore 6, 2) := by decide +kernel
theorem dX5_cryRow_13 : decode cX5_cryRow 13 = .ok (.aload 6, 2) := by decide +kernel
theorem dX5_cryRow_15 : decode cX5_cryRow 15 = .ok (.getfield 71, 3) := by decide +kernel
theorem dX5_cryRow_18 : decode cX5_cryRow 18 = .ok (.ifCond .ne 5, 3) := by decide +kernel
theorem dX5_cryRow_21 : decode cX5_cryRow 21 = .ok (.iconst 0, 1) := by decide +kernel
theorem dX5_cryRow_22 : decode cX5_cryRow 22 = .ok (.ireturn, 1) := by decide +kernel
theorem dX5_cryRow_23 : decode cX5_cryRow 23 = .ok (.iconst 0, 1) := by decide +kernel
theorem dX5_cryRow_24 : decode cX5_cryRow 24 = .ok (.istore 7, 2) := by decide +kernel
theorem dX5_cryRow_26 : decode cX5_cryRow 26 = .ok (.iconst 0, 1) := by decide +kernel
theorem dX5_cryRow_27 : decode cX5_cryRow 27 = .ok (.istore 8, 2) := by decide +kernel
theorem dX5_cryRow_29 : decode cX5_cryRow 29 = .ok (.iload 8, 2) := by decide +kernel
theorem dX5_cryRow_31 : decode cX5_cryRow 31 = .ok (.aload 6, 2) := by decide +kernel
theorem dX5_cryRow_33 : decode cX5_cryRow 33 = .ok (.invokevirtual 125, 3) := by decide +kernel
theorem dX5_cryRow_36 : decode cX5_cryRow 36 = .ok (.if_icmp .ge 98, 3) := by decide +kernel
theorem dX5_cryRow_39 : decode cX5_cryRow 39 = .ok (.aload 6, 2) := by decide +kernel
theorem dX5_cryRow_41 : decode cX5_cryRow 41 = .ok (.iload 8, 2) := by decide +kernel
theorem dX5_cryRow_43 : decode cX5_cryRow 43 = .ok (.invokevirtual 141, 3) := by decide +kernel
theorem dX5_cryRow_46 : decode cX5_cryRow 46 = .ok (.iload_n 3, 1) := by decide +kernel
theorem dX5_cryRow_47 : decode cX5_cryRow 47 = .ok (.if_icmp .lt 81, 3) := by decide +kernel
theorem dX5_cryRow_50 : decode cX5_cryRow 50 = .ok (.aload_n 0, 1) := by decide +kernel
theorem dX5_cryRow_51 : decode cX5_cryRow 51 = .ok (.aload_n 0, 1) := by decide +kernel
theorem dX5_cryRow_52 : decode cX5_cryRow 52 = .ok (.getfield 11, 3) := by decide +kernel
theorem dX5_cryRow_55 : decode cX5_cryRow 55 = .ok (.iload_n 1, 1) := by decide +kernel
theorem dX5_cryRow_56 : decode cX5_cryRow 56 = .ok (.aaload, 1) := by decide +kernel
theorem dX5_cryRow_57 : decode cX5_cryRow 57 = .ok (.iload_n 2, 1) := by decide +kernel
theorem dX5_cryRow_58 : decode cX5_cryRow 58 = .ok (.iload 8, 2) := by decide +kernel
theorem dX5_cryRow_60 : decode cX5_cryRow 60 = .ok (.invokevirtual 260, 3) := by decide +kernel
theorem dX5_cryRow_63 : decode cX5_cryRow 63 = .ok (.ifCond .eq 65, 3) := by decide +kernel
theorem dX5_cryRow_66 : decode cX5_cryRow 66 = .ok (.aload_n 0, 1) := by decide +kernel
theorem dX5_cryRow_67 : decode cX5_cryRow 67 = .ok (.aload 6, 2) := by decide +kernel
theorem dX5_cryRow_69 : decode cX5_cryRow 69 = .ok (.iload 8, 2) := by decide +kernel
theorem dX5_cryRow_71 : decode cX5_cryRow 71 = .ok (.iload 4, 2) := by decide +kernel
theorem dX5_cryRow_73 : decode cX5_cryRow 73 = .ok (.iload 5, 2) := by decide +kernel
theorem dX5_cryRow_75 : decode cX5_cryRow 75 = .ok (.invokevirtual 263, 3) := by decide +kernel
theorem dX5_cryRow_78 : decode cX5_cryRow 78 = .ok (.ifCond .eq 50, 3) := by decide +kernel
theorem dX5_cryRow_81 : decode cX5_cryRow 81 = .ok (.sipush 1000, 3) := by decide +kernel
theorem dX5_cryRow_84 : decode cX5_cryRow 84 = .ok (.iload_n 1, 1) := by decide +kernel
theorem dX5_cryRow_85 : decode cX5_cryRow 85 = .ok (.imul, 1) := by decide +kernel
theorem dX5_cryRow_86 : decode cX5_cryRow 86 = .ok (.bipush 100, 2) := by decide +kernel
theorem dX5_cryRow_88 : decode cX5_cryRow 88 = .ok (.iload_n 2, 1) := by decide +kernel
theorem dX5_cryRow_89 : decode cX5_cryRow 89 = .ok (.imul, 1) := by decide +kernel
theorem dX5_cryRow_90 : decode cX5_cryRow 90 = .ok (.iadd, 1) := by decide +kernel
theorem dX5_cryRow_91 : decode cX5_cryRow 91 = .ok (.aload 6, 2) := by decide +kernel
theorem dX5_cryRow_93 : decode cX5_cryRow 93 = .ok (.iload 8, 2) := by decide +kernel
theorem dX5_cryRow_95 : decode cX5_cryRow 95 = .ok (.invokevirtual 132, 3) := by decide +kernel
theorem dX5_cryRow_98 : decode cX5_cryRow 98 = .ok (.iadd, 1) := by decide +kernel
theorem dX5_cryRow_99 : decode cX5_cryRow 99 = .ok (.istore 9, 2) := by decide +kernel
theorem dX5_cryRow_101 : decode cX5_cryRow 101 = .ok (.iload 7, 2) := by decide +kernel
theorem dX5_cryRow_103 : decode cX5_cryRow 103 = .ok (.ifCond .ne 8, 3) := by decide +kernel
theorem dX5_cryRow_106 : decode cX5_cryRow 106 = .ok (.iload 9, 2) := by decide +kernel
theorem dX5_cryRow_108 : decode cX5_cryRow 108 = .ok (.goto 5, 3) := by decide +kernel
theorem dX5_cryRow_111 : decode cX5_cryRow 111 = .ok (.iload 7, 2) := by decide +kernel
theorem dX5_cryRow_113 : decode cX5_cryRow 113 = .ok (.istore 7, 2) := by decide +kernel
theorem dX5_cryRow_115 : decode cX5_cryRow 115 = .ok (.aload 6, 2) := by decide +kernel
theorem dX5_cryRow_117 : decode cX5_cryRow 117 = .ok (.iload 8, 2) := by decide +kernel
theorem dX5_cryRow_119 : decode cX5_cryRow 119 = .ok (.invokevirtual 267, 3) := by decide +kernel
theorem dX5_cryRow_122 : decode cX5_cryRow 122 = .ok (.aload_n 0, 1) := by decide +kernel
theorem dX5_cryRow_123 : decode cX5_cryRow 123 = .ok (.iload 9, 2) := by decide +kernel
theorem dX5_cryRow_125 : decode cX5_cryRow 125 = .ok (.invokevirtual 270, 3) := by decide +kernel
theorem dX5_cryRow_128 : decode cX5_cryRow 128 = .ok (.iinc 8 1, 3) := by decide +kernel
theorem dX5_cryRow_131 : decode cX5_cryRow 131 = .ok (.goto (-102), 3) := by decide +kernel
theorem dX5_cryRow_134 : decode cX5_cryRow 134 = .ok (.iload 7, 2) := by decide +kernel
theorem dX5_cryRow_136 : decode cX5_cryRow 136 = .ok (.ireturn, 1) := by decide +kernel
theorem dX5_isAlarming_0 : decode cX5_isAlarming 0 = .ok (.aload_n 1, 1) := by decide +kernel
theorem dX5_isAlarming_1 : decode cX5_isAlarming 1 = .ok (.getfield 218, 3) := by decide +kernel
theorem dX5_isAlarming_4 : decode cX5_isAlarming 4 = .ok (.iload_n 2, 1) := by decide +kernel
theorem dX5_isAlarming_5 : decode cX5_isAlarming 5 = .ok (.aaload, 1) := by decide +kernel
theorem dX5_isAlarming_6 : decode cX5_isAlarming 6 = .ok (.astore 4, 2) := by decide +kernel
theorem dX5_isAlarming_8 : decode cX5_isAlarming 8 = .ok (.aload 4, 2) := by decide +kernel
theorem dX5_isAlarming_10 : decode cX5_isAlarming 10 = .ok (.iload_n 3, 1) := by decide +kernel
theorem dX5_isAlarming_11 : decode cX5_isAlarming 11 = .ok (.invokevirtual 141, 3) := by decide +kernel
theorem dX5_isAlarming_14 : decode cX5_isAlarming 14 = .ok (.ifCond .le 12, 3) := by decide +kernel
theorem dX5_isAlarming_17 : decode cX5_isAlarming 17 = .ok (.aload 4, 2) := by decide +kernel
theorem dX5_isAlarming_19 : decode cX5_isAlarming 19 = .ok (.iload_n 3, 1) := by decide +kernel
theorem dX5_isAlarming_20 : decode cX5_isAlarming 20 = .ok (.invokevirtual 273, 3) := by decide +kernel
theorem dX5_isAlarming_23 : decode cX5_isAlarming 23 = .ok (.ifCond .eq 5, 3) := by decide +kernel
theorem dX5_isAlarming_26 : decode cX5_isAlarming 26 = .ok (.iconst 0, 1) := by decide +kernel
theorem dX5_isAlarming_27 : decode cX5_isAlarming 27 = .ok (.ireturn, 1) := by decide +kernel
theorem dX5_isAlarming_28 : decode cX5_isAlarming 28 = .ok (.aload_n 1, 1) := by decide +kernel
theorem dX5_isAlarming_29 : decode cX5_isAlarming 29 = .ok (.getfield 64, 3) := by decide +kernel
theorem dX5_isAlarming_32 : decode cX5_isAlarming 32 = .ok (.iconst 1, 1) := by decide +kernel
theorem dX5_isAlarming_33 : decode cX5_isAlarming 33 = .ok (.if_icmp .ne 18, 3) := by decide +kernel
theorem dX5_isAlarming_36 : decode cX5_isAlarming 36 = .ok (.aload 4, 2) := by decide +kernel
theorem dX5_isAlarming_38 : decode cX5_isAlarming 38 = .ok (.iload_n 3, 1) := by decide +kernel
theorem dX5_isAlarming_39 : decode cX5_isAlarming 39 = .ok (.invokevirtual 152, 3) := by decide +kernel
theorem dX5_isAlarming_42 : decode cX5_isAlarming 42 = .ok (.bipush (-9), 2) := by decide +kernel
theorem dX5_isAlarming_44 : decode cX5_isAlarming 44 = .ok (.if_icmp .eq 7, 3) := by decide +kernel
theorem dX5_isAlarming_47 : decode cX5_isAlarming 47 = .ok (.iconst 1, 1) := by decide +kernel
theorem dX5_isAlarming_48 : decode cX5_isAlarming 48 = .ok (.goto 4, 3) := by decide +kernel
theorem dX5_isAlarming_51 : decode cX5_isAlarming 51 = .ok (.iconst 0, 1) := by decide +kernel
theorem dX5_isAlarming_52 : decode cX5_isAlarming 52 = .ok (.istore 5, 2) := by decide +kernel
theorem dX5_isAlarming_54 : decode cX5_isAlarming 54 = .ok (.iload 5, 2) := by decide +kernel
theorem dX5_isAlarming_56 : decode cX5_isAlarming 56 = .ok (.ifCond .ne 17, 3) := by decide +kernel
theorem dX5_isAlarming_59 : decode cX5_isAlarming 59 = .ok (.aload_n 0, 1) := by decide +kernel
theorem dX5_isAlarming_60 : decode cX5_isAlarming 60 = .ok (.aload_n 1, 1) := by decide +kernel
theorem dX5_isAlarming_61 : decode cX5_isAlarming 61 = .ok (.iload_n 2, 1) := by decide +kernel
theorem dX5_isAlarming_62 : decode cX5_isAlarming 62 = .ok (.iload_n 3, 1) := by decide +kernel
theorem dX5_isAlarming_63 : decode cX5_isAlarming 63 = .ok (.invokevirtual 148, 3) := by decide +kernel
theorem dX5_isAlarming_66 : decode cX5_isAlarming 66 = .ok (.ifCond .ne 7, 3) := by decide +kernel
theorem dX5_isAlarming_69 : decode cX5_isAlarming 69 = .ok (.iconst 1, 1) := by decide +kernel
theorem dX5_isAlarming_70 : decode cX5_isAlarming 70 = .ok (.goto 4, 3) := by decide +kernel
theorem dX5_isAlarming_73 : decode cX5_isAlarming 73 = .ok (.iconst 0, 1) := by decide +kernel
theorem dX5_isAlarming_74 : decode cX5_isAlarming 74 = .ok (.ireturn, 1) := by decide +kernel
theorem dX5_isRare_0 : decode cX5_isRare 0 = .ok (.aload_n 0, 1) := by decide +kernel
theorem dX5_isRare_1 : decode cX5_isRare 1 = .ok (.invokevirtual 155, 3) := by decide +kernel
theorem dX5_isRare_4 : decode cX5_isRare 4 = .ok (.astore 5, 2) := by decide +kernel
theorem dX5_isRare_6 : decode cX5_isRare 6 = .ok (.aload 5, 2) := by decide +kernel
theorem dX5_isRare_8 : decode cX5_isRare 8 = .ok (.aload_n 1, 1) := by decide +kernel
theorem dX5_isRare_9 : decode cX5_isRare 9 = .ok (.iload_n 2, 1) := by decide +kernel
theorem dX5_isRare_10 : decode cX5_isRare 10 = .ok (.invokevirtual 159, 3) := by decide +kernel
theorem dX5_isRare_13 : decode cX5_isRare 13 = .ok (.ifCond .eq 26, 3) := by decide +kernel
theorem dX5_isRare_16 : decode cX5_isRare 16 = .ok (.aload 5, 2) := by decide +kernel
theorem dX5_isRare_18 : decode cX5_isRare 18 = .ok (.getfield 165, 3) := by decide +kernel
theorem dX5_isRare_21 : decode cX5_isRare 21 = .ok (.i2l, 1) := by decide +kernel
theorem dX5_isRare_22 : decode cX5_isRare 22 = .ok (.iload 4, 2) := by decide +kernel
theorem dX5_isRare_24 : decode cX5_isRare 24 = .ok (.i2l, 1) := by decide +kernel
theorem dX5_isRare_25 : decode cX5_isRare 25 = .ok (.lmul, 1) := by decide +kernel
theorem dX5_isRare_26 : decode cX5_isRare 26 = .ok (.iload_n 3, 1) := by decide +kernel
theorem dX5_isRare_27 : decode cX5_isRare 27 = .ok (.i2l, 1) := by decide +kernel
theorem dX5_isRare_28 : decode cX5_isRare 28 = .ok (.aload 5, 2) := by decide +kernel
theorem dX5_isRare_30 : decode cX5_isRare 30 = .ok (.getfield 171, 3) := by decide +kernel
theorem dX5_isRare_33 : decode cX5_isRare 33 = .ok (.i2l, 1) := by decide +kernel
theorem dX5_isRare_34 : decode cX5_isRare 34 = .ok (.lmul, 1) := by decide +kernel
theorem dX5_isRare_35 : decode cX5_isRare 35 = .ok (.lcmp, 1) := by decide +kernel
theorem dX5_isRare_36 : decode cX5_isRare 36 = .ok (.ifCond .gt 7, 3) := by decide +kernel
theorem dX5_isRare_39 : decode cX5_isRare 39 = .ok (.iconst 1, 1) := by decide +kernel
theorem dX5_isRare_40 : decode cX5_isRare 40 = .ok (.goto 4, 3) := by decide +kernel
theorem dX5_isRare_43 : decode cX5_isRare 43 = .ok (.iconst 0, 1) := by decide +kernel
theorem dX5_isRare_44 : decode cX5_isRare 44 = .ok (.ireturn, 1) := by decide +kernel
theorem dX5_keepAlarm_0 : decode cX5_keepAlarm 0 = .ok (.aload_n 0, 1) := by decide +kernel
theorem dX5_keepAlarm_1 : decode cX5_keepAlarm 1 = .ok (.getfield 174, 3) := by decide +kernel
theorem dX5_keepAlarm_4 : decode cX5_keepAlarm 4 = .ok (.sipush 300, 3) := by decide +kernel
theorem dX5_keepAlarm_7 : decode cX5_keepAlarm 7 = .ok (.if_icmp .ge 13, 3) := by decide +kernel
theorem dX5_keepAlarm_10 : decode cX5_keepAlarm 10 = .ok (.aload_n 0, 1) := by decide +kernel
theorem dX5_keepAlarm_11 : decode cX5_keepAlarm 11 = .ok (.getfield 19, 3) := by decide +kernel
theorem dX5_keepAlarm_14 : decode cX5_keepAlarm 14 = .ok (.aload_n 0, 1) := by decide +kernel
theorem dX5_keepAlarm_15 : decode cX5_keepAlarm 15 = .ok (.getfield 174, 3) := by decide +kernel
theorem dX5_keepAlarm_18 : decode cX5_keepAlarm 18 = .ok (.iload_n 1, 1) := by decide +kernel
theorem dX5_keepAlarm_19 : decode cX5_keepAlarm 19 = .ok (.iastore, 1) := by decide +kernel
theorem dX5_keepAlarm_20 : decode cX5_keepAlarm 20 = .ok (.aload_n 0, 1) := by decide +kernel
theorem dX5_keepAlarm_21 : decode cX5_keepAlarm 21 = .ok (.dup, 1) := by decide +kernel
theorem dX5_keepAlarm_22 : decode cX5_keepAlarm 22 = .ok (.getfield 174, 3) := by decide +kernel
theorem dX5_keepAlarm_25 : decode cX5_keepAlarm 25 = .ok (.iconst 1, 1) := by decide +kernel
theorem dX5_keepAlarm_26 : decode cX5_keepAlarm 26 = .ok (.iadd, 1) := by decide +kernel
theorem dX5_keepAlarm_27 : decode cX5_keepAlarm 27 = .ok (.putfield 174, 3) := by decide +kernel
theorem dX5_keepAlarm_30 : decode cX5_keepAlarm 30 = .ok (.return_, 1) := by decide +kernel
theorem dX5_countRows_0 : decode cX5_countRows 0 = .ok (.iconst 0, 1) := by decide +kernel
theorem dX5_countRows_1 : decode cX5_countRows 1 = .ok (.istore_n 1, 1) := by decide +kernel
theorem dX5_countRows_2 : decode cX5_countRows 2 = .ok (.iconst 0, 1) := by decide +kernel
theorem dX5_countRows_3 : decode cX5_countRows 3 = .ok (.istore_n 2, 1) := by decide +kernel
theorem dX5_countRows_4 : decode cX5_countRows 4 = .ok (.iload_n 2, 1) := by decide +kernel
theorem dX5_countRows_5 : decode cX5_countRows 5 = .ok (.aload_n 0, 1) := by decide +kernel
theorem dX5_countRows_6 : decode cX5_countRows 6 = .ok (.getfield 54, 3) := by decide +kernel
theorem dX5_countRows_9 : decode cX5_countRows 9 = .ok (.if_icmp .ge 42, 3) := by decide +kernel
theorem dX5_countRows_12 : decode cX5_countRows 12 = .ok (.iconst 0, 1) := by decide +kernel
theorem dX5_countRows_13 : decode cX5_countRows 13 = .ok (.istore_n 3, 1) := by decide +kernel
theorem dX5_countRows_14 : decode cX5_countRows 14 = .ok (.iload_n 3, 1) := by decide +kernel
theorem dX5_countRows_15 : decode cX5_countRows 15 = .ok (.iconst 4, 1) := by decide +kernel
theorem dX5_countRows_16 : decode cX5_countRows 16 = .ok (.if_icmp .ge 29, 3) := by decide +kernel
theorem dX5_countRows_19 : decode cX5_countRows 19 = .ok (.aload_n 0, 1) := by decide +kernel
theorem dX5_countRows_20 : decode cX5_countRows 20 = .ok (.getfield 11, 3) := by decide +kernel
theorem dX5_countRows_23 : decode cX5_countRows 23 = .ok (.iload_n 2, 1) := by decide +kernel
theorem dX5_countRows_24 : decode cX5_countRows 24 = .ok (.aaload, 1) := by decide +kernel
theorem dX5_countRows_25 : decode cX5_countRows 25 = .ok (.getfield 218, 3) := by decide +kernel
theorem dX5_countRows_28 : decode cX5_countRows 28 = .ok (.iload_n 3, 1) := by decide +kernel
theorem dX5_countRows_29 : decode cX5_countRows 29 = .ok (.aaload, 1) := by decide +kernel
theorem dX5_countRows_30 : decode cX5_countRows 30 = .ok (.getfield 71, 3) := by decide +kernel
theorem dX5_countRows_33 : decode cX5_countRows 33 = .ok (.ifCond .eq 6, 3) := by decide +kernel
theorem dX5_countRows_36 : decode cX5_countRows 36 = .ok (.iinc 1 1, 3) := by decide +kernel
theorem dX5_countRows_39 : decode cX5_countRows 39 = .ok (.iinc 3 1, 3) := by decide +kernel
theorem dX5_countRows_42 : decode cX5_countRows 42 = .ok (.goto (-28), 3) := by decide +kernel
theorem dX5_countRows_45 : decode cX5_countRows 45 = .ok (.iinc 2 1, 3) := by decide +kernel
theorem dX5_countRows_48 : decode cX5_countRows 48 = .ok (.goto (-44), 3) := by decide +kernel
theorem dX5_countRows_51 : decode cX5_countRows 51 = .ok (.iload_n 1, 1) := by decide +kernel
theorem dX5_countRows_52 : decode cX5_countRows 52 = .ok (.ireturn, 1) := by decide +kernel
end
section
theorem dX6_init_0 : decode cX6_init 0 = .ok (.aload_n 0, 1) := by decide +kernel
theorem dX6_init_1 : decode cX6_init 1 = .ok (.invokespecial 1, 3) := by decide +kernel
theorem dX6_init_4 : decode cX6_init 4 = .ok (.aload_n 0, 1) := by decide +kernel
theorem dX6_init_5 : decode cX6_init 5 = .ok (.bipush 6, 2) := by decide +kernel
theorem dX6_init_7 : decode cX6_init 7 = .ok (.newarray .int, 2) := by decide +kernel
theorem dX6_init_9 : decode cX6_init 9 = .ok (.putfield 7, 3) := by decide +kernel
theorem dX6_init_12 : decode cX6_init 12 = .ok (.aload_n 0, 1) := by decide +kernel
theorem dX6_init_13 : decode cX6_init 13 = .ok (.bipush 8, 2) := by decide +kernel
theorem dX6_init_15 : decode cX6_init 15 = .ok (.newarray .int, 2) := by decide +kernel
theorem dX6_init_17 : decode cX6_init 17 = .ok (.putfield 13, 3) := by decide +kernel
theorem dX6_init_20 : decode cX6_init 20 = .ok (.aload_n 0, 1) := by decide +kernel
theorem dX6_init_21 : decode cX6_init 21 = .ok (.bipush 32, 2) := by decide +kernel
theorem dX6_init_23 : decode cX6_init 23 = .ok (.newarray .boolean, 2) := by decide +kernel
theorem dX6_init_25 : decode cX6_init 25 = .ok (.putfield 16, 3) := by decide +kernel
theorem dX6_init_28 : decode cX6_init 28 = .ok (.aload_n 0, 1) := by decide +kernel
theorem dX6_init_29 : decode cX6_init 29 = .ok (.sipush 1280, 3) := by decide +kernel
theorem dX6_init_32 : decode cX6_init 32 = .ok (.newarray .int, 2) := by decide +kernel
theorem dX6_init_34 : decode cX6_init 34 = .ok (.putfield 20, 3) := by decide +kernel
theorem dX6_init_37 : decode cX6_init 37 = .ok (.aload_n 0, 1) := by decide +kernel
theorem dX6_init_38 : decode cX6_init 38 = .ok (.bipush 40, 2) := by decide +kernel
theorem dX6_init_40 : decode cX6_init 40 = .ok (.newarray .int, 2) := by decide +kernel
theorem dX6_init_42 : decode cX6_init 42 = .ok (.putfield 23, 3) := by decide +kernel
theorem dX6_init_45 : decode cX6_init 45 = .ok (.aload_n 0, 1) := by decide +kernel
theorem dX6_init_46 : decode cX6_init 46 = .ok (.bipush 40, 2) := by decide +kernel
theorem dX6_init_48 : decode cX6_init 48 = .ok (.newarray .int, 2) := by decide +kernel
theorem dX6_init_50 : decode cX6_init 50 = .ok (.putfield 26, 3) := by decide +kernel
theorem dX6_init_53 : decode cX6_init 53 = .ok (.aload_n 0, 1) := by decide +kernel
theorem dX6_init_54 : decode cX6_init 54 = .ok (.bipush 40, 2) := by decide +kernel
theorem dX6_init_56 : decode cX6_init 56 = .ok (.newarray .int, 2) := by decide +kernel
theorem dX6_init_58 : decode cX6_init 58 = .ok (.putfield 29, 3) := by decide +kernel
theorem dX6_init_61 : decode cX6_init 61 = .ok (.aload_n 0, 1) := by decide +kernel
theorem dX6_init_62 : decode cX6_init 62 = .ok (.bipush 40, 2) := by decide +kernel
theorem dX6_init_64 : decode cX6_init 64 = .ok (.newarray .int, 2) := by decide +kernel
theorem dX6_init_66 : decode cX6_init 66 = .ok (.putfield 32, 3) := by decide +kernel
theorem dX6_init_69 : decode cX6_init 69 = .ok (.aload_n 0, 1) := by decide +kernel
theorem dX6_init_70 : decode cX6_init 70 = .ok (.bipush 41, 2) := by decide +kernel
theorem dX6_init_72 : decode cX6_init 72 = .ok (.newarray .int, 2) := by decide +kernel
theorem dX6_init_74 : decode cX6_init 74 = .ok (.putfield 35, 3) := by decide +kernel
theorem dX6_init_77 : decode cX6_init 77 = .ok (.aload_n 0, 1) := by decide +kernel
theorem dX6_init_78 : decode cX6_init 78 = .ok (.bipush 41, 2) := by decide +kernel
theorem dX6_init_80 : decode cX6_init 80 = .ok (.newarray .int, 2) := by decide +kernel
theorem dX6_init_82 : decode cX6_init 82 = .ok (.putfield 38, 3) := by decide +kernel
theorem dX6_init_85 : decode cX6_init 85 = .ok (.aload_n 0, 1) := by decide +kernel
theorem dX6_init_86 : decode cX6_init 86 = .ok (.bipush 41, 2) := by decide +kernel
theorem dX6_init_88 : decode cX6_init 88 = .ok (.newarray .int, 2) := by decide +kernel
theorem dX6_init_90 : decode cX6_init 90 = .ok (.putfield 41, 3) := by decide +kernel
theorem dX6_init_93 : decode cX6_init 93 = .ok (.aload_n 0, 1) := by decide +kernel
theorem dX6_init_94 : decode cX6_init 94 = .ok (.bipush 41, 2) := by decide +kernel
theorem dX6_init_96 : decode cX6_init 96 = .ok (.newarray .int, 2) := by decide +kernel
theorem dX6_init_98 : decode cX6_init 98 = .ok (.putfield 44, 3) := by decide +kernel
theorem dX6_init_101 : decode cX6_init 101 = .ok (.aload_n 0, 1) := by decide +kernel
theorem dX6_init_102 : decode cX6_init 102 = .ok (.bipush 40, 2) := by decide +kernel
theorem dX6_init_104 : decode cX6_init 104 = .ok (.newarray .int, 2) := by decide +kernel
theorem dX6_init_106 : decode cX6_init 106 = .ok (.putfield 47, 3) := by decide +kernel
theorem dX6_init_109 : decode cX6_init 109 = .ok (.aload_n 0, 1) := by decide +kernel
theorem dX6_init_110 : decode cX6_init 110 = .ok (.bipush 40, 2) := by decide +kernel
theorem dX6_init_112 : decode cX6_init 112 = .ok (.newarray .int, 2) := by decide +kernel
theorem dX6_init_114 : decode cX6_init 114 = .ok (.putfield 50, 3) := by decide +kernel
theorem dX6_init_117 : decode cX6_init 117 = .ok (.aload_n 0, 1) := by decide +kernel
theorem dX6_init_118 : decode cX6_init 118 = .ok (.bipush 40, 2) := by decide +kernel
theorem dX6_init_120 : decode cX6_init 120 = .ok (.newarray .int, 2) := by decide +kernel
theorem dX6_init_122 : decode cX6_init 122 = .ok (.putfield 53, 3) := by decide +kernel
theorem dX6_init_125 : decode cX6_init 125 = .ok (.aload_n 0, 1) := by decide +kernel
theorem dX6_init_126 : decode cX6_init 126 = .ok (.bipush 40, 2) := by decide +kernel
theorem dX6_init_128 : decode cX6_init 128 = .ok (.newarray .boolean, 2) := by decide +kernel
theorem dX6_init_130 : decode cX6_init 130 = .ok (.putfield 56, 3) := by decide +kernel
theorem dX6_init_133 : decode cX6_init 133 = .ok (.aload_n 0, 1) := by decide +kernel
theorem dX6_init_134 : decode cX6_init 134 = .ok (.ldc 59, 2) := by decide +kernel
theorem dX6_init_136 : decode cX6_init 136 = .ok (.newarray .long, 2) := by decide +kernel
theorem dX6_init_138 : decode cX6_init 138 = .ok (.putfield 60, 3) := by decide +kernel
theorem dX6_init_141 : decode cX6_init 141 = .ok (.aload_n 0, 1) := by decide +kernel
theorem dX6_init_142 : decode cX6_init 142 = .ok (.sipush 300, 3) := by decide +kernel
theorem dX6_init_145 : decode cX6_init 145 = .ok (.newarray .int, 2) := by decide +kernel
theorem dX6_init_147 : decode cX6_init 147 = .ok (.putfield 64, 3) := by decide +kernel
theorem dX6_init_150 : decode cX6_init 150 = .ok (.aload_n 0, 1) := by decide +kernel
theorem dX6_init_151 : decode cX6_init 151 = .ok (.sipush 1280, 3) := by decide +kernel
theorem dX6_init_154 : decode cX6_init 154 = .ok (.newarray .boolean, 2) := by decide +kernel
theorem dX6_init_156 : decode cX6_init 156 = .ok (.putfield 67, 3) := by decide +kernel
theorem dX6_init_159 : decode cX6_init 159 = .ok (.aload_n 0, 1) := by decide +kernel
theorem dX6_init_160 : decode cX6_init 160 = .ok (.bipush 20, 2) := by decide +kernel
theorem dX6_init_162 : decode cX6_init 162 = .ok (.putfield 70, 3) := by decide +kernel
theorem dX6_init_165 : decode cX6_init 165 = .ok (.aload_n 0, 1) := by decide +kernel
theorem dX6_init_166 : decode cX6_init 166 = .ok (.iconst 1, 1) := by decide +kernel
theorem dX6_init_167 : decode cX6_init 167 = .ok (.putfield 74, 3) := by decide +kernel
theorem dX6_init_170 : decode cX6_init 170 = .ok (.aload_n 0, 1) := by decide +kernel
theorem dX6_init_171 : decode cX6_init 171 = .ok (.lconst 1, 1) := by decide +kernel
theorem dX6_init_172 : decode cX6_init 172 = .ok (.putfield 77, 3) := by decide +kernel
theorem dX6_init_175 : decode cX6_init 175 = .ok (.return_, 1) := by decide +kernel
theorem dX6_in_0 : decode cX6_in 0 = .ok (.iload_n 0, 1) := by decide +kernel
theorem dX6_in_1 : decode cX6_in 1 = .ok (.iload_n 1, 1) := by decide +kernel
theorem dX6_in_2 : decode cX6_in 2 = .ok (.if_icmp .lt 12, 3) := by decide +kernel
theorem dX6_in_5 : decode cX6_in 5 = .ok (.iload_n 0, 1) := by decide +kernel
theorem dX6_in_6 : decode cX6_in 6 = .ok (.iload_n 2, 1) := by decide +kernel
theorem dX6_in_7 : decode cX6_in 7 = .ok (.if_icmp .gt 7, 3) := by decide +kernel
theorem dX6_in_10 : decode cX6_in 10 = .ok (.iconst 1, 1) := by decide +kernel
theorem dX6_in_11 : decode cX6_in 11 = .ok (.goto 4, 3) := by decide +kernel
theorem dX6_in_14 : decode cX6_in 14 = .ok (.iconst 0, 1) := by decide +kernel
theorem dX6_in_15 : decode cX6_in 15 = .ok (.ireturn, 1) := by decide +kernel
theorem dX6_meets_0 : decode cX6_meets 0 = .ok (.aload_n 0, 1) := by decide +kernel
theorem dX6_meets_1 : decode cX6_meets 1 = .ok (.iload_n 1, 1) := by decide +kernel
theorem dX6_meets_2 : decode cX6_meets 2 = .ok (.putfield 81, 3) := by decide +kernel
theorem dX6_meets_5 : decode cX6_meets 5 = .ok (.aload_n 0, 1) := by decide +kernel
theorem dX6_meets_6 : decode cX6_meets 6 = .ok (.getfield 7, 3) := by decide +kernel
theorem dX6_meets_9 : decode cX6_meets 9 = .ok (.iload_n 1, 1) := by decide +kernel
theorem dX6_meets_10 : decode cX6_meets 10 = .ok (.dup2, 1) := by decide +kernel
theorem dX6_meets_11 : decode cX6_meets 11 = .ok (.iaload, 1) := by decide +kernel
theorem dX6_meets_12 : decode cX6_meets 12 = .ok (.iconst 1, 1) := by decide +kernel
theorem dX6_meets_13 : decode cX6_meets 13 = .ok (.iadd, 1) := by decide +kernel
theorem dX6_meets_14 : decode cX6_meets 14 = .ok (.iastore, 1) := by decide +kernel
theorem dX6_meets_15 : decode cX6_meets 15 = .ok (.bipush (-3), 2) := by decide +kernel
theorem dX6_meets_17 : decode cX6_meets 17 = .ok (.ireturn, 1) := by decide +kernel
theorem dX6_finding_0 : decode cX6_finding 0 = .ok (.aload_n 0, 1) := by decide +kernel
theorem dX6_finding_1 : decode cX6_finding 1 = .ok (.getfield 81, 3) := by decide +kernel
theorem dX6_finding_4 : decode cX6_finding 4 = .ok (.ireturn, 1) := by decide +kernel
theorem dX6_findings_0 : decode cX6_findings 0 = .ok (.iload_n 1, 1) := by decide +kernel
theorem dX6_findings_1 : decode cX6_findings 1 = .ok (.iconst 1, 1) := by decide +kernel
theorem dX6_findings_2 : decode cX6_findings 2 = .ok (.iconst 5, 1) := by decide +kernel
theorem dX6_findings_3 : decode cX6_findings 3 = .ok (.invokestatic 84, 3) := by decide +kernel
theorem dX6_findings_6 : decode cX6_findings 6 = .ok (.ifCond .eq 12, 3) := by decide +kernel
theorem dX6_findings_9 : decode cX6_findings 9 = .ok (.aload_n 0, 1) := by decide +kernel
theorem dX6_findings_10 : decode cX6_findings 10 = .ok (.getfield 7, 3) := by decide +kernel
theorem dX6_findings_13 : decode cX6_findings 13 = .ok (.iload_n 1, 1) := by decide +kernel
theorem dX6_findings_14 : decode cX6_findings 14 = .ok (.iaload, 1) := by decide +kernel
theorem dX6_findings_15 : decode cX6_findings 15 = .ok (.goto 4, 3) := by decide +kernel
theorem dX6_findings_18 : decode cX6_findings 18 = .ok (.iconst (-1), 1) := by decide +kernel
theorem dX6_findings_19 : decode cX6_findings 19 = .ok (.ireturn, 1) := by decide +kernel
theorem dX6_asked_0 : decode cX6_asked 0 = .ok (.aload_n 0, 1) := by decide +kernel
theorem dX6_asked_1 : decode cX6_asked 1 = .ok (.getfield 88, 3) := by decide +kernel
theorem dX6_asked_4 : decode cX6_asked 4 = .ok (.lreturn, 1) := by decide +kernel
theorem dX6_builds_0 : decode cX6_builds 0 = .ok (.iload_n 1, 1) := by decide +kernel
theorem dX6_builds_1 : decode cX6_builds 1 = .ok (.aload_n 0, 1) := by decide +kernel
theorem dX6_builds_2 : decode cX6_builds 2 = .ok (.getfield 91, 3) := by decide +kernel
theorem dX6_builds_5 : decode cX6_builds 5 = .ok (.bipush 40, 2) := by decide +kernel
theorem dX6_builds_7 : decode cX6_builds 7 = .ok (.invokestatic 84, 3) := by decide +kernel
theorem dX6_builds_10 : decode cX6_builds 10 = .ok (.ifCond .ne 5, 3) := by decide +kernel
theorem dX6_builds_13 : decode cX6_builds 13 = .ok (.iconst (-1), 1) := by decide +kernel
theorem dX6_builds_14 : decode cX6_builds 14 = .ok (.ireturn, 1) := by decide +kernel
theorem dX6_builds_15 : decode cX6_builds 15 = .ok (.aload_n 0, 1) := by decide +kernel
theorem dX6_builds_16 : decode cX6_builds 16 = .ok (.iload_n 1, 1) := by decide +kernel
theorem dX6_builds_17 : decode cX6_builds 17 = .ok (.putfield 91, 3) := by decide +kernel
theorem dX6_builds_20 : decode cX6_builds 20 = .ok (.iload_n 1, 1) := by decide +kernel
theorem dX6_builds_21 : decode cX6_builds 21 = .ok (.ireturn, 1) := by decide +kernel
theorem dX6_isTest_0 : decode cX6_isTest 0 = .ok (.iload_n 1, 1) := by decide +kernel
theorem dX6_isTest_1 : decode cX6_isTest 1 = .ok (.iconst 0, 1) := by decide +kernel
theorem dX6_isTest_2 : decode cX6_isTest 2 = .ok (.aload_n 0, 1) := by decide +kernel
theorem dX6_isTest_3 : decode cX6_isTest 3 = .ok (.getfield 94, 3) := by decide +kernel
theorem dX6_isTest_6 : decode cX6_isTest 6 = .ok (.iconst 1, 1) := by decide +kernel
theorem dX6_isTest_7 : decode cX6_isTest 7 = .ok (.isub, 1) := by decide +kernel
theorem dX6_isTest_8 : decode cX6_isTest 8 = .ok (.invokestatic 84, 3) := by decide +kernel
theorem dX6_isTest_11 : decode cX6_isTest 11 = .ok (.ireturn, 1) := by decide +kernel
theorem dX6_isRow_0 : decode cX6_isRow 0 = .ok (.aload_n 0, 1) := by decide +kernel
theorem dX6_isRow_1 : decode cX6_isRow 1 = .ok (.iload_n 1, 1) := by decide +kernel
theorem dX6_isRow_2 : decode cX6_isRow 2 = .ok (.invokevirtual 97, 3) := by decide +kernel
theorem dX6_isRow_5 : decode cX6_isRow 5 = .ok (.ifCond .eq 16, 3) := by decide +kernel
theorem dX6_isRow_8 : decode cX6_isRow 8 = .ok (.iload_n 2, 1) := by decide +kernel
theorem dX6_isRow_9 : decode cX6_isRow 9 = .ok (.iconst 0, 1) := by decide +kernel
theorem dX6_isRow_10 : decode cX6_isRow 10 = .ok (.iconst 3, 1) := by decide +kernel
theorem dX6_isRow_11 : decode cX6_isRow 11 = .ok (.invokestatic 84, 3) := by decide +kernel
theorem dX6_isRow_14 : decode cX6_isRow 14 = .ok (.ifCond .eq 7, 3) := by decide +kernel
theorem dX6_isRow_17 : decode cX6_isRow 17 = .ok (.iconst 1, 1) := by decide +kernel
theorem dX6_isRow_18 : decode cX6_isRow 18 = .ok (.goto 4, 3) := by decide +kernel
theorem dX6_isRow_21 : decode cX6_isRow 21 = .ok (.iconst 0, 1) := by decide +kernel
theorem dX6_isRow_22 : decode cX6_isRow 22 = .ok (.ireturn, 1) := by decide +kernel
theorem dX6_test_0 : decode cX6_test 0 = .ok (.iload_n 1, 1) := by decide +kernel
theorem dX6_test_1 : decode cX6_test 1 = .ok (.iconst 0, 1) := by decide +kernel
theorem dX6_test_2 : decode cX6_test 2 = .ok (.iconst 2, 1) := by decide +kernel
theorem dX6_test_3 : decode cX6_test 3 = .ok (.invokestatic 84, 3) := by decide +kernel
theorem dX6_test_6 : decode cX6_test 6 = .ok (.ifCond .ne 5, 3) := by decide +kernel
theorem dX6_test_9 : decode cX6_test 9 = .ok (.iconst (-1), 1) := by decide +kernel
theorem dX6_test_10 : decode cX6_test 10 = .ok (.ireturn, 1) := by decide +kernel
theorem dX6_test_11 : decode cX6_test 11 = .ok (.aload_n 0, 1) := by decide +kernel
theorem dX6_test_12 : decode cX6_test 12 = .ok (.getfield 94, 3) := by decide +kernel
theorem dX6_test_15 : decode cX6_test 15 = .ok (.bipush 8, 2) := by decide +kernel
theorem dX6_test_17 : decode cX6_test 17 = .ok (.if_icmp .ne 6, 3) := by decide +kernel
theorem dX6_test_20 : decode cX6_test 20 = .ok (.bipush (-2), 2) := by decide +kernel
theorem dX6_test_22 : decode cX6_test 22 = .ok (.ireturn, 1) := by decide +kernel
theorem dX6_test_23 : decode cX6_test 23 = .ok (.aload_n 0, 1) := by decide +kernel
theorem dX6_test_24 : decode cX6_test 24 = .ok (.getfield 13, 3) := by decide +kernel
theorem dX6_test_27 : decode cX6_test 27 = .ok (.aload_n 0, 1) := by decide +kernel
theorem dX6_test_28 : decode cX6_test 28 = .ok (.getfield 94, 3) := by decide +kernel
theorem dX6_test_31 : decode cX6_test 31 = .ok (.iload_n 1, 1) := by decide +kernel
theorem dX6_test_32 : decode cX6_test 32 = .ok (.iastore, 1) := by decide +kernel
theorem dX6_test_33 : decode cX6_test 33 = .ok (.aload_n 0, 1) := by decide +kernel
theorem dX6_test_34 : decode cX6_test 34 = .ok (.dup, 1) := by decide +kernel
theorem dX6_test_35 : decode cX6_test 35 = .ok (.getfield 94, 3) := by decide +kernel
theorem dX6_test_38 : decode cX6_test 38 = .ok (.iconst 1, 1) := by decide +kernel
theorem dX6_test_39 : decode cX6_test 39 = .ok (.iadd, 1) := by decide +kernel
theorem dX6_test_40 : decode cX6_test 40 = .ok (.putfield 94, 3) := by decide +kernel
theorem dX6_test_43 : decode cX6_test 43 = .ok (.aload_n 0, 1) := by decide +kernel
theorem dX6_test_44 : decode cX6_test 44 = .ok (.getfield 94, 3) := by decide +kernel
theorem dX6_test_47 : decode cX6_test 47 = .ok (.iconst 1, 1) := by decide +kernel
theorem dX6_test_48 : decode cX6_test 48 = .ok (.isub, 1) := by decide +kernel
theorem dX6_test_49 : decode cX6_test 49 = .ok (.ireturn, 1) := by decide +kernel
theorem dX6_is_0 : decode cX6_is 0 = .ok (.aload_n 0, 1) := by decide +kernel
theorem dX6_is_1 : decode cX6_is 1 = .ok (.iload_n 1, 1) := by decide +kernel
theorem dX6_is_2 : decode cX6_is 2 = .ok (.invokevirtual 97, 3) := by decide +kernel
theorem dX6_is_5 : decode cX6_is 5 = .ok (.ifCond .eq 12, 3) := by decide +kernel
theorem dX6_is_8 : decode cX6_is 8 = .ok (.iload_n 2, 1) := by decide +kernel
theorem dX6_is_9 : decode cX6_is 9 = .ok (.iconst 0, 1) := by decide +kernel
theorem dX6_is_10 : decode cX6_is 10 = .ok (.iconst 2, 1) := by decide +kernel
theorem dX6_is_11 : decode cX6_is 11 = .ok (.invokestatic 84, 3) := by decide +kernel
theorem dX6_is_14 : decode cX6_is 14 = .ok (.ifCond .ne 7, 3) := by decide +kernel
theorem dX6_is_17 : decode cX6_is 17 = .ok (.iconst (-1), 1) := by decide +kernel
theorem dX6_is_18 : decode cX6_is 18 = .ok (.goto 22, 3) := by decide +kernel
theorem dX6_is_21 : decode cX6_is 21 = .ok (.iload_n 2, 1) := by decide +kernel
theorem dX6_is_22 : decode cX6_is 22 = .ok (.ifCond .eq 13, 3) := by decide +kernel
theorem dX6_is_25 : decode cX6_is 25 = .ok (.aload_n 0, 1) := by decide +kernel
theorem dX6_is_26 : decode cX6_is 26 = .ok (.getfield 13, 3) := by decide +kernel
theorem dX6_is_29 : decode cX6_is 29 = .ok (.iload_n 1, 1) := by decide +kernel
theorem dX6_is_30 : decode cX6_is 30 = .ok (.iaload, 1) := by decide +kernel
theorem dX6_is_31 : decode cX6_is 31 = .ok (.iload_n 2, 1) := by decide +kernel
theorem dX6_is_32 : decode cX6_is 32 = .ok (.if_icmp .ne 7, 3) := by decide +kernel
theorem dX6_is_35 : decode cX6_is 35 = .ok (.iconst 1, 1) := by decide +kernel
theorem dX6_is_36 : decode cX6_is 36 = .ok (.goto 4, 3) := by decide +kernel
theorem dX6_is_39 : decode cX6_is 39 = .ok (.iconst 0, 1) := by decide +kernel
theorem dX6_is_40 : decode cX6_is 40 = .ok (.ireturn, 1) := by decide +kernel
theorem dX6_row_0 : decode cX6_row 0 = .ok (.aload_n 0, 1) := by decide +kernel
theorem dX6_row_1 : decode cX6_row 1 = .ok (.iload_n 1, 1) := by decide +kernel
theorem dX6_row_2 : decode cX6_row 2 = .ok (.iload_n 2, 1) := by decide +kernel
theorem dX6_row_3 : decode cX6_row 3 = .ok (.invokevirtual 101, 3) := by decide +kernel
theorem dX6_row_6 : decode cX6_row 6 = .ok (.ifCond .ne 5, 3) := by decide +kernel
theorem dX6_row_9 : decode cX6_row 9 = .ok (.iconst (-1), 1) := by decide +kernel
theorem dX6_row_10 : decode cX6_row 10 = .ok (.ireturn, 1) := by decide +kernel
theorem dX6_row_11 : decode cX6_row 11 = .ok (.iconst 4, 1) := by decide +kernel
theorem dX6_row_12 : decode cX6_row 12 = .ok (.iload_n 1, 1) := by decide +kernel
theorem dX6_row_13 : decode cX6_row 13 = .ok (.imul, 1) := by decide +kernel
theorem dX6_row_14 : decode cX6_row 14 = .ok (.iload_n 2, 1) := by decide +kernel
theorem dX6_row_15 : decode cX6_row 15 = .ok (.iadd, 1) := by decide +kernel
theorem dX6_row_16 : decode cX6_row 16 = .ok (.istore_n 3, 1) := by decide +kernel
theorem dX6_row_17 : decode cX6_row 17 = .ok (.aload_n 0, 1) := by decide +kernel
theorem dX6_row_18 : decode cX6_row 18 = .ok (.getfield 16, 3) := by decide +kernel
theorem dX6_row_21 : decode cX6_row 21 = .ok (.iload_n 3, 1) := by decide +kernel
theorem dX6_row_22 : decode cX6_row 22 = .ok (.baload, 1) := by decide +kernel
theorem dX6_row_23 : decode cX6_row 23 = .ok (.ifCond .eq 7, 3) := by decide +kernel
theorem dX6_row_26 : decode cX6_row 26 = .ok (.iconst 1, 1) := by decide +kernel
theorem dX6_row_27 : decode cX6_row 27 = .ok (.goto 4, 3) := by decide +kernel
theorem dX6_row_30 : decode cX6_row 30 = .ok (.iconst 0, 1) := by decide +kernel
theorem dX6_row_31 : decode cX6_row 31 = .ok (.istore 4, 2) := by decide +kernel
theorem dX6_row_33 : decode cX6_row 33 = .ok (.aload_n 0, 1) := by decide +kernel
theorem dX6_row_34 : decode cX6_row 34 = .ok (.getfield 16, 3) := by decide +kernel
theorem dX6_row_37 : decode cX6_row 37 = .ok (.iload_n 3, 1) := by decide +kernel
theorem dX6_row_38 : decode cX6_row 38 = .ok (.iconst 1, 1) := by decide +kernel
theorem dX6_row_39 : decode cX6_row 39 = .ok (.bastore, 1) := by decide +kernel
theorem dX6_row_40 : decode cX6_row 40 = .ok (.iconst 0, 1) := by decide +kernel
theorem dX6_row_41 : decode cX6_row 41 = .ok (.istore 5, 2) := by decide +kernel
theorem dX6_row_43 : decode cX6_row 43 = .ok (.iload 5, 2) := by decide +kernel
theorem dX6_row_45 : decode cX6_row 45 = .ok (.bipush 40, 2) := by decide +kernel
theorem dX6_row_47 : decode cX6_row 47 = .ok (.if_icmp .ge 23, 3) := by decide +kernel
theorem dX6_row_50 : decode cX6_row 50 = .ok (.aload_n 0, 1) := by decide +kernel
theorem dX6_row_51 : decode cX6_row 51 = .ok (.getfield 20, 3) := by decide +kernel
theorem dX6_row_54 : decode cX6_row 54 = .ok (.bipush 40, 2) := by decide +kernel
theorem dX6_row_56 : decode cX6_row 56 = .ok (.iload_n 3, 1) := by decide +kernel
theorem dX6_row_57 : decode cX6_row 57 = .ok (.imul, 1) := by decide +kernel
theorem dX6_row_58 : decode cX6_row 58 = .ok (.iload 5, 2) := by decide +kernel
theorem dX6_row_60 : decode cX6_row 60 = .ok (.iadd, 1) := by decide +kernel
theorem dX6_row_61 : decode cX6_row 61 = .ok (.bipush (-9), 2) := by decide +kernel
theorem dX6_row_63 : decode cX6_row 63 = .ok (.iastore, 1) := by decide +kernel
theorem dX6_row_64 : decode cX6_row 64 = .ok (.iinc 5 1, 3) := by decide +kernel
theorem dX6_row_67 : decode cX6_row 67 = .ok (.goto (-24), 3) := by decide +kernel
theorem dX6_row_70 : decode cX6_row 70 = .ok (.iload 4, 2) := by decide +kernel
theorem dX6_row_72 : decode cX6_row 72 = .ok (.ireturn, 1) := by decide +kernel
theorem dX6_lay_0 : decode cX6_lay 0 = .ok (.aload_n 0, 1) := by decide +kernel
theorem dX6_lay_1 : decode cX6_lay 1 = .ok (.iload_n 1, 1) := by decide +kernel
theorem dX6_lay_2 : decode cX6_lay 2 = .ok (.iload_n 2, 1) := by decide +kernel
theorem dX6_lay_3 : decode cX6_lay 3 = .ok (.invokevirtual 101, 3) := by decide +kernel
theorem dX6_lay_6 : decode cX6_lay 6 = .ok (.ifCond .eq 21, 3) := by decide +kernel
theorem dX6_lay_9 : decode cX6_lay 9 = .ok (.iload 4, 2) := by decide +kernel
theorem dX6_lay_11 : decode cX6_lay 11 = .ok (.bipush (-9), 2) := by decide +kernel
theorem dX6_lay_13 : decode cX6_lay 13 = .ok (.if_icmp .eq 16, 3) := by decide +kernel
theorem dX6_lay_16 : decode cX6_lay 16 = .ok (.iload 4, 2) := by decide +kernel
theorem dX6_lay_18 : decode cX6_lay 18 = .ok (.iconst 0, 1) := by decide +kernel
theorem dX6_lay_19 : decode cX6_lay 19 = .ok (.ldc 105, 2) := by decide +kernel
theorem dX6_lay_21 : decode cX6_lay 21 = .ok (.invokestatic 84, 3) := by decide +kernel
theorem dX6_lay_24 : decode cX6_lay 24 = .ok (.ifCond .ne 5, 3) := by decide +kernel
theorem dX6_lay_27 : decode cX6_lay 27 = .ok (.iconst (-1), 1) := by decide +kernel
theorem dX6_lay_28 : decode cX6_lay 28 = .ok (.ireturn, 1) := by decide +kernel
theorem dX6_lay_29 : decode cX6_lay 29 = .ok (.iconst 4, 1) := by decide +kernel
theorem dX6_lay_30 : decode cX6_lay 30 = .ok (.iload_n 1, 1) := by decide +kernel
theorem dX6_lay_31 : decode cX6_lay 31 = .ok (.imul, 1) := by decide +kernel
theorem dX6_lay_32 : decode cX6_lay 32 = .ok (.iload_n 2, 1) := by decide +kernel
theorem dX6_lay_33 : decode cX6_lay 33 = .ok (.iadd, 1) := by decide +kernel
theorem dX6_lay_34 : decode cX6_lay 34 = .ok (.istore 5, 2) := by decide +kernel
theorem dX6_lay_36 : decode cX6_lay 36 = .ok (.aload_n 0, 1) := by decide +kernel
theorem dX6_lay_37 : decode cX6_lay 37 = .ok (.getfield 16, 3) := by decide +kernel
theorem dX6_lay_40 : decode cX6_lay 40 = .ok (.iload 5, 2) := by decide +kernel
theorem dX6_lay_42 : decode cX6_lay 42 = .ok (.baload, 1) := by decide +kernel
theorem dX6_lay_43 : decode cX6_lay 43 = .ok (.ifCond .ne 9, 3) := by decide +kernel
theorem dX6_lay_46 : decode cX6_lay 46 = .ok (.aload_n 0, 1) := by decide +kernel
theorem dX6_lay_47 : decode cX6_lay 47 = .ok (.iconst 1, 1) := by decide +kernel
theorem dX6_lay_48 : decode cX6_lay 48 = .ok (.invokevirtual 106, 3) := by decide +kernel
theorem dX6_lay_51 : decode cX6_lay 51 = .ok (.ireturn, 1) := by decide +kernel
theorem dX6_lay_52 : decode cX6_lay 52 = .ok (.iload_n 3, 1) := by decide +kernel
theorem dX6_lay_53 : decode cX6_lay 53 = .ok (.iconst 0, 1) := by decide +kernel
theorem dX6_lay_54 : decode cX6_lay 54 = .ok (.bipush 39, 2) := by decide +kernel
theorem dX6_lay_56 : decode cX6_lay 56 = .ok (.invokestatic 84, 3) := by decide +kernel
theorem dX6_lay_59 : decode cX6_lay 59 = .ok (.ifCond .ne 9, 3) := by decide +kernel
theorem dX6_lay_62 : decode cX6_lay 62 = .ok (.aload_n 0, 1) := by decide +kernel
theorem dX6_lay_63 : decode cX6_lay 63 = .ok (.iconst 2, 1) := by decide +kernel
theorem dX6_lay_64 : decode cX6_lay 64 = .ok (.invokevirtual 106, 3) := by decide +kernel
theorem dX6_lay_67 : decode cX6_lay 67 = .ok (.ireturn, 1) := by decide +kernel
theorem dX6_lay_68 : decode cX6_lay 68 = .ok (.aload_n 0, 1) := by decide +kernel
theorem dX6_lay_69 : decode cX6_lay 69 = .ok (.getfield 20, 3) := by decide +kernel
theorem dX6_lay_72 : decode cX6_lay 72 = .ok (.bipush 40, 2) := by decide +kernel
theorem dX6_lay_74 : decode cX6_lay 74 = .ok (.iload 5, 2) := by decide +kernel
theorem dX6_lay_76 : decode cX6_lay 76 = .ok (.imul, 1) := by decide +kernel
theorem dX6_lay_77 : decode cX6_lay 77 = .ok (.iload_n 3, 1) := by decide +kernel
theorem dX6_lay_78 : decode cX6_lay 78 = .ok (.iadd, 1) := by decide +kernel
theorem dX6_lay_79 : decode cX6_lay 79 = .ok (.iaload, 1) := by decide +kernel
theorem dX6_lay_80 : decode cX6_lay 80 = .ok (.istore 6, 2) := by decide +kernel
theorem dX6_lay_82 : decode cX6_lay 82 = .ok (.aload_n 0, 1) := by decide +kernel
theorem dX6_lay_83 : decode cX6_lay 83 = .ok (.getfield 20, 3) := by decide +kernel
theorem dX6_lay_86 : decode cX6_lay 86 = .ok (.bipush 40, 2) := by decide +kernel
theorem dX6_lay_88 : decode cX6_lay 88 = .ok (.iload 5, 2) := by decide +kernel
theorem dX6_lay_90 : decode cX6_lay 90 = .ok (.imul, 1) := by decide +kernel
theorem dX6_lay_91 : decode cX6_lay 91 = .ok (.iload_n 3, 1) := by decide +kernel
theorem dX6_lay_92 : decode cX6_lay 92 = .ok (.iadd, 1) := by decide +kernel
theorem dX6_lay_93 : decode cX6_lay 93 = .ok (.iload 4, 2) := by decide +kernel
theorem dX6_lay_95 : decode cX6_lay 95 = .ok (.iastore, 1) := by decide +kernel
theorem dX6_lay_96 : decode cX6_lay 96 = .ok (.iload 6, 2) := by decide +kernel
theorem dX6_lay_98 : decode cX6_lay 98 = .ok (.ireturn, 1) := by decide +kernel
theorem dX6_at_0 : decode cX6_at 0 = .ok (.aload_n 0, 1) := by decide +kernel
theorem dX6_at_1 : decode cX6_at 1 = .ok (.iload_n 1, 1) := by decide +kernel
theorem dX6_at_2 : decode cX6_at 2 = .ok (.iload_n 2, 1) := by decide +kernel
theorem dX6_at_3 : decode cX6_at 3 = .ok (.invokevirtual 101, 3) := by decide +kernel
theorem dX6_at_6 : decode cX6_at 6 = .ok (.ifCond .ne 5, 3) := by decide +kernel
theorem dX6_at_9 : decode cX6_at 9 = .ok (.iconst (-1), 1) := by decide +kernel
theorem dX6_at_10 : decode cX6_at 10 = .ok (.ireturn, 1) := by decide +kernel
theorem dX6_at_11 : decode cX6_at 11 = .ok (.iconst 4, 1) := by decide +kernel
theorem dX6_at_12 : decode cX6_at 12 = .ok (.iload_n 1, 1) := by decide +kernel
theorem dX6_at_13 : decode cX6_at 13 = .ok (.imul, 1) := by decide +kernel
theorem dX6_at_14 : decode cX6_at 14 = .ok (.iload_n 2, 1) := by decide +kernel
theorem dX6_at_15 : decode cX6_at 15 = .ok (.iadd, 1) := by decide +kernel
theorem dX6_at_16 : decode cX6_at 16 = .ok (.istore 4, 2) := by decide +kernel
theorem dX6_at_18 : decode cX6_at 18 = .ok (.aload_n 0, 1) := by decide +kernel
theorem dX6_at_19 : decode cX6_at 19 = .ok (.getfield 16, 3) := by decide +kernel
theorem dX6_at_22 : decode cX6_at 22 = .ok (.iload 4, 2) := by decide +kernel
theorem dX6_at_24 : decode cX6_at 24 = .ok (.baload, 1) := by decide +kernel
theorem dX6_at_25 : decode cX6_at 25 = .ok (.ifCond .ne 9, 3) := by decide +kernel
theorem dX6_at_28 : decode cX6_at 28 = .ok (.aload_n 0, 1) := by decide +kernel
theorem dX6_at_29 : decode cX6_at 29 = .ok (.iconst 1, 1) := by decide +kernel
theorem dX6_at_30 : decode cX6_at 30 = .ok (.invokevirtual 106, 3) := by decide +kernel
theorem dX6_at_33 : decode cX6_at 33 = .ok (.ireturn, 1) := by decide +kernel
theorem dX6_at_34 : decode cX6_at 34 = .ok (.iload_n 3, 1) := by decide +kernel
theorem dX6_at_35 : decode cX6_at 35 = .ok (.iconst 0, 1) := by decide +kernel
theorem dX6_at_36 : decode cX6_at 36 = .ok (.bipush 39, 2) := by decide +kernel
theorem dX6_at_38 : decode cX6_at 38 = .ok (.invokestatic 84, 3) := by decide +kernel
theorem dX6_at_41 : decode cX6_at 41 = .ok (.ifCond .eq 18, 3) := by decide +kernel
theorem dX6_at_44 : decode cX6_at 44 = .ok (.aload_n 0, 1) := by decide +kernel
theorem dX6_at_45 : decode cX6_at 45 = .ok (.getfield 20, 3) := by decide +kernel
theorem dX6_at_48 : decode cX6_at 48 = .ok (.bipush 40, 2) := by decide +kernel
theorem dX6_at_50 : decode cX6_at 50 = .ok (.iload 4, 2) := by decide +kernel
theorem dX6_at_52 : decode cX6_at 52 = .ok (.imul, 1) := by decide +kernel
theorem dX6_at_53 : decode cX6_at 53 = .ok (.iload_n 3, 1) := by decide +kernel
theorem dX6_at_54 : decode cX6_at 54 = .ok (.iadd, 1) := by decide +kernel
theorem dX6_at_55 : decode cX6_at 55 = .ok (.iaload, 1) := by decide +kernel
theorem dX6_at_56 : decode cX6_at 56 = .ok (.goto 8, 3) := by decide +kernel
theorem dX6_at_59 : decode cX6_at 59 = .ok (.aload_n 0, 1) := by decide +kernel
theorem dX6_at_60 : decode cX6_at 60 = .ok (.iconst 2, 1) := by decide +kernel
theorem dX6_at_61 : decode cX6_at 61 = .ok (.invokevirtual 106, 3) := by decide +kernel
theorem dX6_at_64 : decode cX6_at 64 = .ok (.ireturn, 1) := by decide +kernel
theorem dX6_tear_0 : decode cX6_tear 0 = .ok (.aload_n 0, 1) := by decide +kernel
theorem dX6_tear_1 : decode cX6_tear 1 = .ok (.iload_n 1, 1) := by decide +kernel
theorem dX6_tear_2 : decode cX6_tear 2 = .ok (.iload_n 2, 1) := by decide +kernel
theorem dX6_tear_3 : decode cX6_tear 3 = .ok (.invokevirtual 101, 3) := by decide +kernel
theorem dX6_tear_6 : decode cX6_tear 6 = .ok (.ifCond .ne 5, 3) := by decide +kernel
theorem dX6_tear_9 : decode cX6_tear 9 = .ok (.iconst (-1), 1) := by decide +kernel
theorem dX6_tear_10 : decode cX6_tear 10 = .ok (.ireturn, 1) := by decide +kernel
theorem dX6_tear_11 : decode cX6_tear 11 = .ok (.aload_n 0, 1) := by decide +kernel
theorem dX6_tear_12 : decode cX6_tear 12 = .ok (.getfield 16, 3) := by decide +kernel
theorem dX6_tear_15 : decode cX6_tear 15 = .ok (.iconst 4, 1) := by decide +kernel
theorem dX6_tear_16 : decode cX6_tear 16 = .ok (.iload_n 1, 1) := by decide +kernel
theorem dX6_tear_17 : decode cX6_tear 17 = .ok (.imul, 1) := by decide +kernel
theorem dX6_tear_18 : decode cX6_tear 18 = .ok (.iload_n 2, 1) := by decide +kernel
theorem dX6_tear_19 : decode cX6_tear 19 = .ok (.iadd, 1) := by decide +kernel
theorem dX6_tear_20 : decode cX6_tear 20 = .ok (.baload, 1) := by decide +kernel
theorem dX6_tear_21 : decode cX6_tear 21 = .ok (.ifCond .ne 9, 3) := by decide +kernel
theorem dX6_tear_24 : decode cX6_tear 24 = .ok (.aload_n 0, 1) := by decide +kernel
theorem dX6_tear_25 : decode cX6_tear 25 = .ok (.iconst 1, 1) := by decide +kernel
theorem dX6_tear_26 : decode cX6_tear 26 = .ok (.invokevirtual 106, 3) := by decide +kernel
theorem dX6_tear_29 : decode cX6_tear 29 = .ok (.ireturn, 1) := by decide +kernel
theorem dX6_tear_30 : decode cX6_tear 30 = .ok (.aload_n 0, 1) := by decide +kernel
theorem dX6_tear_31 : decode cX6_tear 31 = .ok (.getfield 16, 3) := by decide +kernel
theorem dX6_tear_34 : decode cX6_tear 34 = .ok (.iconst 4, 1) := by decide +kernel
theorem dX6_tear_35 : decode cX6_tear 35 = .ok (.iload_n 1, 1) := by decide +kernel
theorem dX6_tear_36 : decode cX6_tear 36 = .ok (.imul, 1) := by decide +kernel
theorem dX6_tear_37 : decode cX6_tear 37 = .ok (.iload_n 2, 1) := by decide +kernel
theorem dX6_tear_38 : decode cX6_tear 38 = .ok (.iadd, 1) := by decide +kernel
theorem dX6_tear_39 : decode cX6_tear 39 = .ok (.iconst 0, 1) := by decide +kernel
theorem dX6_tear_40 : decode cX6_tear 40 = .ok (.bastore, 1) := by decide +kernel
theorem dX6_tear_41 : decode cX6_tear 41 = .ok (.iconst 1, 1) := by decide +kernel
theorem dX6_tear_42 : decode cX6_tear 42 = .ok (.ireturn, 1) := by decide +kernel
theorem dX6_copy_0 : decode cX6_copy 0 = .ok (.aload_n 0, 1) := by decide +kernel
theorem dX6_copy_1 : decode cX6_copy 1 = .ok (.iload_n 1, 1) := by decide +kernel
theorem dX6_copy_2 : decode cX6_copy 2 = .ok (.iload_n 2, 1) := by decide +kernel
theorem dX6_copy_3 : decode cX6_copy 3 = .ok (.invokevirtual 101, 3) := by decide +kernel
theorem dX6_copy_6 : decode cX6_copy 6 = .ok (.ifCond .eq 13, 3) := by decide +kernel
theorem dX6_copy_9 : decode cX6_copy 9 = .ok (.aload_n 0, 1) := by decide +kernel
theorem dX6_copy_10 : decode cX6_copy 10 = .ok (.iload_n 1, 1) := by decide +kernel
theorem dX6_copy_11 : decode cX6_copy 11 = .ok (.iload 4, 2) := by decide +kernel
theorem dX6_copy_13 : decode cX6_copy 13 = .ok (.invokevirtual 101, 3) := by decide +kernel
theorem dX6_copy_16 : decode cX6_copy 16 = .ok (.ifCond .ne 5, 3) := by decide +kernel
theorem dX6_copy_19 : decode cX6_copy 19 = .ok (.iconst (-1), 1) := by decide +kernel
theorem dX6_copy_20 : decode cX6_copy 20 = .ok (.ireturn, 1) := by decide +kernel
theorem dX6_copy_21 : decode cX6_copy 21 = .ok (.iload 6, 2) := by decide +kernel
theorem dX6_copy_23 : decode cX6_copy 23 = .ok (.ifCond .ge 9, 3) := by decide +kernel
theorem dX6_copy_26 : decode cX6_copy 26 = .ok (.aload_n 0, 1) := by decide +kernel
theorem dX6_copy_27 : decode cX6_copy 27 = .ok (.iconst 5, 1) := by decide +kernel
theorem dX6_copy_28 : decode cX6_copy 28 = .ok (.invokevirtual 106, 3) := by decide +kernel
theorem dX6_copy_31 : decode cX6_copy 31 = .ok (.ireturn, 1) := by decide +kernel
theorem dX6_copy_32 : decode cX6_copy 32 = .ok (.iconst 4, 1) := by decide +kernel
theorem dX6_copy_33 : decode cX6_copy 33 = .ok (.iload_n 1, 1) := by decide +kernel
theorem dX6_copy_34 : decode cX6_copy 34 = .ok (.imul, 1) := by decide +kernel
theorem dX6_copy_35 : decode cX6_copy 35 = .ok (.iload_n 2, 1) := by decide +kernel
theorem dX6_copy_36 : decode cX6_copy 36 = .ok (.iadd, 1) := by decide +kernel
theorem dX6_copy_37 : decode cX6_copy 37 = .ok (.istore 7, 2) := by decide +kernel
theorem dX6_copy_39 : decode cX6_copy 39 = .ok (.iconst 4, 1) := by decide +kernel
theorem dX6_copy_40 : decode cX6_copy 40 = .ok (.iload_n 1, 1) := by decide +kernel
theorem dX6_copy_41 : decode cX6_copy 41 = .ok (.imul, 1) := by decide +kernel
theorem dX6_copy_42 : decode cX6_copy 42 = .ok (.iload 4, 2) := by decide +kernel
theorem dX6_copy_44 : decode cX6_copy 44 = .ok (.iadd, 1) := by decide +kernel
theorem dX6_copy_45 : decode cX6_copy 45 = .ok (.istore 8, 2) := by decide +kernel
theorem dX6_copy_47 : decode cX6_copy 47 = .ok (.aload_n 0, 1) := by decide +kernel
theorem dX6_copy_48 : decode cX6_copy 48 = .ok (.getfield 16, 3) := by decide +kernel
theorem dX6_copy_51 : decode cX6_copy 51 = .ok (.iload 7, 2) := by decide +kernel
theorem dX6_copy_53 : decode cX6_copy 53 = .ok (.baload, 1) := by decide +kernel
theorem dX6_copy_54 : decode cX6_copy 54 = .ok (.ifCond .eq 13, 3) := by decide +kernel
theorem dX6_copy_57 : decode cX6_copy 57 = .ok (.aload_n 0, 1) := by decide +kernel
theorem dX6_copy_58 : decode cX6_copy 58 = .ok (.getfield 16, 3) := by decide +kernel
theorem dX6_copy_61 : decode cX6_copy 61 = .ok (.iload 8, 2) := by decide +kernel
theorem dX6_copy_63 : decode cX6_copy 63 = .ok (.baload, 1) := by decide +kernel
theorem dX6_copy_64 : decode cX6_copy 64 = .ok (.ifCond .ne 9, 3) := by decide +kernel
theorem dX6_copy_67 : decode cX6_copy 67 = .ok (.aload_n 0, 1) := by decide +kernel
theorem dX6_copy_68 : decode cX6_copy 68 = .ok (.iconst 1, 1) := by decide +kernel
theorem dX6_copy_69 : decode cX6_copy 69 = .ok (.invokevirtual 106, 3) := by decide +kernel
theorem dX6_copy_72 : decode cX6_copy 72 = .ok (.ireturn, 1) := by decide +kernel
theorem dX6_copy_73 : decode cX6_copy 73 = .ok (.iload_n 3, 1) := by decide +kernel
theorem dX6_copy_74 : decode cX6_copy 74 = .ok (.ifCond .lt 35, 3) := by decide +kernel
theorem dX6_copy_77 : decode cX6_copy 77 = .ok (.iload 5, 2) := by decide +kernel
theorem dX6_copy_79 : decode cX6_copy 79 = .ok (.ifCond .lt 30, 3) := by decide +kernel
theorem dX6_copy_82 : decode cX6_copy 82 = .ok (.iload_n 3, 1) := by decide +kernel
theorem dX6_copy_83 : decode cX6_copy 83 = .ok (.i2l, 1) := by decide +kernel
theorem dX6_copy_84 : decode cX6_copy 84 = .ok (.iload 6, 2) := by decide +kernel
theorem dX6_copy_86 : decode cX6_copy 86 = .ok (.i2l, 1) := by decide +kernel
theorem dX6_copy_87 : decode cX6_copy 87 = .ok (.ladd, 1) := by decide +kernel
theorem dX6_copy_88 : decode cX6_copy 88 = .ok (.ldc2_w 110, 3) := by decide +kernel
theorem dX6_copy_91 : decode cX6_copy 91 = .ok (.lcmp, 1) := by decide +kernel
theorem dX6_copy_92 : decode cX6_copy 92 = .ok (.ifCond .gt 17, 3) := by decide +kernel
theorem dX6_copy_95 : decode cX6_copy 95 = .ok (.iload 5, 2) := by decide +kernel
theorem dX6_copy_97 : decode cX6_copy 97 = .ok (.i2l, 1) := by decide +kernel
theorem dX6_copy_98 : decode cX6_copy 98 = .ok (.iload 6, 2) := by decide +kernel
theorem dX6_copy_100 : decode cX6_copy 100 = .ok (.i2l, 1) := by decide +kernel
theorem dX6_copy_101 : decode cX6_copy 101 = .ok (.ladd, 1) := by decide +kernel
theorem dX6_copy_102 : decode cX6_copy 102 = .ok (.ldc2_w 110, 3) := by decide +kernel
theorem dX6_copy_105 : decode cX6_copy 105 = .ok (.lcmp, 1) := by decide +kernel
theorem dX6_copy_106 : decode cX6_copy 106 = .ok (.ifCond .le 9, 3) := by decide +kernel
theorem dX6_copy_109 : decode cX6_copy 109 = .ok (.aload_n 0, 1) := by decide +kernel
theorem dX6_copy_110 : decode cX6_copy 110 = .ok (.iconst 2, 1) := by decide +kernel
theorem dX6_copy_111 : decode cX6_copy 111 = .ok (.invokevirtual 106, 3) := by decide +kernel
theorem dX6_copy_114 : decode cX6_copy 114 = .ok (.ireturn, 1) := by decide +kernel
theorem dX6_copy_115 : decode cX6_copy 115 = .ok (.iconst 0, 1) := by decide +kernel
theorem dX6_copy_116 : decode cX6_copy 116 = .ok (.istore 9, 2) := by decide +kernel
theorem dX6_copy_118 : decode cX6_copy 118 = .ok (.iload 9, 2) := by decide +kernel
theorem dX6_copy_120 : decode cX6_copy 120 = .ok (.iload 6, 2) := by decide +kernel
theorem dX6_copy_122 : decode cX6_copy 122 = .ok (.if_icmp .ge 31, 3) := by decide +kernel
theorem dX6_copy_125 : decode cX6_copy 125 = .ok (.aload_n 0, 1) := by decide +kernel
theorem dX6_copy_126 : decode cX6_copy 126 = .ok (.getfield 23, 3) := by decide +kernel
theorem dX6_copy_129 : decode cX6_copy 129 = .ok (.iload 9, 2) := by decide +kernel
theorem dX6_copy_131 : decode cX6_copy 131 = .ok (.aload_n 0, 1) := by decide +kernel
theorem dX6_copy_132 : decode cX6_copy 132 = .ok (.getfield 20, 3) := by decide +kernel
theorem dX6_copy_135 : decode cX6_copy 135 = .ok (.bipush 40, 2) := by decide +kernel
theorem dX6_copy_137 : decode cX6_copy 137 = .ok (.iload 7, 2) := by decide +kernel
theorem dX6_copy_139 : decode cX6_copy 139 = .ok (.imul, 1) := by decide +kernel
theorem dX6_copy_140 : decode cX6_copy 140 = .ok (.iload_n 3, 1) := by decide +kernel
theorem dX6_copy_141 : decode cX6_copy 141 = .ok (.iadd, 1) := by decide +kernel
theorem dX6_copy_142 : decode cX6_copy 142 = .ok (.iload 9, 2) := by decide +kernel
theorem dX6_copy_144 : decode cX6_copy 144 = .ok (.iadd, 1) := by decide +kernel
theorem dX6_copy_145 : decode cX6_copy 145 = .ok (.iaload, 1) := by decide +kernel
theorem dX6_copy_146 : decode cX6_copy 146 = .ok (.iastore, 1) := by decide +kernel
theorem dX6_copy_147 : decode cX6_copy 147 = .ok (.iinc 9 1, 3) := by decide +kernel
theorem dX6_copy_150 : decode cX6_copy 150 = .ok (.goto (-32), 3) := by decide +kernel
theorem dX6_copy_153 : decode cX6_copy 153 = .ok (.iconst 0, 1) := by decide +kernel
theorem dX6_copy_154 : decode cX6_copy 154 = .ok (.istore 9, 2) := by decide +kernel
theorem dX6_copy_156 : decode cX6_copy 156 = .ok (.iload 9, 2) := by decide +kernel
theorem dX6_copy_158 : decode cX6_copy 158 = .ok (.iload 6, 2) := by decide +kernel
theorem dX6_copy_160 : decode cX6_copy 160 = .ok (.if_icmp .ge 32, 3) := by decide +kernel
theorem dX6_copy_163 : decode cX6_copy 163 = .ok (.aload_n 0, 1) := by decide +kernel
theorem dX6_copy_164 : decode cX6_copy 164 = .ok (.getfield 20, 3) := by decide +kernel
theorem dX6_copy_167 : decode cX6_copy 167 = .ok (.bipush 40, 2) := by decide +kernel
theorem dX6_copy_169 : decode cX6_copy 169 = .ok (.iload 8, 2) := by decide +kernel
theorem dX6_copy_171 : decode cX6_copy 171 = .ok (.imul, 1) := by decide +kernel
theorem dX6_copy_172 : decode cX6_copy 172 = .ok (.iload 5, 2) := by decide +kernel
theorem dX6_copy_174 : decode cX6_copy 174 = .ok (.iadd, 1) := by decide +kernel
theorem dX6_copy_175 : decode cX6_copy 175 = .ok (.iload 9, 2) := by decide +kernel
theorem dX6_copy_177 : decode cX6_copy 177 = .ok (.iadd, 1) := by decide +kernel
theorem dX6_copy_178 : decode cX6_copy 178 = .ok (.aload_n 0, 1) := by decide +kernel
theorem dX6_copy_179 : decode cX6_copy 179 = .ok (.getfield 23, 3) := by decide +kernel
theorem dX6_copy_182 : decode cX6_copy 182 = .ok (.iload 9, 2) := by decide +kernel
theorem dX6_copy_184 : decode cX6_copy 184 = .ok (.iaload, 1) := by decide +kernel
theorem dX6_copy_185 : decode cX6_copy 185 = .ok (.iastore, 1) := by decide +kernel
theorem dX6_copy_186 : decode cX6_copy 186 = .ok (.iinc 9 1, 3) := by decide +kernel
theorem dX6_copy_189 : decode cX6_copy 189 = .ok (.goto (-33), 3) := by decide +kernel
theorem dX6_copy_192 : decode cX6_copy 192 = .ok (.iconst 1, 1) := by decide +kernel
theorem dX6_copy_193 : decode cX6_copy 193 = .ok (.ireturn, 1) := by decide +kernel
theorem dX6_layRow_0 : decode cX6_layRow 0 = .ok (.aload_n 0, 1) := by decide +kernel
theorem dX6_layRow_1 : decode cX6_layRow 1 = .ok (.iconst 0, 1) := by decide +kernel
theorem dX6_layRow_2 : decode cX6_layRow 2 = .ok (.putfield 112, 3) := by decide +kernel
theorem dX6_layRow_5 : decode cX6_layRow 5 = .ok (.iconst 0, 1) := by decide +kernel
theorem dX6_layRow_6 : decode cX6_layRow 6 = .ok (.istore_n 2, 1) := by decide +kernel
theorem dX6_layRow_7 : decode cX6_layRow 7 = .ok (.iload_n 2, 1) := by decide +kernel
theorem dX6_layRow_8 : decode cX6_layRow 8 = .ok (.aload_n 0, 1) := by decide +kernel
theorem dX6_layRow_9 : decode cX6_layRow 9 = .ok (.getfield 91, 3) := by decide +kernel
theorem dX6_layRow_12 : decode cX6_layRow 12 = .ok (.if_icmp .ge 65, 3) := by decide +kernel
theorem dX6_layRow_15 : decode cX6_layRow 15 = .ok (.aload_n 0, 1) := by decide +kernel
theorem dX6_layRow_16 : decode cX6_layRow 16 = .ok (.getfield 20, 3) := by decide +kernel
theorem dX6_layRow_19 : decode cX6_layRow 19 = .ok (.bipush 40, 2) := by decide +kernel
theorem dX6_layRow_21 : decode cX6_layRow 21 = .ok (.iload_n 1, 1) := by decide +kernel
theorem dX6_layRow_22 : decode cX6_layRow 22 = .ok (.imul, 1) := by decide +kernel
theorem dX6_layRow_23 : decode cX6_layRow 23 = .ok (.iload_n 2, 1) := by decide +kernel
theorem dX6_layRow_24 : decode cX6_layRow 24 = .ok (.iadd, 1) := by decide +kernel
theorem dX6_layRow_25 : decode cX6_layRow 25 = .ok (.iaload, 1) := by decide +kernel
theorem dX6_layRow_26 : decode cX6_layRow 26 = .ok (.bipush (-9), 2) := by decide +kernel
theorem dX6_layRow_28 : decode cX6_layRow 28 = .ok (.if_icmp .eq 43, 3) := by decide +kernel
theorem dX6_layRow_31 : decode cX6_layRow 31 = .ok (.aload_n 0, 1) := by decide +kernel
theorem dX6_layRow_32 : decode cX6_layRow 32 = .ok (.getfield 26, 3) := by decide +kernel
theorem dX6_layRow_35 : decode cX6_layRow 35 = .ok (.aload_n 0, 1) := by decide +kernel
theorem dX6_layRow_36 : decode cX6_layRow 36 = .ok (.getfield 112, 3) := by decide +kernel
theorem dX6_layRow_39 : decode cX6_layRow 39 = .ok (.iload_n 2, 1) := by decide +kernel
theorem dX6_layRow_40 : decode cX6_layRow 40 = .ok (.iastore, 1) := by decide +kernel
theorem dX6_layRow_41 : decode cX6_layRow 41 = .ok (.aload_n 0, 1) := by decide +kernel
theorem dX6_layRow_42 : decode cX6_layRow 42 = .ok (.getfield 29, 3) := by decide +kernel
theorem dX6_layRow_45 : decode cX6_layRow 45 = .ok (.aload_n 0, 1) := by decide +kernel
theorem dX6_layRow_46 : decode cX6_layRow 46 = .ok (.getfield 112, 3) := by decide +kernel
theorem dX6_layRow_49 : decode cX6_layRow 49 = .ok (.aload_n 0, 1) := by decide +kernel
theorem dX6_layRow_50 : decode cX6_layRow 50 = .ok (.getfield 20, 3) := by decide +kernel
theorem dX6_layRow_53 : decode cX6_layRow 53 = .ok (.bipush 40, 2) := by decide +kernel
theorem dX6_layRow_55 : decode cX6_layRow 55 = .ok (.iload_n 1, 1) := by decide +kernel
theorem dX6_layRow_56 : decode cX6_layRow 56 = .ok (.imul, 1) := by decide +kernel
theorem dX6_layRow_57 : decode cX6_layRow 57 = .ok (.iload_n 2, 1) := by decide +kernel
theorem dX6_layRow_58 : decode cX6_layRow 58 = .ok (.iadd, 1) := by decide +kernel
theorem dX6_layRow_59 : decode cX6_layRow 59 = .ok (.iaload, 1) := by decide +kernel
theorem dX6_layRow_60 : decode cX6_layRow 60 = .ok (.iastore, 1) := by decide +kernel
theorem dX6_layRow_61 : decode cX6_layRow 61 = .ok (.aload_n 0, 1) := by decide +kernel
theorem dX6_layRow_62 : decode cX6_layRow 62 = .ok (.dup, 1) := by decide +kernel
theorem dX6_layRow_63 : decode cX6_layRow 63 = .ok (.getfield 112, 3) := by decide +kernel
theorem dX6_layRow_66 : decode cX6_layRow 66 = .ok (.iconst 1, 1) := by decide +kernel
theorem dX6_layRow_67 : decode cX6_layRow 67 = .ok (.iadd, 1) := by decide +kernel
theorem dX6_layRow_68 : decode cX6_layRow 68 = .ok (.putfield 112, 3) := by decide +kernel
theorem dX6_layRow_71 : decode cX6_layRow 71 = .ok (.iinc 2 1, 3) := by decide +kernel
theorem dX6_layRow_74 : decode cX6_layRow 74 = .ok (.goto (-67), 3) := by decide +kernel
theorem dX6_layRow_77 : decode cX6_layRow 77 = .ok (.iconst 0, 1) := by decide +kernel
theorem dX6_layRow_78 : decode cX6_layRow 78 = .ok (.istore_n 2, 1) := by decide +kernel
theorem dX6_layRow_79 : decode cX6_layRow 79 = .ok (.iload_n 2, 1) := by decide +kernel
theorem dX6_layRow_80 : decode cX6_layRow 80 = .ok (.aload_n 0, 1) := by decide +kernel
theorem dX6_layRow_81 : decode cX6_layRow 81 = .ok (.getfield 112, 3) := by decide +kernel
theorem dX6_layRow_84 : decode cX6_layRow 84 = .ok (.if_icmp .ge 80, 3) := by decide +kernel
theorem dX6_layRow_87 : decode cX6_layRow 87 = .ok (.aload_n 0, 1) := by decide +kernel
theorem dX6_layRow_88 : decode cX6_layRow 88 = .ok (.getfield 32, 3) := by decide +kernel
theorem dX6_layRow_91 : decode cX6_layRow 91 = .ok (.iload_n 2, 1) := by decide +kernel
theorem dX6_layRow_92 : decode cX6_layRow 92 = .ok (.iconst 0, 1) := by decide +kernel
theorem dX6_layRow_93 : decode cX6_layRow 93 = .ok (.iastore, 1) := by decide +kernel
theorem dX6_layRow_94 : decode cX6_layRow 94 = .ok (.iconst 0, 1) := by decide +kernel
theorem dX6_layRow_95 : decode cX6_layRow 95 = .ok (.istore_n 3, 1) := by decide +kernel
theorem dX6_layRow_96 : decode cX6_layRow 96 = .ok (.iload_n 3, 1) := by decide +kernel
theorem dX6_layRow_97 : decode cX6_layRow 97 = .ok (.aload_n 0, 1) := by decide +kernel
theorem dX6_layRow_98 : decode cX6_layRow 98 = .ok (.getfield 112, 3) := by decide +kernel
theorem dX6_layRow_101 : decode cX6_layRow 101 = .ok (.if_icmp .ge 57, 3) := by decide +kernel
theorem dX6_layRow_104 : decode cX6_layRow 104 = .ok (.aload_n 0, 1) := by decide +kernel
theorem dX6_layRow_105 : decode cX6_layRow 105 = .ok (.getfield 32, 3) := by decide +kernel
theorem dX6_layRow_108 : decode cX6_layRow 108 = .ok (.iload_n 2, 1) := by decide +kernel
theorem dX6_layRow_109 : decode cX6_layRow 109 = .ok (.dup2, 1) := by decide +kernel
theorem dX6_layRow_110 : decode cX6_layRow 110 = .ok (.iaload, 1) := by decide +kernel
theorem dX6_layRow_111 : decode cX6_layRow 111 = .ok (.aload_n 0, 1) := by decide +kernel
theorem dX6_layRow_112 : decode cX6_layRow 112 = .ok (.getfield 29, 3) := by decide +kernel
theorem dX6_layRow_115 : decode cX6_layRow 115 = .ok (.iload_n 3, 1) := by decide +kernel
theorem dX6_layRow_116 : decode cX6_layRow 116 = .ok (.iaload, 1) := by decide +kernel
theorem dX6_layRow_117 : decode cX6_layRow 117 = .ok (.aload_n 0, 1) := by decide +kernel
theorem dX6_layRow_118 : decode cX6_layRow 118 = .ok (.getfield 29, 3) := by decide +kernel
theorem dX6_layRow_121 : decode cX6_layRow 121 = .ok (.iload_n 2, 1) := by decide +kernel
theorem dX6_layRow_122 : decode cX6_layRow 122 = .ok (.iaload, 1) := by decide +kernel
theorem dX6_layRow_123 : decode cX6_layRow 123 = .ok (.if_icmp .ge 7, 3) := by decide +kernel
theorem dX6_layRow_126 : decode cX6_layRow 126 = .ok (.iconst 2, 1) := by decide +kernel
theorem dX6_layRow_127 : decode cX6_layRow 127 = .ok (.goto 23, 3) := by decide +kernel
theorem dX6_layRow_130 : decode cX6_layRow 130 = .ok (.aload_n 0, 1) := by decide +kernel
theorem dX6_layRow_131 : decode cX6_layRow 131 = .ok (.getfield 29, 3) := by decide +kernel
theorem dX6_layRow_134 : decode cX6_layRow 134 = .ok (.iload_n 3, 1) := by decide +kernel
theorem dX6_layRow_135 : decode cX6_layRow 135 = .ok (.iaload, 1) := by decide +kernel
theorem dX6_layRow_136 : decode cX6_layRow 136 = .ok (.aload_n 0, 1) := by decide +kernel
theorem dX6_layRow_137 : decode cX6_layRow 137 = .ok (.getfield 29, 3) := by decide +kernel
theorem dX6_layRow_140 : decode cX6_layRow 140 = .ok (.iload_n 2, 1) := by decide +kernel
theorem dX6_layRow_141 : decode cX6_layRow 141 = .ok (.iaload, 1) := by decide +kernel
theorem dX6_layRow_142 : decode cX6_layRow 142 = .ok (.if_icmp .ne 7, 3) := by decide +kernel
theorem dX6_layRow_145 : decode cX6_layRow 145 = .ok (.iconst 1, 1) := by decide +kernel
theorem dX6_layRow_146 : decode cX6_layRow 146 = .ok (.goto 4, 3) := by decide +kernel
theorem dX6_layRow_149 : decode cX6_layRow 149 = .ok (.iconst 0, 1) := by decide +kernel
theorem dX6_layRow_150 : decode cX6_layRow 150 = .ok (.iadd, 1) := by decide +kernel
theorem dX6_layRow_151 : decode cX6_layRow 151 = .ok (.iastore, 1) := by decide +kernel
theorem dX6_layRow_152 : decode cX6_layRow 152 = .ok (.iinc 3 1, 3) := by decide +kernel
theorem dX6_layRow_155 : decode cX6_layRow 155 = .ok (.goto (-59), 3) := by decide +kernel
theorem dX6_layRow_158 : decode cX6_layRow 158 = .ok (.iinc 2 1, 3) := by decide +kernel
theorem dX6_layRow_161 : decode cX6_layRow 161 = .ok (.goto (-82), 3) := by decide +kernel
theorem dX6_layRow_164 : decode cX6_layRow 164 = .ok (.return_, 1) := by decide +kernel
theorem dX6_need_0 : decode cX6_need 0 = .ok (.aload_n 0, 1) := by decide +kernel
theorem dX6_need_1 : decode cX6_need 1 = .ok (.iload_n 1, 1) := by decide +kernel
theorem dX6_need_2 : decode cX6_need 2 = .ok (.iload_n 2, 1) := by decide +kernel
theorem dX6_need_3 : decode cX6_need 3 = .ok (.invokevirtual 101, 3) := by decide +kernel
theorem dX6_need_6 : decode cX6_need 6 = .ok (.ifCond .ne 5, 3) := by decide +kernel
theorem dX6_need_9 : decode cX6_need 9 = .ok (.iconst (-1), 1) := by decide +kernel
theorem dX6_need_10 : decode cX6_need 10 = .ok (.ireturn, 1) := by decide +kernel
theorem dX6_need_11 : decode cX6_need 11 = .ok (.aload_n 0, 1) := by decide +kernel
theorem dX6_need_12 : decode cX6_need 12 = .ok (.getfield 16, 3) := by decide +kernel
theorem dX6_need_15 : decode cX6_need 15 = .ok (.iconst 4, 1) := by decide +kernel
theorem dX6_need_16 : decode cX6_need 16 = .ok (.iload_n 1, 1) := by decide +kernel
theorem dX6_need_17 : decode cX6_need 17 = .ok (.imul, 1) := by decide +kernel
theorem dX6_need_18 : decode cX6_need 18 = .ok (.iload_n 2, 1) := by decide +kernel
theorem dX6_need_19 : decode cX6_need 19 = .ok (.iadd, 1) := by decide +kernel
theorem dX6_need_20 : decode cX6_need 20 = .ok (.baload, 1) := by decide +kernel
theorem dX6_need_21 : decode cX6_need 21 = .ok (.ifCond .ne 9, 3) := by decide +kernel
theorem dX6_need_24 : decode cX6_need 24 = .ok (.aload_n 0, 1) := by decide +kernel
theorem dX6_need_25 : decode cX6_need 25 = .ok (.iconst 1, 1) := by decide +kernel
theorem dX6_need_26 : decode cX6_need 26 = .ok (.invokevirtual 106, 3) := by decide +kernel
theorem dX6_need_29 : decode cX6_need 29 = .ok (.ireturn, 1) := by decide +kernel
theorem dX6_need_30 : decode cX6_need 30 = .ok (.aload_n 0, 1) := by decide +kernel
theorem dX6_need_31 : decode cX6_need 31 = .ok (.iconst 4, 1) := by decide +kernel
theorem dX6_need_32 : decode cX6_need 32 = .ok (.iload_n 1, 1) := by decide +kernel
theorem dX6_need_33 : decode cX6_need 33 = .ok (.imul, 1) := by decide +kernel
theorem dX6_need_34 : decode cX6_need 34 = .ok (.iload_n 2, 1) := by decide +kernel
theorem dX6_need_35 : decode cX6_need 35 = .ok (.iadd, 1) := by decide +kernel
theorem dX6_need_36 : decode cX6_need 36 = .ok (.invokevirtual 115, 3) := by decide +kernel
theorem dX6_need_39 : decode cX6_need 39 = .ok (.iconst 0, 1) := by decide +kernel
theorem dX6_need_40 : decode cX6_need 40 = .ok (.ireturn, 1) := by decide +kernel
theorem dX6_rank_0 : decode cX6_rank 0 = .ok (.aload_n 0, 1) := by decide +kernel
theorem dX6_rank_1 : decode cX6_rank 1 = .ok (.iload_n 1, 1) := by decide +kernel
theorem dX6_rank_2 : decode cX6_rank 2 = .ok (.iload_n 2, 1) := by decide +kernel
theorem dX6_rank_3 : decode cX6_rank 3 = .ok (.invokevirtual 119, 3) := by decide +kernel
theorem dX6_rank_6 : decode cX6_rank 6 = .ok (.istore 4, 2) := by decide +kernel
theorem dX6_rank_8 : decode cX6_rank 8 = .ok (.iload 4, 2) := by decide +kernel
theorem dX6_rank_10 : decode cX6_rank 10 = .ok (.ifCond .ge 6, 3) := by decide +kernel
theorem dX6_rank_13 : decode cX6_rank 13 = .ok (.iload 4, 2) := by decide +kernel
theorem dX6_rank_15 : decode cX6_rank 15 = .ok (.ireturn, 1) := by decide +kernel
theorem dX6_rank_16 : decode cX6_rank 16 = .ok (.iload_n 3, 1) := by decide +kernel
theorem dX6_rank_17 : decode cX6_rank 17 = .ok (.iconst 0, 1) := by decide +kernel
theorem dX6_rank_18 : decode cX6_rank 18 = .ok (.aload_n 0, 1) := by decide +kernel
theorem dX6_rank_19 : decode cX6_rank 19 = .ok (.getfield 91, 3) := by decide +kernel
theorem dX6_rank_22 : decode cX6_rank 22 = .ok (.iconst 1, 1) := by decide +kernel
theorem dX6_rank_23 : decode cX6_rank 23 = .ok (.isub, 1) := by decide +kernel
theorem dX6_rank_24 : decode cX6_rank 24 = .ok (.invokestatic 84, 3) := by decide +kernel
theorem dX6_rank_27 : decode cX6_rank 27 = .ok (.ifCond .ne 9, 3) := by decide +kernel
theorem dX6_rank_30 : decode cX6_rank 30 = .ok (.aload_n 0, 1) := by decide +kernel
theorem dX6_rank_31 : decode cX6_rank 31 = .ok (.iconst 2, 1) := by decide +kernel
theorem dX6_rank_32 : decode cX6_rank 32 = .ok (.invokevirtual 106, 3) := by decide +kernel
theorem dX6_rank_35 : decode cX6_rank 35 = .ok (.ireturn, 1) := by decide +kernel
theorem dX6_rank_36 : decode cX6_rank 36 = .ok (.iconst 0, 1) := by decide +kernel
theorem dX6_rank_37 : decode cX6_rank 37 = .ok (.istore 5, 2) := by decide +kernel
theorem dX6_rank_39 : decode cX6_rank 39 = .ok (.iload 5, 2) := by decide +kernel
theorem dX6_rank_41 : decode cX6_rank 41 = .ok (.aload_n 0, 1) := by decide +kernel
theorem dX6_rank_42 : decode cX6_rank 42 = .ok (.getfield 112, 3) := by decide +kernel
theorem dX6_rank_45 : decode cX6_rank 45 = .ok (.if_icmp .ge 28, 3) := by decide +kernel
theorem dX6_rank_48 : decode cX6_rank 48 = .ok (.aload_n 0, 1) := by decide +kernel
theorem dX6_rank_49 : decode cX6_rank 49 = .ok (.getfield 26, 3) := by decide +kernel
theorem dX6_rank_52 : decode cX6_rank 52 = .ok (.iload 5, 2) := by decide +kernel
theorem dX6_rank_54 : decode cX6_rank 54 = .ok (.iaload, 1) := by decide +kernel
theorem dX6_rank_55 : decode cX6_rank 55 = .ok (.iload_n 3, 1) := by decide +kernel
theorem dX6_rank_56 : decode cX6_rank 56 = .ok (.if_icmp .ne 11, 3) := by decide +kernel
theorem dX6_rank_59 : decode cX6_rank 59 = .ok (.aload_n 0, 1) := by decide +kernel
theorem dX6_rank_60 : decode cX6_rank 60 = .ok (.getfield 32, 3) := by decide +kernel
theorem dX6_rank_63 : decode cX6_rank 63 = .ok (.iload 5, 2) := by decide +kernel
theorem dX6_rank_65 : decode cX6_rank 65 = .ok (.iaload, 1) := by decide +kernel
theorem dX6_rank_66 : decode cX6_rank 66 = .ok (.ireturn, 1) := by decide +kernel
theorem dX6_rank_67 : decode cX6_rank 67 = .ok (.iinc 5 1, 3) := by decide +kernel
theorem dX6_rank_70 : decode cX6_rank 70 = .ok (.goto (-31), 3) := by decide +kernel
theorem dX6_rank_73 : decode cX6_rank 73 = .ok (.aload_n 0, 1) := by decide +kernel
theorem dX6_rank_74 : decode cX6_rank 74 = .ok (.iconst 4, 1) := by decide +kernel
theorem dX6_rank_75 : decode cX6_rank 75 = .ok (.invokevirtual 106, 3) := by decide +kernel
theorem dX6_rank_78 : decode cX6_rank 78 = .ok (.ireturn, 1) := by decide +kernel
theorem dX6_mean_0 : decode cX6_mean 0 = .ok (.aload_n 0, 1) := by decide +kernel
theorem dX6_mean_1 : decode cX6_mean 1 = .ok (.iload_n 1, 1) := by decide +kernel
theorem dX6_mean_2 : decode cX6_mean 2 = .ok (.iload_n 2, 1) := by decide +kernel
theorem dX6_mean_3 : decode cX6_mean 3 = .ok (.invokevirtual 119, 3) := by decide +kernel
theorem dX6_mean_6 : decode cX6_mean 6 = .ok (.istore_n 3, 1) := by decide +kernel
theorem dX6_mean_7 : decode cX6_mean 7 = .ok (.iload_n 3, 1) := by decide +kernel
theorem dX6_mean_8 : decode cX6_mean 8 = .ok (.ifCond .ge 5, 3) := by decide +kernel
theorem dX6_mean_11 : decode cX6_mean 11 = .ok (.iload_n 3, 1) := by decide +kernel
theorem dX6_mean_12 : decode cX6_mean 12 = .ok (.ireturn, 1) := by decide +kernel
theorem dX6_mean_13 : decode cX6_mean 13 = .ok (.iconst 0, 1) := by decide +kernel
theorem dX6_mean_14 : decode cX6_mean 14 = .ok (.istore 4, 2) := by decide +kernel
theorem dX6_mean_16 : decode cX6_mean 16 = .ok (.iconst 0, 1) := by decide +kernel
theorem dX6_mean_17 : decode cX6_mean 17 = .ok (.istore 5, 2) := by decide +kernel
theorem dX6_mean_19 : decode cX6_mean 19 = .ok (.iload 5, 2) := by decide +kernel
theorem dX6_mean_21 : decode cX6_mean 21 = .ok (.aload_n 0, 1) := by decide +kernel
theorem dX6_mean_22 : decode cX6_mean 22 = .ok (.getfield 112, 3) := by decide +kernel
theorem dX6_mean_25 : decode cX6_mean 25 = .ok (.if_icmp .ge 21, 3) := by decide +kernel
theorem dX6_mean_28 : decode cX6_mean 28 = .ok (.iload 4, 2) := by decide +kernel
theorem dX6_mean_30 : decode cX6_mean 30 = .ok (.aload_n 0, 1) := by decide +kernel
theorem dX6_mean_31 : decode cX6_mean 31 = .ok (.getfield 29, 3) := by decide +kernel
theorem dX6_mean_34 : decode cX6_mean 34 = .ok (.iload 5, 2) := by decide +kernel
theorem dX6_mean_36 : decode cX6_mean 36 = .ok (.iaload, 1) := by decide +kernel
theorem dX6_mean_37 : decode cX6_mean 37 = .ok (.iadd, 1) := by decide +kernel
theorem dX6_mean_38 : decode cX6_mean 38 = .ok (.istore 4, 2) := by decide +kernel
theorem dX6_mean_40 : decode cX6_mean 40 = .ok (.iinc 5 1, 3) := by decide +kernel
theorem dX6_mean_43 : decode cX6_mean 43 = .ok (.goto (-24), 3) := by decide +kernel
theorem dX6_mean_46 : decode cX6_mean 46 = .ok (.aload_n 0, 1) := by decide +kernel
theorem dX6_mean_47 : decode cX6_mean 47 = .ok (.getfield 112, 3) := by decide +kernel
theorem dX6_mean_50 : decode cX6_mean 50 = .ok (.ifCond .ne 11, 3) := by decide +kernel
theorem dX6_mean_53 : decode cX6_mean 53 = .ok (.aload_n 0, 1) := by decide +kernel
theorem dX6_mean_54 : decode cX6_mean 54 = .ok (.iconst 4, 1) := by decide +kernel
theorem dX6_mean_55 : decode cX6_mean 55 = .ok (.invokevirtual 106, 3) := by decide +kernel
theorem dX6_mean_58 : decode cX6_mean 58 = .ok (.goto 10, 3) := by decide +kernel
theorem dX6_mean_61 : decode cX6_mean 61 = .ok (.iload 4, 2) := by decide +kernel
theorem dX6_mean_63 : decode cX6_mean 63 = .ok (.aload_n 0, 1) := by decide +kernel
theorem dX6_mean_64 : decode cX6_mean 64 = .ok (.getfield 112, 3) := by decide +kernel
theorem dX6_mean_67 : decode cX6_mean 67 = .ok (.idiv, 1) := by decide +kernel
theorem dX6_mean_68 : decode cX6_mean 68 = .ok (.ireturn, 1) := by decide +kernel
theorem dX6_costOf_0 : decode cX6_costOf 0 = .ok (.iconst 0, 1) := by decide +kernel
theorem dX6_costOf_1 : decode cX6_costOf 1 = .ok (.istore_n 3, 1) := by decide +kernel
theorem dX6_costOf_2 : decode cX6_costOf 2 = .ok (.iload_n 1, 1) := by decide +kernel
theorem dX6_costOf_3 : decode cX6_costOf 3 = .ok (.istore 4, 2) := by decide +kernel
theorem dX6_costOf_5 : decode cX6_costOf 5 = .ok (.iload 4, 2) := by decide +kernel
theorem dX6_costOf_7 : decode cX6_costOf 7 = .ok (.iload_n 2, 1) := by decide +kernel
theorem dX6_costOf_8 : decode cX6_costOf 8 = .ok (.if_icmp .ge 75, 3) := by decide +kernel
theorem dX6_costOf_11 : decode cX6_costOf 11 = .ok (.iload_n 3, 1) := by decide +kernel
theorem dX6_costOf_12 : decode cX6_costOf 12 = .ok (.istore 5, 2) := by decide +kernel
theorem dX6_costOf_14 : decode cX6_costOf 14 = .ok (.iload 5, 2) := by decide +kernel
theorem dX6_costOf_16 : decode cX6_costOf 16 = .ok (.ifCond .le 49, 3) := by decide +kernel
theorem dX6_costOf_19 : decode cX6_costOf 19 = .ok (.aload_n 0, 1) := by decide +kernel
theorem dX6_costOf_20 : decode cX6_costOf 20 = .ok (.getfield 32, 3) := by decide +kernel
theorem dX6_costOf_23 : decode cX6_costOf 23 = .ok (.aload_n 0, 1) := by decide +kernel
theorem dX6_costOf_24 : decode cX6_costOf 24 = .ok (.getfield 50, 3) := by decide +kernel
theorem dX6_costOf_27 : decode cX6_costOf 27 = .ok (.iload 5, 2) := by decide +kernel
theorem dX6_costOf_29 : decode cX6_costOf 29 = .ok (.iconst 1, 1) := by decide +kernel
theorem dX6_costOf_30 : decode cX6_costOf 30 = .ok (.isub, 1) := by decide +kernel
theorem dX6_costOf_31 : decode cX6_costOf 31 = .ok (.iaload, 1) := by decide +kernel
theorem dX6_costOf_32 : decode cX6_costOf 32 = .ok (.iaload, 1) := by decide +kernel
theorem dX6_costOf_33 : decode cX6_costOf 33 = .ok (.aload_n 0, 1) := by decide +kernel
theorem dX6_costOf_34 : decode cX6_costOf 34 = .ok (.getfield 32, 3) := by decide +kernel
theorem dX6_costOf_37 : decode cX6_costOf 37 = .ok (.iload 4, 2) := by decide +kernel
theorem dX6_costOf_39 : decode cX6_costOf 39 = .ok (.iaload, 1) := by decide +kernel
theorem dX6_costOf_40 : decode cX6_costOf 40 = .ok (.if_icmp .le 25, 3) := by decide +kernel
theorem dX6_costOf_43 : decode cX6_costOf 43 = .ok (.aload_n 0, 1) := by decide +kernel
theorem dX6_costOf_44 : decode cX6_costOf 44 = .ok (.getfield 50, 3) := by decide +kernel
theorem dX6_costOf_47 : decode cX6_costOf 47 = .ok (.iload 5, 2) := by decide +kernel
theorem dX6_costOf_49 : decode cX6_costOf 49 = .ok (.aload_n 0, 1) := by decide +kernel
theorem dX6_costOf_50 : decode cX6_costOf 50 = .ok (.getfield 50, 3) := by decide +kernel
theorem dX6_costOf_53 : decode cX6_costOf 53 = .ok (.iload 5, 2) := by decide +kernel
theorem dX6_costOf_55 : decode cX6_costOf 55 = .ok (.iconst 1, 1) := by decide +kernel
theorem dX6_costOf_56 : decode cX6_costOf 56 = .ok (.isub, 1) := by decide +kernel
theorem dX6_costOf_57 : decode cX6_costOf 57 = .ok (.iaload, 1) := by decide +kernel
theorem dX6_costOf_58 : decode cX6_costOf 58 = .ok (.iastore, 1) := by decide +kernel
theorem dX6_costOf_59 : decode cX6_costOf 59 = .ok (.iinc 5 (-1), 3) := by decide +kernel
theorem dX6_costOf_62 : decode cX6_costOf 62 = .ok (.goto (-48), 3) := by decide +kernel
theorem dX6_costOf_65 : decode cX6_costOf 65 = .ok (.aload_n 0, 1) := by decide +kernel
theorem dX6_costOf_66 : decode cX6_costOf 66 = .ok (.getfield 50, 3) := by decide +kernel
theorem dX6_costOf_69 : decode cX6_costOf 69 = .ok (.iload 5, 2) := by decide +kernel
theorem dX6_costOf_71 : decode cX6_costOf 71 = .ok (.iload 4, 2) := by decide +kernel
theorem dX6_costOf_73 : decode cX6_costOf 73 = .ok (.iastore, 1) := by decide +kernel
theorem dX6_costOf_74 : decode cX6_costOf 74 = .ok (.iinc 3 1, 3) := by decide +kernel
theorem dX6_costOf_77 : decode cX6_costOf 77 = .ok (.iinc 4 1, 3) := by decide +kernel
theorem dX6_costOf_80 : decode cX6_costOf 80 = .ok (.goto (-75), 3) := by decide +kernel
theorem dX6_costOf_83 : decode cX6_costOf 83 = .ok (.aload_n 0, 1) := by decide +kernel
theorem dX6_costOf_84 : decode cX6_costOf 84 = .ok (.aload_n 0, 1) := by decide +kernel
theorem dX6_costOf_85 : decode cX6_costOf 85 = .ok (.getfield 50, 3) := by decide +kernel
theorem dX6_costOf_88 : decode cX6_costOf 88 = .ok (.iload_n 3, 1) := by decide +kernel
theorem dX6_costOf_89 : decode cX6_costOf 89 = .ok (.iconst 2, 1) := by decide +kernel
theorem dX6_costOf_90 : decode cX6_costOf 90 = .ok (.idiv, 1) := by decide +kernel
theorem dX6_costOf_91 : decode cX6_costOf 91 = .ok (.iaload, 1) := by decide +kernel
theorem dX6_costOf_92 : decode cX6_costOf 92 = .ok (.putfield 123, 3) := by decide +kernel
theorem dX6_costOf_95 : decode cX6_costOf 95 = .ok (.iconst 0, 1) := by decide +kernel
theorem dX6_costOf_96 : decode cX6_costOf 96 = .ok (.istore 4, 2) := by decide +kernel
theorem dX6_costOf_98 : decode cX6_costOf 98 = .ok (.iload_n 1, 1) := by decide +kernel
theorem dX6_costOf_99 : decode cX6_costOf 99 = .ok (.istore 5, 2) := by decide +kernel
theorem dX6_costOf_101 : decode cX6_costOf 101 = .ok (.iload 5, 2) := by decide +kernel
theorem dX6_costOf_103 : decode cX6_costOf 103 = .ok (.iload_n 2, 1) := by decide +kernel
theorem dX6_costOf_104 : decode cX6_costOf 104 = .ok (.if_icmp .ge 46, 3) := by decide +kernel
theorem dX6_costOf_107 : decode cX6_costOf 107 = .ok (.aload_n 0, 1) := by decide +kernel
theorem dX6_costOf_108 : decode cX6_costOf 108 = .ok (.getfield 32, 3) := by decide +kernel
theorem dX6_costOf_111 : decode cX6_costOf 111 = .ok (.iload 5, 2) := by decide +kernel
theorem dX6_costOf_113 : decode cX6_costOf 113 = .ok (.iaload, 1) := by decide +kernel
theorem dX6_costOf_114 : decode cX6_costOf 114 = .ok (.aload_n 0, 1) := by decide +kernel
theorem dX6_costOf_115 : decode cX6_costOf 115 = .ok (.getfield 32, 3) := by decide +kernel
theorem dX6_costOf_118 : decode cX6_costOf 118 = .ok (.aload_n 0, 1) := by decide +kernel
theorem dX6_costOf_119 : decode cX6_costOf 119 = .ok (.getfield 123, 3) := by decide +kernel
theorem dX6_costOf_122 : decode cX6_costOf 122 = .ok (.iaload, 1) := by decide +kernel
theorem dX6_costOf_123 : decode cX6_costOf 123 = .ok (.isub, 1) := by decide +kernel
theorem dX6_costOf_124 : decode cX6_costOf 124 = .ok (.istore 6, 2) := by decide +kernel
theorem dX6_costOf_126 : decode cX6_costOf 126 = .ok (.iload 4, 2) := by decide +kernel
theorem dX6_costOf_128 : decode cX6_costOf 128 = .ok (.iload 6, 2) := by decide +kernel
theorem dX6_costOf_130 : decode cX6_costOf 130 = .ok (.ifCond .ge 9, 3) := by decide +kernel
theorem dX6_costOf_133 : decode cX6_costOf 133 = .ok (.iload 6, 2) := by decide +kernel
theorem dX6_costOf_135 : decode cX6_costOf 135 = .ok (.ineg, 1) := by decide +kernel
theorem dX6_costOf_136 : decode cX6_costOf 136 = .ok (.goto 5, 3) := by decide +kernel
theorem dX6_costOf_139 : decode cX6_costOf 139 = .ok (.iload 6, 2) := by decide +kernel
theorem dX6_costOf_141 : decode cX6_costOf 141 = .ok (.iadd, 1) := by decide +kernel
theorem dX6_costOf_142 : decode cX6_costOf 142 = .ok (.istore 4, 2) := by decide +kernel
theorem dX6_costOf_144 : decode cX6_costOf 144 = .ok (.iinc 5 1, 3) := by decide +kernel
theorem dX6_costOf_147 : decode cX6_costOf 147 = .ok (.goto (-46), 3) := by decide +kernel
theorem dX6_costOf_150 : decode cX6_costOf 150 = .ok (.iload 4, 2) := by decide +kernel
theorem dX6_costOf_152 : decode cX6_costOf 152 = .ok (.ireturn, 1) := by decide +kernel
theorem dX6_layCuts_0 : decode cX6_layCuts 0 = .ok (.aload_n 0, 1) := by decide +kernel
theorem dX6_layCuts_1 : decode cX6_layCuts 1 = .ok (.iload_n 1, 1) := by decide +kernel
theorem dX6_layCuts_2 : decode cX6_layCuts 2 = .ok (.invokevirtual 126, 3) := by decide +kernel
theorem dX6_layCuts_5 : decode cX6_layCuts 5 = .ok (.aload_n 0, 1) := by decide +kernel
theorem dX6_layCuts_6 : decode cX6_layCuts 6 = .ok (.getfield 35, 3) := by decide +kernel
theorem dX6_layCuts_9 : decode cX6_layCuts 9 = .ok (.aload_n 0, 1) := by decide +kernel
theorem dX6_layCuts_10 : decode cX6_layCuts 10 = .ok (.getfield 112, 3) := by decide +kernel
theorem dX6_layCuts_13 : decode cX6_layCuts 13 = .ok (.iconst 0, 1) := by decide +kernel
theorem dX6_layCuts_14 : decode cX6_layCuts 14 = .ok (.iastore, 1) := by decide +kernel
theorem dX6_layCuts_15 : decode cX6_layCuts 15 = .ok (.aload_n 0, 1) := by decide +kernel
theorem dX6_layCuts_16 : decode cX6_layCuts 16 = .ok (.getfield 38, 3) := by decide +kernel
theorem dX6_layCuts_19 : decode cX6_layCuts 19 = .ok (.aload_n 0, 1) := by decide +kernel
theorem dX6_layCuts_20 : decode cX6_layCuts 20 = .ok (.getfield 112, 3) := by decide +kernel
theorem dX6_layCuts_23 : decode cX6_layCuts 23 = .ok (.iconst 0, 1) := by decide +kernel
theorem dX6_layCuts_24 : decode cX6_layCuts 24 = .ok (.iastore, 1) := by decide +kernel
theorem dX6_layCuts_25 : decode cX6_layCuts 25 = .ok (.aload_n 0, 1) := by decide +kernel
theorem dX6_layCuts_26 : decode cX6_layCuts 26 = .ok (.getfield 112, 3) := by decide +kernel
theorem dX6_layCuts_29 : decode cX6_layCuts 29 = .ok (.iconst 1, 1) := by decide +kernel
theorem dX6_layCuts_30 : decode cX6_layCuts 30 = .ok (.isub, 1) := by decide +kernel
theorem dX6_layCuts_31 : decode cX6_layCuts 31 = .ok (.istore_n 2, 1) := by decide +kernel
theorem dX6_layCuts_32 : decode cX6_layCuts 32 = .ok (.iload_n 2, 1) := by decide +kernel
theorem dX6_layCuts_33 : decode cX6_layCuts 33 = .ok (.ifCond .lt 156, 3) := by decide +kernel
theorem dX6_layCuts_36 : decode cX6_layCuts 36 = .ok (.aload_n 0, 1) := by decide +kernel
theorem dX6_layCuts_37 : decode cX6_layCuts 37 = .ok (.getfield 41, 3) := by decide +kernel
theorem dX6_layCuts_40 : decode cX6_layCuts 40 = .ok (.iload_n 2, 1) := by decide +kernel
theorem dX6_layCuts_41 : decode cX6_layCuts 41 = .ok (.bipush (-9), 2) := by decide +kernel
theorem dX6_layCuts_43 : decode cX6_layCuts 43 = .ok (.iastore, 1) := by decide +kernel
theorem dX6_layCuts_44 : decode cX6_layCuts 44 = .ok (.iload_n 2, 1) := by decide +kernel
theorem dX6_layCuts_45 : decode cX6_layCuts 45 = .ok (.iconst 1, 1) := by decide +kernel
theorem dX6_layCuts_46 : decode cX6_layCuts 46 = .ok (.iadd, 1) := by decide +kernel
theorem dX6_layCuts_47 : decode cX6_layCuts 47 = .ok (.istore_n 3, 1) := by decide +kernel
theorem dX6_layCuts_48 : decode cX6_layCuts 48 = .ok (.iload_n 3, 1) := by decide +kernel
theorem dX6_layCuts_49 : decode cX6_layCuts 49 = .ok (.aload_n 0, 1) := by decide +kernel
theorem dX6_layCuts_50 : decode cX6_layCuts 50 = .ok (.getfield 112, 3) := by decide +kernel
theorem dX6_layCuts_53 : decode cX6_layCuts 53 = .ok (.if_icmp .gt 130, 3) := by decide +kernel
theorem dX6_layCuts_56 : decode cX6_layCuts 56 = .ok (.aload_n 0, 1) := by decide +kernel
theorem dX6_layCuts_57 : decode cX6_layCuts 57 = .ok (.iload_n 2, 1) := by decide +kernel
theorem dX6_layCuts_58 : decode cX6_layCuts 58 = .ok (.iload_n 3, 1) := by decide +kernel
theorem dX6_layCuts_59 : decode cX6_layCuts 59 = .ok (.invokevirtual 129, 3) := by decide +kernel
theorem dX6_layCuts_62 : decode cX6_layCuts 62 = .ok (.iload_n 3, 1) := by decide +kernel
theorem dX6_layCuts_63 : decode cX6_layCuts 63 = .ok (.aload_n 0, 1) := by decide +kernel
theorem dX6_layCuts_64 : decode cX6_layCuts 64 = .ok (.getfield 112, 3) := by decide +kernel
theorem dX6_layCuts_67 : decode cX6_layCuts 67 = .ok (.if_icmp .ge 17, 3) := by decide +kernel
theorem dX6_layCuts_70 : decode cX6_layCuts 70 = .ok (.aload_n 0, 1) := by decide +kernel
theorem dX6_layCuts_71 : decode cX6_layCuts 71 = .ok (.getfield 70, 3) := by decide +kernel
theorem dX6_layCuts_74 : decode cX6_layCuts 74 = .ok (.aload_n 0, 1) := by decide +kernel
theorem dX6_layCuts_75 : decode cX6_layCuts 75 = .ok (.getfield 35, 3) := by decide +kernel
theorem dX6_layCuts_78 : decode cX6_layCuts 78 = .ok (.iload_n 3, 1) := by decide +kernel
theorem dX6_layCuts_79 : decode cX6_layCuts 79 = .ok (.iaload, 1) := by decide +kernel
theorem dX6_layCuts_80 : decode cX6_layCuts 80 = .ok (.iadd, 1) := by decide +kernel
theorem dX6_layCuts_81 : decode cX6_layCuts 81 = .ok (.goto 4, 3) := by decide +kernel
theorem dX6_layCuts_84 : decode cX6_layCuts 84 = .ok (.iconst 0, 1) := by decide +kernel
theorem dX6_layCuts_85 : decode cX6_layCuts 85 = .ok (.iadd, 1) := by decide +kernel
theorem dX6_layCuts_86 : decode cX6_layCuts 86 = .ok (.istore 4, 2) := by decide +kernel
theorem dX6_layCuts_88 : decode cX6_layCuts 88 = .ok (.iload_n 3, 1) := by decide +kernel
theorem dX6_layCuts_89 : decode cX6_layCuts 89 = .ok (.aload_n 0, 1) := by decide +kernel
theorem dX6_layCuts_90 : decode cX6_layCuts 90 = .ok (.getfield 112, 3) := by decide +kernel
theorem dX6_layCuts_93 : decode cX6_layCuts 93 = .ok (.if_icmp .ge 14, 3) := by decide +kernel
theorem dX6_layCuts_96 : decode cX6_layCuts 96 = .ok (.iconst 1, 1) := by decide +kernel
theorem dX6_layCuts_97 : decode cX6_layCuts 97 = .ok (.aload_n 0, 1) := by decide +kernel
theorem dX6_layCuts_98 : decode cX6_layCuts 98 = .ok (.getfield 38, 3) := by decide +kernel
theorem dX6_layCuts_101 : decode cX6_layCuts 101 = .ok (.iload_n 3, 1) := by decide +kernel
theorem dX6_layCuts_102 : decode cX6_layCuts 102 = .ok (.iaload, 1) := by decide +kernel
theorem dX6_layCuts_103 : decode cX6_layCuts 103 = .ok (.iadd, 1) := by decide +kernel
theorem dX6_layCuts_104 : decode cX6_layCuts 104 = .ok (.goto 4, 3) := by decide +kernel
theorem dX6_layCuts_107 : decode cX6_layCuts 107 = .ok (.iconst 0, 1) := by decide +kernel
theorem dX6_layCuts_108 : decode cX6_layCuts 108 = .ok (.istore 5, 2) := by decide +kernel
theorem dX6_layCuts_110 : decode cX6_layCuts 110 = .ok (.aload_n 0, 1) := by decide +kernel
theorem dX6_layCuts_111 : decode cX6_layCuts 111 = .ok (.getfield 41, 3) := by decide +kernel
theorem dX6_layCuts_114 : decode cX6_layCuts 114 = .ok (.iload_n 2, 1) := by decide +kernel
theorem dX6_layCuts_115 : decode cX6_layCuts 115 = .ok (.iaload, 1) := by decide +kernel
theorem dX6_layCuts_116 : decode cX6_layCuts 116 = .ok (.bipush (-9), 2) := by decide +kernel
theorem dX6_layCuts_118 : decode cX6_layCuts 118 = .ok (.if_icmp .eq 36, 3) := by decide +kernel
theorem dX6_layCuts_121 : decode cX6_layCuts 121 = .ok (.iload 4, 2) := by decide +kernel
theorem dX6_layCuts_123 : decode cX6_layCuts 123 = .ok (.aload_n 0, 1) := by decide +kernel
theorem dX6_layCuts_124 : decode cX6_layCuts 124 = .ok (.getfield 35, 3) := by decide +kernel
theorem dX6_layCuts_127 : decode cX6_layCuts 127 = .ok (.iload_n 2, 1) := by decide +kernel
theorem dX6_layCuts_128 : decode cX6_layCuts 128 = .ok (.iaload, 1) := by decide +kernel
theorem dX6_layCuts_129 : decode cX6_layCuts 129 = .ok (.if_icmp .lt 25, 3) := by decide +kernel
theorem dX6_layCuts_132 : decode cX6_layCuts 132 = .ok (.iload 4, 2) := by decide +kernel
theorem dX6_layCuts_134 : decode cX6_layCuts 134 = .ok (.aload_n 0, 1) := by decide +kernel
theorem dX6_layCuts_135 : decode cX6_layCuts 135 = .ok (.getfield 35, 3) := by decide +kernel
theorem dX6_layCuts_138 : decode cX6_layCuts 138 = .ok (.iload_n 2, 1) := by decide +kernel
theorem dX6_layCuts_139 : decode cX6_layCuts 139 = .ok (.iaload, 1) := by decide +kernel
theorem dX6_layCuts_140 : decode cX6_layCuts 140 = .ok (.if_icmp .ne 37, 3) := by decide +kernel
theorem dX6_layCuts_143 : decode cX6_layCuts 143 = .ok (.iload 5, 2) := by decide +kernel
theorem dX6_layCuts_145 : decode cX6_layCuts 145 = .ok (.aload_n 0, 1) := by decide +kernel
theorem dX6_layCuts_146 : decode cX6_layCuts 146 = .ok (.getfield 38, 3) := by decide +kernel
theorem dX6_layCuts_149 : decode cX6_layCuts 149 = .ok (.iload_n 2, 1) := by decide +kernel
theorem dX6_layCuts_150 : decode cX6_layCuts 150 = .ok (.iaload, 1) := by decide +kernel
theorem dX6_layCuts_151 : decode cX6_layCuts 151 = .ok (.if_icmp .ge 26, 3) := by decide +kernel
theorem dX6_layCuts_154 : decode cX6_layCuts 154 = .ok (.aload_n 0, 1) := by decide +kernel
theorem dX6_layCuts_155 : decode cX6_layCuts 155 = .ok (.getfield 35, 3) := by decide +kernel
theorem dX6_layCuts_158 : decode cX6_layCuts 158 = .ok (.iload_n 2, 1) := by decide +kernel
theorem dX6_layCuts_159 : decode cX6_layCuts 159 = .ok (.iload 4, 2) := by decide +kernel
theorem dX6_layCuts_161 : decode cX6_layCuts 161 = .ok (.iastore, 1) := by decide +kernel
theorem dX6_layCuts_162 : decode cX6_layCuts 162 = .ok (.aload_n 0, 1) := by decide +kernel
theorem dX6_layCuts_163 : decode cX6_layCuts 163 = .ok (.getfield 38, 3) := by decide +kernel
theorem dX6_layCuts_166 : decode cX6_layCuts 166 = .ok (.iload_n 2, 1) := by decide +kernel
theorem dX6_layCuts_167 : decode cX6_layCuts 167 = .ok (.iload 5, 2) := by decide +kernel
theorem dX6_layCuts_169 : decode cX6_layCuts 169 = .ok (.iastore, 1) := by decide +kernel
theorem dX6_layCuts_170 : decode cX6_layCuts 170 = .ok (.aload_n 0, 1) := by decide +kernel
theorem dX6_layCuts_171 : decode cX6_layCuts 171 = .ok (.getfield 41, 3) := by decide +kernel
theorem dX6_layCuts_174 : decode cX6_layCuts 174 = .ok (.iload_n 2, 1) := by decide +kernel
theorem dX6_layCuts_175 : decode cX6_layCuts 175 = .ok (.iload_n 3, 1) := by decide +kernel
theorem dX6_layCuts_176 : decode cX6_layCuts 176 = .ok (.iastore, 1) := by decide +kernel
theorem dX6_layCuts_177 : decode cX6_layCuts 177 = .ok (.iinc 3 1, 3) := by decide +kernel
theorem dX6_layCuts_180 : decode cX6_layCuts 180 = .ok (.goto (-132), 3) := by decide +kernel
theorem dX6_layCuts_183 : decode cX6_layCuts 183 = .ok (.iinc 2 (-1), 3) := by decide +kernel
theorem dX6_layCuts_186 : decode cX6_layCuts 186 = .ok (.goto (-154), 3) := by decide +kernel
theorem dX6_layCuts_189 : decode cX6_layCuts 189 = .ok (.aload_n 0, 1) := by decide +kernel
theorem dX6_layCuts_190 : decode cX6_layCuts 190 = .ok (.iconst 0, 1) := by decide +kernel
theorem dX6_layCuts_191 : decode cX6_layCuts 191 = .ok (.putfield 132, 3) := by decide +kernel
theorem dX6_layCuts_194 : decode cX6_layCuts 194 = .ok (.iconst 0, 1) := by decide +kernel
theorem dX6_layCuts_195 : decode cX6_layCuts 195 = .ok (.istore_n 2, 1) := by decide +kernel
theorem dX6_layCuts_196 : decode cX6_layCuts 196 = .ok (.iload_n 2, 1) := by decide +kernel
theorem dX6_layCuts_197 : decode cX6_layCuts 197 = .ok (.aload_n 0, 1) := by decide +kernel
theorem dX6_layCuts_198 : decode cX6_layCuts 198 = .ok (.getfield 112, 3) := by decide +kernel
theorem dX6_layCuts_201 : decode cX6_layCuts 201 = .ok (.if_icmp .ge 63, 3) := by decide +kernel
theorem dX6_layCuts_204 : decode cX6_layCuts 204 = .ok (.aload_n 0, 1) := by decide +kernel
theorem dX6_layCuts_205 : decode cX6_layCuts 205 = .ok (.iload_n 2, 1) := by decide +kernel
theorem dX6_layCuts_206 : decode cX6_layCuts 206 = .ok (.aload_n 0, 1) := by decide +kernel
theorem dX6_layCuts_207 : decode cX6_layCuts 207 = .ok (.getfield 41, 3) := by decide +kernel
theorem dX6_layCuts_210 : decode cX6_layCuts 210 = .ok (.iload_n 2, 1) := by decide +kernel
theorem dX6_layCuts_211 : decode cX6_layCuts 211 = .ok (.iaload, 1) := by decide +kernel
theorem dX6_layCuts_212 : decode cX6_layCuts 212 = .ok (.invokevirtual 129, 3) := by decide +kernel
theorem dX6_layCuts_215 : decode cX6_layCuts 215 = .ok (.istore_n 3, 1) := by decide +kernel
theorem dX6_layCuts_216 : decode cX6_layCuts 216 = .ok (.aload_n 0, 1) := by decide +kernel
theorem dX6_layCuts_217 : decode cX6_layCuts 217 = .ok (.getfield 44, 3) := by decide +kernel
theorem dX6_layCuts_220 : decode cX6_layCuts 220 = .ok (.aload_n 0, 1) := by decide +kernel
theorem dX6_layCuts_221 : decode cX6_layCuts 221 = .ok (.getfield 132, 3) := by decide +kernel
theorem dX6_layCuts_224 : decode cX6_layCuts 224 = .ok (.iload_n 2, 1) := by decide +kernel
theorem dX6_layCuts_225 : decode cX6_layCuts 225 = .ok (.iastore, 1) := by decide +kernel
theorem dX6_layCuts_226 : decode cX6_layCuts 226 = .ok (.aload_n 0, 1) := by decide +kernel
theorem dX6_layCuts_227 : decode cX6_layCuts 227 = .ok (.getfield 47, 3) := by decide +kernel
theorem dX6_layCuts_230 : decode cX6_layCuts 230 = .ok (.aload_n 0, 1) := by decide +kernel
theorem dX6_layCuts_231 : decode cX6_layCuts 231 = .ok (.getfield 132, 3) := by decide +kernel
theorem dX6_layCuts_234 : decode cX6_layCuts 234 = .ok (.aload_n 0, 1) := by decide +kernel
theorem dX6_layCuts_235 : decode cX6_layCuts 235 = .ok (.getfield 29, 3) := by decide +kernel
theorem dX6_layCuts_238 : decode cX6_layCuts 238 = .ok (.aload_n 0, 1) := by decide +kernel
theorem dX6_layCuts_239 : decode cX6_layCuts 239 = .ok (.getfield 123, 3) := by decide +kernel
theorem dX6_layCuts_242 : decode cX6_layCuts 242 = .ok (.iaload, 1) := by decide +kernel
theorem dX6_layCuts_243 : decode cX6_layCuts 243 = .ok (.iastore, 1) := by decide +kernel
theorem dX6_layCuts_244 : decode cX6_layCuts 244 = .ok (.aload_n 0, 1) := by decide +kernel
theorem dX6_layCuts_245 : decode cX6_layCuts 245 = .ok (.dup, 1) := by decide +kernel
theorem dX6_layCuts_246 : decode cX6_layCuts 246 = .ok (.getfield 132, 3) := by decide +kernel
theorem dX6_layCuts_249 : decode cX6_layCuts 249 = .ok (.iconst 1, 1) := by decide +kernel
theorem dX6_layCuts_250 : decode cX6_layCuts 250 = .ok (.iadd, 1) := by decide +kernel
theorem dX6_layCuts_251 : decode cX6_layCuts 251 = .ok (.putfield 132, 3) := by decide +kernel
theorem dX6_layCuts_254 : decode cX6_layCuts 254 = .ok (.aload_n 0, 1) := by decide +kernel
theorem dX6_layCuts_255 : decode cX6_layCuts 255 = .ok (.getfield 41, 3) := by decide +kernel
theorem dX6_layCuts_258 : decode cX6_layCuts 258 = .ok (.iload_n 2, 1) := by decide +kernel
theorem dX6_layCuts_259 : decode cX6_layCuts 259 = .ok (.iaload, 1) := by decide +kernel
theorem dX6_layCuts_260 : decode cX6_layCuts 260 = .ok (.istore_n 2, 1) := by decide +kernel
theorem dX6_layCuts_261 : decode cX6_layCuts 261 = .ok (.goto (-65), 3) := by decide +kernel
theorem dX6_layCuts_264 : decode cX6_layCuts 264 = .ok (.aload_n 0, 1) := by decide +kernel
theorem dX6_layCuts_265 : decode cX6_layCuts 265 = .ok (.getfield 44, 3) := by decide +kernel
theorem dX6_layCuts_268 : decode cX6_layCuts 268 = .ok (.aload_n 0, 1) := by decide +kernel
theorem dX6_layCuts_269 : decode cX6_layCuts 269 = .ok (.getfield 132, 3) := by decide +kernel
theorem dX6_layCuts_272 : decode cX6_layCuts 272 = .ok (.aload_n 0, 1) := by decide +kernel
theorem dX6_layCuts_273 : decode cX6_layCuts 273 = .ok (.getfield 112, 3) := by decide +kernel
theorem dX6_layCuts_276 : decode cX6_layCuts 276 = .ok (.iastore, 1) := by decide +kernel
theorem dX6_layCuts_277 : decode cX6_layCuts 277 = .ok (.return_, 1) := by decide +kernel
theorem dX6_isCut_0 : decode cX6_isCut 0 = .ok (.iload_n 1, 1) := by decide +kernel
theorem dX6_isCut_1 : decode cX6_isCut 1 = .ok (.ifCond .lt 17, 3) := by decide +kernel
theorem dX6_isCut_4 : decode cX6_isCut 4 = .ok (.iload_n 1, 1) := by decide +kernel
theorem dX6_isCut_5 : decode cX6_isCut 5 = .ok (.aload_n 0, 1) := by decide +kernel
theorem dX6_isCut_6 : decode cX6_isCut 6 = .ok (.getfield 132, 3) := by decide +kernel
theorem dX6_isCut_9 : decode cX6_isCut 9 = .ok (.iconst 1, 1) := by decide +kernel
theorem dX6_isCut_10 : decode cX6_isCut 10 = .ok (.isub, 1) := by decide +kernel
theorem dX6_isCut_11 : decode cX6_isCut 11 = .ok (.if_icmp .ge 7, 3) := by decide +kernel
theorem dX6_isCut_14 : decode cX6_isCut 14 = .ok (.iconst 1, 1) := by decide +kernel
theorem dX6_isCut_15 : decode cX6_isCut 15 = .ok (.goto 4, 3) := by decide +kernel
theorem dX6_isCut_18 : decode cX6_isCut 18 = .ok (.iconst 0, 1) := by decide +kernel
theorem dX6_isCut_19 : decode cX6_isCut 19 = .ok (.ireturn, 1) := by decide +kernel
theorem dX6_buildOfCut_0 : decode cX6_buildOfCut 0 = .ok (.aload_n 0, 1) := by decide +kernel
theorem dX6_buildOfCut_1 : decode cX6_buildOfCut 1 = .ok (.getfield 26, 3) := by decide +kernel
theorem dX6_buildOfCut_4 : decode cX6_buildOfCut 4 = .ok (.aload_n 0, 1) := by decide +kernel
theorem dX6_buildOfCut_5 : decode cX6_buildOfCut 5 = .ok (.getfield 44, 3) := by decide +kernel
theorem dX6_buildOfCut_8 : decode cX6_buildOfCut 8 = .ok (.iload_n 1, 1) := by decide +kernel
theorem dX6_buildOfCut_9 : decode cX6_buildOfCut 9 = .ok (.iconst 1, 1) := by decide +kernel
theorem dX6_buildOfCut_10 : decode cX6_buildOfCut 10 = .ok (.iadd, 1) := by decide +kernel
theorem dX6_buildOfCut_11 : decode cX6_buildOfCut 11 = .ok (.iaload, 1) := by decide +kernel
theorem dX6_buildOfCut_12 : decode cX6_buildOfCut 12 = .ok (.iaload, 1) := by decide +kernel
theorem dX6_buildOfCut_13 : decode cX6_buildOfCut 13 = .ok (.ireturn, 1) := by decide +kernel
theorem dX6_sizeOf_0 : decode cX6_sizeOf 0 = .ok (.aload_n 0, 1) := by decide +kernel
theorem dX6_sizeOf_1 : decode cX6_sizeOf 1 = .ok (.getfield 47, 3) := by decide +kernel
theorem dX6_sizeOf_4 : decode cX6_sizeOf 4 = .ok (.iload_n 1, 1) := by decide +kernel
theorem dX6_sizeOf_5 : decode cX6_sizeOf 5 = .ok (.iconst 1, 1) := by decide +kernel
theorem dX6_sizeOf_6 : decode cX6_sizeOf 6 = .ok (.iadd, 1) := by decide +kernel
theorem dX6_sizeOf_7 : decode cX6_sizeOf 7 = .ok (.iaload, 1) := by decide +kernel
theorem dX6_sizeOf_8 : decode cX6_sizeOf 8 = .ok (.aload_n 0, 1) := by decide +kernel
theorem dX6_sizeOf_9 : decode cX6_sizeOf 9 = .ok (.getfield 47, 3) := by decide +kernel
theorem dX6_sizeOf_12 : decode cX6_sizeOf 12 = .ok (.iload_n 1, 1) := by decide +kernel
theorem dX6_sizeOf_13 : decode cX6_sizeOf 13 = .ok (.iaload, 1) := by decide +kernel
theorem dX6_sizeOf_14 : decode cX6_sizeOf 14 = .ok (.isub, 1) := by decide +kernel
theorem dX6_sizeOf_15 : decode cX6_sizeOf 15 = .ok (.ireturn, 1) := by decide +kernel
theorem dX6_price_0 : decode cX6_price 0 = .ok (.iload_n 1, 1) := by decide +kernel
theorem dX6_price_1 : decode cX6_price 1 = .ok (.iconst 0, 1) := by decide +kernel
theorem dX6_price_2 : decode cX6_price 2 = .ok (.sipush 1000, 3) := by decide +kernel
theorem dX6_price_5 : decode cX6_price 5 = .ok (.invokestatic 84, 3) := by decide +kernel
theorem dX6_price_8 : decode cX6_price 8 = .ok (.ifCond .ne 5, 3) := by decide +kernel
theorem dX6_price_11 : decode cX6_price 11 = .ok (.iconst (-1), 1) := by decide +kernel
theorem dX6_price_12 : decode cX6_price 12 = .ok (.ireturn, 1) := by decide +kernel
theorem dX6_price_13 : decode cX6_price 13 = .ok (.aload_n 0, 1) := by decide +kernel
theorem dX6_price_14 : decode cX6_price 14 = .ok (.getfield 70, 3) := by decide +kernel
theorem dX6_price_17 : decode cX6_price 17 = .ok (.istore_n 2, 1) := by decide +kernel
theorem dX6_price_18 : decode cX6_price 18 = .ok (.aload_n 0, 1) := by decide +kernel
theorem dX6_price_19 : decode cX6_price 19 = .ok (.iload_n 1, 1) := by decide +kernel
theorem dX6_price_20 : decode cX6_price 20 = .ok (.putfield 70, 3) := by decide +kernel
theorem dX6_price_23 : decode cX6_price 23 = .ok (.iload_n 2, 1) := by decide +kernel
theorem dX6_price_24 : decode cX6_price 24 = .ok (.ireturn, 1) := by decide +kernel
theorem dX6_cuts_0 : decode cX6_cuts 0 = .ok (.aload_n 0, 1) := by decide +kernel
theorem dX6_cuts_1 : decode cX6_cuts 1 = .ok (.iload_n 1, 1) := by decide +kernel
theorem dX6_cuts_2 : decode cX6_cuts 2 = .ok (.iload_n 2, 1) := by decide +kernel
theorem dX6_cuts_3 : decode cX6_cuts 3 = .ok (.invokevirtual 119, 3) := by decide +kernel
theorem dX6_cuts_6 : decode cX6_cuts 6 = .ok (.istore_n 3, 1) := by decide +kernel
theorem dX6_cuts_7 : decode cX6_cuts 7 = .ok (.iload_n 3, 1) := by decide +kernel
theorem dX6_cuts_8 : decode cX6_cuts 8 = .ok (.ifCond .ge 5, 3) := by decide +kernel
theorem dX6_cuts_11 : decode cX6_cuts 11 = .ok (.iload_n 3, 1) := by decide +kernel
theorem dX6_cuts_12 : decode cX6_cuts 12 = .ok (.ireturn, 1) := by decide +kernel
theorem dX6_cuts_13 : decode cX6_cuts 13 = .ok (.aload_n 0, 1) := by decide +kernel
theorem dX6_cuts_14 : decode cX6_cuts 14 = .ok (.aload_n 0, 1) := by decide +kernel
theorem dX6_cuts_15 : decode cX6_cuts 15 = .ok (.getfield 112, 3) := by decide +kernel
theorem dX6_cuts_18 : decode cX6_cuts 18 = .ok (.ifCond .ne 7, 3) := by decide +kernel
theorem dX6_cuts_21 : decode cX6_cuts 21 = .ok (.lconst 0, 1) := by decide +kernel
theorem dX6_cuts_22 : decode cX6_cuts 22 = .ok (.goto 10, 3) := by decide +kernel
theorem dX6_cuts_25 : decode cX6_cuts 25 = .ok (.aload_n 0, 1) := by decide +kernel
theorem dX6_cuts_26 : decode cX6_cuts 26 = .ok (.getfield 35, 3) := by decide +kernel
theorem dX6_cuts_29 : decode cX6_cuts 29 = .ok (.iconst 0, 1) := by decide +kernel
theorem dX6_cuts_30 : decode cX6_cuts 30 = .ok (.iaload, 1) := by decide +kernel
theorem dX6_cuts_31 : decode cX6_cuts 31 = .ok (.i2l, 1) := by decide +kernel
theorem dX6_cuts_32 : decode cX6_cuts 32 = .ok (.putfield 88, 3) := by decide +kernel
theorem dX6_cuts_35 : decode cX6_cuts 35 = .ok (.aload_n 0, 1) := by decide +kernel
theorem dX6_cuts_36 : decode cX6_cuts 36 = .ok (.getfield 112, 3) := by decide +kernel
theorem dX6_cuts_39 : decode cX6_cuts 39 = .ok (.ifCond .ne 7, 3) := by decide +kernel
theorem dX6_cuts_42 : decode cX6_cuts 42 = .ok (.iconst 0, 1) := by decide +kernel
theorem dX6_cuts_43 : decode cX6_cuts 43 = .ok (.goto 9, 3) := by decide +kernel
theorem dX6_cuts_46 : decode cX6_cuts 46 = .ok (.aload_n 0, 1) := by decide +kernel
theorem dX6_cuts_47 : decode cX6_cuts 47 = .ok (.getfield 132, 3) := by decide +kernel
theorem dX6_cuts_50 : decode cX6_cuts 50 = .ok (.iconst 1, 1) := by decide +kernel
theorem dX6_cuts_51 : decode cX6_cuts 51 = .ok (.isub, 1) := by decide +kernel
theorem dX6_cuts_52 : decode cX6_cuts 52 = .ok (.ireturn, 1) := by decide +kernel
theorem dX6_cut_0 : decode cX6_cut 0 = .ok (.aload_n 0, 1) := by decide +kernel
theorem dX6_cut_1 : decode cX6_cut 1 = .ok (.iload_n 1, 1) := by decide +kernel
theorem dX6_cut_2 : decode cX6_cut 2 = .ok (.iload_n 2, 1) := by decide +kernel
theorem dX6_cut_3 : decode cX6_cut 3 = .ok (.invokevirtual 119, 3) := by decide +kernel
theorem dX6_cut_6 : decode cX6_cut 6 = .ok (.istore 4, 2) := by decide +kernel
theorem dX6_cut_8 : decode cX6_cut 8 = .ok (.iload 4, 2) := by decide +kernel
theorem dX6_cut_10 : decode cX6_cut 10 = .ok (.ifCond .ge 8, 3) := by decide +kernel
theorem dX6_cut_13 : decode cX6_cut 13 = .ok (.iload 4, 2) := by decide +kernel
theorem dX6_cut_15 : decode cX6_cut 15 = .ok (.goto 21, 3) := by decide +kernel
theorem dX6_cut_18 : decode cX6_cut 18 = .ok (.aload_n 0, 1) := by decide +kernel
theorem dX6_cut_19 : decode cX6_cut 19 = .ok (.iload_n 3, 1) := by decide +kernel
theorem dX6_cut_20 : decode cX6_cut 20 = .ok (.invokevirtual 135, 3) := by decide +kernel
theorem dX6_cut_23 : decode cX6_cut 23 = .ok (.ifCond .eq 11, 3) := by decide +kernel
theorem dX6_cut_26 : decode cX6_cut 26 = .ok (.aload_n 0, 1) := by decide +kernel
theorem dX6_cut_27 : decode cX6_cut 27 = .ok (.iload_n 3, 1) := by decide +kernel
theorem dX6_cut_28 : decode cX6_cut 28 = .ok (.invokevirtual 138, 3) := by decide +kernel
theorem dX6_cut_31 : decode cX6_cut 31 = .ok (.goto 5, 3) := by decide +kernel
theorem dX6_cut_34 : decode cX6_cut 34 = .ok (.bipush (-9), 2) := by decide +kernel
theorem dX6_cut_36 : decode cX6_cut 36 = .ok (.ireturn, 1) := by decide +kernel
theorem dX6_middle_0 : decode cX6_middle 0 = .ok (.aload_n 0, 1) := by decide +kernel
theorem dX6_middle_1 : decode cX6_middle 1 = .ok (.iload_n 1, 1) := by decide +kernel
theorem dX6_middle_2 : decode cX6_middle 2 = .ok (.iload_n 2, 1) := by decide +kernel
theorem dX6_middle_3 : decode cX6_middle 3 = .ok (.invokevirtual 119, 3) := by decide +kernel
theorem dX6_middle_6 : decode cX6_middle 6 = .ok (.istore 4, 2) := by decide +kernel
theorem dX6_middle_8 : decode cX6_middle 8 = .ok (.iload 4, 2) := by decide +kernel
theorem dX6_middle_10 : decode cX6_middle 10 = .ok (.ifCond .ge 8, 3) := by decide +kernel
theorem dX6_middle_13 : decode cX6_middle 13 = .ok (.iload 4, 2) := by decide +kernel
theorem dX6_middle_15 : decode cX6_middle 15 = .ok (.goto 28, 3) := by decide +kernel
theorem dX6_middle_18 : decode cX6_middle 18 = .ok (.iload_n 3, 1) := by decide +kernel
theorem dX6_middle_19 : decode cX6_middle 19 = .ok (.iconst 0, 1) := by decide +kernel
theorem dX6_middle_20 : decode cX6_middle 20 = .ok (.aload_n 0, 1) := by decide +kernel
theorem dX6_middle_21 : decode cX6_middle 21 = .ok (.getfield 132, 3) := by decide +kernel
theorem dX6_middle_24 : decode cX6_middle 24 = .ok (.iconst 1, 1) := by decide +kernel
theorem dX6_middle_25 : decode cX6_middle 25 = .ok (.isub, 1) := by decide +kernel
theorem dX6_middle_26 : decode cX6_middle 26 = .ok (.invokestatic 84, 3) := by decide +kernel
theorem dX6_middle_29 : decode cX6_middle 29 = .ok (.ifCond .eq 12, 3) := by decide +kernel
theorem dX6_middle_32 : decode cX6_middle 32 = .ok (.aload_n 0, 1) := by decide +kernel
theorem dX6_middle_33 : decode cX6_middle 33 = .ok (.getfield 47, 3) := by decide +kernel
theorem dX6_middle_36 : decode cX6_middle 36 = .ok (.iload_n 3, 1) := by decide +kernel
theorem dX6_middle_37 : decode cX6_middle 37 = .ok (.iaload, 1) := by decide +kernel
theorem dX6_middle_38 : decode cX6_middle 38 = .ok (.goto 5, 3) := by decide +kernel
theorem dX6_middle_41 : decode cX6_middle 41 = .ok (.bipush (-9), 2) := by decide +kernel
theorem dX6_middle_43 : decode cX6_middle 43 = .ok (.ireturn, 1) := by decide +kernel
theorem dX6_size_0 : decode cX6_size 0 = .ok (.aload_n 0, 1) := by decide +kernel
theorem dX6_size_1 : decode cX6_size 1 = .ok (.iload_n 1, 1) := by decide +kernel
theorem dX6_size_2 : decode cX6_size 2 = .ok (.iload_n 2, 1) := by decide +kernel
theorem dX6_size_3 : decode cX6_size 3 = .ok (.invokevirtual 119, 3) := by decide +kernel
theorem dX6_size_6 : decode cX6_size 6 = .ok (.istore 4, 2) := by decide +kernel
theorem dX6_size_8 : decode cX6_size 8 = .ok (.iload 4, 2) := by decide +kernel
theorem dX6_size_10 : decode cX6_size 10 = .ok (.ifCond .ge 6, 3) := by decide +kernel
theorem dX6_size_13 : decode cX6_size 13 = .ok (.iload 4, 2) := by decide +kernel
theorem dX6_size_15 : decode cX6_size 15 = .ok (.ireturn, 1) := by decide +kernel
theorem dX6_size_16 : decode cX6_size 16 = .ok (.aload_n 0, 1) := by decide +kernel
theorem dX6_size_17 : decode cX6_size 17 = .ok (.iload_n 3, 1) := by decide +kernel
theorem dX6_size_18 : decode cX6_size 18 = .ok (.invokevirtual 135, 3) := by decide +kernel
theorem dX6_size_21 : decode cX6_size 21 = .ok (.ifCond .ne 6, 3) := by decide +kernel
theorem dX6_size_24 : decode cX6_size 24 = .ok (.bipush (-9), 2) := by decide +kernel
theorem dX6_size_26 : decode cX6_size 26 = .ok (.ireturn, 1) := by decide +kernel
theorem dX6_size_27 : decode cX6_size 27 = .ok (.aload_n 0, 1) := by decide +kernel
theorem dX6_size_28 : decode cX6_size 28 = .ok (.aload_n 0, 1) := by decide +kernel
theorem dX6_size_29 : decode cX6_size 29 = .ok (.iload_n 3, 1) := by decide +kernel
theorem dX6_size_30 : decode cX6_size 30 = .ok (.invokevirtual 141, 3) := by decide +kernel
theorem dX6_size_33 : decode cX6_size 33 = .ok (.i2l, 1) := by decide +kernel
theorem dX6_size_34 : decode cX6_size 34 = .ok (.putfield 88, 3) := by decide +kernel
theorem dX6_size_37 : decode cX6_size 37 = .ok (.iconst 1, 1) := by decide +kernel
theorem dX6_size_38 : decode cX6_size 38 = .ok (.ireturn, 1) := by decide +kernel
theorem dX6_reach_0 : decode cX6_reach 0 = .ok (.iload_n 1, 1) := by decide +kernel
theorem dX6_reach_1 : decode cX6_reach 1 = .ok (.iconst 0, 1) := by decide +kernel
theorem dX6_reach_2 : decode cX6_reach 2 = .ok (.iconst 5, 1) := by decide +kernel
theorem dX6_reach_3 : decode cX6_reach 3 = .ok (.invokestatic 84, 3) := by decide +kernel
theorem dX6_reach_6 : decode cX6_reach 6 = .ok (.ifCond .ne 5, 3) := by decide +kernel
theorem dX6_reach_9 : decode cX6_reach 9 = .ok (.iconst (-1), 1) := by decide +kernel
theorem dX6_reach_10 : decode cX6_reach 10 = .ok (.ireturn, 1) := by decide +kernel
theorem dX6_reach_11 : decode cX6_reach 11 = .ok (.aload_n 0, 1) := by decide +kernel
theorem dX6_reach_12 : decode cX6_reach 12 = .ok (.getfield 74, 3) := by decide +kernel
theorem dX6_reach_15 : decode cX6_reach 15 = .ok (.istore_n 2, 1) := by decide +kernel
theorem dX6_reach_16 : decode cX6_reach 16 = .ok (.aload_n 0, 1) := by decide +kernel
theorem dX6_reach_17 : decode cX6_reach 17 = .ok (.iload_n 1, 1) := by decide +kernel
theorem dX6_reach_18 : decode cX6_reach 18 = .ok (.putfield 74, 3) := by decide +kernel
theorem dX6_reach_21 : decode cX6_reach 21 = .ok (.iload_n 2, 1) := by decide +kernel
end
section
theorem dX6_reach_22 : decode cX6_reach 22 = .ok (.ireturn, 1) := by decide +kernel
theorem dX6_showsNear_0 : decode cX6_showsNear 0 = .ok (.iconst 0, 1) := by decide +kernel
theorem dX6_showsNear_1 : decode cX6_showsNear 1 = .ok (.istore_n 3, 1) := by decide +kernel
theorem dX6_showsNear_2 : decode cX6_showsNear 2 = .ok (.iconst 0, 1) := by decide +kernel
theorem dX6_showsNear_3 : decode cX6_showsNear 3 = .ok (.istore 4, 2) := by decide +kernel
theorem dX6_showsNear_5 : decode cX6_showsNear 5 = .ok (.aload_n 0, 1) := by decide +kernel
theorem dX6_showsNear_6 : decode cX6_showsNear 6 = .ok (.iload 4, 2) := by decide +kernel
theorem dX6_showsNear_8 : decode cX6_showsNear 8 = .ok (.invokevirtual 135, 3) := by decide +kernel
theorem dX6_showsNear_11 : decode cX6_showsNear 11 = .ok (.ifCond .eq 86, 3) := by decide +kernel
theorem dX6_showsNear_14 : decode cX6_showsNear 14 = .ok (.aload_n 0, 1) := by decide +kernel
theorem dX6_showsNear_15 : decode cX6_showsNear 15 = .ok (.iload 4, 2) := by decide +kernel
theorem dX6_showsNear_17 : decode cX6_showsNear 17 = .ok (.invokevirtual 138, 3) := by decide +kernel
theorem dX6_showsNear_20 : decode cX6_showsNear 20 = .ok (.iload_n 1, 1) := by decide +kernel
theorem dX6_showsNear_21 : decode cX6_showsNear 21 = .ok (.isub, 1) := by decide +kernel
theorem dX6_showsNear_22 : decode cX6_showsNear 22 = .ok (.istore 5, 2) := by decide +kernel
theorem dX6_showsNear_24 : decode cX6_showsNear 24 = .ok (.iload 5, 2) := by decide +kernel
theorem dX6_showsNear_26 : decode cX6_showsNear 26 = .ok (.aload_n 0, 1) := by decide +kernel
theorem dX6_showsNear_27 : decode cX6_showsNear 27 = .ok (.getfield 74, 3) := by decide +kernel
theorem dX6_showsNear_30 : decode cX6_showsNear 30 = .ok (.if_icmp .gt 17, 3) := by decide +kernel
theorem dX6_showsNear_33 : decode cX6_showsNear 33 = .ok (.iload 5, 2) := by decide +kernel
theorem dX6_showsNear_35 : decode cX6_showsNear 35 = .ok (.ineg, 1) := by decide +kernel
theorem dX6_showsNear_36 : decode cX6_showsNear 36 = .ok (.aload_n 0, 1) := by decide +kernel
theorem dX6_showsNear_37 : decode cX6_showsNear 37 = .ok (.getfield 74, 3) := by decide +kernel
theorem dX6_showsNear_40 : decode cX6_showsNear 40 = .ok (.if_icmp .gt 7, 3) := by decide +kernel
theorem dX6_showsNear_43 : decode cX6_showsNear 43 = .ok (.iconst 1, 1) := by decide +kernel
theorem dX6_showsNear_44 : decode cX6_showsNear 44 = .ok (.goto 4, 3) := by decide +kernel
theorem dX6_showsNear_47 : decode cX6_showsNear 47 = .ok (.iconst 0, 1) := by decide +kernel
theorem dX6_showsNear_48 : decode cX6_showsNear 48 = .ok (.istore 6, 2) := by decide +kernel
theorem dX6_showsNear_50 : decode cX6_showsNear 50 = .ok (.iload_n 3, 1) := by decide +kernel
theorem dX6_showsNear_51 : decode cX6_showsNear 51 = .ok (.ifCond .ne 34, 3) := by decide +kernel
theorem dX6_showsNear_54 : decode cX6_showsNear 54 = .ok (.iload 6, 2) := by decide +kernel
theorem dX6_showsNear_56 : decode cX6_showsNear 56 = .ok (.ifCond .eq 33, 3) := by decide +kernel
theorem dX6_showsNear_59 : decode cX6_showsNear 59 = .ok (.iload_n 2, 1) := by decide +kernel
theorem dX6_showsNear_60 : decode cX6_showsNear 60 = .ok (.ifCond .le 12, 3) := by decide +kernel
theorem dX6_showsNear_63 : decode cX6_showsNear 63 = .ok (.aload_n 0, 1) := by decide +kernel
theorem dX6_showsNear_64 : decode cX6_showsNear 64 = .ok (.iload 4, 2) := by decide +kernel
theorem dX6_showsNear_66 : decode cX6_showsNear 66 = .ok (.invokevirtual 141, 3) := by decide +kernel
theorem dX6_showsNear_69 : decode cX6_showsNear 69 = .ok (.ifCond .gt 16, 3) := by decide +kernel
theorem dX6_showsNear_72 : decode cX6_showsNear 72 = .ok (.iload_n 2, 1) := by decide +kernel
theorem dX6_showsNear_73 : decode cX6_showsNear 73 = .ok (.ifCond .ge 16, 3) := by decide +kernel
theorem dX6_showsNear_76 : decode cX6_showsNear 76 = .ok (.aload_n 0, 1) := by decide +kernel
theorem dX6_showsNear_77 : decode cX6_showsNear 77 = .ok (.iload 4, 2) := by decide +kernel
theorem dX6_showsNear_79 : decode cX6_showsNear 79 = .ok (.invokevirtual 141, 3) := by decide +kernel
theorem dX6_showsNear_82 : decode cX6_showsNear 82 = .ok (.ifCond .ge 7, 3) := by decide +kernel
theorem dX6_showsNear_85 : decode cX6_showsNear 85 = .ok (.iconst 1, 1) := by decide +kernel
theorem dX6_showsNear_86 : decode cX6_showsNear 86 = .ok (.goto 4, 3) := by decide +kernel
theorem dX6_showsNear_89 : decode cX6_showsNear 89 = .ok (.iconst 0, 1) := by decide +kernel
theorem dX6_showsNear_90 : decode cX6_showsNear 90 = .ok (.istore_n 3, 1) := by decide +kernel
theorem dX6_showsNear_91 : decode cX6_showsNear 91 = .ok (.iinc 4 1, 3) := by decide +kernel
theorem dX6_showsNear_94 : decode cX6_showsNear 94 = .ok (.goto (-89), 3) := by decide +kernel
theorem dX6_showsNear_97 : decode cX6_showsNear 97 = .ok (.iload_n 3, 1) := by decide +kernel
theorem dX6_showsNear_98 : decode cX6_showsNear 98 = .ok (.ireturn, 1) := by decide +kernel
theorem dX6_couldShow_0 : decode cX6_couldShow 0 = .ok (.aload_n 0, 1) := by decide +kernel
theorem dX6_couldShow_1 : decode cX6_couldShow 1 = .ok (.getfield 112, 3) := by decide +kernel
theorem dX6_couldShow_4 : decode cX6_couldShow 4 = .ok (.ifCond .le 32, 3) := by decide +kernel
theorem dX6_couldShow_7 : decode cX6_couldShow 7 = .ok (.aload_n 0, 1) := by decide +kernel
theorem dX6_couldShow_8 : decode cX6_couldShow 8 = .ok (.getfield 26, 3) := by decide +kernel
theorem dX6_couldShow_11 : decode cX6_couldShow 11 = .ok (.iconst 0, 1) := by decide +kernel
theorem dX6_couldShow_12 : decode cX6_couldShow 12 = .ok (.iaload, 1) := by decide +kernel
theorem dX6_couldShow_13 : decode cX6_couldShow 13 = .ok (.iload_n 1, 1) := by decide +kernel
theorem dX6_couldShow_14 : decode cX6_couldShow 14 = .ok (.if_icmp .ge 22, 3) := by decide +kernel
theorem dX6_couldShow_17 : decode cX6_couldShow 17 = .ok (.aload_n 0, 1) := by decide +kernel
theorem dX6_couldShow_18 : decode cX6_couldShow 18 = .ok (.getfield 26, 3) := by decide +kernel
theorem dX6_couldShow_21 : decode cX6_couldShow 21 = .ok (.aload_n 0, 1) := by decide +kernel
theorem dX6_couldShow_22 : decode cX6_couldShow 22 = .ok (.getfield 112, 3) := by decide +kernel
theorem dX6_couldShow_25 : decode cX6_couldShow 25 = .ok (.iconst 1, 1) := by decide +kernel
theorem dX6_couldShow_26 : decode cX6_couldShow 26 = .ok (.isub, 1) := by decide +kernel
theorem dX6_couldShow_27 : decode cX6_couldShow 27 = .ok (.iaload, 1) := by decide +kernel
theorem dX6_couldShow_28 : decode cX6_couldShow 28 = .ok (.iload_n 1, 1) := by decide +kernel
theorem dX6_couldShow_29 : decode cX6_couldShow 29 = .ok (.if_icmp .lt 7, 3) := by decide +kernel
theorem dX6_couldShow_32 : decode cX6_couldShow 32 = .ok (.iconst 1, 1) := by decide +kernel
theorem dX6_couldShow_33 : decode cX6_couldShow 33 = .ok (.goto 4, 3) := by decide +kernel
theorem dX6_couldShow_36 : decode cX6_couldShow 36 = .ok (.iconst 0, 1) := by decide +kernel
theorem dX6_couldShow_37 : decode cX6_couldShow 37 = .ok (.ireturn, 1) := by decide +kernel
theorem dX6_isOwn_0 : decode cX6_isOwn 0 = .ok (.aload_n 0, 1) := by decide +kernel
theorem dX6_isOwn_1 : decode cX6_isOwn 1 = .ok (.iload_n 3, 1) := by decide +kernel
theorem dX6_isOwn_2 : decode cX6_isOwn 2 = .ok (.invokevirtual 138, 3) := by decide +kernel
theorem dX6_isOwn_5 : decode cX6_isOwn 5 = .ok (.istore 4, 2) := by decide +kernel
theorem dX6_isOwn_7 : decode cX6_isOwn 7 = .ok (.aload_n 0, 1) := by decide +kernel
theorem dX6_isOwn_8 : decode cX6_isOwn 8 = .ok (.iload_n 3, 1) := by decide +kernel
theorem dX6_isOwn_9 : decode cX6_isOwn 9 = .ok (.invokevirtual 141, 3) := by decide +kernel
theorem dX6_isOwn_12 : decode cX6_isOwn 12 = .ok (.istore 5, 2) := by decide +kernel
theorem dX6_isOwn_14 : decode cX6_isOwn 14 = .ok (.iconst 0, 1) := by decide +kernel
theorem dX6_isOwn_15 : decode cX6_isOwn 15 = .ok (.istore 6, 2) := by decide +kernel
theorem dX6_isOwn_17 : decode cX6_isOwn 17 = .ok (.iconst 0, 1) := by decide +kernel
theorem dX6_isOwn_18 : decode cX6_isOwn 18 = .ok (.istore 7, 2) := by decide +kernel
theorem dX6_isOwn_20 : decode cX6_isOwn 20 = .ok (.iconst 0, 1) := by decide +kernel
theorem dX6_isOwn_21 : decode cX6_isOwn 21 = .ok (.istore 8, 2) := by decide +kernel
theorem dX6_isOwn_23 : decode cX6_isOwn 23 = .ok (.iload 8, 2) := by decide +kernel
theorem dX6_isOwn_25 : decode cX6_isOwn 25 = .ok (.iconst 4, 1) := by decide +kernel
theorem dX6_isOwn_26 : decode cX6_isOwn 26 = .ok (.if_icmp .ge 83, 3) := by decide +kernel
theorem dX6_isOwn_29 : decode cX6_isOwn 29 = .ok (.iload 8, 2) := by decide +kernel
theorem dX6_isOwn_31 : decode cX6_isOwn 31 = .ok (.iload_n 2, 1) := by decide +kernel
theorem dX6_isOwn_32 : decode cX6_isOwn 32 = .ok (.if_icmp .eq 71, 3) := by decide +kernel
theorem dX6_isOwn_35 : decode cX6_isOwn 35 = .ok (.aload_n 0, 1) := by decide +kernel
theorem dX6_isOwn_36 : decode cX6_isOwn 36 = .ok (.getfield 16, 3) := by decide +kernel
theorem dX6_isOwn_39 : decode cX6_isOwn 39 = .ok (.iconst 4, 1) := by decide +kernel
theorem dX6_isOwn_40 : decode cX6_isOwn 40 = .ok (.iload_n 1, 1) := by decide +kernel
theorem dX6_isOwn_41 : decode cX6_isOwn 41 = .ok (.imul, 1) := by decide +kernel
theorem dX6_isOwn_42 : decode cX6_isOwn 42 = .ok (.iload 8, 2) := by decide +kernel
theorem dX6_isOwn_44 : decode cX6_isOwn 44 = .ok (.iadd, 1) := by decide +kernel
theorem dX6_isOwn_45 : decode cX6_isOwn 45 = .ok (.baload, 1) := by decide +kernel
theorem dX6_isOwn_46 : decode cX6_isOwn 46 = .ok (.ifCond .eq 57, 3) := by decide +kernel
theorem dX6_isOwn_49 : decode cX6_isOwn 49 = .ok (.aload_n 0, 1) := by decide +kernel
theorem dX6_isOwn_50 : decode cX6_isOwn 50 = .ok (.iconst 4, 1) := by decide +kernel
theorem dX6_isOwn_51 : decode cX6_isOwn 51 = .ok (.iload_n 1, 1) := by decide +kernel
theorem dX6_isOwn_52 : decode cX6_isOwn 52 = .ok (.imul, 1) := by decide +kernel
theorem dX6_isOwn_53 : decode cX6_isOwn 53 = .ok (.iload 8, 2) := by decide +kernel
theorem dX6_isOwn_55 : decode cX6_isOwn 55 = .ok (.iadd, 1) := by decide +kernel
theorem dX6_isOwn_56 : decode cX6_isOwn 56 = .ok (.invokevirtual 115, 3) := by decide +kernel
theorem dX6_isOwn_59 : decode cX6_isOwn 59 = .ok (.iload 6, 2) := by decide +kernel
theorem dX6_isOwn_61 : decode cX6_isOwn 61 = .ok (.ifCond .ne 14, 3) := by decide +kernel
theorem dX6_isOwn_64 : decode cX6_isOwn 64 = .ok (.aload_n 0, 1) := by decide +kernel
theorem dX6_isOwn_65 : decode cX6_isOwn 65 = .ok (.iload 4, 2) := by decide +kernel
theorem dX6_isOwn_67 : decode cX6_isOwn 67 = .ok (.iload 5, 2) := by decide +kernel
theorem dX6_isOwn_69 : decode cX6_isOwn 69 = .ok (.invokevirtual 144, 3) := by decide +kernel
theorem dX6_isOwn_72 : decode cX6_isOwn 72 = .ok (.ifCond .eq 7, 3) := by decide +kernel
theorem dX6_isOwn_75 : decode cX6_isOwn 75 = .ok (.iconst 1, 1) := by decide +kernel
theorem dX6_isOwn_76 : decode cX6_isOwn 76 = .ok (.goto 4, 3) := by decide +kernel
theorem dX6_isOwn_79 : decode cX6_isOwn 79 = .ok (.iconst 0, 1) := by decide +kernel
theorem dX6_isOwn_80 : decode cX6_isOwn 80 = .ok (.istore 6, 2) := by decide +kernel
theorem dX6_isOwn_82 : decode cX6_isOwn 82 = .ok (.iload 7, 2) := by decide +kernel
theorem dX6_isOwn_84 : decode cX6_isOwn 84 = .ok (.ifCond .ne 12, 3) := by decide +kernel
theorem dX6_isOwn_87 : decode cX6_isOwn 87 = .ok (.aload_n 0, 1) := by decide +kernel
theorem dX6_isOwn_88 : decode cX6_isOwn 88 = .ok (.iload 4, 2) := by decide +kernel
theorem dX6_isOwn_90 : decode cX6_isOwn 90 = .ok (.invokevirtual 147, 3) := by decide +kernel
theorem dX6_isOwn_93 : decode cX6_isOwn 93 = .ok (.ifCond .eq 7, 3) := by decide +kernel
theorem dX6_isOwn_96 : decode cX6_isOwn 96 = .ok (.iconst 1, 1) := by decide +kernel
theorem dX6_isOwn_97 : decode cX6_isOwn 97 = .ok (.goto 4, 3) := by decide +kernel
theorem dX6_isOwn_100 : decode cX6_isOwn 100 = .ok (.iconst 0, 1) := by decide +kernel
theorem dX6_isOwn_101 : decode cX6_isOwn 101 = .ok (.istore 7, 2) := by decide +kernel
theorem dX6_isOwn_103 : decode cX6_isOwn 103 = .ok (.iinc 8 1, 3) := by decide +kernel
theorem dX6_isOwn_106 : decode cX6_isOwn 106 = .ok (.goto (-83), 3) := by decide +kernel
theorem dX6_isOwn_109 : decode cX6_isOwn 109 = .ok (.iload 7, 2) := by decide +kernel
theorem dX6_isOwn_111 : decode cX6_isOwn 111 = .ok (.ifCond .eq 12, 3) := by decide +kernel
theorem dX6_isOwn_114 : decode cX6_isOwn 114 = .ok (.iload 6, 2) := by decide +kernel
theorem dX6_isOwn_116 : decode cX6_isOwn 116 = .ok (.ifCond .ne 7, 3) := by decide +kernel
theorem dX6_isOwn_119 : decode cX6_isOwn 119 = .ok (.iconst 1, 1) := by decide +kernel
theorem dX6_isOwn_120 : decode cX6_isOwn 120 = .ok (.goto 4, 3) := by decide +kernel
theorem dX6_isOwn_123 : decode cX6_isOwn 123 = .ok (.iconst 0, 1) := by decide +kernel
theorem dX6_isOwn_124 : decode cX6_isOwn 124 = .ok (.ireturn, 1) := by decide +kernel
theorem dX6_own_0 : decode cX6_own 0 = .ok (.aload_n 0, 1) := by decide +kernel
theorem dX6_own_1 : decode cX6_own 1 = .ok (.iload_n 1, 1) := by decide +kernel
theorem dX6_own_2 : decode cX6_own 2 = .ok (.iload_n 2, 1) := by decide +kernel
theorem dX6_own_3 : decode cX6_own 3 = .ok (.invokevirtual 119, 3) := by decide +kernel
theorem dX6_own_6 : decode cX6_own 6 = .ok (.istore 4, 2) := by decide +kernel
theorem dX6_own_8 : decode cX6_own 8 = .ok (.iload 4, 2) := by decide +kernel
theorem dX6_own_10 : decode cX6_own 10 = .ok (.ifCond .ge 8, 3) := by decide +kernel
theorem dX6_own_13 : decode cX6_own 13 = .ok (.iload 4, 2) := by decide +kernel
theorem dX6_own_15 : decode cX6_own 15 = .ok (.goto 31, 3) := by decide +kernel
theorem dX6_own_18 : decode cX6_own 18 = .ok (.aload_n 0, 1) := by decide +kernel
theorem dX6_own_19 : decode cX6_own 19 = .ok (.iload_n 3, 1) := by decide +kernel
theorem dX6_own_20 : decode cX6_own 20 = .ok (.invokevirtual 135, 3) := by decide +kernel
theorem dX6_own_23 : decode cX6_own 23 = .ok (.ifCond .ne 8, 3) := by decide +kernel
theorem dX6_own_26 : decode cX6_own 26 = .ok (.bipush (-9), 2) := by decide +kernel
theorem dX6_own_28 : decode cX6_own 28 = .ok (.goto 18, 3) := by decide +kernel
theorem dX6_own_31 : decode cX6_own 31 = .ok (.aload_n 0, 1) := by decide +kernel
theorem dX6_own_32 : decode cX6_own 32 = .ok (.iload_n 1, 1) := by decide +kernel
theorem dX6_own_33 : decode cX6_own 33 = .ok (.iload_n 2, 1) := by decide +kernel
theorem dX6_own_34 : decode cX6_own 34 = .ok (.iload_n 3, 1) := by decide +kernel
theorem dX6_own_35 : decode cX6_own 35 = .ok (.invokevirtual 150, 3) := by decide +kernel
theorem dX6_own_38 : decode cX6_own 38 = .ok (.ifCond .eq 7, 3) := by decide +kernel
theorem dX6_own_41 : decode cX6_own 41 = .ok (.iconst 1, 1) := by decide +kernel
theorem dX6_own_42 : decode cX6_own 42 = .ok (.goto 4, 3) := by decide +kernel
theorem dX6_own_45 : decode cX6_own 45 = .ok (.iconst 0, 1) := by decide +kernel
theorem dX6_own_46 : decode cX6_own 46 = .ok (.ireturn, 1) := by decide +kernel
theorem dX6_layPairs_0 : decode cX6_layPairs 0 = .ok (.iconst 0, 1) := by decide +kernel
theorem dX6_layPairs_1 : decode cX6_layPairs 1 = .ok (.istore_n 1, 1) := by decide +kernel
theorem dX6_layPairs_2 : decode cX6_layPairs 2 = .ok (.iload_n 1, 1) := by decide +kernel
theorem dX6_layPairs_3 : decode cX6_layPairs 3 = .ok (.bipush 40, 2) := by decide +kernel
theorem dX6_layPairs_5 : decode cX6_layPairs 5 = .ok (.if_icmp .ge 24, 3) := by decide +kernel
theorem dX6_layPairs_8 : decode cX6_layPairs 8 = .ok (.aload_n 0, 1) := by decide +kernel
theorem dX6_layPairs_9 : decode cX6_layPairs 9 = .ok (.getfield 53, 3) := by decide +kernel
theorem dX6_layPairs_12 : decode cX6_layPairs 12 = .ok (.iload_n 1, 1) := by decide +kernel
theorem dX6_layPairs_13 : decode cX6_layPairs 13 = .ok (.bipush (-9), 2) := by decide +kernel
theorem dX6_layPairs_15 : decode cX6_layPairs 15 = .ok (.iastore, 1) := by decide +kernel
theorem dX6_layPairs_16 : decode cX6_layPairs 16 = .ok (.aload_n 0, 1) := by decide +kernel
theorem dX6_layPairs_17 : decode cX6_layPairs 17 = .ok (.getfield 56, 3) := by decide +kernel
theorem dX6_layPairs_20 : decode cX6_layPairs 20 = .ok (.iload_n 1, 1) := by decide +kernel
theorem dX6_layPairs_21 : decode cX6_layPairs 21 = .ok (.iconst 0, 1) := by decide +kernel
theorem dX6_layPairs_22 : decode cX6_layPairs 22 = .ok (.bastore, 1) := by decide +kernel
theorem dX6_layPairs_23 : decode cX6_layPairs 23 = .ok (.iinc 1 1, 3) := by decide +kernel
theorem dX6_layPairs_26 : decode cX6_layPairs 26 = .ok (.goto (-24), 3) := by decide +kernel
theorem dX6_layPairs_29 : decode cX6_layPairs 29 = .ok (.iconst 0, 1) := by decide +kernel
theorem dX6_layPairs_30 : decode cX6_layPairs 30 = .ok (.istore_n 1, 1) := by decide +kernel
theorem dX6_layPairs_31 : decode cX6_layPairs 31 = .ok (.aload_n 0, 1) := by decide +kernel
theorem dX6_layPairs_32 : decode cX6_layPairs 32 = .ok (.iload_n 1, 1) := by decide +kernel
theorem dX6_layPairs_33 : decode cX6_layPairs 33 = .ok (.invokevirtual 135, 3) := by decide +kernel
theorem dX6_layPairs_36 : decode cX6_layPairs 36 = .ok (.ifCond .eq 119, 3) := by decide +kernel
theorem dX6_layPairs_39 : decode cX6_layPairs 39 = .ok (.iload_n 1, 1) := by decide +kernel
theorem dX6_layPairs_40 : decode cX6_layPairs 40 = .ok (.iconst 1, 1) := by decide +kernel
theorem dX6_layPairs_41 : decode cX6_layPairs 41 = .ok (.iadd, 1) := by decide +kernel
theorem dX6_layPairs_42 : decode cX6_layPairs 42 = .ok (.istore_n 2, 1) := by decide +kernel
theorem dX6_layPairs_43 : decode cX6_layPairs 43 = .ok (.aload_n 0, 1) := by decide +kernel
theorem dX6_layPairs_44 : decode cX6_layPairs 44 = .ok (.iload_n 2, 1) := by decide +kernel
theorem dX6_layPairs_45 : decode cX6_layPairs 45 = .ok (.invokevirtual 135, 3) := by decide +kernel
theorem dX6_layPairs_48 : decode cX6_layPairs 48 = .ok (.ifCond .eq 101, 3) := by decide +kernel
theorem dX6_layPairs_51 : decode cX6_layPairs 51 = .ok (.aload_n 0, 1) := by decide +kernel
theorem dX6_layPairs_52 : decode cX6_layPairs 52 = .ok (.iload_n 1, 1) := by decide +kernel
theorem dX6_layPairs_53 : decode cX6_layPairs 53 = .ok (.invokevirtual 141, 3) := by decide +kernel
theorem dX6_layPairs_56 : decode cX6_layPairs 56 = .ok (.ifCond .le 93, 3) := by decide +kernel
theorem dX6_layPairs_59 : decode cX6_layPairs 59 = .ok (.aload_n 0, 1) := by decide +kernel
theorem dX6_layPairs_60 : decode cX6_layPairs 60 = .ok (.getfield 53, 3) := by decide +kernel
theorem dX6_layPairs_63 : decode cX6_layPairs 63 = .ok (.iload_n 1, 1) := by decide +kernel
theorem dX6_layPairs_64 : decode cX6_layPairs 64 = .ok (.iaload, 1) := by decide +kernel
theorem dX6_layPairs_65 : decode cX6_layPairs 65 = .ok (.bipush (-9), 2) := by decide +kernel
theorem dX6_layPairs_67 : decode cX6_layPairs 67 = .ok (.if_icmp .ne 82, 3) := by decide +kernel
theorem dX6_layPairs_70 : decode cX6_layPairs 70 = .ok (.aload_n 0, 1) := by decide +kernel
theorem dX6_layPairs_71 : decode cX6_layPairs 71 = .ok (.iload_n 2, 1) := by decide +kernel
theorem dX6_layPairs_72 : decode cX6_layPairs 72 = .ok (.invokevirtual 141, 3) := by decide +kernel
theorem dX6_layPairs_75 : decode cX6_layPairs 75 = .ok (.ineg, 1) := by decide +kernel
theorem dX6_layPairs_76 : decode cX6_layPairs 76 = .ok (.aload_n 0, 1) := by decide +kernel
theorem dX6_layPairs_77 : decode cX6_layPairs 77 = .ok (.iload_n 1, 1) := by decide +kernel
theorem dX6_layPairs_78 : decode cX6_layPairs 78 = .ok (.invokevirtual 141, 3) := by decide +kernel
theorem dX6_layPairs_81 : decode cX6_layPairs 81 = .ok (.isub, 1) := by decide +kernel
theorem dX6_layPairs_82 : decode cX6_layPairs 82 = .ok (.istore_n 3, 1) := by decide +kernel
theorem dX6_layPairs_83 : decode cX6_layPairs 83 = .ok (.iload_n 3, 1) := by decide +kernel
theorem dX6_layPairs_84 : decode cX6_layPairs 84 = .ok (.ifCond .ge 8, 3) := by decide +kernel
theorem dX6_layPairs_87 : decode cX6_layPairs 87 = .ok (.iload_n 3, 1) := by decide +kernel
theorem dX6_layPairs_88 : decode cX6_layPairs 88 = .ok (.ineg, 1) := by decide +kernel
theorem dX6_layPairs_89 : decode cX6_layPairs 89 = .ok (.goto 4, 3) := by decide +kernel
theorem dX6_layPairs_92 : decode cX6_layPairs 92 = .ok (.iload_n 3, 1) := by decide +kernel
theorem dX6_layPairs_93 : decode cX6_layPairs 93 = .ok (.istore 4, 2) := by decide +kernel
theorem dX6_layPairs_95 : decode cX6_layPairs 95 = .ok (.aload_n 0, 1) := by decide +kernel
theorem dX6_layPairs_96 : decode cX6_layPairs 96 = .ok (.iload_n 2, 1) := by decide +kernel
theorem dX6_layPairs_97 : decode cX6_layPairs 97 = .ok (.invokevirtual 141, 3) := by decide +kernel
theorem dX6_layPairs_100 : decode cX6_layPairs 100 = .ok (.ifCond .ge 43, 3) := by decide +kernel
theorem dX6_layPairs_103 : decode cX6_layPairs 103 = .ok (.aload_n 0, 1) := by decide +kernel
theorem dX6_layPairs_104 : decode cX6_layPairs 104 = .ok (.getfield 56, 3) := by decide +kernel
theorem dX6_layPairs_107 : decode cX6_layPairs 107 = .ok (.iload_n 2, 1) := by decide +kernel
theorem dX6_layPairs_108 : decode cX6_layPairs 108 = .ok (.baload, 1) := by decide +kernel
theorem dX6_layPairs_109 : decode cX6_layPairs 109 = .ok (.ifCond .ne 34, 3) := by decide +kernel
theorem dX6_layPairs_112 : decode cX6_layPairs 112 = .ok (.ldc2_w 153, 3) := by decide +kernel
theorem dX6_layPairs_115 : decode cX6_layPairs 115 = .ok (.iload 4, 2) := by decide +kernel
theorem dX6_layPairs_117 : decode cX6_layPairs 117 = .ok (.i2l, 1) := by decide +kernel
theorem dX6_layPairs_118 : decode cX6_layPairs 118 = .ok (.lmul, 1) := by decide +kernel
theorem dX6_layPairs_119 : decode cX6_layPairs 119 = .ok (.aload_n 0, 1) := by decide +kernel
theorem dX6_layPairs_120 : decode cX6_layPairs 120 = .ok (.iload_n 1, 1) := by decide +kernel
theorem dX6_layPairs_121 : decode cX6_layPairs 121 = .ok (.invokevirtual 141, 3) := by decide +kernel
theorem dX6_layPairs_124 : decode cX6_layPairs 124 = .ok (.i2l, 1) := by decide +kernel
theorem dX6_layPairs_125 : decode cX6_layPairs 125 = .ok (.lcmp, 1) := by decide +kernel
theorem dX6_layPairs_126 : decode cX6_layPairs 126 = .ok (.ifCond .gt 17, 3) := by decide +kernel
theorem dX6_layPairs_129 : decode cX6_layPairs 129 = .ok (.aload_n 0, 1) := by decide +kernel
theorem dX6_layPairs_130 : decode cX6_layPairs 130 = .ok (.getfield 53, 3) := by decide +kernel
theorem dX6_layPairs_133 : decode cX6_layPairs 133 = .ok (.iload_n 1, 1) := by decide +kernel
theorem dX6_layPairs_134 : decode cX6_layPairs 134 = .ok (.iload_n 2, 1) := by decide +kernel
theorem dX6_layPairs_135 : decode cX6_layPairs 135 = .ok (.iastore, 1) := by decide +kernel
theorem dX6_layPairs_136 : decode cX6_layPairs 136 = .ok (.aload_n 0, 1) := by decide +kernel
theorem dX6_layPairs_137 : decode cX6_layPairs 137 = .ok (.getfield 56, 3) := by decide +kernel
theorem dX6_layPairs_140 : decode cX6_layPairs 140 = .ok (.iload_n 2, 1) := by decide +kernel
theorem dX6_layPairs_141 : decode cX6_layPairs 141 = .ok (.iconst 1, 1) := by decide +kernel
theorem dX6_layPairs_142 : decode cX6_layPairs 142 = .ok (.bastore, 1) := by decide +kernel
theorem dX6_layPairs_143 : decode cX6_layPairs 143 = .ok (.iinc 2 1, 3) := by decide +kernel
theorem dX6_layPairs_146 : decode cX6_layPairs 146 = .ok (.goto (-103), 3) := by decide +kernel
theorem dX6_layPairs_149 : decode cX6_layPairs 149 = .ok (.iinc 1 1, 3) := by decide +kernel
theorem dX6_layPairs_152 : decode cX6_layPairs 152 = .ok (.goto (-121), 3) := by decide +kernel
theorem dX6_layPairs_155 : decode cX6_layPairs 155 = .ok (.return_, 1) := by decide +kernel
theorem dX6_undone_0 : decode cX6_undone 0 = .ok (.aload_n 0, 1) := by decide +kernel
theorem dX6_undone_1 : decode cX6_undone 1 = .ok (.iload_n 1, 1) := by decide +kernel
theorem dX6_undone_2 : decode cX6_undone 2 = .ok (.iload_n 2, 1) := by decide +kernel
theorem dX6_undone_3 : decode cX6_undone 3 = .ok (.invokevirtual 119, 3) := by decide +kernel
theorem dX6_undone_6 : decode cX6_undone 6 = .ok (.istore 4, 2) := by decide +kernel
theorem dX6_undone_8 : decode cX6_undone 8 = .ok (.iload 4, 2) := by decide +kernel
theorem dX6_undone_10 : decode cX6_undone 10 = .ok (.ifCond .ge 6, 3) := by decide +kernel
theorem dX6_undone_13 : decode cX6_undone 13 = .ok (.iload 4, 2) := by decide +kernel
theorem dX6_undone_15 : decode cX6_undone 15 = .ok (.ireturn, 1) := by decide +kernel
theorem dX6_undone_16 : decode cX6_undone 16 = .ok (.aload_n 0, 1) := by decide +kernel
theorem dX6_undone_17 : decode cX6_undone 17 = .ok (.getfield 13, 3) := by decide +kernel
theorem dX6_undone_20 : decode cX6_undone 20 = .ok (.iload_n 1, 1) := by decide +kernel
theorem dX6_undone_21 : decode cX6_undone 21 = .ok (.iaload, 1) := by decide +kernel
theorem dX6_undone_22 : decode cX6_undone 22 = .ok (.iconst 1, 1) := by decide +kernel
theorem dX6_undone_23 : decode cX6_undone 23 = .ok (.if_icmp .eq 9, 3) := by decide +kernel
theorem dX6_undone_26 : decode cX6_undone 26 = .ok (.aload_n 0, 1) := by decide +kernel
theorem dX6_undone_27 : decode cX6_undone 27 = .ok (.iconst 3, 1) := by decide +kernel
theorem dX6_undone_28 : decode cX6_undone 28 = .ok (.invokevirtual 106, 3) := by decide +kernel
theorem dX6_undone_31 : decode cX6_undone 31 = .ok (.ireturn, 1) := by decide +kernel
theorem dX6_undone_32 : decode cX6_undone 32 = .ok (.aload_n 0, 1) := by decide +kernel
theorem dX6_undone_33 : decode cX6_undone 33 = .ok (.invokevirtual 155, 3) := by decide +kernel
theorem dX6_undone_36 : decode cX6_undone 36 = .ok (.aload_n 0, 1) := by decide +kernel
theorem dX6_undone_37 : decode cX6_undone 37 = .ok (.iload_n 3, 1) := by decide +kernel
theorem dX6_undone_38 : decode cX6_undone 38 = .ok (.invokevirtual 135, 3) := by decide +kernel
theorem dX6_undone_41 : decode cX6_undone 41 = .ok (.ifCond .eq 12, 3) := by decide +kernel
theorem dX6_undone_44 : decode cX6_undone 44 = .ok (.aload_n 0, 1) := by decide +kernel
theorem dX6_undone_45 : decode cX6_undone 45 = .ok (.getfield 53, 3) := by decide +kernel
theorem dX6_undone_48 : decode cX6_undone 48 = .ok (.iload_n 3, 1) := by decide +kernel
theorem dX6_undone_49 : decode cX6_undone 49 = .ok (.iaload, 1) := by decide +kernel
theorem dX6_undone_50 : decode cX6_undone 50 = .ok (.goto 5, 3) := by decide +kernel
theorem dX6_undone_53 : decode cX6_undone 53 = .ok (.bipush (-9), 2) := by decide +kernel
theorem dX6_undone_55 : decode cX6_undone 55 = .ok (.ireturn, 1) := by decide +kernel
theorem dX6_layOdds_0 : decode cX6_layOdds 0 = .ok (.aload_n 0, 1) := by decide +kernel
theorem dX6_layOdds_1 : decode cX6_layOdds 1 = .ok (.getfield 44, 3) := by decide +kernel
theorem dX6_layOdds_4 : decode cX6_layOdds 4 = .ok (.iload_n 1, 1) := by decide +kernel
theorem dX6_layOdds_5 : decode cX6_layOdds 5 = .ok (.iaload, 1) := by decide +kernel
theorem dX6_layOdds_6 : decode cX6_layOdds 6 = .ok (.istore_n 2, 1) := by decide +kernel
theorem dX6_layOdds_7 : decode cX6_layOdds 7 = .ok (.aload_n 0, 1) := by decide +kernel
theorem dX6_layOdds_8 : decode cX6_layOdds 8 = .ok (.getfield 44, 3) := by decide +kernel
theorem dX6_layOdds_11 : decode cX6_layOdds 11 = .ok (.iload_n 1, 1) := by decide +kernel
theorem dX6_layOdds_12 : decode cX6_layOdds 12 = .ok (.iconst 2, 1) := by decide +kernel
theorem dX6_layOdds_13 : decode cX6_layOdds 13 = .ok (.iadd, 1) := by decide +kernel
theorem dX6_layOdds_14 : decode cX6_layOdds 14 = .ok (.iaload, 1) := by decide +kernel
theorem dX6_layOdds_15 : decode cX6_layOdds 15 = .ok (.istore_n 3, 1) := by decide +kernel
theorem dX6_layOdds_16 : decode cX6_layOdds 16 = .ok (.iload_n 3, 1) := by decide +kernel
theorem dX6_layOdds_17 : decode cX6_layOdds 17 = .ok (.iload_n 2, 1) := by decide +kernel
theorem dX6_layOdds_18 : decode cX6_layOdds 18 = .ok (.isub, 1) := by decide +kernel
theorem dX6_layOdds_19 : decode cX6_layOdds 19 = .ok (.istore 4, 2) := by decide +kernel
theorem dX6_layOdds_21 : decode cX6_layOdds 21 = .ok (.iload 4, 2) := by decide +kernel
theorem dX6_layOdds_23 : decode cX6_layOdds 23 = .ok (.bipush 20, 2) := by decide +kernel
theorem dX6_layOdds_25 : decode cX6_layOdds 25 = .ok (.if_icmp .le 5, 3) := by decide +kernel
theorem dX6_layOdds_28 : decode cX6_layOdds 28 = .ok (.iconst 0, 1) := by decide +kernel
theorem dX6_layOdds_29 : decode cX6_layOdds 29 = .ok (.ireturn, 1) := by decide +kernel
theorem dX6_layOdds_30 : decode cX6_layOdds 30 = .ok (.iload_n 3, 1) := by decide +kernel
theorem dX6_layOdds_31 : decode cX6_layOdds 31 = .ok (.aload_n 0, 1) := by decide +kernel
theorem dX6_layOdds_32 : decode cX6_layOdds 32 = .ok (.getfield 44, 3) := by decide +kernel
theorem dX6_layOdds_35 : decode cX6_layOdds 35 = .ok (.iload_n 1, 1) := by decide +kernel
theorem dX6_layOdds_36 : decode cX6_layOdds 36 = .ok (.iconst 1, 1) := by decide +kernel
theorem dX6_layOdds_37 : decode cX6_layOdds 37 = .ok (.iadd, 1) := by decide +kernel
theorem dX6_layOdds_38 : decode cX6_layOdds 38 = .ok (.iaload, 1) := by decide +kernel
theorem dX6_layOdds_39 : decode cX6_layOdds 39 = .ok (.isub, 1) := by decide +kernel
theorem dX6_layOdds_40 : decode cX6_layOdds 40 = .ok (.istore 5, 2) := by decide +kernel
theorem dX6_layOdds_42 : decode cX6_layOdds 42 = .ok (.iconst 0, 1) := by decide +kernel
theorem dX6_layOdds_43 : decode cX6_layOdds 43 = .ok (.istore 6, 2) := by decide +kernel
theorem dX6_layOdds_45 : decode cX6_layOdds 45 = .ok (.aload_n 0, 1) := by decide +kernel
theorem dX6_layOdds_46 : decode cX6_layOdds 46 = .ok (.getfield 44, 3) := by decide +kernel
theorem dX6_layOdds_49 : decode cX6_layOdds 49 = .ok (.iload_n 1, 1) := by decide +kernel
theorem dX6_layOdds_50 : decode cX6_layOdds 50 = .ok (.iconst 1, 1) := by decide +kernel
theorem dX6_layOdds_51 : decode cX6_layOdds 51 = .ok (.iadd, 1) := by decide +kernel
theorem dX6_layOdds_52 : decode cX6_layOdds 52 = .ok (.iaload, 1) := by decide +kernel
theorem dX6_layOdds_53 : decode cX6_layOdds 53 = .ok (.istore 7, 2) := by decide +kernel
theorem dX6_layOdds_55 : decode cX6_layOdds 55 = .ok (.iload 7, 2) := by decide +kernel
theorem dX6_layOdds_57 : decode cX6_layOdds 57 = .ok (.iload_n 3, 1) := by decide +kernel
theorem dX6_layOdds_58 : decode cX6_layOdds 58 = .ok (.if_icmp .ge 21, 3) := by decide +kernel
theorem dX6_layOdds_61 : decode cX6_layOdds 61 = .ok (.iload 6, 2) := by decide +kernel
theorem dX6_layOdds_63 : decode cX6_layOdds 63 = .ok (.aload_n 0, 1) := by decide +kernel
theorem dX6_layOdds_64 : decode cX6_layOdds 64 = .ok (.getfield 32, 3) := by decide +kernel
theorem dX6_layOdds_67 : decode cX6_layOdds 67 = .ok (.iload 7, 2) := by decide +kernel
theorem dX6_layOdds_69 : decode cX6_layOdds 69 = .ok (.iaload, 1) := by decide +kernel
theorem dX6_layOdds_70 : decode cX6_layOdds 70 = .ok (.iadd, 1) := by decide +kernel
theorem dX6_layOdds_71 : decode cX6_layOdds 71 = .ok (.istore 6, 2) := by decide +kernel
theorem dX6_layOdds_73 : decode cX6_layOdds 73 = .ok (.iinc 7 1, 3) := by decide +kernel
theorem dX6_layOdds_76 : decode cX6_layOdds 76 = .ok (.goto (-21), 3) := by decide +kernel
theorem dX6_layOdds_79 : decode cX6_layOdds 79 = .ok (.iconst 0, 1) := by decide +kernel
theorem dX6_layOdds_80 : decode cX6_layOdds 80 = .ok (.istore 7, 2) := by decide +kernel
theorem dX6_layOdds_82 : decode cX6_layOdds 82 = .ok (.iload 7, 2) := by decide +kernel
theorem dX6_layOdds_84 : decode cX6_layOdds 84 = .ok (.ldc 59, 2) := by decide +kernel
theorem dX6_layOdds_86 : decode cX6_layOdds 86 = .ok (.if_icmp .ge 17, 3) := by decide +kernel
theorem dX6_layOdds_89 : decode cX6_layOdds 89 = .ok (.aload_n 0, 1) := by decide +kernel
theorem dX6_layOdds_90 : decode cX6_layOdds 90 = .ok (.getfield 60, 3) := by decide +kernel
theorem dX6_layOdds_93 : decode cX6_layOdds 93 = .ok (.iload 7, 2) := by decide +kernel
theorem dX6_layOdds_95 : decode cX6_layOdds 95 = .ok (.lconst 0, 1) := by decide +kernel
theorem dX6_layOdds_96 : decode cX6_layOdds 96 = .ok (.lastore, 1) := by decide +kernel
theorem dX6_layOdds_97 : decode cX6_layOdds 97 = .ok (.iinc 7 1, 3) := by decide +kernel
theorem dX6_layOdds_100 : decode cX6_layOdds 100 = .ok (.goto (-18), 3) := by decide +kernel
theorem dX6_layOdds_103 : decode cX6_layOdds 103 = .ok (.aload_n 0, 1) := by decide +kernel
theorem dX6_layOdds_104 : decode cX6_layOdds 104 = .ok (.getfield 60, 3) := by decide +kernel
theorem dX6_layOdds_107 : decode cX6_layOdds 107 = .ok (.iconst 0, 1) := by decide +kernel
theorem dX6_layOdds_108 : decode cX6_layOdds 108 = .ok (.lconst 1, 1) := by decide +kernel
theorem dX6_layOdds_109 : decode cX6_layOdds 109 = .ok (.lastore, 1) := by decide +kernel
theorem dX6_layOdds_110 : decode cX6_layOdds 110 = .ok (.iload_n 2, 1) := by decide +kernel
theorem dX6_layOdds_111 : decode cX6_layOdds 111 = .ok (.istore 7, 2) := by decide +kernel
theorem dX6_layOdds_113 : decode cX6_layOdds 113 = .ok (.iload 7, 2) := by decide +kernel
theorem dX6_layOdds_115 : decode cX6_layOdds 115 = .ok (.iload_n 3, 1) := by decide +kernel
theorem dX6_layOdds_116 : decode cX6_layOdds 116 = .ok (.if_icmp .ge 92, 3) := by decide +kernel
theorem dX6_layOdds_119 : decode cX6_layOdds 119 = .ok (.iload 7, 2) := by decide +kernel
theorem dX6_layOdds_121 : decode cX6_layOdds 121 = .ok (.iload_n 2, 1) := by decide +kernel
theorem dX6_layOdds_122 : decode cX6_layOdds 122 = .ok (.isub, 1) := by decide +kernel
theorem dX6_layOdds_123 : decode cX6_layOdds 123 = .ok (.istore 8, 2) := by decide +kernel
theorem dX6_layOdds_125 : decode cX6_layOdds 125 = .ok (.iload 8, 2) := by decide +kernel
theorem dX6_layOdds_127 : decode cX6_layOdds 127 = .ok (.ifCond .lt 75, 3) := by decide +kernel
theorem dX6_layOdds_130 : decode cX6_layOdds 130 = .ok (.iconst 0, 1) := by decide +kernel
theorem dX6_layOdds_131 : decode cX6_layOdds 131 = .ok (.istore 9, 2) := by decide +kernel
theorem dX6_layOdds_133 : decode cX6_layOdds 133 = .ok (.iload 9, 2) := by decide +kernel
theorem dX6_layOdds_135 : decode cX6_layOdds 135 = .ok (.aload_n 0, 1) := by decide +kernel
theorem dX6_layOdds_136 : decode cX6_layOdds 136 = .ok (.getfield 32, 3) := by decide +kernel
theorem dX6_layOdds_139 : decode cX6_layOdds 139 = .ok (.iload 7, 2) := by decide +kernel
theorem dX6_layOdds_141 : decode cX6_layOdds 141 = .ok (.iaload, 1) := by decide +kernel
theorem dX6_layOdds_142 : decode cX6_layOdds 142 = .ok (.iadd, 1) := by decide +kernel
theorem dX6_layOdds_143 : decode cX6_layOdds 143 = .ok (.sipush 1700, 3) := by decide +kernel
theorem dX6_layOdds_146 : decode cX6_layOdds 146 = .ok (.if_icmp .ge 50, 3) := by decide +kernel
theorem dX6_layOdds_149 : decode cX6_layOdds 149 = .ok (.aload_n 0, 1) := by decide +kernel
theorem dX6_layOdds_150 : decode cX6_layOdds 150 = .ok (.getfield 60, 3) := by decide +kernel
theorem dX6_layOdds_153 : decode cX6_layOdds 153 = .ok (.sipush 1700, 3) := by decide +kernel
theorem dX6_layOdds_156 : decode cX6_layOdds 156 = .ok (.iload 8, 2) := by decide +kernel
theorem dX6_layOdds_158 : decode cX6_layOdds 158 = .ok (.iconst 1, 1) := by decide +kernel
theorem dX6_layOdds_159 : decode cX6_layOdds 159 = .ok (.iadd, 1) := by decide +kernel
theorem dX6_layOdds_160 : decode cX6_layOdds 160 = .ok (.imul, 1) := by decide +kernel
theorem dX6_layOdds_161 : decode cX6_layOdds 161 = .ok (.iload 9, 2) := by decide +kernel
theorem dX6_layOdds_163 : decode cX6_layOdds 163 = .ok (.iadd, 1) := by decide +kernel
theorem dX6_layOdds_164 : decode cX6_layOdds 164 = .ok (.aload_n 0, 1) := by decide +kernel
theorem dX6_layOdds_165 : decode cX6_layOdds 165 = .ok (.getfield 32, 3) := by decide +kernel
theorem dX6_layOdds_168 : decode cX6_layOdds 168 = .ok (.iload 7, 2) := by decide +kernel
theorem dX6_layOdds_170 : decode cX6_layOdds 170 = .ok (.iaload, 1) := by decide +kernel
theorem dX6_layOdds_171 : decode cX6_layOdds 171 = .ok (.iadd, 1) := by decide +kernel
theorem dX6_layOdds_172 : decode cX6_layOdds 172 = .ok (.dup2, 1) := by decide +kernel
theorem dX6_layOdds_173 : decode cX6_layOdds 173 = .ok (.laload, 1) := by decide +kernel
theorem dX6_layOdds_174 : decode cX6_layOdds 174 = .ok (.aload_n 0, 1) := by decide +kernel
theorem dX6_layOdds_175 : decode cX6_layOdds 175 = .ok (.getfield 60, 3) := by decide +kernel
theorem dX6_layOdds_178 : decode cX6_layOdds 178 = .ok (.sipush 1700, 3) := by decide +kernel
theorem dX6_layOdds_181 : decode cX6_layOdds 181 = .ok (.iload 8, 2) := by decide +kernel
theorem dX6_layOdds_183 : decode cX6_layOdds 183 = .ok (.imul, 1) := by decide +kernel
theorem dX6_layOdds_184 : decode cX6_layOdds 184 = .ok (.iload 9, 2) := by decide +kernel
theorem dX6_layOdds_186 : decode cX6_layOdds 186 = .ok (.iadd, 1) := by decide +kernel
theorem dX6_layOdds_187 : decode cX6_layOdds 187 = .ok (.laload, 1) := by decide +kernel
theorem dX6_layOdds_188 : decode cX6_layOdds 188 = .ok (.ladd, 1) := by decide +kernel
theorem dX6_layOdds_189 : decode cX6_layOdds 189 = .ok (.lastore, 1) := by decide +kernel
theorem dX6_layOdds_190 : decode cX6_layOdds 190 = .ok (.iinc 9 1, 3) := by decide +kernel
theorem dX6_layOdds_193 : decode cX6_layOdds 193 = .ok (.goto (-60), 3) := by decide +kernel
theorem dX6_layOdds_196 : decode cX6_layOdds 196 = .ok (.iinc 8 (-1), 3) := by decide +kernel
theorem dX6_layOdds_199 : decode cX6_layOdds 199 = .ok (.goto (-74), 3) := by decide +kernel
theorem dX6_layOdds_202 : decode cX6_layOdds 202 = .ok (.iinc 7 1, 3) := by decide +kernel
theorem dX6_layOdds_205 : decode cX6_layOdds 205 = .ok (.goto (-92), 3) := by decide +kernel
theorem dX6_layOdds_208 : decode cX6_layOdds 208 = .ok (.aload_n 0, 1) := by decide +kernel
theorem dX6_layOdds_209 : decode cX6_layOdds 209 = .ok (.lconst 0, 1) := by decide +kernel
theorem dX6_layOdds_210 : decode cX6_layOdds 210 = .ok (.putfield 158, 3) := by decide +kernel
theorem dX6_layOdds_213 : decode cX6_layOdds 213 = .ok (.aload_n 0, 1) := by decide +kernel
theorem dX6_layOdds_214 : decode cX6_layOdds 214 = .ok (.lconst 0, 1) := by decide +kernel
theorem dX6_layOdds_215 : decode cX6_layOdds 215 = .ok (.putfield 161, 3) := by decide +kernel
theorem dX6_layOdds_218 : decode cX6_layOdds 218 = .ok (.aload_n 0, 1) := by decide +kernel
theorem dX6_layOdds_219 : decode cX6_layOdds 219 = .ok (.iload_n 1, 1) := by decide +kernel
theorem dX6_layOdds_220 : decode cX6_layOdds 220 = .ok (.invokevirtual 141, 3) := by decide +kernel
theorem dX6_layOdds_223 : decode cX6_layOdds 223 = .ok (.ifCond .ge 7, 3) := by decide +kernel
theorem dX6_layOdds_226 : decode cX6_layOdds 226 = .ok (.iconst 1, 1) := by decide +kernel
theorem dX6_layOdds_227 : decode cX6_layOdds 227 = .ok (.goto 4, 3) := by decide +kernel
theorem dX6_layOdds_230 : decode cX6_layOdds 230 = .ok (.iconst 0, 1) := by decide +kernel
theorem dX6_layOdds_231 : decode cX6_layOdds 231 = .ok (.istore 7, 2) := by decide +kernel
theorem dX6_layOdds_233 : decode cX6_layOdds 233 = .ok (.iconst 0, 1) := by decide +kernel
theorem dX6_layOdds_234 : decode cX6_layOdds 234 = .ok (.istore 8, 2) := by decide +kernel
theorem dX6_layOdds_236 : decode cX6_layOdds 236 = .ok (.iload 8, 2) := by decide +kernel
theorem dX6_layOdds_238 : decode cX6_layOdds 238 = .ok (.sipush 1700, 3) := by decide +kernel
theorem dX6_layOdds_241 : decode cX6_layOdds 241 = .ok (.if_icmp .ge 79, 3) := by decide +kernel
theorem dX6_layOdds_244 : decode cX6_layOdds 244 = .ok (.aload_n 0, 1) := by decide +kernel
theorem dX6_layOdds_245 : decode cX6_layOdds 245 = .ok (.getfield 60, 3) := by decide +kernel
theorem dX6_layOdds_248 : decode cX6_layOdds 248 = .ok (.sipush 1700, 3) := by decide +kernel
theorem dX6_layOdds_251 : decode cX6_layOdds 251 = .ok (.iload 5, 2) := by decide +kernel
theorem dX6_layOdds_253 : decode cX6_layOdds 253 = .ok (.imul, 1) := by decide +kernel
theorem dX6_layOdds_254 : decode cX6_layOdds 254 = .ok (.iload 8, 2) := by decide +kernel
theorem dX6_layOdds_256 : decode cX6_layOdds 256 = .ok (.iadd, 1) := by decide +kernel
theorem dX6_layOdds_257 : decode cX6_layOdds 257 = .ok (.laload, 1) := by decide +kernel
theorem dX6_layOdds_258 : decode cX6_layOdds 258 = .ok (.lstore 9, 2) := by decide +kernel
theorem dX6_layOdds_260 : decode cX6_layOdds 260 = .ok (.aload_n 0, 1) := by decide +kernel
theorem dX6_layOdds_261 : decode cX6_layOdds 261 = .ok (.dup, 1) := by decide +kernel
theorem dX6_layOdds_262 : decode cX6_layOdds 262 = .ok (.getfield 161, 3) := by decide +kernel
theorem dX6_layOdds_265 : decode cX6_layOdds 265 = .ok (.lload 9, 2) := by decide +kernel
theorem dX6_layOdds_267 : decode cX6_layOdds 267 = .ok (.ladd, 1) := by decide +kernel
theorem dX6_layOdds_268 : decode cX6_layOdds 268 = .ok (.putfield 161, 3) := by decide +kernel
theorem dX6_layOdds_271 : decode cX6_layOdds 271 = .ok (.aload_n 0, 1) := by decide +kernel
theorem dX6_layOdds_272 : decode cX6_layOdds 272 = .ok (.dup, 1) := by decide +kernel
theorem dX6_layOdds_273 : decode cX6_layOdds 273 = .ok (.getfield 158, 3) := by decide +kernel
theorem dX6_layOdds_276 : decode cX6_layOdds 276 = .ok (.iload 7, 2) := by decide +kernel
theorem dX6_layOdds_278 : decode cX6_layOdds 278 = .ok (.ifCond .eq 19, 3) := by decide +kernel
theorem dX6_layOdds_281 : decode cX6_layOdds 281 = .ok (.iload 8, 2) := by decide +kernel
theorem dX6_layOdds_283 : decode cX6_layOdds 283 = .ok (.iload 6, 2) := by decide +kernel
theorem dX6_layOdds_285 : decode cX6_layOdds 285 = .ok (.if_icmp .gt 8, 3) := by decide +kernel
theorem dX6_layOdds_288 : decode cX6_layOdds 288 = .ok (.lload 9, 2) := by decide +kernel
theorem dX6_layOdds_290 : decode cX6_layOdds 290 = .ok (.goto 20, 3) := by decide +kernel
theorem dX6_layOdds_293 : decode cX6_layOdds 293 = .ok (.lconst 0, 1) := by decide +kernel
theorem dX6_layOdds_294 : decode cX6_layOdds 294 = .ok (.goto 16, 3) := by decide +kernel
theorem dX6_layOdds_297 : decode cX6_layOdds 297 = .ok (.iload 8, 2) := by decide +kernel
theorem dX6_layOdds_299 : decode cX6_layOdds 299 = .ok (.iload 6, 2) := by decide +kernel
theorem dX6_layOdds_301 : decode cX6_layOdds 301 = .ok (.if_icmp .lt 8, 3) := by decide +kernel
theorem dX6_layOdds_304 : decode cX6_layOdds 304 = .ok (.lload 9, 2) := by decide +kernel
theorem dX6_layOdds_306 : decode cX6_layOdds 306 = .ok (.goto 4, 3) := by decide +kernel
theorem dX6_layOdds_309 : decode cX6_layOdds 309 = .ok (.lconst 0, 1) := by decide +kernel
theorem dX6_layOdds_310 : decode cX6_layOdds 310 = .ok (.ladd, 1) := by decide +kernel
theorem dX6_layOdds_311 : decode cX6_layOdds 311 = .ok (.putfield 158, 3) := by decide +kernel
theorem dX6_layOdds_314 : decode cX6_layOdds 314 = .ok (.iinc 8 1, 3) := by decide +kernel
theorem dX6_layOdds_317 : decode cX6_layOdds 317 = .ok (.goto (-81), 3) := by decide +kernel
theorem dX6_layOdds_320 : decode cX6_layOdds 320 = .ok (.iconst 1, 1) := by decide +kernel
theorem dX6_layOdds_321 : decode cX6_layOdds 321 = .ok (.ireturn, 1) := by decide +kernel
theorem dX6_gcd_0 : decode cX6_gcd 0 = .ok (.lload_n 0, 1) := by decide +kernel
theorem dX6_gcd_1 : decode cX6_gcd 1 = .ok (.lstore 4, 2) := by decide +kernel
theorem dX6_gcd_3 : decode cX6_gcd 3 = .ok (.lload_n 2, 1) := by decide +kernel
theorem dX6_gcd_4 : decode cX6_gcd 4 = .ok (.lstore 6, 2) := by decide +kernel
theorem dX6_gcd_6 : decode cX6_gcd 6 = .ok (.lload 6, 2) := by decide +kernel
theorem dX6_gcd_8 : decode cX6_gcd 8 = .ok (.lconst 0, 1) := by decide +kernel
theorem dX6_gcd_9 : decode cX6_gcd 9 = .ok (.lcmp, 1) := by decide +kernel
theorem dX6_gcd_10 : decode cX6_gcd 10 = .ok (.ifCond .eq 21, 3) := by decide +kernel
theorem dX6_gcd_13 : decode cX6_gcd 13 = .ok (.lload 4, 2) := by decide +kernel
theorem dX6_gcd_15 : decode cX6_gcd 15 = .ok (.lload 6, 2) := by decide +kernel
theorem dX6_gcd_17 : decode cX6_gcd 17 = .ok (.lrem, 1) := by decide +kernel
theorem dX6_gcd_18 : decode cX6_gcd 18 = .ok (.lstore 8, 2) := by decide +kernel
theorem dX6_gcd_20 : decode cX6_gcd 20 = .ok (.lload 6, 2) := by decide +kernel
theorem dX6_gcd_22 : decode cX6_gcd 22 = .ok (.lstore 4, 2) := by decide +kernel
theorem dX6_gcd_24 : decode cX6_gcd 24 = .ok (.lload 8, 2) := by decide +kernel
theorem dX6_gcd_26 : decode cX6_gcd 26 = .ok (.lstore 6, 2) := by decide +kernel
theorem dX6_gcd_28 : decode cX6_gcd 28 = .ok (.goto (-22), 3) := by decide +kernel
theorem dX6_gcd_31 : decode cX6_gcd 31 = .ok (.lload 4, 2) := by decide +kernel
theorem dX6_gcd_33 : decode cX6_gcd 33 = .ok (.lreturn, 1) := by decide +kernel
theorem dX6_odds_0 : decode cX6_odds 0 = .ok (.aload_n 0, 1) := by decide +kernel
theorem dX6_odds_1 : decode cX6_odds 1 = .ok (.iload_n 1, 1) := by decide +kernel
theorem dX6_odds_2 : decode cX6_odds 2 = .ok (.iload_n 2, 1) := by decide +kernel
theorem dX6_odds_3 : decode cX6_odds 3 = .ok (.invokevirtual 119, 3) := by decide +kernel
theorem dX6_odds_6 : decode cX6_odds 6 = .ok (.istore 4, 2) := by decide +kernel
theorem dX6_odds_8 : decode cX6_odds 8 = .ok (.iload 4, 2) := by decide +kernel
theorem dX6_odds_10 : decode cX6_odds 10 = .ok (.ifCond .ge 6, 3) := by decide +kernel
theorem dX6_odds_13 : decode cX6_odds 13 = .ok (.iload 4, 2) := by decide +kernel
theorem dX6_odds_15 : decode cX6_odds 15 = .ok (.ireturn, 1) := by decide +kernel
theorem dX6_odds_16 : decode cX6_odds 16 = .ok (.aload_n 0, 1) := by decide +kernel
theorem dX6_odds_17 : decode cX6_odds 17 = .ok (.iload_n 3, 1) := by decide +kernel
theorem dX6_odds_18 : decode cX6_odds 18 = .ok (.invokevirtual 135, 3) := by decide +kernel
theorem dX6_odds_21 : decode cX6_odds 21 = .ok (.ifCond .ne 6, 3) := by decide +kernel
theorem dX6_odds_24 : decode cX6_odds 24 = .ok (.bipush (-9), 2) := by decide +kernel
theorem dX6_odds_26 : decode cX6_odds 26 = .ok (.ireturn, 1) := by decide +kernel
theorem dX6_odds_27 : decode cX6_odds 27 = .ok (.aload_n 0, 1) := by decide +kernel
theorem dX6_odds_28 : decode cX6_odds 28 = .ok (.iload_n 3, 1) := by decide +kernel
theorem dX6_odds_29 : decode cX6_odds 29 = .ok (.invokevirtual 164, 3) := by decide +kernel
theorem dX6_odds_32 : decode cX6_odds 32 = .ok (.ifCond .ne 5, 3) := by decide +kernel
theorem dX6_odds_35 : decode cX6_odds 35 = .ok (.iconst 0, 1) := by decide +kernel
theorem dX6_odds_36 : decode cX6_odds 36 = .ok (.ireturn, 1) := by decide +kernel
theorem dX6_odds_37 : decode cX6_odds 37 = .ok (.aload_n 0, 1) := by decide +kernel
theorem dX6_odds_38 : decode cX6_odds 38 = .ok (.getfield 158, 3) := by decide +kernel
theorem dX6_odds_41 : decode cX6_odds 41 = .ok (.aload_n 0, 1) := by decide +kernel
theorem dX6_odds_42 : decode cX6_odds 42 = .ok (.getfield 161, 3) := by decide +kernel
theorem dX6_odds_45 : decode cX6_odds 45 = .ok (.invokestatic 167, 3) := by decide +kernel
theorem dX6_odds_48 : decode cX6_odds 48 = .ok (.lstore 5, 2) := by decide +kernel
theorem dX6_odds_50 : decode cX6_odds 50 = .ok (.aload_n 0, 1) := by decide +kernel
theorem dX6_odds_51 : decode cX6_odds 51 = .ok (.aload_n 0, 1) := by decide +kernel
theorem dX6_odds_52 : decode cX6_odds 52 = .ok (.getfield 158, 3) := by decide +kernel
theorem dX6_odds_55 : decode cX6_odds 55 = .ok (.lload 5, 2) := by decide +kernel
theorem dX6_odds_57 : decode cX6_odds 57 = .ok (.ldiv, 1) := by decide +kernel
theorem dX6_odds_58 : decode cX6_odds 58 = .ok (.putfield 171, 3) := by decide +kernel
theorem dX6_odds_61 : decode cX6_odds 61 = .ok (.aload_n 0, 1) := by decide +kernel
theorem dX6_odds_62 : decode cX6_odds 62 = .ok (.aload_n 0, 1) := by decide +kernel
theorem dX6_odds_63 : decode cX6_odds 63 = .ok (.getfield 161, 3) := by decide +kernel
theorem dX6_odds_66 : decode cX6_odds 66 = .ok (.lload 5, 2) := by decide +kernel
theorem dX6_odds_68 : decode cX6_odds 68 = .ok (.ldiv, 1) := by decide +kernel
theorem dX6_odds_69 : decode cX6_odds 69 = .ok (.putfield 77, 3) := by decide +kernel
theorem dX6_odds_72 : decode cX6_odds 72 = .ok (.iconst 1, 1) := by decide +kernel
theorem dX6_odds_73 : decode cX6_odds 73 = .ok (.ireturn, 1) := by decide +kernel
theorem dX6_upper_0 : decode cX6_upper 0 = .ok (.aload_n 0, 1) := by decide +kernel
theorem dX6_upper_1 : decode cX6_upper 1 = .ok (.getfield 171, 3) := by decide +kernel
theorem dX6_upper_4 : decode cX6_upper 4 = .ok (.lreturn, 1) := by decide +kernel
theorem dX6_lower_0 : decode cX6_lower 0 = .ok (.aload_n 0, 1) := by decide +kernel
theorem dX6_lower_1 : decode cX6_lower 1 = .ok (.getfield 77, 3) := by decide +kernel
theorem dX6_lower_4 : decode cX6_lower 4 = .ok (.lreturn, 1) := by decide +kernel
theorem dX6_isLoud_0 : decode cX6_isLoud 0 = .ok (.aload_n 0, 1) := by decide +kernel
theorem dX6_isLoud_1 : decode cX6_isLoud 1 = .ok (.iload_n 3, 1) := by decide +kernel
theorem dX6_isLoud_2 : decode cX6_isLoud 2 = .ok (.invokevirtual 141, 3) := by decide +kernel
theorem dX6_isLoud_5 : decode cX6_isLoud 5 = .ok (.ifCond .le 13, 3) := by decide +kernel
theorem dX6_isLoud_8 : decode cX6_isLoud 8 = .ok (.aload_n 0, 1) := by decide +kernel
theorem dX6_isLoud_9 : decode cX6_isLoud 9 = .ok (.iload_n 3, 1) := by decide +kernel
theorem dX6_isLoud_10 : decode cX6_isLoud 10 = .ok (.invokevirtual 141, 3) := by decide +kernel
theorem dX6_isLoud_13 : decode cX6_isLoud 13 = .ok (.iload 4, 2) := by decide +kernel
theorem dX6_isLoud_15 : decode cX6_isLoud 15 = .ok (.if_icmp .ge 5, 3) := by decide +kernel
theorem dX6_isLoud_18 : decode cX6_isLoud 18 = .ok (.iconst 0, 1) := by decide +kernel
theorem dX6_isLoud_19 : decode cX6_isLoud 19 = .ok (.ireturn, 1) := by decide +kernel
theorem dX6_isLoud_20 : decode cX6_isLoud 20 = .ok (.aload_n 0, 1) := by decide +kernel
theorem dX6_isLoud_21 : decode cX6_isLoud 21 = .ok (.invokevirtual 155, 3) := by decide +kernel
theorem dX6_isLoud_24 : decode cX6_isLoud 24 = .ok (.aload_n 0, 1) := by decide +kernel
theorem dX6_isLoud_25 : decode cX6_isLoud 25 = .ok (.getfield 13, 3) := by decide +kernel
theorem dX6_isLoud_28 : decode cX6_isLoud 28 = .ok (.iload_n 1, 1) := by decide +kernel
theorem dX6_isLoud_29 : decode cX6_isLoud 29 = .ok (.iaload, 1) := by decide +kernel
theorem dX6_isLoud_30 : decode cX6_isLoud 30 = .ok (.iconst 1, 1) := by decide +kernel
theorem dX6_isLoud_31 : decode cX6_isLoud 31 = .ok (.if_icmp .ne 16, 3) := by decide +kernel
theorem dX6_isLoud_34 : decode cX6_isLoud 34 = .ok (.aload_n 0, 1) := by decide +kernel
theorem dX6_isLoud_35 : decode cX6_isLoud 35 = .ok (.getfield 53, 3) := by decide +kernel
theorem dX6_isLoud_38 : decode cX6_isLoud 38 = .ok (.iload_n 3, 1) := by decide +kernel
theorem dX6_isLoud_39 : decode cX6_isLoud 39 = .ok (.iaload, 1) := by decide +kernel
theorem dX6_isLoud_40 : decode cX6_isLoud 40 = .ok (.bipush (-9), 2) := by decide +kernel
theorem dX6_isLoud_42 : decode cX6_isLoud 42 = .ok (.if_icmp .eq 5, 3) := by decide +kernel
theorem dX6_isLoud_45 : decode cX6_isLoud 45 = .ok (.iconst 0, 1) := by decide +kernel
theorem dX6_isLoud_46 : decode cX6_isLoud 46 = .ok (.ireturn, 1) := by decide +kernel
theorem dX6_isLoud_47 : decode cX6_isLoud 47 = .ok (.aload_n 0, 1) := by decide +kernel
theorem dX6_isLoud_48 : decode cX6_isLoud 48 = .ok (.iload_n 3, 1) := by decide +kernel
theorem dX6_isLoud_49 : decode cX6_isLoud 49 = .ok (.invokevirtual 164, 3) := by decide +kernel
theorem dX6_isLoud_52 : decode cX6_isLoud 52 = .ok (.ifCond .eq 23, 3) := by decide +kernel
theorem dX6_isLoud_55 : decode cX6_isLoud 55 = .ok (.aload_n 0, 1) := by decide +kernel
theorem dX6_isLoud_56 : decode cX6_isLoud 56 = .ok (.getfield 158, 3) := by decide +kernel
theorem dX6_isLoud_59 : decode cX6_isLoud 59 = .ok (.iload 6, 2) := by decide +kernel
theorem dX6_isLoud_61 : decode cX6_isLoud 61 = .ok (.i2l, 1) := by decide +kernel
theorem dX6_isLoud_62 : decode cX6_isLoud 62 = .ok (.lmul, 1) := by decide +kernel
theorem dX6_isLoud_63 : decode cX6_isLoud 63 = .ok (.aload_n 0, 1) := by decide +kernel
theorem dX6_isLoud_64 : decode cX6_isLoud 64 = .ok (.getfield 161, 3) := by decide +kernel
theorem dX6_isLoud_67 : decode cX6_isLoud 67 = .ok (.iload 5, 2) := by decide +kernel
theorem dX6_isLoud_69 : decode cX6_isLoud 69 = .ok (.i2l, 1) := by decide +kernel
theorem dX6_isLoud_70 : decode cX6_isLoud 70 = .ok (.lmul, 1) := by decide +kernel
theorem dX6_isLoud_71 : decode cX6_isLoud 71 = .ok (.lcmp, 1) := by decide +kernel
theorem dX6_isLoud_72 : decode cX6_isLoud 72 = .ok (.ifCond .gt 7, 3) := by decide +kernel
theorem dX6_isLoud_75 : decode cX6_isLoud 75 = .ok (.iconst 1, 1) := by decide +kernel
theorem dX6_isLoud_76 : decode cX6_isLoud 76 = .ok (.goto 4, 3) := by decide +kernel
theorem dX6_isLoud_79 : decode cX6_isLoud 79 = .ok (.iconst 0, 1) := by decide +kernel
theorem dX6_isLoud_80 : decode cX6_isLoud 80 = .ok (.ireturn, 1) := by decide +kernel
theorem dX6_cryOf_0 : decode cX6_cryOf 0 = .ok (.iconst 4, 1) := by decide +kernel
theorem dX6_cryOf_1 : decode cX6_cryOf 1 = .ok (.iload_n 1, 1) := by decide +kernel
theorem dX6_cryOf_2 : decode cX6_cryOf 2 = .ok (.imul, 1) := by decide +kernel
theorem dX6_cryOf_3 : decode cX6_cryOf 3 = .ok (.iload_n 2, 1) := by decide +kernel
theorem dX6_cryOf_4 : decode cX6_cryOf 4 = .ok (.iadd, 1) := by decide +kernel
theorem dX6_cryOf_5 : decode cX6_cryOf 5 = .ok (.istore 6, 2) := by decide +kernel
theorem dX6_cryOf_7 : decode cX6_cryOf 7 = .ok (.iconst 0, 1) := by decide +kernel
theorem dX6_cryOf_8 : decode cX6_cryOf 8 = .ok (.istore 7, 2) := by decide +kernel
theorem dX6_cryOf_10 : decode cX6_cryOf 10 = .ok (.aload_n 0, 1) := by decide +kernel
theorem dX6_cryOf_11 : decode cX6_cryOf 11 = .ok (.iload 6, 2) := by decide +kernel
theorem dX6_cryOf_13 : decode cX6_cryOf 13 = .ok (.invokevirtual 115, 3) := by decide +kernel
theorem dX6_cryOf_16 : decode cX6_cryOf 16 = .ok (.aload_n 0, 1) := by decide +kernel
theorem dX6_cryOf_17 : decode cX6_cryOf 17 = .ok (.getfield 132, 3) := by decide +kernel
theorem dX6_cryOf_20 : decode cX6_cryOf 20 = .ok (.iconst 1, 1) := by decide +kernel
theorem dX6_cryOf_21 : decode cX6_cryOf 21 = .ok (.isub, 1) := by decide +kernel
theorem dX6_cryOf_22 : decode cX6_cryOf 22 = .ok (.istore 8, 2) := by decide +kernel
theorem dX6_cryOf_24 : decode cX6_cryOf 24 = .ok (.iconst 0, 1) := by decide +kernel
theorem dX6_cryOf_25 : decode cX6_cryOf 25 = .ok (.istore 9, 2) := by decide +kernel
theorem dX6_cryOf_27 : decode cX6_cryOf 27 = .ok (.iload 9, 2) := by decide +kernel
theorem dX6_cryOf_29 : decode cX6_cryOf 29 = .ok (.iload 8, 2) := by decide +kernel
theorem dX6_cryOf_31 : decode cX6_cryOf 31 = .ok (.if_icmp .ge 158, 3) := by decide +kernel
theorem dX6_cryOf_34 : decode cX6_cryOf 34 = .ok (.aload_n 0, 1) := by decide +kernel
theorem dX6_cryOf_35 : decode cX6_cryOf 35 = .ok (.iload 6, 2) := by decide +kernel
theorem dX6_cryOf_37 : decode cX6_cryOf 37 = .ok (.invokevirtual 115, 3) := by decide +kernel
theorem dX6_cryOf_40 : decode cX6_cryOf 40 = .ok (.aload_n 0, 1) := by decide +kernel
theorem dX6_cryOf_41 : decode cX6_cryOf 41 = .ok (.iload 9, 2) := by decide +kernel
theorem dX6_cryOf_43 : decode cX6_cryOf 43 = .ok (.invokevirtual 138, 3) := by decide +kernel
theorem dX6_cryOf_46 : decode cX6_cryOf 46 = .ok (.istore 10, 2) := by decide +kernel
theorem dX6_cryOf_48 : decode cX6_cryOf 48 = .ok (.aload_n 0, 1) := by decide +kernel
theorem dX6_cryOf_49 : decode cX6_cryOf 49 = .ok (.iload_n 1, 1) := by decide +kernel
theorem dX6_cryOf_50 : decode cX6_cryOf 50 = .ok (.iload_n 2, 1) := by decide +kernel
theorem dX6_cryOf_51 : decode cX6_cryOf 51 = .ok (.iload 9, 2) := by decide +kernel
theorem dX6_cryOf_53 : decode cX6_cryOf 53 = .ok (.iload_n 3, 1) := by decide +kernel
theorem dX6_cryOf_54 : decode cX6_cryOf 54 = .ok (.iload 4, 2) := by decide +kernel
theorem dX6_cryOf_56 : decode cX6_cryOf 56 = .ok (.iload 5, 2) := by decide +kernel
theorem dX6_cryOf_58 : decode cX6_cryOf 58 = .ok (.invokevirtual 174, 3) := by decide +kernel
theorem dX6_cryOf_61 : decode cX6_cryOf 61 = .ok (.ifCond .eq 122, 3) := by decide +kernel
theorem dX6_cryOf_64 : decode cX6_cryOf 64 = .ok (.aload_n 0, 1) := by decide +kernel
theorem dX6_cryOf_65 : decode cX6_cryOf 65 = .ok (.iload_n 1, 1) := by decide +kernel
theorem dX6_cryOf_66 : decode cX6_cryOf 66 = .ok (.iload_n 2, 1) := by decide +kernel
theorem dX6_cryOf_67 : decode cX6_cryOf 67 = .ok (.iload 9, 2) := by decide +kernel
theorem dX6_cryOf_69 : decode cX6_cryOf 69 = .ok (.invokevirtual 150, 3) := by decide +kernel
theorem dX6_cryOf_72 : decode cX6_cryOf 72 = .ok (.ifCond .ne 111, 3) := by decide +kernel
theorem dX6_cryOf_75 : decode cX6_cryOf 75 = .ok (.aload_n 0, 1) := by decide +kernel
theorem dX6_cryOf_76 : decode cX6_cryOf 76 = .ok (.getfield 67, 3) := by decide +kernel
theorem dX6_cryOf_79 : decode cX6_cryOf 79 = .ok (.bipush 40, 2) := by decide +kernel
theorem dX6_cryOf_81 : decode cX6_cryOf 81 = .ok (.iload 6, 2) := by decide +kernel
theorem dX6_cryOf_83 : decode cX6_cryOf 83 = .ok (.imul, 1) := by decide +kernel
theorem dX6_cryOf_84 : decode cX6_cryOf 84 = .ok (.iload 10, 2) := by decide +kernel
theorem dX6_cryOf_86 : decode cX6_cryOf 86 = .ok (.iadd, 1) := by decide +kernel
theorem dX6_cryOf_87 : decode cX6_cryOf 87 = .ok (.baload, 1) := by decide +kernel
theorem dX6_cryOf_88 : decode cX6_cryOf 88 = .ok (.ifCond .ne 95, 3) := by decide +kernel
theorem dX6_cryOf_91 : decode cX6_cryOf 91 = .ok (.aload_n 0, 1) := by decide +kernel
theorem dX6_cryOf_92 : decode cX6_cryOf 92 = .ok (.getfield 67, 3) := by decide +kernel
theorem dX6_cryOf_95 : decode cX6_cryOf 95 = .ok (.bipush 40, 2) := by decide +kernel
theorem dX6_cryOf_97 : decode cX6_cryOf 97 = .ok (.iload 6, 2) := by decide +kernel
theorem dX6_cryOf_99 : decode cX6_cryOf 99 = .ok (.imul, 1) := by decide +kernel
theorem dX6_cryOf_100 : decode cX6_cryOf 100 = .ok (.iload 10, 2) := by decide +kernel
theorem dX6_cryOf_102 : decode cX6_cryOf 102 = .ok (.iadd, 1) := by decide +kernel
theorem dX6_cryOf_103 : decode cX6_cryOf 103 = .ok (.iconst 1, 1) := by decide +kernel
theorem dX6_cryOf_104 : decode cX6_cryOf 104 = .ok (.bastore, 1) := by decide +kernel
theorem dX6_cryOf_105 : decode cX6_cryOf 105 = .ok (.aload_n 0, 1) := by decide +kernel
theorem dX6_cryOf_106 : decode cX6_cryOf 106 = .ok (.getfield 178, 3) := by decide +kernel
theorem dX6_cryOf_109 : decode cX6_cryOf 109 = .ok (.sipush 300, 3) := by decide +kernel
theorem dX6_cryOf_112 : decode cX6_cryOf 112 = .ok (.if_icmp .ge 25, 3) := by decide +kernel
theorem dX6_cryOf_115 : decode cX6_cryOf 115 = .ok (.aload_n 0, 1) := by decide +kernel
theorem dX6_cryOf_116 : decode cX6_cryOf 116 = .ok (.getfield 64, 3) := by decide +kernel
theorem dX6_cryOf_119 : decode cX6_cryOf 119 = .ok (.aload_n 0, 1) := by decide +kernel
theorem dX6_cryOf_120 : decode cX6_cryOf 120 = .ok (.getfield 178, 3) := by decide +kernel
theorem dX6_cryOf_123 : decode cX6_cryOf 123 = .ok (.sipush 1000, 3) := by decide +kernel
theorem dX6_cryOf_126 : decode cX6_cryOf 126 = .ok (.iload_n 1, 1) := by decide +kernel
theorem dX6_cryOf_127 : decode cX6_cryOf 127 = .ok (.imul, 1) := by decide +kernel
theorem dX6_cryOf_128 : decode cX6_cryOf 128 = .ok (.bipush 100, 2) := by decide +kernel
theorem dX6_cryOf_130 : decode cX6_cryOf 130 = .ok (.iload_n 2, 1) := by decide +kernel
theorem dX6_cryOf_131 : decode cX6_cryOf 131 = .ok (.imul, 1) := by decide +kernel
theorem dX6_cryOf_132 : decode cX6_cryOf 132 = .ok (.iadd, 1) := by decide +kernel
theorem dX6_cryOf_133 : decode cX6_cryOf 133 = .ok (.iload 10, 2) := by decide +kernel
theorem dX6_cryOf_135 : decode cX6_cryOf 135 = .ok (.iadd, 1) := by decide +kernel
theorem dX6_cryOf_136 : decode cX6_cryOf 136 = .ok (.iastore, 1) := by decide +kernel
theorem dX6_cryOf_137 : decode cX6_cryOf 137 = .ok (.aload_n 0, 1) := by decide +kernel
theorem dX6_cryOf_138 : decode cX6_cryOf 138 = .ok (.dup, 1) := by decide +kernel
theorem dX6_cryOf_139 : decode cX6_cryOf 139 = .ok (.getfield 178, 3) := by decide +kernel
theorem dX6_cryOf_142 : decode cX6_cryOf 142 = .ok (.iconst 1, 1) := by decide +kernel
theorem dX6_cryOf_143 : decode cX6_cryOf 143 = .ok (.iadd, 1) := by decide +kernel
theorem dX6_cryOf_144 : decode cX6_cryOf 144 = .ok (.putfield 178, 3) := by decide +kernel
theorem dX6_cryOf_147 : decode cX6_cryOf 147 = .ok (.aload_n 0, 1) := by decide +kernel
theorem dX6_cryOf_148 : decode cX6_cryOf 148 = .ok (.aload_n 0, 1) := by decide +kernel
theorem dX6_cryOf_149 : decode cX6_cryOf 149 = .ok (.getfield 181, 3) := by decide +kernel
theorem dX6_cryOf_152 : decode cX6_cryOf 152 = .ok (.bipush (-9), 2) := by decide +kernel
theorem dX6_cryOf_154 : decode cX6_cryOf 154 = .ok (.if_icmp .ne 19, 3) := by decide +kernel
theorem dX6_cryOf_157 : decode cX6_cryOf 157 = .ok (.sipush 1000, 3) := by decide +kernel
theorem dX6_cryOf_160 : decode cX6_cryOf 160 = .ok (.iload_n 1, 1) := by decide +kernel
theorem dX6_cryOf_161 : decode cX6_cryOf 161 = .ok (.imul, 1) := by decide +kernel
theorem dX6_cryOf_162 : decode cX6_cryOf 162 = .ok (.bipush 100, 2) := by decide +kernel
theorem dX6_cryOf_164 : decode cX6_cryOf 164 = .ok (.iload_n 2, 1) := by decide +kernel
theorem dX6_cryOf_165 : decode cX6_cryOf 165 = .ok (.imul, 1) := by decide +kernel
theorem dX6_cryOf_166 : decode cX6_cryOf 166 = .ok (.iadd, 1) := by decide +kernel
theorem dX6_cryOf_167 : decode cX6_cryOf 167 = .ok (.iload 10, 2) := by decide +kernel
theorem dX6_cryOf_169 : decode cX6_cryOf 169 = .ok (.iadd, 1) := by decide +kernel
theorem dX6_cryOf_170 : decode cX6_cryOf 170 = .ok (.goto 7, 3) := by decide +kernel
theorem dX6_cryOf_173 : decode cX6_cryOf 173 = .ok (.aload_n 0, 1) := by decide +kernel
theorem dX6_cryOf_174 : decode cX6_cryOf 174 = .ok (.getfield 181, 3) := by decide +kernel
theorem dX6_cryOf_177 : decode cX6_cryOf 177 = .ok (.putfield 181, 3) := by decide +kernel
theorem dX6_cryOf_180 : decode cX6_cryOf 180 = .ok (.iinc 7 1, 3) := by decide +kernel
theorem dX6_cryOf_183 : decode cX6_cryOf 183 = .ok (.iinc 9 1, 3) := by decide +kernel
theorem dX6_cryOf_186 : decode cX6_cryOf 186 = .ok (.goto (-159), 3) := by decide +kernel
theorem dX6_cryOf_189 : decode cX6_cryOf 189 = .ok (.iload 7, 2) := by decide +kernel
theorem dX6_cryOf_191 : decode cX6_cryOf 191 = .ok (.ireturn, 1) := by decide +kernel
theorem dX6_cry_0 : decode cX6_cry 0 = .ok (.iload_n 1, 1) := by decide +kernel
theorem dX6_cry_1 : decode cX6_cry 1 = .ok (.iconst 0, 1) := by decide +kernel
theorem dX6_cry_2 : decode cX6_cry 2 = .ok (.ldc 105, 2) := by decide +kernel
theorem dX6_cry_4 : decode cX6_cry 4 = .ok (.invokestatic 84, 3) := by decide +kernel
theorem dX6_cry_7 : decode cX6_cry 7 = .ok (.ifCond .eq 23, 3) := by decide +kernel
theorem dX6_cry_10 : decode cX6_cry 10 = .ok (.iload_n 2, 1) := by decide +kernel
theorem dX6_cry_11 : decode cX6_cry 11 = .ok (.iconst 0, 1) := by decide +kernel
theorem dX6_cry_12 : decode cX6_cry 12 = .ok (.ldc 105, 2) := by decide +kernel
theorem dX6_cry_14 : decode cX6_cry 14 = .ok (.invokestatic 84, 3) := by decide +kernel
theorem dX6_cry_17 : decode cX6_cry 17 = .ok (.ifCond .eq 13, 3) := by decide +kernel
theorem dX6_cry_20 : decode cX6_cry 20 = .ok (.iload_n 3, 1) := by decide +kernel
theorem dX6_cry_21 : decode cX6_cry 21 = .ok (.iconst 1, 1) := by decide +kernel
theorem dX6_cry_22 : decode cX6_cry 22 = .ok (.ldc 105, 2) := by decide +kernel
theorem dX6_cry_24 : decode cX6_cry 24 = .ok (.invokestatic 84, 3) := by decide +kernel
theorem dX6_cry_27 : decode cX6_cry 27 = .ok (.ifCond .ne 5, 3) := by decide +kernel
theorem dX6_cry_30 : decode cX6_cry 30 = .ok (.iconst (-1), 1) := by decide +kernel
theorem dX6_cry_31 : decode cX6_cry 31 = .ok (.ireturn, 1) := by decide +kernel
theorem dX6_cry_32 : decode cX6_cry 32 = .ok (.iconst 0, 1) := by decide +kernel
theorem dX6_cry_33 : decode cX6_cry 33 = .ok (.istore 4, 2) := by decide +kernel
theorem dX6_cry_35 : decode cX6_cry 35 = .ok (.aload_n 0, 1) := by decide +kernel
theorem dX6_cry_36 : decode cX6_cry 36 = .ok (.bipush (-9), 2) := by decide +kernel
theorem dX6_cry_38 : decode cX6_cry 38 = .ok (.putfield 181, 3) := by decide +kernel
theorem dX6_cry_41 : decode cX6_cry 41 = .ok (.iconst 0, 1) := by decide +kernel
theorem dX6_cry_42 : decode cX6_cry 42 = .ok (.istore 5, 2) := by decide +kernel
theorem dX6_cry_44 : decode cX6_cry 44 = .ok (.iload 5, 2) := by decide +kernel
theorem dX6_cry_46 : decode cX6_cry 46 = .ok (.aload_n 0, 1) := by decide +kernel
theorem dX6_cry_47 : decode cX6_cry 47 = .ok (.getfield 94, 3) := by decide +kernel
theorem dX6_cry_50 : decode cX6_cry 50 = .ok (.if_icmp .ge 70, 3) := by decide +kernel
theorem dX6_cry_53 : decode cX6_cry 53 = .ok (.iconst 0, 1) := by decide +kernel
theorem dX6_cry_54 : decode cX6_cry 54 = .ok (.istore 6, 2) := by decide +kernel
theorem dX6_cry_56 : decode cX6_cry 56 = .ok (.iload 6, 2) := by decide +kernel
theorem dX6_cry_58 : decode cX6_cry 58 = .ok (.iconst 4, 1) := by decide +kernel
theorem dX6_cry_59 : decode cX6_cry 59 = .ok (.if_icmp .ge 55, 3) := by decide +kernel
theorem dX6_cry_62 : decode cX6_cry 62 = .ok (.aload_n 0, 1) := by decide +kernel
theorem dX6_cry_63 : decode cX6_cry 63 = .ok (.getfield 13, 3) := by decide +kernel
theorem dX6_cry_66 : decode cX6_cry 66 = .ok (.iload 5, 2) := by decide +kernel
theorem dX6_cry_68 : decode cX6_cry 68 = .ok (.iaload, 1) := by decide +kernel
theorem dX6_cry_69 : decode cX6_cry 69 = .ok (.iconst 2, 1) := by decide +kernel
theorem dX6_cry_70 : decode cX6_cry 70 = .ok (.if_icmp .eq 44, 3) := by decide +kernel
theorem dX6_cry_73 : decode cX6_cry 73 = .ok (.iload 4, 2) := by decide +kernel
theorem dX6_cry_75 : decode cX6_cry 75 = .ok (.aload_n 0, 1) := by decide +kernel
theorem dX6_cry_76 : decode cX6_cry 76 = .ok (.getfield 16, 3) := by decide +kernel
theorem dX6_cry_79 : decode cX6_cry 79 = .ok (.iconst 4, 1) := by decide +kernel
theorem dX6_cry_80 : decode cX6_cry 80 = .ok (.iload 5, 2) := by decide +kernel
theorem dX6_cry_82 : decode cX6_cry 82 = .ok (.imul, 1) := by decide +kernel
theorem dX6_cry_83 : decode cX6_cry 83 = .ok (.iload 6, 2) := by decide +kernel
theorem dX6_cry_85 : decode cX6_cry 85 = .ok (.iadd, 1) := by decide +kernel
theorem dX6_cry_86 : decode cX6_cry 86 = .ok (.baload, 1) := by decide +kernel
theorem dX6_cry_87 : decode cX6_cry 87 = .ok (.ifCond .eq 17, 3) := by decide +kernel
theorem dX6_cry_90 : decode cX6_cry 90 = .ok (.aload_n 0, 1) := by decide +kernel
theorem dX6_cry_91 : decode cX6_cry 91 = .ok (.iload 5, 2) := by decide +kernel
theorem dX6_cry_93 : decode cX6_cry 93 = .ok (.iload 6, 2) := by decide +kernel
theorem dX6_cry_95 : decode cX6_cry 95 = .ok (.iload_n 1, 1) := by decide +kernel
theorem dX6_cry_96 : decode cX6_cry 96 = .ok (.iload_n 2, 1) := by decide +kernel
theorem dX6_cry_97 : decode cX6_cry 97 = .ok (.iload_n 3, 1) := by decide +kernel
theorem dX6_cry_98 : decode cX6_cry 98 = .ok (.invokevirtual 184, 3) := by decide +kernel
theorem dX6_cry_101 : decode cX6_cry 101 = .ok (.goto 4, 3) := by decide +kernel
theorem dX6_cry_104 : decode cX6_cry 104 = .ok (.iconst 0, 1) := by decide +kernel
theorem dX6_cry_105 : decode cX6_cry 105 = .ok (.iadd, 1) := by decide +kernel
theorem dX6_cry_106 : decode cX6_cry 106 = .ok (.istore 4, 2) := by decide +kernel
theorem dX6_cry_108 : decode cX6_cry 108 = .ok (.iinc 6 1, 3) := by decide +kernel
theorem dX6_cry_111 : decode cX6_cry 111 = .ok (.goto (-55), 3) := by decide +kernel
theorem dX6_cry_114 : decode cX6_cry 114 = .ok (.iinc 5 1, 3) := by decide +kernel
theorem dX6_cry_117 : decode cX6_cry 117 = .ok (.goto (-73), 3) := by decide +kernel
theorem dX6_cry_120 : decode cX6_cry 120 = .ok (.aload_n 0, 1) := by decide +kernel
theorem dX6_cry_121 : decode cX6_cry 121 = .ok (.iload 4, 2) := by decide +kernel
theorem dX6_cry_123 : decode cX6_cry 123 = .ok (.ifCond .ne 10, 3) := by decide +kernel
theorem dX6_cry_126 : decode cX6_cry 126 = .ok (.aload_n 0, 1) := by decide +kernel
theorem dX6_cry_127 : decode cX6_cry 127 = .ok (.getfield 88, 3) := by decide +kernel
theorem dX6_cry_130 : decode cX6_cry 130 = .ok (.goto 8, 3) := by decide +kernel
theorem dX6_cry_133 : decode cX6_cry 133 = .ok (.aload_n 0, 1) := by decide +kernel
theorem dX6_cry_134 : decode cX6_cry 134 = .ok (.getfield 181, 3) := by decide +kernel
theorem dX6_cry_137 : decode cX6_cry 137 = .ok (.i2l, 1) := by decide +kernel
theorem dX6_cry_138 : decode cX6_cry 138 = .ok (.putfield 88, 3) := by decide +kernel
theorem dX6_cry_141 : decode cX6_cry 141 = .ok (.iload 4, 2) := by decide +kernel
theorem dX6_cry_143 : decode cX6_cry 143 = .ok (.ireturn, 1) := by decide +kernel
theorem dX6_cried_0 : decode cX6_cried 0 = .ok (.iload_n 1, 1) := by decide +kernel
theorem dX6_cried_1 : decode cX6_cried 1 = .ok (.iconst 0, 1) := by decide +kernel
theorem dX6_cried_2 : decode cX6_cried 2 = .ok (.aload_n 0, 1) := by decide +kernel
theorem dX6_cried_3 : decode cX6_cried 3 = .ok (.getfield 178, 3) := by decide +kernel
theorem dX6_cried_6 : decode cX6_cried 6 = .ok (.sipush 300, 3) := by decide +kernel
theorem dX6_cried_9 : decode cX6_cried 9 = .ok (.if_icmp .ge 10, 3) := by decide +kernel
theorem dX6_cried_12 : decode cX6_cried 12 = .ok (.aload_n 0, 1) := by decide +kernel
theorem dX6_cried_13 : decode cX6_cried 13 = .ok (.getfield 178, 3) := by decide +kernel
theorem dX6_cried_16 : decode cX6_cried 16 = .ok (.goto 6, 3) := by decide +kernel
theorem dX6_cried_19 : decode cX6_cried 19 = .ok (.sipush 300, 3) := by decide +kernel
theorem dX6_cried_22 : decode cX6_cried 22 = .ok (.iconst 1, 1) := by decide +kernel
theorem dX6_cried_23 : decode cX6_cried 23 = .ok (.isub, 1) := by decide +kernel
theorem dX6_cried_24 : decode cX6_cried 24 = .ok (.invokestatic 84, 3) := by decide +kernel
theorem dX6_cried_27 : decode cX6_cried 27 = .ok (.ifCond .eq 12, 3) := by decide +kernel
theorem dX6_cried_30 : decode cX6_cried 30 = .ok (.aload_n 0, 1) := by decide +kernel
theorem dX6_cried_31 : decode cX6_cried 31 = .ok (.getfield 64, 3) := by decide +kernel
theorem dX6_cried_34 : decode cX6_cried 34 = .ok (.iload_n 1, 1) := by decide +kernel
theorem dX6_cried_35 : decode cX6_cried 35 = .ok (.iaload, 1) := by decide +kernel
theorem dX6_cried_36 : decode cX6_cried 36 = .ok (.goto 5, 3) := by decide +kernel
theorem dX6_cried_39 : decode cX6_cried 39 = .ok (.bipush (-9), 2) := by decide +kernel
theorem dX6_cried_41 : decode cX6_cried 41 = .ok (.ireturn, 1) := by decide +kernel
theorem dX6_middleBuild_0 : decode cX6_middleBuild 0 = .ok (.aload_n 0, 1) := by decide +kernel
theorem dX6_middleBuild_1 : decode cX6_middleBuild 1 = .ok (.getfield 188, 3) := by decide +kernel
theorem dX6_middleBuild_4 : decode cX6_middleBuild 4 = .ok (.aload_n 0, 1) := by decide +kernel
theorem dX6_middleBuild_5 : decode cX6_middleBuild 5 = .ok (.getfield 191, 3) := by decide +kernel
theorem dX6_middleBuild_8 : decode cX6_middleBuild 8 = .ok (.aload_n 0, 1) := by decide +kernel
theorem dX6_middleBuild_9 : decode cX6_middleBuild 9 = .ok (.getfield 188, 3) := by decide +kernel
theorem dX6_middleBuild_12 : decode cX6_middleBuild 12 = .ok (.isub, 1) := by decide +kernel
theorem dX6_middleBuild_13 : decode cX6_middleBuild 13 = .ok (.iconst 2, 1) := by decide +kernel
theorem dX6_middleBuild_14 : decode cX6_middleBuild 14 = .ok (.idiv, 1) := by decide +kernel
theorem dX6_middleBuild_15 : decode cX6_middleBuild 15 = .ok (.iadd, 1) := by decide +kernel
theorem dX6_middleBuild_16 : decode cX6_middleBuild 16 = .ok (.ireturn, 1) := by decide +kernel
theorem dX6_halve_0 : decode cX6_halve 0 = .ok (.iload_n 1, 1) := by decide +kernel
theorem dX6_halve_1 : decode cX6_halve 1 = .ok (.ifCond .lt 31, 3) := by decide +kernel
theorem dX6_halve_4 : decode cX6_halve 4 = .ok (.iload_n 1, 1) := by decide +kernel
theorem dX6_halve_5 : decode cX6_halve 5 = .ok (.iload_n 2, 1) := by decide +kernel
theorem dX6_halve_6 : decode cX6_halve 6 = .ok (.if_icmp .ge 26, 3) := by decide +kernel
theorem dX6_halve_9 : decode cX6_halve 9 = .ok (.iload_n 2, 1) := by decide +kernel
theorem dX6_halve_10 : decode cX6_halve 10 = .ok (.aload_n 0, 1) := by decide +kernel
theorem dX6_halve_11 : decode cX6_halve 11 = .ok (.getfield 91, 3) := by decide +kernel
theorem dX6_halve_14 : decode cX6_halve 14 = .ok (.if_icmp .ge 18, 3) := by decide +kernel
theorem dX6_halve_17 : decode cX6_halve 17 = .ok (.iload_n 3, 1) := by decide +kernel
theorem dX6_halve_18 : decode cX6_halve 18 = .ok (.iconst 1, 1) := by decide +kernel
theorem dX6_halve_19 : decode cX6_halve 19 = .ok (.if_icmp .eq 15, 3) := by decide +kernel
theorem dX6_halve_22 : decode cX6_halve 22 = .ok (.iload_n 3, 1) := by decide +kernel
theorem dX6_halve_23 : decode cX6_halve 23 = .ok (.iconst 3, 1) := by decide +kernel
theorem dX6_halve_24 : decode cX6_halve 24 = .ok (.if_icmp .eq 10, 3) := by decide +kernel
theorem dX6_halve_27 : decode cX6_halve 27 = .ok (.iload_n 3, 1) := by decide +kernel
theorem dX6_halve_28 : decode cX6_halve 28 = .ok (.iconst 5, 1) := by decide +kernel
theorem dX6_halve_29 : decode cX6_halve 29 = .ok (.if_icmp .eq 5, 3) := by decide +kernel
theorem dX6_halve_32 : decode cX6_halve 32 = .ok (.iconst (-1), 1) := by decide +kernel
theorem dX6_halve_33 : decode cX6_halve 33 = .ok (.ireturn, 1) := by decide +kernel
theorem dX6_halve_34 : decode cX6_halve 34 = .ok (.aload_n 0, 1) := by decide +kernel
theorem dX6_halve_35 : decode cX6_halve 35 = .ok (.iconst 1, 1) := by decide +kernel
theorem dX6_halve_36 : decode cX6_halve 36 = .ok (.putfield 194, 3) := by decide +kernel
theorem dX6_halve_39 : decode cX6_halve 39 = .ok (.aload_n 0, 1) := by decide +kernel
theorem dX6_halve_40 : decode cX6_halve 40 = .ok (.iload_n 1, 1) := by decide +kernel
theorem dX6_halve_41 : decode cX6_halve 41 = .ok (.putfield 188, 3) := by decide +kernel
theorem dX6_halve_44 : decode cX6_halve 44 = .ok (.aload_n 0, 1) := by decide +kernel
theorem dX6_halve_45 : decode cX6_halve 45 = .ok (.iload_n 2, 1) := by decide +kernel
theorem dX6_halve_46 : decode cX6_halve 46 = .ok (.putfield 191, 3) := by decide +kernel
theorem dX6_halve_49 : decode cX6_halve 49 = .ok (.aload_n 0, 1) := by decide +kernel
theorem dX6_halve_50 : decode cX6_halve 50 = .ok (.iload_n 3, 1) := by decide +kernel
theorem dX6_halve_51 : decode cX6_halve 51 = .ok (.putfield 198, 3) := by decide +kernel
theorem dX6_halve_54 : decode cX6_halve 54 = .ok (.aload_n 0, 1) := by decide +kernel
theorem dX6_halve_55 : decode cX6_halve 55 = .ok (.iconst 0, 1) := by decide +kernel
theorem dX6_halve_56 : decode cX6_halve 56 = .ok (.putfield 201, 3) := by decide +kernel
theorem dX6_halve_59 : decode cX6_halve 59 = .ok (.aload_n 0, 1) := by decide +kernel
theorem dX6_halve_60 : decode cX6_halve 60 = .ok (.iconst 0, 1) := by decide +kernel
theorem dX6_halve_61 : decode cX6_halve 61 = .ok (.putfield 204, 3) := by decide +kernel
theorem dX6_halve_64 : decode cX6_halve 64 = .ok (.aload_n 0, 1) := by decide +kernel
theorem dX6_halve_65 : decode cX6_halve 65 = .ok (.iconst 0, 1) := by decide +kernel
theorem dX6_halve_66 : decode cX6_halve 66 = .ok (.putfield 207, 3) := by decide +kernel
theorem dX6_halve_69 : decode cX6_halve 69 = .ok (.iconst 0, 1) := by decide +kernel
theorem dX6_halve_70 : decode cX6_halve 70 = .ok (.istore 4, 2) := by decide +kernel
theorem dX6_halve_72 : decode cX6_halve 72 = .ok (.iload_n 2, 1) := by decide +kernel
theorem dX6_halve_73 : decode cX6_halve 73 = .ok (.iload_n 1, 1) := by decide +kernel
theorem dX6_halve_74 : decode cX6_halve 74 = .ok (.isub, 1) := by decide +kernel
theorem dX6_halve_75 : decode cX6_halve 75 = .ok (.istore 5, 2) := by decide +kernel
theorem dX6_halve_77 : decode cX6_halve 77 = .ok (.iload 5, 2) := by decide +kernel
theorem dX6_halve_79 : decode cX6_halve 79 = .ok (.iconst 1, 1) := by decide +kernel
theorem dX6_halve_80 : decode cX6_halve 80 = .ok (.if_icmp .le 18, 3) := by decide +kernel
theorem dX6_halve_83 : decode cX6_halve 83 = .ok (.iinc 4 1, 3) := by decide +kernel
theorem dX6_halve_86 : decode cX6_halve 86 = .ok (.iload 5, 2) := by decide +kernel
theorem dX6_halve_88 : decode cX6_halve 88 = .ok (.iload 5, 2) := by decide +kernel
theorem dX6_halve_90 : decode cX6_halve 90 = .ok (.iconst 2, 1) := by decide +kernel
theorem dX6_halve_91 : decode cX6_halve 91 = .ok (.idiv, 1) := by decide +kernel
theorem dX6_halve_92 : decode cX6_halve 92 = .ok (.isub, 1) := by decide +kernel
theorem dX6_halve_93 : decode cX6_halve 93 = .ok (.istore 5, 2) := by decide +kernel
theorem dX6_halve_95 : decode cX6_halve 95 = .ok (.goto (-18), 3) := by decide +kernel
theorem dX6_halve_98 : decode cX6_halve 98 = .ok (.iload 4, 2) := by decide +kernel
theorem dX6_halve_100 : decode cX6_halve 100 = .ok (.iload_n 3, 1) := by decide +kernel
theorem dX6_halve_101 : decode cX6_halve 101 = .ok (.imul, 1) := by decide +kernel
theorem dX6_halve_102 : decode cX6_halve 102 = .ok (.ireturn, 1) := by decide +kernel
theorem dX6_hasEnded_0 : decode cX6_hasEnded 0 = .ok (.aload_n 0, 1) := by decide +kernel
theorem dX6_hasEnded_1 : decode cX6_hasEnded 1 = .ok (.getfield 191, 3) := by decide +kernel
theorem dX6_hasEnded_4 : decode cX6_hasEnded 4 = .ok (.aload_n 0, 1) := by decide +kernel
theorem dX6_hasEnded_5 : decode cX6_hasEnded 5 = .ok (.getfield 188, 3) := by decide +kernel
theorem dX6_hasEnded_8 : decode cX6_hasEnded 8 = .ok (.iconst 1, 1) := by decide +kernel
theorem dX6_hasEnded_9 : decode cX6_hasEnded 9 = .ok (.iadd, 1) := by decide +kernel
theorem dX6_hasEnded_10 : decode cX6_hasEnded 10 = .ok (.if_icmp .ne 7, 3) := by decide +kernel
theorem dX6_hasEnded_13 : decode cX6_hasEnded 13 = .ok (.iconst 1, 1) := by decide +kernel
theorem dX6_hasEnded_14 : decode cX6_hasEnded 14 = .ok (.goto 4, 3) := by decide +kernel
theorem dX6_hasEnded_17 : decode cX6_hasEnded 17 = .ok (.iconst 0, 1) := by decide +kernel
theorem dX6_hasEnded_18 : decode cX6_hasEnded 18 = .ok (.ireturn, 1) := by decide +kernel
theorem dX6_asks_0 : decode cX6_asks 0 = .ok (.aload_n 0, 1) := by decide +kernel
theorem dX6_asks_1 : decode cX6_asks 1 = .ok (.getfield 194, 3) := by decide +kernel
theorem dX6_asks_4 : decode cX6_asks 4 = .ok (.ifCond .ne 8, 3) := by decide +kernel
theorem dX6_asks_7 : decode cX6_asks 7 = .ok (.bipush (-4), 2) := by decide +kernel
theorem dX6_asks_9 : decode cX6_asks 9 = .ok (.goto 19, 3) := by decide +kernel
theorem dX6_asks_12 : decode cX6_asks 12 = .ok (.aload_n 0, 1) := by decide +kernel
theorem dX6_asks_13 : decode cX6_asks 13 = .ok (.invokevirtual 210, 3) := by decide +kernel
theorem dX6_asks_16 : decode cX6_asks 16 = .ok (.ifCond .eq 8, 3) := by decide +kernel
theorem dX6_asks_19 : decode cX6_asks 19 = .ok (.bipush (-9), 2) := by decide +kernel
theorem dX6_asks_21 : decode cX6_asks 21 = .ok (.goto 7, 3) := by decide +kernel
theorem dX6_asks_24 : decode cX6_asks 24 = .ok (.aload_n 0, 1) := by decide +kernel
theorem dX6_asks_25 : decode cX6_asks 25 = .ok (.invokevirtual 214, 3) := by decide +kernel
theorem dX6_asks_28 : decode cX6_asks 28 = .ok (.ireturn, 1) := by decide +kernel
theorem dX6_rerun_0 : decode cX6_rerun 0 = .ok (.aload_n 0, 1) := by decide +kernel
theorem dX6_rerun_1 : decode cX6_rerun 1 = .ok (.getfield 194, 3) := by decide +kernel
theorem dX6_rerun_4 : decode cX6_rerun 4 = .ok (.ifCond .eq 10, 3) := by decide +kernel
theorem dX6_rerun_7 : decode cX6_rerun 7 = .ok (.aload_n 0, 1) := by decide +kernel
theorem dX6_rerun_8 : decode cX6_rerun 8 = .ok (.invokevirtual 210, 3) := by decide +kernel
theorem dX6_rerun_11 : decode cX6_rerun 11 = .ok (.ifCond .eq 6, 3) := by decide +kernel
theorem dX6_rerun_14 : decode cX6_rerun 14 = .ok (.bipush (-4), 2) := by decide +kernel
theorem dX6_rerun_16 : decode cX6_rerun 16 = .ok (.ireturn, 1) := by decide +kernel
theorem dX6_rerun_17 : decode cX6_rerun 17 = .ok (.aload_n 0, 1) := by decide +kernel
theorem dX6_rerun_18 : decode cX6_rerun 18 = .ok (.dup, 1) := by decide +kernel
theorem dX6_rerun_19 : decode cX6_rerun 19 = .ok (.getfield 204, 3) := by decide +kernel
theorem dX6_rerun_22 : decode cX6_rerun 22 = .ok (.iconst 1, 1) := by decide +kernel
theorem dX6_rerun_23 : decode cX6_rerun 23 = .ok (.iadd, 1) := by decide +kernel
theorem dX6_rerun_24 : decode cX6_rerun 24 = .ok (.putfield 204, 3) := by decide +kernel
theorem dX6_rerun_27 : decode cX6_rerun 27 = .ok (.aload_n 0, 1) := by decide +kernel
theorem dX6_rerun_28 : decode cX6_rerun 28 = .ok (.dup, 1) := by decide +kernel
theorem dX6_rerun_29 : decode cX6_rerun 29 = .ok (.getfield 207, 3) := by decide +kernel
theorem dX6_rerun_32 : decode cX6_rerun 32 = .ok (.iconst 1, 1) := by decide +kernel
theorem dX6_rerun_33 : decode cX6_rerun 33 = .ok (.iadd, 1) := by decide +kernel
theorem dX6_rerun_34 : decode cX6_rerun 34 = .ok (.putfield 207, 3) := by decide +kernel
theorem dX6_rerun_37 : decode cX6_rerun 37 = .ok (.aload_n 0, 1) := by decide +kernel
theorem dX6_rerun_38 : decode cX6_rerun 38 = .ok (.dup, 1) := by decide +kernel
theorem dX6_rerun_39 : decode cX6_rerun 39 = .ok (.getfield 201, 3) := by decide +kernel
theorem dX6_rerun_42 : decode cX6_rerun 42 = .ok (.iload_n 1, 1) := by decide +kernel
theorem dX6_rerun_43 : decode cX6_rerun 43 = .ok (.ifCond .eq 7, 3) := by decide +kernel
theorem dX6_rerun_46 : decode cX6_rerun 46 = .ok (.iconst 1, 1) := by decide +kernel
theorem dX6_rerun_47 : decode cX6_rerun 47 = .ok (.goto 4, 3) := by decide +kernel
theorem dX6_rerun_50 : decode cX6_rerun 50 = .ok (.iconst 0, 1) := by decide +kernel
theorem dX6_rerun_51 : decode cX6_rerun 51 = .ok (.iadd, 1) := by decide +kernel
theorem dX6_rerun_52 : decode cX6_rerun 52 = .ok (.putfield 201, 3) := by decide +kernel
theorem dX6_rerun_55 : decode cX6_rerun 55 = .ok (.aload_n 0, 1) := by decide +kernel
theorem dX6_rerun_56 : decode cX6_rerun 56 = .ok (.getfield 204, 3) := by decide +kernel
theorem dX6_rerun_59 : decode cX6_rerun 59 = .ok (.aload_n 0, 1) := by decide +kernel
theorem dX6_rerun_60 : decode cX6_rerun 60 = .ok (.getfield 198, 3) := by decide +kernel
theorem dX6_rerun_63 : decode cX6_rerun 63 = .ok (.if_icmp .ge 13, 3) := by decide +kernel
theorem dX6_rerun_66 : decode cX6_rerun 66 = .ok (.aload_n 0, 1) := by decide +kernel
theorem dX6_rerun_67 : decode cX6_rerun 67 = .ok (.getfield 198, 3) := by decide +kernel
theorem dX6_rerun_70 : decode cX6_rerun 70 = .ok (.aload_n 0, 1) := by decide +kernel
theorem dX6_rerun_71 : decode cX6_rerun 71 = .ok (.getfield 204, 3) := by decide +kernel
theorem dX6_rerun_74 : decode cX6_rerun 74 = .ok (.isub, 1) := by decide +kernel
theorem dX6_rerun_75 : decode cX6_rerun 75 = .ok (.ireturn, 1) := by decide +kernel
theorem dX6_rerun_76 : decode cX6_rerun 76 = .ok (.iconst 2, 1) := by decide +kernel
theorem dX6_rerun_77 : decode cX6_rerun 77 = .ok (.aload_n 0, 1) := by decide +kernel
theorem dX6_rerun_78 : decode cX6_rerun 78 = .ok (.getfield 201, 3) := by decide +kernel
theorem dX6_rerun_81 : decode cX6_rerun 81 = .ok (.imul, 1) := by decide +kernel
theorem dX6_rerun_82 : decode cX6_rerun 82 = .ok (.aload_n 0, 1) := by decide +kernel
theorem dX6_rerun_83 : decode cX6_rerun 83 = .ok (.getfield 198, 3) := by decide +kernel
theorem dX6_rerun_86 : decode cX6_rerun 86 = .ok (.if_icmp .le 14, 3) := by decide +kernel
theorem dX6_rerun_89 : decode cX6_rerun 89 = .ok (.aload_n 0, 1) := by decide +kernel
theorem dX6_rerun_90 : decode cX6_rerun 90 = .ok (.aload_n 0, 1) := by decide +kernel
theorem dX6_rerun_91 : decode cX6_rerun 91 = .ok (.invokevirtual 214, 3) := by decide +kernel
theorem dX6_rerun_94 : decode cX6_rerun 94 = .ok (.putfield 191, 3) := by decide +kernel
theorem dX6_rerun_97 : decode cX6_rerun 97 = .ok (.goto 11, 3) := by decide +kernel
theorem dX6_rerun_100 : decode cX6_rerun 100 = .ok (.aload_n 0, 1) := by decide +kernel
theorem dX6_rerun_101 : decode cX6_rerun 101 = .ok (.aload_n 0, 1) := by decide +kernel
theorem dX6_rerun_102 : decode cX6_rerun 102 = .ok (.invokevirtual 214, 3) := by decide +kernel
theorem dX6_rerun_105 : decode cX6_rerun 105 = .ok (.putfield 188, 3) := by decide +kernel
theorem dX6_rerun_108 : decode cX6_rerun 108 = .ok (.aload_n 0, 1) := by decide +kernel
theorem dX6_rerun_109 : decode cX6_rerun 109 = .ok (.iconst 0, 1) := by decide +kernel
theorem dX6_rerun_110 : decode cX6_rerun 110 = .ok (.putfield 204, 3) := by decide +kernel
theorem dX6_rerun_113 : decode cX6_rerun 113 = .ok (.aload_n 0, 1) := by decide +kernel
theorem dX6_rerun_114 : decode cX6_rerun 114 = .ok (.iconst 0, 1) := by decide +kernel
theorem dX6_rerun_115 : decode cX6_rerun 115 = .ok (.putfield 201, 3) := by decide +kernel
theorem dX6_rerun_118 : decode cX6_rerun 118 = .ok (.iconst 0, 1) := by decide +kernel
theorem dX6_rerun_119 : decode cX6_rerun 119 = .ok (.ireturn, 1) := by decide +kernel
theorem dX6_found_0 : decode cX6_found 0 = .ok (.aload_n 0, 1) := by decide +kernel
theorem dX6_found_1 : decode cX6_found 1 = .ok (.getfield 194, 3) := by decide +kernel
theorem dX6_found_4 : decode cX6_found 4 = .ok (.ifCond .ne 8, 3) := by decide +kernel
theorem dX6_found_7 : decode cX6_found 7 = .ok (.bipush (-4), 2) := by decide +kernel
theorem dX6_found_9 : decode cX6_found 9 = .ok (.goto 19, 3) := by decide +kernel
theorem dX6_found_12 : decode cX6_found 12 = .ok (.aload_n 0, 1) := by decide +kernel
theorem dX6_found_13 : decode cX6_found 13 = .ok (.invokevirtual 210, 3) := by decide +kernel
theorem dX6_found_16 : decode cX6_found 16 = .ok (.ifCond .eq 10, 3) := by decide +kernel
theorem dX6_found_19 : decode cX6_found 19 = .ok (.aload_n 0, 1) := by decide +kernel
theorem dX6_found_20 : decode cX6_found 20 = .ok (.getfield 191, 3) := by decide +kernel
theorem dX6_found_23 : decode cX6_found 23 = .ok (.goto 5, 3) := by decide +kernel
theorem dX6_found_26 : decode cX6_found 26 = .ok (.bipush (-9), 2) := by decide +kernel
theorem dX6_found_28 : decode cX6_found 28 = .ok (.ireturn, 1) := by decide +kernel
theorem dX6_reruns_0 : decode cX6_reruns 0 = .ok (.aload_n 0, 1) := by decide +kernel
theorem dX6_reruns_1 : decode cX6_reruns 1 = .ok (.getfield 207, 3) := by decide +kernel
theorem dX6_reruns_4 : decode cX6_reruns 4 = .ok (.ireturn, 1) := by decide +kernel
theorem dX6_count_0 : decode cX6_count 0 = .ok (.iconst 0, 1) := by decide +kernel
theorem dX6_count_1 : decode cX6_count 1 = .ok (.istore_n 2, 1) := by decide +kernel
theorem dX6_count_2 : decode cX6_count 2 = .ok (.iconst 0, 1) := by decide +kernel
theorem dX6_count_3 : decode cX6_count 3 = .ok (.istore_n 3, 1) := by decide +kernel
theorem dX6_count_4 : decode cX6_count 4 = .ok (.iload_n 3, 1) := by decide +kernel
theorem dX6_count_5 : decode cX6_count 5 = .ok (.bipush 32, 2) := by decide +kernel
theorem dX6_count_7 : decode cX6_count 7 = .ok (.if_icmp .ge 26, 3) := by decide +kernel
theorem dX6_count_10 : decode cX6_count 10 = .ok (.iload_n 2, 1) := by decide +kernel
theorem dX6_count_11 : decode cX6_count 11 = .ok (.aload_n 0, 1) := by decide +kernel
theorem dX6_count_12 : decode cX6_count 12 = .ok (.getfield 16, 3) := by decide +kernel
theorem dX6_count_15 : decode cX6_count 15 = .ok (.iload_n 3, 1) := by decide +kernel
theorem dX6_count_16 : decode cX6_count 16 = .ok (.baload, 1) := by decide +kernel
theorem dX6_count_17 : decode cX6_count 17 = .ok (.ifCond .eq 7, 3) := by decide +kernel
theorem dX6_count_20 : decode cX6_count 20 = .ok (.iconst 1, 1) := by decide +kernel
theorem dX6_count_21 : decode cX6_count 21 = .ok (.goto 4, 3) := by decide +kernel
theorem dX6_count_24 : decode cX6_count 24 = .ok (.iconst 0, 1) := by decide +kernel
theorem dX6_count_25 : decode cX6_count 25 = .ok (.iadd, 1) := by decide +kernel
theorem dX6_count_26 : decode cX6_count 26 = .ok (.istore_n 2, 1) := by decide +kernel
theorem dX6_count_27 : decode cX6_count 27 = .ok (.iinc 3 1, 3) := by decide +kernel
theorem dX6_count_30 : decode cX6_count 30 = .ok (.goto (-26), 3) := by decide +kernel
theorem dX6_count_33 : decode cX6_count 33 = .ok (.iload_n 1, 1) := by decide +kernel
theorem dX6_count_34 : decode cX6_count 34 = .ok (.ifCond .ne 10, 3) := by decide +kernel
theorem dX6_count_37 : decode cX6_count 37 = .ok (.aload_n 0, 1) := by decide +kernel
theorem dX6_count_38 : decode cX6_count 38 = .ok (.getfield 91, 3) := by decide +kernel
theorem dX6_count_41 : decode cX6_count 41 = .ok (.goto 37, 3) := by decide +kernel
theorem dX6_count_44 : decode cX6_count 44 = .ok (.iload_n 1, 1) := by decide +kernel
theorem dX6_count_45 : decode cX6_count 45 = .ok (.iconst 1, 1) := by decide +kernel
theorem dX6_count_46 : decode cX6_count 46 = .ok (.if_icmp .ne 10, 3) := by decide +kernel
theorem dX6_count_49 : decode cX6_count 49 = .ok (.aload_n 0, 1) := by decide +kernel
theorem dX6_count_50 : decode cX6_count 50 = .ok (.getfield 94, 3) := by decide +kernel
theorem dX6_count_53 : decode cX6_count 53 = .ok (.goto 25, 3) := by decide +kernel
theorem dX6_count_56 : decode cX6_count 56 = .ok (.iload_n 1, 1) := by decide +kernel
theorem dX6_count_57 : decode cX6_count 57 = .ok (.iconst 2, 1) := by decide +kernel
theorem dX6_count_58 : decode cX6_count 58 = .ok (.if_icmp .ne 7, 3) := by decide +kernel
theorem dX6_count_61 : decode cX6_count 61 = .ok (.iload_n 2, 1) := by decide +kernel
theorem dX6_count_62 : decode cX6_count 62 = .ok (.goto 16, 3) := by decide +kernel
theorem dX6_count_65 : decode cX6_count 65 = .ok (.iload_n 1, 1) := by decide +kernel
theorem dX6_count_66 : decode cX6_count 66 = .ok (.iconst 3, 1) := by decide +kernel
theorem dX6_count_67 : decode cX6_count 67 = .ok (.if_icmp .ne 10, 3) := by decide +kernel
theorem dX6_count_70 : decode cX6_count 70 = .ok (.aload_n 0, 1) := by decide +kernel
theorem dX6_count_71 : decode cX6_count 71 = .ok (.getfield 178, 3) := by decide +kernel
theorem dX6_count_74 : decode cX6_count 74 = .ok (.goto 4, 3) := by decide +kernel
theorem dX6_count_77 : decode cX6_count 77 = .ok (.iconst (-1), 1) := by decide +kernel
theorem dX6_count_78 : decode cX6_count 78 = .ok (.ireturn, 1) := by decide +kernel
theorem dX6_digest_0 : decode cX6_digest 0 = .ok (.ldc2_w 218, 3) := by decide +kernel
theorem dX6_digest_3 : decode cX6_digest 3 = .ok (.ldc2_w 218, 3) := by decide +kernel
theorem dX6_digest_6 : decode cX6_digest 6 = .ok (.ldc2_w 220, 3) := by decide +kernel
theorem dX6_digest_9 : decode cX6_digest 9 = .ok (.aload_n 0, 1) := by decide +kernel
theorem dX6_digest_10 : decode cX6_digest 10 = .ok (.getfield 91, 3) := by decide +kernel
theorem dX6_digest_13 : decode cX6_digest 13 = .ok (.i2l, 1) := by decide +kernel
theorem dX6_digest_14 : decode cX6_digest 14 = .ok (.ladd, 1) := by decide +kernel
theorem dX6_digest_15 : decode cX6_digest 15 = .ok (.lmul, 1) := by decide +kernel
theorem dX6_digest_16 : decode cX6_digest 16 = .ok (.aload_n 0, 1) := by decide +kernel
theorem dX6_digest_17 : decode cX6_digest 17 = .ok (.getfield 70, 3) := by decide +kernel
theorem dX6_digest_20 : decode cX6_digest 20 = .ok (.i2l, 1) := by decide +kernel
theorem dX6_digest_21 : decode cX6_digest 21 = .ok (.ladd, 1) := by decide +kernel
theorem dX6_digest_22 : decode cX6_digest 22 = .ok (.lmul, 1) := by decide +kernel
theorem dX6_digest_23 : decode cX6_digest 23 = .ok (.aload_n 0, 1) := by decide +kernel
theorem dX6_digest_24 : decode cX6_digest 24 = .ok (.getfield 74, 3) := by decide +kernel
theorem dX6_digest_27 : decode cX6_digest 27 = .ok (.i2l, 1) := by decide +kernel
theorem dX6_digest_28 : decode cX6_digest 28 = .ok (.ladd, 1) := by decide +kernel
theorem dX6_digest_29 : decode cX6_digest 29 = .ok (.lstore_n 1, 1) := by decide +kernel
theorem dX6_digest_30 : decode cX6_digest 30 = .ok (.iconst 0, 1) := by decide +kernel
theorem dX6_digest_31 : decode cX6_digest 31 = .ok (.istore_n 3, 1) := by decide +kernel
theorem dX6_digest_32 : decode cX6_digest 32 = .ok (.iload_n 3, 1) := by decide +kernel
theorem dX6_digest_33 : decode cX6_digest 33 = .ok (.aload_n 0, 1) := by decide +kernel
theorem dX6_digest_34 : decode cX6_digest 34 = .ok (.getfield 94, 3) := by decide +kernel
theorem dX6_digest_37 : decode cX6_digest 37 = .ok (.if_icmp .ge 111, 3) := by decide +kernel
theorem dX6_digest_40 : decode cX6_digest 40 = .ok (.ldc2_w 218, 3) := by decide +kernel
theorem dX6_digest_43 : decode cX6_digest 43 = .ok (.lload_n 1, 1) := by decide +kernel
theorem dX6_digest_44 : decode cX6_digest 44 = .ok (.lmul, 1) := by decide +kernel
theorem dX6_digest_45 : decode cX6_digest 45 = .ok (.aload_n 0, 1) := by decide +kernel
theorem dX6_digest_46 : decode cX6_digest 46 = .ok (.getfield 13, 3) := by decide +kernel
theorem dX6_digest_49 : decode cX6_digest 49 = .ok (.iload_n 3, 1) := by decide +kernel
theorem dX6_digest_50 : decode cX6_digest 50 = .ok (.iaload, 1) := by decide +kernel
theorem dX6_digest_51 : decode cX6_digest 51 = .ok (.i2l, 1) := by decide +kernel
theorem dX6_digest_52 : decode cX6_digest 52 = .ok (.ladd, 1) := by decide +kernel
theorem dX6_digest_53 : decode cX6_digest 53 = .ok (.lstore_n 1, 1) := by decide +kernel
theorem dX6_digest_54 : decode cX6_digest 54 = .ok (.iconst 0, 1) := by decide +kernel
theorem dX6_digest_55 : decode cX6_digest 55 = .ok (.istore 4, 2) := by decide +kernel
theorem dX6_digest_57 : decode cX6_digest 57 = .ok (.iload 4, 2) := by decide +kernel
theorem dX6_digest_59 : decode cX6_digest 59 = .ok (.iconst 4, 1) := by decide +kernel
theorem dX6_digest_60 : decode cX6_digest 60 = .ok (.if_icmp .ge 82, 3) := by decide +kernel
theorem dX6_digest_63 : decode cX6_digest 63 = .ok (.iconst 4, 1) := by decide +kernel
theorem dX6_digest_64 : decode cX6_digest 64 = .ok (.iload_n 3, 1) := by decide +kernel
theorem dX6_digest_65 : decode cX6_digest 65 = .ok (.imul, 1) := by decide +kernel
theorem dX6_digest_66 : decode cX6_digest 66 = .ok (.iload 4, 2) := by decide +kernel
theorem dX6_digest_68 : decode cX6_digest 68 = .ok (.iadd, 1) := by decide +kernel
theorem dX6_digest_69 : decode cX6_digest 69 = .ok (.istore 5, 2) := by decide +kernel
theorem dX6_digest_71 : decode cX6_digest 71 = .ok (.aload_n 0, 1) := by decide +kernel
theorem dX6_digest_72 : decode cX6_digest 72 = .ok (.getfield 16, 3) := by decide +kernel
theorem dX6_digest_75 : decode cX6_digest 75 = .ok (.iload 5, 2) := by decide +kernel
theorem dX6_digest_77 : decode cX6_digest 77 = .ok (.baload, 1) := by decide +kernel
theorem dX6_digest_78 : decode cX6_digest 78 = .ok (.ifCond .ne 11, 3) := by decide +kernel
theorem dX6_digest_81 : decode cX6_digest 81 = .ok (.ldc2_w 218, 3) := by decide +kernel
theorem dX6_digest_84 : decode cX6_digest 84 = .ok (.lload_n 1, 1) := by decide +kernel
theorem dX6_digest_85 : decode cX6_digest 85 = .ok (.lmul, 1) := by decide +kernel
theorem dX6_digest_86 : decode cX6_digest 86 = .ok (.lconst 1, 1) := by decide +kernel
theorem dX6_digest_87 : decode cX6_digest 87 = .ok (.lsub, 1) := by decide +kernel
theorem dX6_digest_88 : decode cX6_digest 88 = .ok (.lstore_n 1, 1) := by decide +kernel
theorem dX6_digest_89 : decode cX6_digest 89 = .ok (.iconst 0, 1) := by decide +kernel
theorem dX6_digest_90 : decode cX6_digest 90 = .ok (.istore 6, 2) := by decide +kernel
theorem dX6_digest_92 : decode cX6_digest 92 = .ok (.iload 6, 2) := by decide +kernel
theorem dX6_digest_94 : decode cX6_digest 94 = .ok (.bipush 40, 2) := by decide +kernel
theorem dX6_digest_96 : decode cX6_digest 96 = .ok (.if_icmp .ge 40, 3) := by decide +kernel
theorem dX6_digest_99 : decode cX6_digest 99 = .ok (.aload_n 0, 1) := by decide +kernel
theorem dX6_digest_100 : decode cX6_digest 100 = .ok (.getfield 16, 3) := by decide +kernel
theorem dX6_digest_103 : decode cX6_digest 103 = .ok (.iload 5, 2) := by decide +kernel
theorem dX6_digest_105 : decode cX6_digest 105 = .ok (.baload, 1) := by decide +kernel
theorem dX6_digest_106 : decode cX6_digest 106 = .ok (.ifCond .eq 30, 3) := by decide +kernel
theorem dX6_digest_109 : decode cX6_digest 109 = .ok (.ldc2_w 218, 3) := by decide +kernel
theorem dX6_digest_112 : decode cX6_digest 112 = .ok (.lload_n 1, 1) := by decide +kernel
theorem dX6_digest_113 : decode cX6_digest 113 = .ok (.lmul, 1) := by decide +kernel
theorem dX6_digest_114 : decode cX6_digest 114 = .ok (.aload_n 0, 1) := by decide +kernel
theorem dX6_digest_115 : decode cX6_digest 115 = .ok (.getfield 20, 3) := by decide +kernel
theorem dX6_digest_118 : decode cX6_digest 118 = .ok (.bipush 40, 2) := by decide +kernel
theorem dX6_digest_120 : decode cX6_digest 120 = .ok (.iload 5, 2) := by decide +kernel
theorem dX6_digest_122 : decode cX6_digest 122 = .ok (.imul, 1) := by decide +kernel
theorem dX6_digest_123 : decode cX6_digest 123 = .ok (.iload 6, 2) := by decide +kernel
theorem dX6_digest_125 : decode cX6_digest 125 = .ok (.iadd, 1) := by decide +kernel
theorem dX6_digest_126 : decode cX6_digest 126 = .ok (.iaload, 1) := by decide +kernel
theorem dX6_digest_127 : decode cX6_digest 127 = .ok (.i2l, 1) := by decide +kernel
theorem dX6_digest_128 : decode cX6_digest 128 = .ok (.ladd, 1) := by decide +kernel
theorem dX6_digest_129 : decode cX6_digest 129 = .ok (.lstore_n 1, 1) := by decide +kernel
theorem dX6_digest_130 : decode cX6_digest 130 = .ok (.iinc 6 1, 3) := by decide +kernel
theorem dX6_digest_133 : decode cX6_digest 133 = .ok (.goto (-41), 3) := by decide +kernel
theorem dX6_digest_136 : decode cX6_digest 136 = .ok (.iinc 4 1, 3) := by decide +kernel
theorem dX6_digest_139 : decode cX6_digest 139 = .ok (.goto (-82), 3) := by decide +kernel
theorem dX6_digest_142 : decode cX6_digest 142 = .ok (.iinc 3 1, 3) := by decide +kernel
theorem dX6_digest_145 : decode cX6_digest 145 = .ok (.goto (-113), 3) := by decide +kernel
theorem dX6_digest_148 : decode cX6_digest 148 = .ok (.ldc2_w 218, 3) := by decide +kernel
theorem dX6_digest_151 : decode cX6_digest 151 = .ok (.ldc2_w 218, 3) := by decide +kernel
theorem dX6_digest_154 : decode cX6_digest 154 = .ok (.ldc2_w 218, 3) := by decide +kernel
theorem dX6_digest_157 : decode cX6_digest 157 = .ok (.ldc2_w 218, 3) := by decide +kernel
theorem dX6_digest_160 : decode cX6_digest 160 = .ok (.lload_n 1, 1) := by decide +kernel
theorem dX6_digest_161 : decode cX6_digest 161 = .ok (.lmul, 1) := by decide +kernel
theorem dX6_digest_162 : decode cX6_digest 162 = .ok (.aload_n 0, 1) := by decide +kernel
theorem dX6_digest_163 : decode cX6_digest 163 = .ok (.getfield 178, 3) := by decide +kernel
theorem dX6_digest_166 : decode cX6_digest 166 = .ok (.i2l, 1) := by decide +kernel
theorem dX6_digest_167 : decode cX6_digest 167 = .ok (.ladd, 1) := by decide +kernel
theorem dX6_digest_168 : decode cX6_digest 168 = .ok (.lmul, 1) := by decide +kernel
theorem dX6_digest_169 : decode cX6_digest 169 = .ok (.aload_n 0, 1) := by decide +kernel
theorem dX6_digest_170 : decode cX6_digest 170 = .ok (.invokevirtual 222, 3) := by decide +kernel
theorem dX6_digest_173 : decode cX6_digest 173 = .ok (.i2l, 1) := by decide +kernel
theorem dX6_digest_174 : decode cX6_digest 174 = .ok (.ladd, 1) := by decide +kernel
theorem dX6_digest_175 : decode cX6_digest 175 = .ok (.lmul, 1) := by decide +kernel
theorem dX6_digest_176 : decode cX6_digest 176 = .ok (.aload_n 0, 1) := by decide +kernel
theorem dX6_digest_177 : decode cX6_digest 177 = .ok (.invokevirtual 225, 3) := by decide +kernel
theorem dX6_digest_180 : decode cX6_digest 180 = .ok (.i2l, 1) := by decide +kernel
theorem dX6_digest_181 : decode cX6_digest 181 = .ok (.ladd, 1) := by decide +kernel
theorem dX6_digest_182 : decode cX6_digest 182 = .ok (.lmul, 1) := by decide +kernel
theorem dX6_digest_183 : decode cX6_digest 183 = .ok (.aload_n 0, 1) := by decide +kernel
theorem dX6_digest_184 : decode cX6_digest 184 = .ok (.getfield 207, 3) := by decide +kernel
theorem dX6_digest_187 : decode cX6_digest 187 = .ok (.i2l, 1) := by decide +kernel
theorem dX6_digest_188 : decode cX6_digest 188 = .ok (.ladd, 1) := by decide +kernel
theorem dX6_digest_189 : decode cX6_digest 189 = .ok (.lreturn, 1) := by decide +kernel
end
section
theorem dL_law_0 : decode cL_law 0 = .ok (.new 7, 3) := by decide +kernel
theorem dL_law_3 : decode cL_law 3 = .ok (.dup, 1) := by decide +kernel
theorem dL_law_4 : decode cL_law 4 = .ok (.invokespecial 9, 3) := by decide +kernel
theorem dL_law_7 : decode cL_law 7 = .ok (.astore_n 1, 1) := by decide +kernel
theorem dL_law_8 : decode cL_law 8 = .ok (.new 10, 3) := by decide +kernel
theorem dL_law_11 : decode cL_law 11 = .ok (.dup, 1) := by decide +kernel
theorem dL_law_12 : decode cL_law 12 = .ok (.invokespecial 12, 3) := by decide +kernel
theorem dL_law_15 : decode cL_law 15 = .ok (.astore_n 2, 1) := by decide +kernel
theorem dL_law_16 : decode cL_law 16 = .ok (.iconst 0, 1) := by decide +kernel
theorem dL_law_17 : decode cL_law 17 = .ok (.istore_n 3, 1) := by decide +kernel
theorem dL_law_18 : decode cL_law 18 = .ok (.iload_n 3, 1) := by decide +kernel
theorem dL_law_19 : decode cL_law 19 = .ok (.aload_n 0, 1) := by decide +kernel
theorem dL_law_20 : decode cL_law 20 = .ok (.arraylength, 1) := by decide +kernel
theorem dL_law_21 : decode cL_law 21 = .ok (.bipush 7, 2) := by decide +kernel
theorem dL_law_23 : decode cL_law 23 = .ok (.isub, 1) := by decide +kernel
theorem dL_law_24 : decode cL_law 24 = .ok (.if_icmp .gt 1193, 3) := by decide +kernel
theorem dL_law_27 : decode cL_law 27 = .ok (.aload_n 0, 1) := by decide +kernel
theorem dL_law_28 : decode cL_law 28 = .ok (.iload_n 3, 1) := by decide +kernel
theorem dL_law_29 : decode cL_law 29 = .ok (.iaload, 1) := by decide +kernel
theorem dL_law_30 : decode cL_law 30 = .ok (.bipush 63, 2) := by decide +kernel
theorem dL_law_32 : decode cL_law 32 = .ok (.iand, 1) := by decide +kernel
theorem dL_law_33 : decode cL_law 33 = .ok (.tableswitch 1178 0 32 #[147, 170, 193, 226, 259, 312, 355, 388, 463, 506, 539, 562, 595, 638, 681, 724, 747, 790, 833, 876, 919, 942, 985, 998, 1037, 1050, 1063, 1077, 1091, 1105, 1128, 1141, 1164], 147) := by decide +kernel
theorem dL_law_180 : decode cL_law 180 = .ok (.aload_n 1, 1) := by decide +kernel
theorem dL_law_181 : decode cL_law 181 = .ok (.aload_n 0, 1) := by decide +kernel
theorem dL_law_182 : decode cL_law 182 = .ok (.iload_n 3, 1) := by decide +kernel
theorem dL_law_183 : decode cL_law 183 = .ok (.iconst 1, 1) := by decide +kernel
theorem dL_law_184 : decode cL_law 184 = .ok (.iadd, 1) := by decide +kernel
theorem dL_law_185 : decode cL_law 185 = .ok (.iaload, 1) := by decide +kernel
theorem dL_law_186 : decode cL_law 186 = .ok (.invokevirtual 13, 3) := by decide +kernel
theorem dL_law_189 : decode cL_law 189 = .ok (.aload_n 2, 1) := by decide +kernel
theorem dL_law_190 : decode cL_law 190 = .ok (.aload_n 0, 1) := by decide +kernel
theorem dL_law_191 : decode cL_law 191 = .ok (.iload_n 3, 1) := by decide +kernel
theorem dL_law_192 : decode cL_law 192 = .ok (.iconst 1, 1) := by decide +kernel
theorem dL_law_193 : decode cL_law 193 = .ok (.iadd, 1) := by decide +kernel
theorem dL_law_194 : decode cL_law 194 = .ok (.iaload, 1) := by decide +kernel
theorem dL_law_195 : decode cL_law 195 = .ok (.invokevirtual 17, 3) := by decide +kernel
theorem dL_law_198 : decode cL_law 198 = .ok (.if_icmp .eq 1013, 3) := by decide +kernel
theorem dL_law_201 : decode cL_law 201 = .ok (.iconst 0, 1) := by decide +kernel
theorem dL_law_202 : decode cL_law 202 = .ok (.ireturn, 1) := by decide +kernel
theorem dL_law_203 : decode cL_law 203 = .ok (.aload_n 1, 1) := by decide +kernel
theorem dL_law_204 : decode cL_law 204 = .ok (.aload_n 0, 1) := by decide +kernel
theorem dL_law_205 : decode cL_law 205 = .ok (.iload_n 3, 1) := by decide +kernel
theorem dL_law_206 : decode cL_law 206 = .ok (.iconst 1, 1) := by decide +kernel
theorem dL_law_207 : decode cL_law 207 = .ok (.iadd, 1) := by decide +kernel
theorem dL_law_208 : decode cL_law 208 = .ok (.iaload, 1) := by decide +kernel
theorem dL_law_209 : decode cL_law 209 = .ok (.invokevirtual 18, 3) := by decide +kernel
theorem dL_law_212 : decode cL_law 212 = .ok (.aload_n 2, 1) := by decide +kernel
theorem dL_law_213 : decode cL_law 213 = .ok (.aload_n 0, 1) := by decide +kernel
theorem dL_law_214 : decode cL_law 214 = .ok (.iload_n 3, 1) := by decide +kernel
theorem dL_law_215 : decode cL_law 215 = .ok (.iconst 1, 1) := by decide +kernel
theorem dL_law_216 : decode cL_law 216 = .ok (.iadd, 1) := by decide +kernel
theorem dL_law_217 : decode cL_law 217 = .ok (.iaload, 1) := by decide +kernel
theorem dL_law_218 : decode cL_law 218 = .ok (.invokevirtual 21, 3) := by decide +kernel
theorem dL_law_221 : decode cL_law 221 = .ok (.if_icmp .eq 990, 3) := by decide +kernel
theorem dL_law_224 : decode cL_law 224 = .ok (.iconst 0, 1) := by decide +kernel
theorem dL_law_225 : decode cL_law 225 = .ok (.ireturn, 1) := by decide +kernel
theorem dL_law_226 : decode cL_law 226 = .ok (.aload_n 1, 1) := by decide +kernel
theorem dL_law_227 : decode cL_law 227 = .ok (.aload_n 0, 1) := by decide +kernel
theorem dL_law_228 : decode cL_law 228 = .ok (.iload_n 3, 1) := by decide +kernel
theorem dL_law_229 : decode cL_law 229 = .ok (.iconst 1, 1) := by decide +kernel
theorem dL_law_230 : decode cL_law 230 = .ok (.iadd, 1) := by decide +kernel
theorem dL_law_231 : decode cL_law 231 = .ok (.iaload, 1) := by decide +kernel
theorem dL_law_232 : decode cL_law 232 = .ok (.aload_n 0, 1) := by decide +kernel
theorem dL_law_233 : decode cL_law 233 = .ok (.iload_n 3, 1) := by decide +kernel
theorem dL_law_234 : decode cL_law 234 = .ok (.iconst 2, 1) := by decide +kernel
theorem dL_law_235 : decode cL_law 235 = .ok (.iadd, 1) := by decide +kernel
theorem dL_law_236 : decode cL_law 236 = .ok (.iaload, 1) := by decide +kernel
theorem dL_law_237 : decode cL_law 237 = .ok (.invokevirtual 22, 3) := by decide +kernel
theorem dL_law_240 : decode cL_law 240 = .ok (.aload_n 2, 1) := by decide +kernel
theorem dL_law_241 : decode cL_law 241 = .ok (.aload_n 0, 1) := by decide +kernel
theorem dL_law_242 : decode cL_law 242 = .ok (.iload_n 3, 1) := by decide +kernel
theorem dL_law_243 : decode cL_law 243 = .ok (.iconst 1, 1) := by decide +kernel
theorem dL_law_244 : decode cL_law 244 = .ok (.iadd, 1) := by decide +kernel
theorem dL_law_245 : decode cL_law 245 = .ok (.iaload, 1) := by decide +kernel
theorem dL_law_246 : decode cL_law 246 = .ok (.aload_n 0, 1) := by decide +kernel
theorem dL_law_247 : decode cL_law 247 = .ok (.iload_n 3, 1) := by decide +kernel
theorem dL_law_248 : decode cL_law 248 = .ok (.iconst 2, 1) := by decide +kernel
theorem dL_law_249 : decode cL_law 249 = .ok (.iadd, 1) := by decide +kernel
theorem dL_law_250 : decode cL_law 250 = .ok (.iaload, 1) := by decide +kernel
theorem dL_law_251 : decode cL_law 251 = .ok (.invokevirtual 26, 3) := by decide +kernel
theorem dL_law_254 : decode cL_law 254 = .ok (.if_icmp .eq 957, 3) := by decide +kernel
theorem dL_law_257 : decode cL_law 257 = .ok (.iconst 0, 1) := by decide +kernel
theorem dL_law_258 : decode cL_law 258 = .ok (.ireturn, 1) := by decide +kernel
theorem dL_law_259 : decode cL_law 259 = .ok (.aload_n 1, 1) := by decide +kernel
theorem dL_law_260 : decode cL_law 260 = .ok (.aload_n 0, 1) := by decide +kernel
theorem dL_law_261 : decode cL_law 261 = .ok (.iload_n 3, 1) := by decide +kernel
theorem dL_law_262 : decode cL_law 262 = .ok (.iconst 1, 1) := by decide +kernel
theorem dL_law_263 : decode cL_law 263 = .ok (.iadd, 1) := by decide +kernel
theorem dL_law_264 : decode cL_law 264 = .ok (.iaload, 1) := by decide +kernel
theorem dL_law_265 : decode cL_law 265 = .ok (.aload_n 0, 1) := by decide +kernel
theorem dL_law_266 : decode cL_law 266 = .ok (.iload_n 3, 1) := by decide +kernel
theorem dL_law_267 : decode cL_law 267 = .ok (.iconst 2, 1) := by decide +kernel
theorem dL_law_268 : decode cL_law 268 = .ok (.iadd, 1) := by decide +kernel
theorem dL_law_269 : decode cL_law 269 = .ok (.iaload, 1) := by decide +kernel
theorem dL_law_270 : decode cL_law 270 = .ok (.invokevirtual 27, 3) := by decide +kernel
theorem dL_law_273 : decode cL_law 273 = .ok (.aload_n 2, 1) := by decide +kernel
theorem dL_law_274 : decode cL_law 274 = .ok (.aload_n 0, 1) := by decide +kernel
theorem dL_law_275 : decode cL_law 275 = .ok (.iload_n 3, 1) := by decide +kernel
theorem dL_law_276 : decode cL_law 276 = .ok (.iconst 1, 1) := by decide +kernel
theorem dL_law_277 : decode cL_law 277 = .ok (.iadd, 1) := by decide +kernel
theorem dL_law_278 : decode cL_law 278 = .ok (.iaload, 1) := by decide +kernel
theorem dL_law_279 : decode cL_law 279 = .ok (.aload_n 0, 1) := by decide +kernel
theorem dL_law_280 : decode cL_law 280 = .ok (.iload_n 3, 1) := by decide +kernel
theorem dL_law_281 : decode cL_law 281 = .ok (.iconst 2, 1) := by decide +kernel
theorem dL_law_282 : decode cL_law 282 = .ok (.iadd, 1) := by decide +kernel
theorem dL_law_283 : decode cL_law 283 = .ok (.iaload, 1) := by decide +kernel
theorem dL_law_284 : decode cL_law 284 = .ok (.invokevirtual 30, 3) := by decide +kernel
theorem dL_law_287 : decode cL_law 287 = .ok (.if_icmp .eq 924, 3) := by decide +kernel
theorem dL_law_290 : decode cL_law 290 = .ok (.iconst 0, 1) := by decide +kernel
theorem dL_law_291 : decode cL_law 291 = .ok (.ireturn, 1) := by decide +kernel
theorem dL_law_292 : decode cL_law 292 = .ok (.aload_n 1, 1) := by decide +kernel
theorem dL_law_293 : decode cL_law 293 = .ok (.aload_n 0, 1) := by decide +kernel
theorem dL_law_294 : decode cL_law 294 = .ok (.iload_n 3, 1) := by decide +kernel
theorem dL_law_295 : decode cL_law 295 = .ok (.iconst 1, 1) := by decide +kernel
theorem dL_law_296 : decode cL_law 296 = .ok (.iadd, 1) := by decide +kernel
theorem dL_law_297 : decode cL_law 297 = .ok (.iaload, 1) := by decide +kernel
theorem dL_law_298 : decode cL_law 298 = .ok (.aload_n 0, 1) := by decide +kernel
theorem dL_law_299 : decode cL_law 299 = .ok (.iload_n 3, 1) := by decide +kernel
theorem dL_law_300 : decode cL_law 300 = .ok (.iconst 2, 1) := by decide +kernel
theorem dL_law_301 : decode cL_law 301 = .ok (.iadd, 1) := by decide +kernel
theorem dL_law_302 : decode cL_law 302 = .ok (.iaload, 1) := by decide +kernel
theorem dL_law_303 : decode cL_law 303 = .ok (.aload_n 0, 1) := by decide +kernel
theorem dL_law_304 : decode cL_law 304 = .ok (.iload_n 3, 1) := by decide +kernel
theorem dL_law_305 : decode cL_law 305 = .ok (.iconst 3, 1) := by decide +kernel
theorem dL_law_306 : decode cL_law 306 = .ok (.iadd, 1) := by decide +kernel
theorem dL_law_307 : decode cL_law 307 = .ok (.iaload, 1) := by decide +kernel
theorem dL_law_308 : decode cL_law 308 = .ok (.aload_n 0, 1) := by decide +kernel
theorem dL_law_309 : decode cL_law 309 = .ok (.iload_n 3, 1) := by decide +kernel
theorem dL_law_310 : decode cL_law 310 = .ok (.iconst 4, 1) := by decide +kernel
theorem dL_law_311 : decode cL_law 311 = .ok (.iadd, 1) := by decide +kernel
theorem dL_law_312 : decode cL_law 312 = .ok (.iaload, 1) := by decide +kernel
theorem dL_law_313 : decode cL_law 313 = .ok (.invokevirtual 31, 3) := by decide +kernel
theorem dL_law_316 : decode cL_law 316 = .ok (.aload_n 2, 1) := by decide +kernel
theorem dL_law_317 : decode cL_law 317 = .ok (.aload_n 0, 1) := by decide +kernel
theorem dL_law_318 : decode cL_law 318 = .ok (.iload_n 3, 1) := by decide +kernel
theorem dL_law_319 : decode cL_law 319 = .ok (.iconst 1, 1) := by decide +kernel
theorem dL_law_320 : decode cL_law 320 = .ok (.iadd, 1) := by decide +kernel
theorem dL_law_321 : decode cL_law 321 = .ok (.iaload, 1) := by decide +kernel
theorem dL_law_322 : decode cL_law 322 = .ok (.aload_n 0, 1) := by decide +kernel
theorem dL_law_323 : decode cL_law 323 = .ok (.iload_n 3, 1) := by decide +kernel
theorem dL_law_324 : decode cL_law 324 = .ok (.iconst 2, 1) := by decide +kernel
theorem dL_law_325 : decode cL_law 325 = .ok (.iadd, 1) := by decide +kernel
end
section
theorem dL_law_326 : decode cL_law 326 = .ok (.iaload, 1) := by decide +kernel
theorem dL_law_327 : decode cL_law 327 = .ok (.aload_n 0, 1) := by decide +kernel
theorem dL_law_328 : decode cL_law 328 = .ok (.iload_n 3, 1) := by decide +kernel
theorem dL_law_329 : decode cL_law 329 = .ok (.iconst 3, 1) := by decide +kernel
theorem dL_law_330 : decode cL_law 330 = .ok (.iadd, 1) := by decide +kernel
theorem dL_law_331 : decode cL_law 331 = .ok (.iaload, 1) := by decide +kernel
theorem dL_law_332 : decode cL_law 332 = .ok (.aload_n 0, 1) := by decide +kernel
theorem dL_law_333 : decode cL_law 333 = .ok (.iload_n 3, 1) := by decide +kernel
theorem dL_law_334 : decode cL_law 334 = .ok (.iconst 4, 1) := by decide +kernel
theorem dL_law_335 : decode cL_law 335 = .ok (.iadd, 1) := by decide +kernel
theorem dL_law_336 : decode cL_law 336 = .ok (.iaload, 1) := by decide +kernel
theorem dL_law_337 : decode cL_law 337 = .ok (.invokevirtual 35, 3) := by decide +kernel
theorem dL_law_340 : decode cL_law 340 = .ok (.if_icmp .eq 871, 3) := by decide +kernel
theorem dL_law_343 : decode cL_law 343 = .ok (.iconst 0, 1) := by decide +kernel
theorem dL_law_344 : decode cL_law 344 = .ok (.ireturn, 1) := by decide +kernel
theorem dL_law_345 : decode cL_law 345 = .ok (.aload_n 1, 1) := by decide +kernel
theorem dL_law_346 : decode cL_law 346 = .ok (.aload_n 0, 1) := by decide +kernel
theorem dL_law_347 : decode cL_law 347 = .ok (.iload_n 3, 1) := by decide +kernel
theorem dL_law_348 : decode cL_law 348 = .ok (.iconst 1, 1) := by decide +kernel
theorem dL_law_349 : decode cL_law 349 = .ok (.iadd, 1) := by decide +kernel
theorem dL_law_350 : decode cL_law 350 = .ok (.iaload, 1) := by decide +kernel
theorem dL_law_351 : decode cL_law 351 = .ok (.aload_n 0, 1) := by decide +kernel
theorem dL_law_352 : decode cL_law 352 = .ok (.iload_n 3, 1) := by decide +kernel
theorem dL_law_353 : decode cL_law 353 = .ok (.iconst 2, 1) := by decide +kernel
theorem dL_law_354 : decode cL_law 354 = .ok (.iadd, 1) := by decide +kernel
theorem dL_law_355 : decode cL_law 355 = .ok (.iaload, 1) := by decide +kernel
theorem dL_law_356 : decode cL_law 356 = .ok (.aload_n 0, 1) := by decide +kernel
theorem dL_law_357 : decode cL_law 357 = .ok (.iload_n 3, 1) := by decide +kernel
theorem dL_law_358 : decode cL_law 358 = .ok (.iconst 3, 1) := by decide +kernel
theorem dL_law_359 : decode cL_law 359 = .ok (.iadd, 1) := by decide +kernel
theorem dL_law_360 : decode cL_law 360 = .ok (.iaload, 1) := by decide +kernel
theorem dL_law_361 : decode cL_law 361 = .ok (.invokevirtual 36, 3) := by decide +kernel
theorem dL_law_364 : decode cL_law 364 = .ok (.aload_n 2, 1) := by decide +kernel
theorem dL_law_365 : decode cL_law 365 = .ok (.aload_n 0, 1) := by decide +kernel
theorem dL_law_366 : decode cL_law 366 = .ok (.iload_n 3, 1) := by decide +kernel
theorem dL_law_367 : decode cL_law 367 = .ok (.iconst 1, 1) := by decide +kernel
theorem dL_law_368 : decode cL_law 368 = .ok (.iadd, 1) := by decide +kernel
theorem dL_law_369 : decode cL_law 369 = .ok (.iaload, 1) := by decide +kernel
theorem dL_law_370 : decode cL_law 370 = .ok (.aload_n 0, 1) := by decide +kernel
theorem dL_law_371 : decode cL_law 371 = .ok (.iload_n 3, 1) := by decide +kernel
theorem dL_law_372 : decode cL_law 372 = .ok (.iconst 2, 1) := by decide +kernel
theorem dL_law_373 : decode cL_law 373 = .ok (.iadd, 1) := by decide +kernel
theorem dL_law_374 : decode cL_law 374 = .ok (.iaload, 1) := by decide +kernel
theorem dL_law_375 : decode cL_law 375 = .ok (.aload_n 0, 1) := by decide +kernel
theorem dL_law_376 : decode cL_law 376 = .ok (.iload_n 3, 1) := by decide +kernel
theorem dL_law_377 : decode cL_law 377 = .ok (.iconst 3, 1) := by decide +kernel
theorem dL_law_378 : decode cL_law 378 = .ok (.iadd, 1) := by decide +kernel
theorem dL_law_379 : decode cL_law 379 = .ok (.iaload, 1) := by decide +kernel
theorem dL_law_380 : decode cL_law 380 = .ok (.invokevirtual 40, 3) := by decide +kernel
theorem dL_law_383 : decode cL_law 383 = .ok (.if_icmp .eq 828, 3) := by decide +kernel
theorem dL_law_386 : decode cL_law 386 = .ok (.iconst 0, 1) := by decide +kernel
theorem dL_law_387 : decode cL_law 387 = .ok (.ireturn, 1) := by decide +kernel
theorem dL_law_388 : decode cL_law 388 = .ok (.aload_n 1, 1) := by decide +kernel
theorem dL_law_389 : decode cL_law 389 = .ok (.aload_n 0, 1) := by decide +kernel
theorem dL_law_390 : decode cL_law 390 = .ok (.iload_n 3, 1) := by decide +kernel
theorem dL_law_391 : decode cL_law 391 = .ok (.iconst 1, 1) := by decide +kernel
theorem dL_law_392 : decode cL_law 392 = .ok (.iadd, 1) := by decide +kernel
theorem dL_law_393 : decode cL_law 393 = .ok (.iaload, 1) := by decide +kernel
theorem dL_law_394 : decode cL_law 394 = .ok (.aload_n 0, 1) := by decide +kernel
theorem dL_law_395 : decode cL_law 395 = .ok (.iload_n 3, 1) := by decide +kernel
theorem dL_law_396 : decode cL_law 396 = .ok (.iconst 2, 1) := by decide +kernel
theorem dL_law_397 : decode cL_law 397 = .ok (.iadd, 1) := by decide +kernel
theorem dL_law_398 : decode cL_law 398 = .ok (.iaload, 1) := by decide +kernel
theorem dL_law_399 : decode cL_law 399 = .ok (.invokevirtual 41, 3) := by decide +kernel
theorem dL_law_402 : decode cL_law 402 = .ok (.aload_n 2, 1) := by decide +kernel
theorem dL_law_403 : decode cL_law 403 = .ok (.aload_n 0, 1) := by decide +kernel
theorem dL_law_404 : decode cL_law 404 = .ok (.iload_n 3, 1) := by decide +kernel
theorem dL_law_405 : decode cL_law 405 = .ok (.iconst 1, 1) := by decide +kernel
theorem dL_law_406 : decode cL_law 406 = .ok (.iadd, 1) := by decide +kernel
theorem dL_law_407 : decode cL_law 407 = .ok (.iaload, 1) := by decide +kernel
theorem dL_law_408 : decode cL_law 408 = .ok (.aload_n 0, 1) := by decide +kernel
theorem dL_law_409 : decode cL_law 409 = .ok (.iload_n 3, 1) := by decide +kernel
theorem dL_law_410 : decode cL_law 410 = .ok (.iconst 2, 1) := by decide +kernel
theorem dL_law_411 : decode cL_law 411 = .ok (.iadd, 1) := by decide +kernel
theorem dL_law_412 : decode cL_law 412 = .ok (.iaload, 1) := by decide +kernel
theorem dL_law_413 : decode cL_law 413 = .ok (.invokevirtual 44, 3) := by decide +kernel
theorem dL_law_416 : decode cL_law 416 = .ok (.if_icmp .eq 795, 3) := by decide +kernel
theorem dL_law_419 : decode cL_law 419 = .ok (.iconst 0, 1) := by decide +kernel
theorem dL_law_420 : decode cL_law 420 = .ok (.ireturn, 1) := by decide +kernel
theorem dL_law_421 : decode cL_law 421 = .ok (.aload_n 1, 1) := by decide +kernel
theorem dL_law_422 : decode cL_law 422 = .ok (.aload_n 0, 1) := by decide +kernel
theorem dL_law_423 : decode cL_law 423 = .ok (.iload_n 3, 1) := by decide +kernel
theorem dL_law_424 : decode cL_law 424 = .ok (.iconst 1, 1) := by decide +kernel
theorem dL_law_425 : decode cL_law 425 = .ok (.iadd, 1) := by decide +kernel
theorem dL_law_426 : decode cL_law 426 = .ok (.iaload, 1) := by decide +kernel
theorem dL_law_427 : decode cL_law 427 = .ok (.aload_n 0, 1) := by decide +kernel
theorem dL_law_428 : decode cL_law 428 = .ok (.iload_n 3, 1) := by decide +kernel
theorem dL_law_429 : decode cL_law 429 = .ok (.iconst 2, 1) := by decide +kernel
theorem dL_law_430 : decode cL_law 430 = .ok (.iadd, 1) := by decide +kernel
theorem dL_law_431 : decode cL_law 431 = .ok (.iaload, 1) := by decide +kernel
theorem dL_law_432 : decode cL_law 432 = .ok (.aload_n 0, 1) := by decide +kernel
theorem dL_law_433 : decode cL_law 433 = .ok (.iload_n 3, 1) := by decide +kernel
theorem dL_law_434 : decode cL_law 434 = .ok (.iconst 3, 1) := by decide +kernel
theorem dL_law_435 : decode cL_law 435 = .ok (.iadd, 1) := by decide +kernel
theorem dL_law_436 : decode cL_law 436 = .ok (.iaload, 1) := by decide +kernel
theorem dL_law_437 : decode cL_law 437 = .ok (.aload_n 0, 1) := by decide +kernel
theorem dL_law_438 : decode cL_law 438 = .ok (.iload_n 3, 1) := by decide +kernel
theorem dL_law_439 : decode cL_law 439 = .ok (.iconst 4, 1) := by decide +kernel
theorem dL_law_440 : decode cL_law 440 = .ok (.iadd, 1) := by decide +kernel
theorem dL_law_441 : decode cL_law 441 = .ok (.iaload, 1) := by decide +kernel
theorem dL_law_442 : decode cL_law 442 = .ok (.aload_n 0, 1) := by decide +kernel
theorem dL_law_443 : decode cL_law 443 = .ok (.iload_n 3, 1) := by decide +kernel
theorem dL_law_444 : decode cL_law 444 = .ok (.iconst 5, 1) := by decide +kernel
theorem dL_law_445 : decode cL_law 445 = .ok (.iadd, 1) := by decide +kernel
theorem dL_law_446 : decode cL_law 446 = .ok (.iaload, 1) := by decide +kernel
theorem dL_law_447 : decode cL_law 447 = .ok (.aload_n 0, 1) := by decide +kernel
theorem dL_law_448 : decode cL_law 448 = .ok (.iload_n 3, 1) := by decide +kernel
theorem dL_law_449 : decode cL_law 449 = .ok (.bipush 6, 2) := by decide +kernel
theorem dL_law_451 : decode cL_law 451 = .ok (.iadd, 1) := by decide +kernel
theorem dL_law_452 : decode cL_law 452 = .ok (.iaload, 1) := by decide +kernel
theorem dL_law_453 : decode cL_law 453 = .ok (.invokevirtual 45, 3) := by decide +kernel
theorem dL_law_456 : decode cL_law 456 = .ok (.aload_n 2, 1) := by decide +kernel
theorem dL_law_457 : decode cL_law 457 = .ok (.aload_n 0, 1) := by decide +kernel
theorem dL_law_458 : decode cL_law 458 = .ok (.iload_n 3, 1) := by decide +kernel
theorem dL_law_459 : decode cL_law 459 = .ok (.iconst 1, 1) := by decide +kernel
theorem dL_law_460 : decode cL_law 460 = .ok (.iadd, 1) := by decide +kernel
theorem dL_law_461 : decode cL_law 461 = .ok (.iaload, 1) := by decide +kernel
theorem dL_law_462 : decode cL_law 462 = .ok (.aload_n 0, 1) := by decide +kernel
theorem dL_law_463 : decode cL_law 463 = .ok (.iload_n 3, 1) := by decide +kernel
theorem dL_law_464 : decode cL_law 464 = .ok (.iconst 2, 1) := by decide +kernel
theorem dL_law_465 : decode cL_law 465 = .ok (.iadd, 1) := by decide +kernel
theorem dL_law_466 : decode cL_law 466 = .ok (.iaload, 1) := by decide +kernel
theorem dL_law_467 : decode cL_law 467 = .ok (.aload_n 0, 1) := by decide +kernel
theorem dL_law_468 : decode cL_law 468 = .ok (.iload_n 3, 1) := by decide +kernel
theorem dL_law_469 : decode cL_law 469 = .ok (.iconst 3, 1) := by decide +kernel
theorem dL_law_470 : decode cL_law 470 = .ok (.iadd, 1) := by decide +kernel
theorem dL_law_471 : decode cL_law 471 = .ok (.iaload, 1) := by decide +kernel
theorem dL_law_472 : decode cL_law 472 = .ok (.aload_n 0, 1) := by decide +kernel
theorem dL_law_473 : decode cL_law 473 = .ok (.iload_n 3, 1) := by decide +kernel
theorem dL_law_474 : decode cL_law 474 = .ok (.iconst 4, 1) := by decide +kernel
theorem dL_law_475 : decode cL_law 475 = .ok (.iadd, 1) := by decide +kernel
theorem dL_law_476 : decode cL_law 476 = .ok (.iaload, 1) := by decide +kernel
theorem dL_law_477 : decode cL_law 477 = .ok (.aload_n 0, 1) := by decide +kernel
theorem dL_law_478 : decode cL_law 478 = .ok (.iload_n 3, 1) := by decide +kernel
theorem dL_law_479 : decode cL_law 479 = .ok (.iconst 5, 1) := by decide +kernel
theorem dL_law_480 : decode cL_law 480 = .ok (.iadd, 1) := by decide +kernel
theorem dL_law_481 : decode cL_law 481 = .ok (.iaload, 1) := by decide +kernel
theorem dL_law_482 : decode cL_law 482 = .ok (.aload_n 0, 1) := by decide +kernel
theorem dL_law_483 : decode cL_law 483 = .ok (.iload_n 3, 1) := by decide +kernel
theorem dL_law_484 : decode cL_law 484 = .ok (.bipush 6, 2) := by decide +kernel
theorem dL_law_486 : decode cL_law 486 = .ok (.iadd, 1) := by decide +kernel
theorem dL_law_487 : decode cL_law 487 = .ok (.iaload, 1) := by decide +kernel
end
section
theorem dL_law_488 : decode cL_law 488 = .ok (.invokevirtual 49, 3) := by decide +kernel
theorem dL_law_491 : decode cL_law 491 = .ok (.if_icmp .eq 720, 3) := by decide +kernel
theorem dL_law_494 : decode cL_law 494 = .ok (.iconst 0, 1) := by decide +kernel
theorem dL_law_495 : decode cL_law 495 = .ok (.ireturn, 1) := by decide +kernel
theorem dL_law_496 : decode cL_law 496 = .ok (.aload_n 1, 1) := by decide +kernel
theorem dL_law_497 : decode cL_law 497 = .ok (.aload_n 0, 1) := by decide +kernel
theorem dL_law_498 : decode cL_law 498 = .ok (.iload_n 3, 1) := by decide +kernel
theorem dL_law_499 : decode cL_law 499 = .ok (.iconst 1, 1) := by decide +kernel
theorem dL_law_500 : decode cL_law 500 = .ok (.iadd, 1) := by decide +kernel
theorem dL_law_501 : decode cL_law 501 = .ok (.iaload, 1) := by decide +kernel
theorem dL_law_502 : decode cL_law 502 = .ok (.aload_n 0, 1) := by decide +kernel
theorem dL_law_503 : decode cL_law 503 = .ok (.iload_n 3, 1) := by decide +kernel
theorem dL_law_504 : decode cL_law 504 = .ok (.iconst 2, 1) := by decide +kernel
theorem dL_law_505 : decode cL_law 505 = .ok (.iadd, 1) := by decide +kernel
theorem dL_law_506 : decode cL_law 506 = .ok (.iaload, 1) := by decide +kernel
theorem dL_law_507 : decode cL_law 507 = .ok (.aload_n 0, 1) := by decide +kernel
theorem dL_law_508 : decode cL_law 508 = .ok (.iload_n 3, 1) := by decide +kernel
theorem dL_law_509 : decode cL_law 509 = .ok (.iconst 3, 1) := by decide +kernel
theorem dL_law_510 : decode cL_law 510 = .ok (.iadd, 1) := by decide +kernel
theorem dL_law_511 : decode cL_law 511 = .ok (.iaload, 1) := by decide +kernel
theorem dL_law_512 : decode cL_law 512 = .ok (.invokevirtual 50, 3) := by decide +kernel
theorem dL_law_515 : decode cL_law 515 = .ok (.aload_n 2, 1) := by decide +kernel
theorem dL_law_516 : decode cL_law 516 = .ok (.aload_n 0, 1) := by decide +kernel
theorem dL_law_517 : decode cL_law 517 = .ok (.iload_n 3, 1) := by decide +kernel
theorem dL_law_518 : decode cL_law 518 = .ok (.iconst 1, 1) := by decide +kernel
theorem dL_law_519 : decode cL_law 519 = .ok (.iadd, 1) := by decide +kernel
theorem dL_law_520 : decode cL_law 520 = .ok (.iaload, 1) := by decide +kernel
theorem dL_law_521 : decode cL_law 521 = .ok (.aload_n 0, 1) := by decide +kernel
theorem dL_law_522 : decode cL_law 522 = .ok (.iload_n 3, 1) := by decide +kernel
theorem dL_law_523 : decode cL_law 523 = .ok (.iconst 2, 1) := by decide +kernel
theorem dL_law_524 : decode cL_law 524 = .ok (.iadd, 1) := by decide +kernel
theorem dL_law_525 : decode cL_law 525 = .ok (.iaload, 1) := by decide +kernel
theorem dL_law_526 : decode cL_law 526 = .ok (.aload_n 0, 1) := by decide +kernel
theorem dL_law_527 : decode cL_law 527 = .ok (.iload_n 3, 1) := by decide +kernel
theorem dL_law_528 : decode cL_law 528 = .ok (.iconst 3, 1) := by decide +kernel
theorem dL_law_529 : decode cL_law 529 = .ok (.iadd, 1) := by decide +kernel
theorem dL_law_530 : decode cL_law 530 = .ok (.iaload, 1) := by decide +kernel
theorem dL_law_531 : decode cL_law 531 = .ok (.invokevirtual 53, 3) := by decide +kernel
theorem dL_law_534 : decode cL_law 534 = .ok (.if_icmp .eq 677, 3) := by decide +kernel
theorem dL_law_537 : decode cL_law 537 = .ok (.iconst 0, 1) := by decide +kernel
theorem dL_law_538 : decode cL_law 538 = .ok (.ireturn, 1) := by decide +kernel
theorem dL_law_539 : decode cL_law 539 = .ok (.aload_n 1, 1) := by decide +kernel
theorem dL_law_540 : decode cL_law 540 = .ok (.aload_n 0, 1) := by decide +kernel
theorem dL_law_541 : decode cL_law 541 = .ok (.iload_n 3, 1) := by decide +kernel
theorem dL_law_542 : decode cL_law 542 = .ok (.iconst 1, 1) := by decide +kernel
theorem dL_law_543 : decode cL_law 543 = .ok (.iadd, 1) := by decide +kernel
theorem dL_law_544 : decode cL_law 544 = .ok (.iaload, 1) := by decide +kernel
theorem dL_law_545 : decode cL_law 545 = .ok (.aload_n 0, 1) := by decide +kernel
theorem dL_law_546 : decode cL_law 546 = .ok (.iload_n 3, 1) := by decide +kernel
theorem dL_law_547 : decode cL_law 547 = .ok (.iconst 2, 1) := by decide +kernel
theorem dL_law_548 : decode cL_law 548 = .ok (.iadd, 1) := by decide +kernel
theorem dL_law_549 : decode cL_law 549 = .ok (.iaload, 1) := by decide +kernel
theorem dL_law_550 : decode cL_law 550 = .ok (.invokevirtual 54, 3) := by decide +kernel
theorem dL_law_553 : decode cL_law 553 = .ok (.aload_n 2, 1) := by decide +kernel
theorem dL_law_554 : decode cL_law 554 = .ok (.aload_n 0, 1) := by decide +kernel
theorem dL_law_555 : decode cL_law 555 = .ok (.iload_n 3, 1) := by decide +kernel
theorem dL_law_556 : decode cL_law 556 = .ok (.iconst 1, 1) := by decide +kernel
theorem dL_law_557 : decode cL_law 557 = .ok (.iadd, 1) := by decide +kernel
theorem dL_law_558 : decode cL_law 558 = .ok (.iaload, 1) := by decide +kernel
theorem dL_law_559 : decode cL_law 559 = .ok (.aload_n 0, 1) := by decide +kernel
theorem dL_law_560 : decode cL_law 560 = .ok (.iload_n 3, 1) := by decide +kernel
theorem dL_law_561 : decode cL_law 561 = .ok (.iconst 2, 1) := by decide +kernel
theorem dL_law_562 : decode cL_law 562 = .ok (.iadd, 1) := by decide +kernel
theorem dL_law_563 : decode cL_law 563 = .ok (.iaload, 1) := by decide +kernel
theorem dL_law_564 : decode cL_law 564 = .ok (.invokevirtual 57, 3) := by decide +kernel
theorem dL_law_567 : decode cL_law 567 = .ok (.if_icmp .eq 644, 3) := by decide +kernel
theorem dL_law_570 : decode cL_law 570 = .ok (.iconst 0, 1) := by decide +kernel
theorem dL_law_571 : decode cL_law 571 = .ok (.ireturn, 1) := by decide +kernel
theorem dL_law_572 : decode cL_law 572 = .ok (.aload_n 1, 1) := by decide +kernel
theorem dL_law_573 : decode cL_law 573 = .ok (.aload_n 0, 1) := by decide +kernel
theorem dL_law_574 : decode cL_law 574 = .ok (.iload_n 3, 1) := by decide +kernel
theorem dL_law_575 : decode cL_law 575 = .ok (.iconst 1, 1) := by decide +kernel
theorem dL_law_576 : decode cL_law 576 = .ok (.iadd, 1) := by decide +kernel
theorem dL_law_577 : decode cL_law 577 = .ok (.iaload, 1) := by decide +kernel
theorem dL_law_578 : decode cL_law 578 = .ok (.invokevirtual 58, 3) := by decide +kernel
theorem dL_law_581 : decode cL_law 581 = .ok (.aload_n 2, 1) := by decide +kernel
theorem dL_law_582 : decode cL_law 582 = .ok (.aload_n 0, 1) := by decide +kernel
theorem dL_law_583 : decode cL_law 583 = .ok (.iload_n 3, 1) := by decide +kernel
theorem dL_law_584 : decode cL_law 584 = .ok (.iconst 1, 1) := by decide +kernel
theorem dL_law_585 : decode cL_law 585 = .ok (.iadd, 1) := by decide +kernel
theorem dL_law_586 : decode cL_law 586 = .ok (.iaload, 1) := by decide +kernel
theorem dL_law_587 : decode cL_law 587 = .ok (.invokevirtual 61, 3) := by decide +kernel
theorem dL_law_590 : decode cL_law 590 = .ok (.if_icmp .eq 621, 3) := by decide +kernel
theorem dL_law_593 : decode cL_law 593 = .ok (.iconst 0, 1) := by decide +kernel
theorem dL_law_594 : decode cL_law 594 = .ok (.ireturn, 1) := by decide +kernel
theorem dL_law_595 : decode cL_law 595 = .ok (.aload_n 1, 1) := by decide +kernel
theorem dL_law_596 : decode cL_law 596 = .ok (.aload_n 0, 1) := by decide +kernel
theorem dL_law_597 : decode cL_law 597 = .ok (.iload_n 3, 1) := by decide +kernel
theorem dL_law_598 : decode cL_law 598 = .ok (.iconst 1, 1) := by decide +kernel
theorem dL_law_599 : decode cL_law 599 = .ok (.iadd, 1) := by decide +kernel
theorem dL_law_600 : decode cL_law 600 = .ok (.iaload, 1) := by decide +kernel
theorem dL_law_601 : decode cL_law 601 = .ok (.aload_n 0, 1) := by decide +kernel
theorem dL_law_602 : decode cL_law 602 = .ok (.iload_n 3, 1) := by decide +kernel
theorem dL_law_603 : decode cL_law 603 = .ok (.iconst 2, 1) := by decide +kernel
theorem dL_law_604 : decode cL_law 604 = .ok (.iadd, 1) := by decide +kernel
theorem dL_law_605 : decode cL_law 605 = .ok (.iaload, 1) := by decide +kernel
theorem dL_law_606 : decode cL_law 606 = .ok (.invokevirtual 62, 3) := by decide +kernel
theorem dL_law_609 : decode cL_law 609 = .ok (.aload_n 2, 1) := by decide +kernel
theorem dL_law_610 : decode cL_law 610 = .ok (.aload_n 0, 1) := by decide +kernel
theorem dL_law_611 : decode cL_law 611 = .ok (.iload_n 3, 1) := by decide +kernel
theorem dL_law_612 : decode cL_law 612 = .ok (.iconst 1, 1) := by decide +kernel
theorem dL_law_613 : decode cL_law 613 = .ok (.iadd, 1) := by decide +kernel
theorem dL_law_614 : decode cL_law 614 = .ok (.iaload, 1) := by decide +kernel
theorem dL_law_615 : decode cL_law 615 = .ok (.aload_n 0, 1) := by decide +kernel
theorem dL_law_616 : decode cL_law 616 = .ok (.iload_n 3, 1) := by decide +kernel
theorem dL_law_617 : decode cL_law 617 = .ok (.iconst 2, 1) := by decide +kernel
theorem dL_law_618 : decode cL_law 618 = .ok (.iadd, 1) := by decide +kernel
theorem dL_law_619 : decode cL_law 619 = .ok (.iaload, 1) := by decide +kernel
theorem dL_law_620 : decode cL_law 620 = .ok (.invokevirtual 65, 3) := by decide +kernel
theorem dL_law_623 : decode cL_law 623 = .ok (.if_icmp .eq 588, 3) := by decide +kernel
theorem dL_law_626 : decode cL_law 626 = .ok (.iconst 0, 1) := by decide +kernel
theorem dL_law_627 : decode cL_law 627 = .ok (.ireturn, 1) := by decide +kernel
theorem dL_law_628 : decode cL_law 628 = .ok (.aload_n 1, 1) := by decide +kernel
theorem dL_law_629 : decode cL_law 629 = .ok (.aload_n 0, 1) := by decide +kernel
theorem dL_law_630 : decode cL_law 630 = .ok (.iload_n 3, 1) := by decide +kernel
theorem dL_law_631 : decode cL_law 631 = .ok (.iconst 1, 1) := by decide +kernel
theorem dL_law_632 : decode cL_law 632 = .ok (.iadd, 1) := by decide +kernel
theorem dL_law_633 : decode cL_law 633 = .ok (.iaload, 1) := by decide +kernel
theorem dL_law_634 : decode cL_law 634 = .ok (.aload_n 0, 1) := by decide +kernel
theorem dL_law_635 : decode cL_law 635 = .ok (.iload_n 3, 1) := by decide +kernel
theorem dL_law_636 : decode cL_law 636 = .ok (.iconst 2, 1) := by decide +kernel
theorem dL_law_637 : decode cL_law 637 = .ok (.iadd, 1) := by decide +kernel
theorem dL_law_638 : decode cL_law 638 = .ok (.iaload, 1) := by decide +kernel
theorem dL_law_639 : decode cL_law 639 = .ok (.aload_n 0, 1) := by decide +kernel
theorem dL_law_640 : decode cL_law 640 = .ok (.iload_n 3, 1) := by decide +kernel
theorem dL_law_641 : decode cL_law 641 = .ok (.iconst 3, 1) := by decide +kernel
theorem dL_law_642 : decode cL_law 642 = .ok (.iadd, 1) := by decide +kernel
theorem dL_law_643 : decode cL_law 643 = .ok (.iaload, 1) := by decide +kernel
theorem dL_law_644 : decode cL_law 644 = .ok (.invokevirtual 66, 3) := by decide +kernel
theorem dL_law_647 : decode cL_law 647 = .ok (.aload_n 2, 1) := by decide +kernel
theorem dL_law_648 : decode cL_law 648 = .ok (.aload_n 0, 1) := by decide +kernel
theorem dL_law_649 : decode cL_law 649 = .ok (.iload_n 3, 1) := by decide +kernel
theorem dL_law_650 : decode cL_law 650 = .ok (.iconst 1, 1) := by decide +kernel
theorem dL_law_651 : decode cL_law 651 = .ok (.iadd, 1) := by decide +kernel
theorem dL_law_652 : decode cL_law 652 = .ok (.iaload, 1) := by decide +kernel
theorem dL_law_653 : decode cL_law 653 = .ok (.aload_n 0, 1) := by decide +kernel
theorem dL_law_654 : decode cL_law 654 = .ok (.iload_n 3, 1) := by decide +kernel
theorem dL_law_655 : decode cL_law 655 = .ok (.iconst 2, 1) := by decide +kernel
theorem dL_law_656 : decode cL_law 656 = .ok (.iadd, 1) := by decide +kernel
theorem dL_law_657 : decode cL_law 657 = .ok (.iaload, 1) := by decide +kernel
theorem dL_law_658 : decode cL_law 658 = .ok (.aload_n 0, 1) := by decide +kernel
theorem dL_law_659 : decode cL_law 659 = .ok (.iload_n 3, 1) := by decide +kernel
end
section
theorem dL_law_660 : decode cL_law 660 = .ok (.iconst 3, 1) := by decide +kernel
theorem dL_law_661 : decode cL_law 661 = .ok (.iadd, 1) := by decide +kernel
theorem dL_law_662 : decode cL_law 662 = .ok (.iaload, 1) := by decide +kernel
theorem dL_law_663 : decode cL_law 663 = .ok (.invokevirtual 69, 3) := by decide +kernel
theorem dL_law_666 : decode cL_law 666 = .ok (.if_icmp .eq 545, 3) := by decide +kernel
theorem dL_law_669 : decode cL_law 669 = .ok (.iconst 0, 1) := by decide +kernel
theorem dL_law_670 : decode cL_law 670 = .ok (.ireturn, 1) := by decide +kernel
theorem dL_law_671 : decode cL_law 671 = .ok (.aload_n 1, 1) := by decide +kernel
theorem dL_law_672 : decode cL_law 672 = .ok (.aload_n 0, 1) := by decide +kernel
theorem dL_law_673 : decode cL_law 673 = .ok (.iload_n 3, 1) := by decide +kernel
theorem dL_law_674 : decode cL_law 674 = .ok (.iconst 1, 1) := by decide +kernel
theorem dL_law_675 : decode cL_law 675 = .ok (.iadd, 1) := by decide +kernel
theorem dL_law_676 : decode cL_law 676 = .ok (.iaload, 1) := by decide +kernel
theorem dL_law_677 : decode cL_law 677 = .ok (.aload_n 0, 1) := by decide +kernel
theorem dL_law_678 : decode cL_law 678 = .ok (.iload_n 3, 1) := by decide +kernel
theorem dL_law_679 : decode cL_law 679 = .ok (.iconst 2, 1) := by decide +kernel
theorem dL_law_680 : decode cL_law 680 = .ok (.iadd, 1) := by decide +kernel
theorem dL_law_681 : decode cL_law 681 = .ok (.iaload, 1) := by decide +kernel
theorem dL_law_682 : decode cL_law 682 = .ok (.aload_n 0, 1) := by decide +kernel
theorem dL_law_683 : decode cL_law 683 = .ok (.iload_n 3, 1) := by decide +kernel
theorem dL_law_684 : decode cL_law 684 = .ok (.iconst 3, 1) := by decide +kernel
theorem dL_law_685 : decode cL_law 685 = .ok (.iadd, 1) := by decide +kernel
theorem dL_law_686 : decode cL_law 686 = .ok (.iaload, 1) := by decide +kernel
theorem dL_law_687 : decode cL_law 687 = .ok (.invokevirtual 70, 3) := by decide +kernel
theorem dL_law_690 : decode cL_law 690 = .ok (.aload_n 2, 1) := by decide +kernel
theorem dL_law_691 : decode cL_law 691 = .ok (.aload_n 0, 1) := by decide +kernel
theorem dL_law_692 : decode cL_law 692 = .ok (.iload_n 3, 1) := by decide +kernel
theorem dL_law_693 : decode cL_law 693 = .ok (.iconst 1, 1) := by decide +kernel
theorem dL_law_694 : decode cL_law 694 = .ok (.iadd, 1) := by decide +kernel
theorem dL_law_695 : decode cL_law 695 = .ok (.iaload, 1) := by decide +kernel
theorem dL_law_696 : decode cL_law 696 = .ok (.aload_n 0, 1) := by decide +kernel
theorem dL_law_697 : decode cL_law 697 = .ok (.iload_n 3, 1) := by decide +kernel
theorem dL_law_698 : decode cL_law 698 = .ok (.iconst 2, 1) := by decide +kernel
theorem dL_law_699 : decode cL_law 699 = .ok (.iadd, 1) := by decide +kernel
theorem dL_law_700 : decode cL_law 700 = .ok (.iaload, 1) := by decide +kernel
theorem dL_law_701 : decode cL_law 701 = .ok (.aload_n 0, 1) := by decide +kernel
theorem dL_law_702 : decode cL_law 702 = .ok (.iload_n 3, 1) := by decide +kernel
theorem dL_law_703 : decode cL_law 703 = .ok (.iconst 3, 1) := by decide +kernel
theorem dL_law_704 : decode cL_law 704 = .ok (.iadd, 1) := by decide +kernel
theorem dL_law_705 : decode cL_law 705 = .ok (.iaload, 1) := by decide +kernel
theorem dL_law_706 : decode cL_law 706 = .ok (.invokevirtual 73, 3) := by decide +kernel
theorem dL_law_709 : decode cL_law 709 = .ok (.if_icmp .eq 502, 3) := by decide +kernel
theorem dL_law_712 : decode cL_law 712 = .ok (.iconst 0, 1) := by decide +kernel
theorem dL_law_713 : decode cL_law 713 = .ok (.ireturn, 1) := by decide +kernel
theorem dL_law_714 : decode cL_law 714 = .ok (.aload_n 1, 1) := by decide +kernel
theorem dL_law_715 : decode cL_law 715 = .ok (.aload_n 0, 1) := by decide +kernel
theorem dL_law_716 : decode cL_law 716 = .ok (.iload_n 3, 1) := by decide +kernel
theorem dL_law_717 : decode cL_law 717 = .ok (.iconst 1, 1) := by decide +kernel
theorem dL_law_718 : decode cL_law 718 = .ok (.iadd, 1) := by decide +kernel
theorem dL_law_719 : decode cL_law 719 = .ok (.iaload, 1) := by decide +kernel
theorem dL_law_720 : decode cL_law 720 = .ok (.aload_n 0, 1) := by decide +kernel
theorem dL_law_721 : decode cL_law 721 = .ok (.iload_n 3, 1) := by decide +kernel
theorem dL_law_722 : decode cL_law 722 = .ok (.iconst 2, 1) := by decide +kernel
theorem dL_law_723 : decode cL_law 723 = .ok (.iadd, 1) := by decide +kernel
theorem dL_law_724 : decode cL_law 724 = .ok (.iaload, 1) := by decide +kernel
theorem dL_law_725 : decode cL_law 725 = .ok (.aload_n 0, 1) := by decide +kernel
theorem dL_law_726 : decode cL_law 726 = .ok (.iload_n 3, 1) := by decide +kernel
theorem dL_law_727 : decode cL_law 727 = .ok (.iconst 3, 1) := by decide +kernel
theorem dL_law_728 : decode cL_law 728 = .ok (.iadd, 1) := by decide +kernel
theorem dL_law_729 : decode cL_law 729 = .ok (.iaload, 1) := by decide +kernel
theorem dL_law_730 : decode cL_law 730 = .ok (.invokevirtual 74, 3) := by decide +kernel
theorem dL_law_733 : decode cL_law 733 = .ok (.aload_n 2, 1) := by decide +kernel
theorem dL_law_734 : decode cL_law 734 = .ok (.aload_n 0, 1) := by decide +kernel
theorem dL_law_735 : decode cL_law 735 = .ok (.iload_n 3, 1) := by decide +kernel
theorem dL_law_736 : decode cL_law 736 = .ok (.iconst 1, 1) := by decide +kernel
theorem dL_law_737 : decode cL_law 737 = .ok (.iadd, 1) := by decide +kernel
theorem dL_law_738 : decode cL_law 738 = .ok (.iaload, 1) := by decide +kernel
theorem dL_law_739 : decode cL_law 739 = .ok (.aload_n 0, 1) := by decide +kernel
theorem dL_law_740 : decode cL_law 740 = .ok (.iload_n 3, 1) := by decide +kernel
theorem dL_law_741 : decode cL_law 741 = .ok (.iconst 2, 1) := by decide +kernel
theorem dL_law_742 : decode cL_law 742 = .ok (.iadd, 1) := by decide +kernel
theorem dL_law_743 : decode cL_law 743 = .ok (.iaload, 1) := by decide +kernel
theorem dL_law_744 : decode cL_law 744 = .ok (.aload_n 0, 1) := by decide +kernel
theorem dL_law_745 : decode cL_law 745 = .ok (.iload_n 3, 1) := by decide +kernel
theorem dL_law_746 : decode cL_law 746 = .ok (.iconst 3, 1) := by decide +kernel
theorem dL_law_747 : decode cL_law 747 = .ok (.iadd, 1) := by decide +kernel
theorem dL_law_748 : decode cL_law 748 = .ok (.iaload, 1) := by decide +kernel
theorem dL_law_749 : decode cL_law 749 = .ok (.invokevirtual 77, 3) := by decide +kernel
theorem dL_law_752 : decode cL_law 752 = .ok (.if_icmp .eq 459, 3) := by decide +kernel
theorem dL_law_755 : decode cL_law 755 = .ok (.iconst 0, 1) := by decide +kernel
theorem dL_law_756 : decode cL_law 756 = .ok (.ireturn, 1) := by decide +kernel
theorem dL_law_757 : decode cL_law 757 = .ok (.aload_n 1, 1) := by decide +kernel
theorem dL_law_758 : decode cL_law 758 = .ok (.aload_n 0, 1) := by decide +kernel
theorem dL_law_759 : decode cL_law 759 = .ok (.iload_n 3, 1) := by decide +kernel
theorem dL_law_760 : decode cL_law 760 = .ok (.iconst 1, 1) := by decide +kernel
theorem dL_law_761 : decode cL_law 761 = .ok (.iadd, 1) := by decide +kernel
theorem dL_law_762 : decode cL_law 762 = .ok (.iaload, 1) := by decide +kernel
theorem dL_law_763 : decode cL_law 763 = .ok (.invokevirtual 78, 3) := by decide +kernel
theorem dL_law_766 : decode cL_law 766 = .ok (.aload_n 2, 1) := by decide +kernel
theorem dL_law_767 : decode cL_law 767 = .ok (.aload_n 0, 1) := by decide +kernel
theorem dL_law_768 : decode cL_law 768 = .ok (.iload_n 3, 1) := by decide +kernel
theorem dL_law_769 : decode cL_law 769 = .ok (.iconst 1, 1) := by decide +kernel
theorem dL_law_770 : decode cL_law 770 = .ok (.iadd, 1) := by decide +kernel
theorem dL_law_771 : decode cL_law 771 = .ok (.iaload, 1) := by decide +kernel
theorem dL_law_772 : decode cL_law 772 = .ok (.invokevirtual 81, 3) := by decide +kernel
theorem dL_law_775 : decode cL_law 775 = .ok (.if_icmp .eq 436, 3) := by decide +kernel
theorem dL_law_778 : decode cL_law 778 = .ok (.iconst 0, 1) := by decide +kernel
theorem dL_law_779 : decode cL_law 779 = .ok (.ireturn, 1) := by decide +kernel
theorem dL_law_780 : decode cL_law 780 = .ok (.aload_n 1, 1) := by decide +kernel
theorem dL_law_781 : decode cL_law 781 = .ok (.aload_n 0, 1) := by decide +kernel
theorem dL_law_782 : decode cL_law 782 = .ok (.iload_n 3, 1) := by decide +kernel
theorem dL_law_783 : decode cL_law 783 = .ok (.iconst 1, 1) := by decide +kernel
theorem dL_law_784 : decode cL_law 784 = .ok (.iadd, 1) := by decide +kernel
theorem dL_law_785 : decode cL_law 785 = .ok (.iaload, 1) := by decide +kernel
theorem dL_law_786 : decode cL_law 786 = .ok (.aload_n 0, 1) := by decide +kernel
theorem dL_law_787 : decode cL_law 787 = .ok (.iload_n 3, 1) := by decide +kernel
theorem dL_law_788 : decode cL_law 788 = .ok (.iconst 2, 1) := by decide +kernel
theorem dL_law_789 : decode cL_law 789 = .ok (.iadd, 1) := by decide +kernel
theorem dL_law_790 : decode cL_law 790 = .ok (.iaload, 1) := by decide +kernel
theorem dL_law_791 : decode cL_law 791 = .ok (.aload_n 0, 1) := by decide +kernel
theorem dL_law_792 : decode cL_law 792 = .ok (.iload_n 3, 1) := by decide +kernel
theorem dL_law_793 : decode cL_law 793 = .ok (.iconst 3, 1) := by decide +kernel
theorem dL_law_794 : decode cL_law 794 = .ok (.iadd, 1) := by decide +kernel
theorem dL_law_795 : decode cL_law 795 = .ok (.iaload, 1) := by decide +kernel
theorem dL_law_796 : decode cL_law 796 = .ok (.invokevirtual 82, 3) := by decide +kernel
theorem dL_law_799 : decode cL_law 799 = .ok (.aload_n 2, 1) := by decide +kernel
theorem dL_law_800 : decode cL_law 800 = .ok (.aload_n 0, 1) := by decide +kernel
theorem dL_law_801 : decode cL_law 801 = .ok (.iload_n 3, 1) := by decide +kernel
theorem dL_law_802 : decode cL_law 802 = .ok (.iconst 1, 1) := by decide +kernel
theorem dL_law_803 : decode cL_law 803 = .ok (.iadd, 1) := by decide +kernel
theorem dL_law_804 : decode cL_law 804 = .ok (.iaload, 1) := by decide +kernel
theorem dL_law_805 : decode cL_law 805 = .ok (.aload_n 0, 1) := by decide +kernel
theorem dL_law_806 : decode cL_law 806 = .ok (.iload_n 3, 1) := by decide +kernel
theorem dL_law_807 : decode cL_law 807 = .ok (.iconst 2, 1) := by decide +kernel
theorem dL_law_808 : decode cL_law 808 = .ok (.iadd, 1) := by decide +kernel
theorem dL_law_809 : decode cL_law 809 = .ok (.iaload, 1) := by decide +kernel
theorem dL_law_810 : decode cL_law 810 = .ok (.aload_n 0, 1) := by decide +kernel
theorem dL_law_811 : decode cL_law 811 = .ok (.iload_n 3, 1) := by decide +kernel
theorem dL_law_812 : decode cL_law 812 = .ok (.iconst 3, 1) := by decide +kernel
theorem dL_law_813 : decode cL_law 813 = .ok (.iadd, 1) := by decide +kernel
theorem dL_law_814 : decode cL_law 814 = .ok (.iaload, 1) := by decide +kernel
theorem dL_law_815 : decode cL_law 815 = .ok (.invokevirtual 85, 3) := by decide +kernel
theorem dL_law_818 : decode cL_law 818 = .ok (.if_icmp .eq 393, 3) := by decide +kernel
theorem dL_law_821 : decode cL_law 821 = .ok (.iconst 0, 1) := by decide +kernel
theorem dL_law_822 : decode cL_law 822 = .ok (.ireturn, 1) := by decide +kernel
theorem dL_law_823 : decode cL_law 823 = .ok (.aload_n 1, 1) := by decide +kernel
theorem dL_law_824 : decode cL_law 824 = .ok (.aload_n 0, 1) := by decide +kernel
theorem dL_law_825 : decode cL_law 825 = .ok (.iload_n 3, 1) := by decide +kernel
theorem dL_law_826 : decode cL_law 826 = .ok (.iconst 1, 1) := by decide +kernel
theorem dL_law_827 : decode cL_law 827 = .ok (.iadd, 1) := by decide +kernel
theorem dL_law_828 : decode cL_law 828 = .ok (.iaload, 1) := by decide +kernel
theorem dL_law_829 : decode cL_law 829 = .ok (.aload_n 0, 1) := by decide +kernel
end
section
theorem dL_law_830 : decode cL_law 830 = .ok (.iload_n 3, 1) := by decide +kernel
theorem dL_law_831 : decode cL_law 831 = .ok (.iconst 2, 1) := by decide +kernel
theorem dL_law_832 : decode cL_law 832 = .ok (.iadd, 1) := by decide +kernel
theorem dL_law_833 : decode cL_law 833 = .ok (.iaload, 1) := by decide +kernel
theorem dL_law_834 : decode cL_law 834 = .ok (.aload_n 0, 1) := by decide +kernel
theorem dL_law_835 : decode cL_law 835 = .ok (.iload_n 3, 1) := by decide +kernel
theorem dL_law_836 : decode cL_law 836 = .ok (.iconst 3, 1) := by decide +kernel
theorem dL_law_837 : decode cL_law 837 = .ok (.iadd, 1) := by decide +kernel
theorem dL_law_838 : decode cL_law 838 = .ok (.iaload, 1) := by decide +kernel
theorem dL_law_839 : decode cL_law 839 = .ok (.invokevirtual 86, 3) := by decide +kernel
theorem dL_law_842 : decode cL_law 842 = .ok (.aload_n 2, 1) := by decide +kernel
theorem dL_law_843 : decode cL_law 843 = .ok (.aload_n 0, 1) := by decide +kernel
theorem dL_law_844 : decode cL_law 844 = .ok (.iload_n 3, 1) := by decide +kernel
theorem dL_law_845 : decode cL_law 845 = .ok (.iconst 1, 1) := by decide +kernel
theorem dL_law_846 : decode cL_law 846 = .ok (.iadd, 1) := by decide +kernel
theorem dL_law_847 : decode cL_law 847 = .ok (.iaload, 1) := by decide +kernel
theorem dL_law_848 : decode cL_law 848 = .ok (.aload_n 0, 1) := by decide +kernel
theorem dL_law_849 : decode cL_law 849 = .ok (.iload_n 3, 1) := by decide +kernel
theorem dL_law_850 : decode cL_law 850 = .ok (.iconst 2, 1) := by decide +kernel
theorem dL_law_851 : decode cL_law 851 = .ok (.iadd, 1) := by decide +kernel
theorem dL_law_852 : decode cL_law 852 = .ok (.iaload, 1) := by decide +kernel
theorem dL_law_853 : decode cL_law 853 = .ok (.aload_n 0, 1) := by decide +kernel
theorem dL_law_854 : decode cL_law 854 = .ok (.iload_n 3, 1) := by decide +kernel
theorem dL_law_855 : decode cL_law 855 = .ok (.iconst 3, 1) := by decide +kernel
theorem dL_law_856 : decode cL_law 856 = .ok (.iadd, 1) := by decide +kernel
theorem dL_law_857 : decode cL_law 857 = .ok (.iaload, 1) := by decide +kernel
theorem dL_law_858 : decode cL_law 858 = .ok (.invokevirtual 89, 3) := by decide +kernel
theorem dL_law_861 : decode cL_law 861 = .ok (.if_icmp .eq 350, 3) := by decide +kernel
theorem dL_law_864 : decode cL_law 864 = .ok (.iconst 0, 1) := by decide +kernel
theorem dL_law_865 : decode cL_law 865 = .ok (.ireturn, 1) := by decide +kernel
theorem dL_law_866 : decode cL_law 866 = .ok (.aload_n 1, 1) := by decide +kernel
theorem dL_law_867 : decode cL_law 867 = .ok (.aload_n 0, 1) := by decide +kernel
theorem dL_law_868 : decode cL_law 868 = .ok (.iload_n 3, 1) := by decide +kernel
theorem dL_law_869 : decode cL_law 869 = .ok (.iconst 1, 1) := by decide +kernel
theorem dL_law_870 : decode cL_law 870 = .ok (.iadd, 1) := by decide +kernel
theorem dL_law_871 : decode cL_law 871 = .ok (.iaload, 1) := by decide +kernel
theorem dL_law_872 : decode cL_law 872 = .ok (.aload_n 0, 1) := by decide +kernel
theorem dL_law_873 : decode cL_law 873 = .ok (.iload_n 3, 1) := by decide +kernel
theorem dL_law_874 : decode cL_law 874 = .ok (.iconst 2, 1) := by decide +kernel
theorem dL_law_875 : decode cL_law 875 = .ok (.iadd, 1) := by decide +kernel
theorem dL_law_876 : decode cL_law 876 = .ok (.iaload, 1) := by decide +kernel
theorem dL_law_877 : decode cL_law 877 = .ok (.aload_n 0, 1) := by decide +kernel
theorem dL_law_878 : decode cL_law 878 = .ok (.iload_n 3, 1) := by decide +kernel
theorem dL_law_879 : decode cL_law 879 = .ok (.iconst 3, 1) := by decide +kernel
theorem dL_law_880 : decode cL_law 880 = .ok (.iadd, 1) := by decide +kernel
theorem dL_law_881 : decode cL_law 881 = .ok (.iaload, 1) := by decide +kernel
theorem dL_law_882 : decode cL_law 882 = .ok (.invokevirtual 90, 3) := by decide +kernel
theorem dL_law_885 : decode cL_law 885 = .ok (.aload_n 2, 1) := by decide +kernel
theorem dL_law_886 : decode cL_law 886 = .ok (.aload_n 0, 1) := by decide +kernel
theorem dL_law_887 : decode cL_law 887 = .ok (.iload_n 3, 1) := by decide +kernel
theorem dL_law_888 : decode cL_law 888 = .ok (.iconst 1, 1) := by decide +kernel
theorem dL_law_889 : decode cL_law 889 = .ok (.iadd, 1) := by decide +kernel
theorem dL_law_890 : decode cL_law 890 = .ok (.iaload, 1) := by decide +kernel
theorem dL_law_891 : decode cL_law 891 = .ok (.aload_n 0, 1) := by decide +kernel
theorem dL_law_892 : decode cL_law 892 = .ok (.iload_n 3, 1) := by decide +kernel
theorem dL_law_893 : decode cL_law 893 = .ok (.iconst 2, 1) := by decide +kernel
theorem dL_law_894 : decode cL_law 894 = .ok (.iadd, 1) := by decide +kernel
theorem dL_law_895 : decode cL_law 895 = .ok (.iaload, 1) := by decide +kernel
theorem dL_law_896 : decode cL_law 896 = .ok (.aload_n 0, 1) := by decide +kernel
theorem dL_law_897 : decode cL_law 897 = .ok (.iload_n 3, 1) := by decide +kernel
theorem dL_law_898 : decode cL_law 898 = .ok (.iconst 3, 1) := by decide +kernel
theorem dL_law_899 : decode cL_law 899 = .ok (.iadd, 1) := by decide +kernel
theorem dL_law_900 : decode cL_law 900 = .ok (.iaload, 1) := by decide +kernel
theorem dL_law_901 : decode cL_law 901 = .ok (.invokevirtual 93, 3) := by decide +kernel
theorem dL_law_904 : decode cL_law 904 = .ok (.if_icmp .eq 307, 3) := by decide +kernel
theorem dL_law_907 : decode cL_law 907 = .ok (.iconst 0, 1) := by decide +kernel
theorem dL_law_908 : decode cL_law 908 = .ok (.ireturn, 1) := by decide +kernel
theorem dL_law_909 : decode cL_law 909 = .ok (.aload_n 1, 1) := by decide +kernel
theorem dL_law_910 : decode cL_law 910 = .ok (.aload_n 0, 1) := by decide +kernel
theorem dL_law_911 : decode cL_law 911 = .ok (.iload_n 3, 1) := by decide +kernel
theorem dL_law_912 : decode cL_law 912 = .ok (.iconst 1, 1) := by decide +kernel
theorem dL_law_913 : decode cL_law 913 = .ok (.iadd, 1) := by decide +kernel
theorem dL_law_914 : decode cL_law 914 = .ok (.iaload, 1) := by decide +kernel
theorem dL_law_915 : decode cL_law 915 = .ok (.aload_n 0, 1) := by decide +kernel
theorem dL_law_916 : decode cL_law 916 = .ok (.iload_n 3, 1) := by decide +kernel
theorem dL_law_917 : decode cL_law 917 = .ok (.iconst 2, 1) := by decide +kernel
theorem dL_law_918 : decode cL_law 918 = .ok (.iadd, 1) := by decide +kernel
theorem dL_law_919 : decode cL_law 919 = .ok (.iaload, 1) := by decide +kernel
theorem dL_law_920 : decode cL_law 920 = .ok (.aload_n 0, 1) := by decide +kernel
theorem dL_law_921 : decode cL_law 921 = .ok (.iload_n 3, 1) := by decide +kernel
theorem dL_law_922 : decode cL_law 922 = .ok (.iconst 3, 1) := by decide +kernel
theorem dL_law_923 : decode cL_law 923 = .ok (.iadd, 1) := by decide +kernel
theorem dL_law_924 : decode cL_law 924 = .ok (.iaload, 1) := by decide +kernel
theorem dL_law_925 : decode cL_law 925 = .ok (.invokevirtual 94, 3) := by decide +kernel
theorem dL_law_928 : decode cL_law 928 = .ok (.aload_n 2, 1) := by decide +kernel
theorem dL_law_929 : decode cL_law 929 = .ok (.aload_n 0, 1) := by decide +kernel
theorem dL_law_930 : decode cL_law 930 = .ok (.iload_n 3, 1) := by decide +kernel
theorem dL_law_931 : decode cL_law 931 = .ok (.iconst 1, 1) := by decide +kernel
theorem dL_law_932 : decode cL_law 932 = .ok (.iadd, 1) := by decide +kernel
theorem dL_law_933 : decode cL_law 933 = .ok (.iaload, 1) := by decide +kernel
theorem dL_law_934 : decode cL_law 934 = .ok (.aload_n 0, 1) := by decide +kernel
theorem dL_law_935 : decode cL_law 935 = .ok (.iload_n 3, 1) := by decide +kernel
theorem dL_law_936 : decode cL_law 936 = .ok (.iconst 2, 1) := by decide +kernel
theorem dL_law_937 : decode cL_law 937 = .ok (.iadd, 1) := by decide +kernel
theorem dL_law_938 : decode cL_law 938 = .ok (.iaload, 1) := by decide +kernel
theorem dL_law_939 : decode cL_law 939 = .ok (.aload_n 0, 1) := by decide +kernel
theorem dL_law_940 : decode cL_law 940 = .ok (.iload_n 3, 1) := by decide +kernel
theorem dL_law_941 : decode cL_law 941 = .ok (.iconst 3, 1) := by decide +kernel
theorem dL_law_942 : decode cL_law 942 = .ok (.iadd, 1) := by decide +kernel
theorem dL_law_943 : decode cL_law 943 = .ok (.iaload, 1) := by decide +kernel
theorem dL_law_944 : decode cL_law 944 = .ok (.invokevirtual 97, 3) := by decide +kernel
theorem dL_law_947 : decode cL_law 947 = .ok (.if_icmp .eq 264, 3) := by decide +kernel
theorem dL_law_950 : decode cL_law 950 = .ok (.iconst 0, 1) := by decide +kernel
theorem dL_law_951 : decode cL_law 951 = .ok (.ireturn, 1) := by decide +kernel
theorem dL_law_952 : decode cL_law 952 = .ok (.aload_n 1, 1) := by decide +kernel
theorem dL_law_953 : decode cL_law 953 = .ok (.aload_n 0, 1) := by decide +kernel
theorem dL_law_954 : decode cL_law 954 = .ok (.iload_n 3, 1) := by decide +kernel
theorem dL_law_955 : decode cL_law 955 = .ok (.iconst 1, 1) := by decide +kernel
theorem dL_law_956 : decode cL_law 956 = .ok (.iadd, 1) := by decide +kernel
theorem dL_law_957 : decode cL_law 957 = .ok (.iaload, 1) := by decide +kernel
theorem dL_law_958 : decode cL_law 958 = .ok (.invokevirtual 98, 3) := by decide +kernel
theorem dL_law_961 : decode cL_law 961 = .ok (.aload_n 2, 1) := by decide +kernel
theorem dL_law_962 : decode cL_law 962 = .ok (.aload_n 0, 1) := by decide +kernel
theorem dL_law_963 : decode cL_law 963 = .ok (.iload_n 3, 1) := by decide +kernel
theorem dL_law_964 : decode cL_law 964 = .ok (.iconst 1, 1) := by decide +kernel
theorem dL_law_965 : decode cL_law 965 = .ok (.iadd, 1) := by decide +kernel
theorem dL_law_966 : decode cL_law 966 = .ok (.iaload, 1) := by decide +kernel
theorem dL_law_967 : decode cL_law 967 = .ok (.invokevirtual 101, 3) := by decide +kernel
theorem dL_law_970 : decode cL_law 970 = .ok (.if_icmp .eq 241, 3) := by decide +kernel
theorem dL_law_973 : decode cL_law 973 = .ok (.iconst 0, 1) := by decide +kernel
theorem dL_law_974 : decode cL_law 974 = .ok (.ireturn, 1) := by decide +kernel
theorem dL_law_975 : decode cL_law 975 = .ok (.aload_n 1, 1) := by decide +kernel
theorem dL_law_976 : decode cL_law 976 = .ok (.aload_n 0, 1) := by decide +kernel
theorem dL_law_977 : decode cL_law 977 = .ok (.iload_n 3, 1) := by decide +kernel
theorem dL_law_978 : decode cL_law 978 = .ok (.iconst 1, 1) := by decide +kernel
theorem dL_law_979 : decode cL_law 979 = .ok (.iadd, 1) := by decide +kernel
theorem dL_law_980 : decode cL_law 980 = .ok (.iaload, 1) := by decide +kernel
theorem dL_law_981 : decode cL_law 981 = .ok (.aload_n 0, 1) := by decide +kernel
theorem dL_law_982 : decode cL_law 982 = .ok (.iload_n 3, 1) := by decide +kernel
theorem dL_law_983 : decode cL_law 983 = .ok (.iconst 2, 1) := by decide +kernel
theorem dL_law_984 : decode cL_law 984 = .ok (.iadd, 1) := by decide +kernel
theorem dL_law_985 : decode cL_law 985 = .ok (.iaload, 1) := by decide +kernel
theorem dL_law_986 : decode cL_law 986 = .ok (.aload_n 0, 1) := by decide +kernel
theorem dL_law_987 : decode cL_law 987 = .ok (.iload_n 3, 1) := by decide +kernel
theorem dL_law_988 : decode cL_law 988 = .ok (.iconst 3, 1) := by decide +kernel
theorem dL_law_989 : decode cL_law 989 = .ok (.iadd, 1) := by decide +kernel
theorem dL_law_990 : decode cL_law 990 = .ok (.iaload, 1) := by decide +kernel
theorem dL_law_991 : decode cL_law 991 = .ok (.invokevirtual 102, 3) := by decide +kernel
theorem dL_law_994 : decode cL_law 994 = .ok (.aload_n 2, 1) := by decide +kernel
theorem dL_law_995 : decode cL_law 995 = .ok (.aload_n 0, 1) := by decide +kernel
theorem dL_law_996 : decode cL_law 996 = .ok (.iload_n 3, 1) := by decide +kernel
theorem dL_law_997 : decode cL_law 997 = .ok (.iconst 1, 1) := by decide +kernel
end
section
theorem dL_law_998 : decode cL_law 998 = .ok (.iadd, 1) := by decide +kernel
theorem dL_law_999 : decode cL_law 999 = .ok (.iaload, 1) := by decide +kernel
theorem dL_law_1000 : decode cL_law 1000 = .ok (.aload_n 0, 1) := by decide +kernel
theorem dL_law_1001 : decode cL_law 1001 = .ok (.iload_n 3, 1) := by decide +kernel
theorem dL_law_1002 : decode cL_law 1002 = .ok (.iconst 2, 1) := by decide +kernel
theorem dL_law_1003 : decode cL_law 1003 = .ok (.iadd, 1) := by decide +kernel
theorem dL_law_1004 : decode cL_law 1004 = .ok (.iaload, 1) := by decide +kernel
theorem dL_law_1005 : decode cL_law 1005 = .ok (.aload_n 0, 1) := by decide +kernel
theorem dL_law_1006 : decode cL_law 1006 = .ok (.iload_n 3, 1) := by decide +kernel
theorem dL_law_1007 : decode cL_law 1007 = .ok (.iconst 3, 1) := by decide +kernel
theorem dL_law_1008 : decode cL_law 1008 = .ok (.iadd, 1) := by decide +kernel
theorem dL_law_1009 : decode cL_law 1009 = .ok (.iaload, 1) := by decide +kernel
theorem dL_law_1010 : decode cL_law 1010 = .ok (.invokevirtual 105, 3) := by decide +kernel
theorem dL_law_1013 : decode cL_law 1013 = .ok (.if_icmp .eq 198, 3) := by decide +kernel
theorem dL_law_1016 : decode cL_law 1016 = .ok (.iconst 0, 1) := by decide +kernel
theorem dL_law_1017 : decode cL_law 1017 = .ok (.ireturn, 1) := by decide +kernel
theorem dL_law_1018 : decode cL_law 1018 = .ok (.aload_n 1, 1) := by decide +kernel
theorem dL_law_1019 : decode cL_law 1019 = .ok (.invokevirtual 106, 3) := by decide +kernel
theorem dL_law_1022 : decode cL_law 1022 = .ok (.aload_n 2, 1) := by decide +kernel
theorem dL_law_1023 : decode cL_law 1023 = .ok (.invokevirtual 110, 3) := by decide +kernel
theorem dL_law_1026 : decode cL_law 1026 = .ok (.if_icmp .eq 185, 3) := by decide +kernel
theorem dL_law_1029 : decode cL_law 1029 = .ok (.iconst 0, 1) := by decide +kernel
theorem dL_law_1030 : decode cL_law 1030 = .ok (.ireturn, 1) := by decide +kernel
theorem dL_law_1031 : decode cL_law 1031 = .ok (.aload_n 1, 1) := by decide +kernel
theorem dL_law_1032 : decode cL_law 1032 = .ok (.aload_n 0, 1) := by decide +kernel
theorem dL_law_1033 : decode cL_law 1033 = .ok (.iload_n 3, 1) := by decide +kernel
theorem dL_law_1034 : decode cL_law 1034 = .ok (.iconst 1, 1) := by decide +kernel
theorem dL_law_1035 : decode cL_law 1035 = .ok (.iadd, 1) := by decide +kernel
theorem dL_law_1036 : decode cL_law 1036 = .ok (.iaload, 1) := by decide +kernel
theorem dL_law_1037 : decode cL_law 1037 = .ok (.ifCond .eq 7, 3) := by decide +kernel
theorem dL_law_1040 : decode cL_law 1040 = .ok (.iconst 1, 1) := by decide +kernel
theorem dL_law_1041 : decode cL_law 1041 = .ok (.goto 4, 3) := by decide +kernel
theorem dL_law_1044 : decode cL_law 1044 = .ok (.iconst 0, 1) := by decide +kernel
theorem dL_law_1045 : decode cL_law 1045 = .ok (.invokevirtual 111, 3) := by decide +kernel
theorem dL_law_1048 : decode cL_law 1048 = .ok (.aload_n 2, 1) := by decide +kernel
theorem dL_law_1049 : decode cL_law 1049 = .ok (.aload_n 0, 1) := by decide +kernel
theorem dL_law_1050 : decode cL_law 1050 = .ok (.iload_n 3, 1) := by decide +kernel
theorem dL_law_1051 : decode cL_law 1051 = .ok (.iconst 1, 1) := by decide +kernel
theorem dL_law_1052 : decode cL_law 1052 = .ok (.iadd, 1) := by decide +kernel
theorem dL_law_1053 : decode cL_law 1053 = .ok (.iaload, 1) := by decide +kernel
theorem dL_law_1054 : decode cL_law 1054 = .ok (.ifCond .eq 7, 3) := by decide +kernel
theorem dL_law_1057 : decode cL_law 1057 = .ok (.iconst 1, 1) := by decide +kernel
theorem dL_law_1058 : decode cL_law 1058 = .ok (.goto 4, 3) := by decide +kernel
theorem dL_law_1061 : decode cL_law 1061 = .ok (.iconst 0, 1) := by decide +kernel
theorem dL_law_1062 : decode cL_law 1062 = .ok (.invokevirtual 115, 3) := by decide +kernel
theorem dL_law_1065 : decode cL_law 1065 = .ok (.if_icmp .eq 146, 3) := by decide +kernel
theorem dL_law_1068 : decode cL_law 1068 = .ok (.iconst 0, 1) := by decide +kernel
theorem dL_law_1069 : decode cL_law 1069 = .ok (.ireturn, 1) := by decide +kernel
theorem dL_law_1070 : decode cL_law 1070 = .ok (.aload_n 1, 1) := by decide +kernel
theorem dL_law_1071 : decode cL_law 1071 = .ok (.invokevirtual 116, 3) := by decide +kernel
theorem dL_law_1074 : decode cL_law 1074 = .ok (.aload_n 2, 1) := by decide +kernel
theorem dL_law_1075 : decode cL_law 1075 = .ok (.invokevirtual 119, 3) := by decide +kernel
theorem dL_law_1078 : decode cL_law 1078 = .ok (.if_icmp .eq 133, 3) := by decide +kernel
theorem dL_law_1081 : decode cL_law 1081 = .ok (.iconst 0, 1) := by decide +kernel
theorem dL_law_1082 : decode cL_law 1082 = .ok (.ireturn, 1) := by decide +kernel
theorem dL_law_1083 : decode cL_law 1083 = .ok (.aload_n 1, 1) := by decide +kernel
theorem dL_law_1084 : decode cL_law 1084 = .ok (.invokevirtual 120, 3) := by decide +kernel
theorem dL_law_1087 : decode cL_law 1087 = .ok (.aload_n 2, 1) := by decide +kernel
theorem dL_law_1088 : decode cL_law 1088 = .ok (.invokevirtual 123, 3) := by decide +kernel
theorem dL_law_1091 : decode cL_law 1091 = .ok (.if_icmp .eq 120, 3) := by decide +kernel
theorem dL_law_1094 : decode cL_law 1094 = .ok (.iconst 0, 1) := by decide +kernel
theorem dL_law_1095 : decode cL_law 1095 = .ok (.ireturn, 1) := by decide +kernel
theorem dL_law_1096 : decode cL_law 1096 = .ok (.aload_n 1, 1) := by decide +kernel
theorem dL_law_1097 : decode cL_law 1097 = .ok (.invokevirtual 124, 3) := by decide +kernel
theorem dL_law_1100 : decode cL_law 1100 = .ok (.aload_n 2, 1) := by decide +kernel
theorem dL_law_1101 : decode cL_law 1101 = .ok (.invokevirtual 128, 3) := by decide +kernel
theorem dL_law_1104 : decode cL_law 1104 = .ok (.lcmp, 1) := by decide +kernel
theorem dL_law_1105 : decode cL_law 1105 = .ok (.ifCond .eq 106, 3) := by decide +kernel
theorem dL_law_1108 : decode cL_law 1108 = .ok (.iconst 0, 1) := by decide +kernel
theorem dL_law_1109 : decode cL_law 1109 = .ok (.ireturn, 1) := by decide +kernel
theorem dL_law_1110 : decode cL_law 1110 = .ok (.aload_n 1, 1) := by decide +kernel
theorem dL_law_1111 : decode cL_law 1111 = .ok (.invokevirtual 129, 3) := by decide +kernel
theorem dL_law_1114 : decode cL_law 1114 = .ok (.aload_n 2, 1) := by decide +kernel
theorem dL_law_1115 : decode cL_law 1115 = .ok (.invokevirtual 132, 3) := by decide +kernel
theorem dL_law_1118 : decode cL_law 1118 = .ok (.lcmp, 1) := by decide +kernel
theorem dL_law_1119 : decode cL_law 1119 = .ok (.ifCond .eq 92, 3) := by decide +kernel
theorem dL_law_1122 : decode cL_law 1122 = .ok (.iconst 0, 1) := by decide +kernel
theorem dL_law_1123 : decode cL_law 1123 = .ok (.ireturn, 1) := by decide +kernel
theorem dL_law_1124 : decode cL_law 1124 = .ok (.aload_n 1, 1) := by decide +kernel
theorem dL_law_1125 : decode cL_law 1125 = .ok (.invokevirtual 133, 3) := by decide +kernel
theorem dL_law_1128 : decode cL_law 1128 = .ok (.aload_n 2, 1) := by decide +kernel
theorem dL_law_1129 : decode cL_law 1129 = .ok (.invokevirtual 136, 3) := by decide +kernel
theorem dL_law_1132 : decode cL_law 1132 = .ok (.lcmp, 1) := by decide +kernel
theorem dL_law_1133 : decode cL_law 1133 = .ok (.ifCond .eq 78, 3) := by decide +kernel
theorem dL_law_1136 : decode cL_law 1136 = .ok (.iconst 0, 1) := by decide +kernel
theorem dL_law_1137 : decode cL_law 1137 = .ok (.ireturn, 1) := by decide +kernel
theorem dL_law_1138 : decode cL_law 1138 = .ok (.aload_n 1, 1) := by decide +kernel
theorem dL_law_1139 : decode cL_law 1139 = .ok (.aload_n 0, 1) := by decide +kernel
theorem dL_law_1140 : decode cL_law 1140 = .ok (.iload_n 3, 1) := by decide +kernel
theorem dL_law_1141 : decode cL_law 1141 = .ok (.iconst 1, 1) := by decide +kernel
theorem dL_law_1142 : decode cL_law 1142 = .ok (.iadd, 1) := by decide +kernel
theorem dL_law_1143 : decode cL_law 1143 = .ok (.iaload, 1) := by decide +kernel
theorem dL_law_1144 : decode cL_law 1144 = .ok (.invokevirtual 137, 3) := by decide +kernel
theorem dL_law_1147 : decode cL_law 1147 = .ok (.aload_n 2, 1) := by decide +kernel
theorem dL_law_1148 : decode cL_law 1148 = .ok (.aload_n 0, 1) := by decide +kernel
theorem dL_law_1149 : decode cL_law 1149 = .ok (.iload_n 3, 1) := by decide +kernel
theorem dL_law_1150 : decode cL_law 1150 = .ok (.iconst 1, 1) := by decide +kernel
theorem dL_law_1151 : decode cL_law 1151 = .ok (.iadd, 1) := by decide +kernel
theorem dL_law_1152 : decode cL_law 1152 = .ok (.iaload, 1) := by decide +kernel
theorem dL_law_1153 : decode cL_law 1153 = .ok (.invokevirtual 140, 3) := by decide +kernel
theorem dL_law_1156 : decode cL_law 1156 = .ok (.if_icmp .eq 55, 3) := by decide +kernel
theorem dL_law_1159 : decode cL_law 1159 = .ok (.iconst 0, 1) := by decide +kernel
theorem dL_law_1160 : decode cL_law 1160 = .ok (.ireturn, 1) := by decide +kernel
theorem dL_law_1161 : decode cL_law 1161 = .ok (.aload_n 1, 1) := by decide +kernel
theorem dL_law_1162 : decode cL_law 1162 = .ok (.invokevirtual 141, 3) := by decide +kernel
theorem dL_law_1165 : decode cL_law 1165 = .ok (.aload_n 2, 1) := by decide +kernel
theorem dL_law_1166 : decode cL_law 1166 = .ok (.invokevirtual 144, 3) := by decide +kernel
theorem dL_law_1169 : decode cL_law 1169 = .ok (.if_icmp .eq 42, 3) := by decide +kernel
theorem dL_law_1172 : decode cL_law 1172 = .ok (.iconst 0, 1) := by decide +kernel
theorem dL_law_1173 : decode cL_law 1173 = .ok (.ireturn, 1) := by decide +kernel
theorem dL_law_1174 : decode cL_law 1174 = .ok (.aload_n 1, 1) := by decide +kernel
theorem dL_law_1175 : decode cL_law 1175 = .ok (.aload_n 0, 1) := by decide +kernel
theorem dL_law_1176 : decode cL_law 1176 = .ok (.iload_n 3, 1) := by decide +kernel
theorem dL_law_1177 : decode cL_law 1177 = .ok (.iconst 1, 1) := by decide +kernel
theorem dL_law_1178 : decode cL_law 1178 = .ok (.iadd, 1) := by decide +kernel
theorem dL_law_1179 : decode cL_law 1179 = .ok (.iaload, 1) := by decide +kernel
theorem dL_law_1180 : decode cL_law 1180 = .ok (.invokevirtual 145, 3) := by decide +kernel
theorem dL_law_1183 : decode cL_law 1183 = .ok (.aload_n 2, 1) := by decide +kernel
theorem dL_law_1184 : decode cL_law 1184 = .ok (.aload_n 0, 1) := by decide +kernel
theorem dL_law_1185 : decode cL_law 1185 = .ok (.iload_n 3, 1) := by decide +kernel
theorem dL_law_1186 : decode cL_law 1186 = .ok (.iconst 1, 1) := by decide +kernel
theorem dL_law_1187 : decode cL_law 1187 = .ok (.iadd, 1) := by decide +kernel
theorem dL_law_1188 : decode cL_law 1188 = .ok (.iaload, 1) := by decide +kernel
theorem dL_law_1189 : decode cL_law 1189 = .ok (.invokevirtual 148, 3) := by decide +kernel
theorem dL_law_1192 : decode cL_law 1192 = .ok (.if_icmp .eq 19, 3) := by decide +kernel
theorem dL_law_1195 : decode cL_law 1195 = .ok (.iconst 0, 1) := by decide +kernel
theorem dL_law_1196 : decode cL_law 1196 = .ok (.ireturn, 1) := by decide +kernel
theorem dL_law_1197 : decode cL_law 1197 = .ok (.aload_n 1, 1) := by decide +kernel
theorem dL_law_1198 : decode cL_law 1198 = .ok (.invokevirtual 149, 3) := by decide +kernel
theorem dL_law_1201 : decode cL_law 1201 = .ok (.aload_n 2, 1) := by decide +kernel
theorem dL_law_1202 : decode cL_law 1202 = .ok (.invokevirtual 152, 3) := by decide +kernel
theorem dL_law_1205 : decode cL_law 1205 = .ok (.lcmp, 1) := by decide +kernel
theorem dL_law_1206 : decode cL_law 1206 = .ok (.ifCond .eq 5, 3) := by decide +kernel
theorem dL_law_1209 : decode cL_law 1209 = .ok (.iconst 0, 1) := by decide +kernel
theorem dL_law_1210 : decode cL_law 1210 = .ok (.ireturn, 1) := by decide +kernel
theorem dL_law_1211 : decode cL_law 1211 = .ok (.iinc 3 7, 3) := by decide +kernel
theorem dL_law_1214 : decode cL_law 1214 = .ok (.goto (-1196), 3) := by decide +kernel
theorem dL_law_1217 : decode cL_law 1217 = .ok (.iconst 1, 1) := by decide +kernel
theorem dL_law_1218 : decode cL_law 1218 = .ok (.ireturn, 1) := by decide +kernel
end
section
/-! THE WORLD: one memory, by address and slot. gI: ints and booleans, gJ: longs, gR: references, gK: the kind of a cell (0 .. 6: an object of that class of vwCl; 7 int[], 8 long[], 9 boolean[], 10 Row[], 11 Test[]), gN: a row's length, gL: the cells -/
abbrev Mm : Type := (Nat → Nat → Int32) × (Nat → Nat → Int64) × (Nat → Nat → Option Nat) × (Nat → Nat) × (Nat → Nat) × List Nat
def gI (M : Mm) : Nat → Nat → Int32 := M.1
def gJ (M : Mm) : Nat → Nat → Int64 := M.2.1
def gR (M : Mm) : Nat → Nat → Option Nat := M.2.2.1
def gK (M : Mm) : Nat → Nat := M.2.2.2.1
def gN (M : Mm) : Nat → Nat := M.2.2.2.2.1
def gL (M : Mm) : List Nat := M.2.2.2.2.2
def pI (M : Mm) (a k : Nat) (v : Int32) : Mm := (fun b j => if b = a ∧ j = k then v else M.1 b j, M.2)
def pJ (M : Mm) (a k : Nat) (v : Int64) : Mm := (M.1, fun b j => if b = a ∧ j = k then v else M.2.1 b j, M.2.2)
def pR (M : Mm) (a k : Nat) (v : Option Nat) : Mm := (M.1, M.2.1, fun b j => if b = a ∧ j = k then v else M.2.2.1 b j, M.2.2.2)
def nC (M : Mm) (a kd n : Nat) : Mm := (fun b j => if b = a then 0 else M.1 b j, fun b j => if b = a then 0 else M.2.1 b j, fun b j => if b = a then none else M.2.2.1 b j, fun b => if b = a then kd else M.2.2.2.1 b, fun b => if b = a then n else M.2.2.2.2.1 b, M.2.2.2.2.2 ++ [a])
def cI (M : Mm) (a0 a sp dp n : Nat) : Mm := (fun b j => if b = a then va_cpy (M.1 a0) (M.1 a) sp dp n j else M.1 b j, M.2)
def ok (M : Mm) (a k : Nat) : Prop := a ∈ gL M ∧ gK M a = k
/-- a place of a row -/
def ar (M : Mm) (a k : Nat) (i : Int32) : Prop := ok M a k ∧ vp_in i (gN M a)
def bl (v : Int32) : Prop := v = 0 ∨ v = 1
def ft (ci : Nat) : List Nat := match ci with
  | 0 => [2, 0, 0]
  | 1 => [2, 2, 2, 2]
  | 2 => [0, 0, 0, 0, 0, 0, 0]
  | 3 => [2, 0, 1, 0, 0, 0, 0, 2, 2, 0, 2, 2, 2, 0]
  | 4 => [0, 2]
  | 5 => [2, 2, 2, 2, 2, 2, 0, 0, 0, 0, 0, 0, 1, 1, 1]
  | 6 => [0, 2, 1, 0, 0, 2, 2, 2, 2, 0, 2, 2, 2, 0, 0, 2, 2, 2, 0, 2, 2, 2, 0, 2, 2, 1, 1, 1, 1, 2, 0, 2, 2, 0, 0, 0, 0, 0, 0, 0, 0]
  | _ => []
def fv (M : Mm) (a t k : Nat) : Value := if t = 0 then .int (gI M a k) else if t = 1 then .long (gJ M a k) else va_rf (gR M a k)
def fvs (M : Mm) (a : Nat) : Nat → List Nat → List Value
  | _, [] => []
  | k, t :: ts => fv M a t k :: fvs M a (k + 1) ts
def en (cy : Nat → ClassId) (M : Mm) (a : Nat) : va_E :=
  if gK M a = 7 then .inl (cy 0, gN M a, .inl (gI M a)) else
  if gK M a = 8 then .inl (cy 1, gN M a, .inr (.inl (gJ M a))) else
  if gK M a = 9 then .inl (cy 2, gN M a, .inl (gI M a)) else
  if gK M a = 10 then .inl (cy 3, gN M a, .inr (.inr (.inr (.inr (gR M a))))) else
  if gK M a = 11 then .inl (cy 4, gN M a, .inr (.inr (.inr (.inr (gR M a))))) else
  .inr (gK M a, fvs M a 0 (ft (gK M a)))
def wl (cy : Nat → ClassId) (M : Mm) : va_W := va_pl (gL M) (en cy M)
def tyq (cy : Nat → ClassId) : List (ClassId × FieldType) := [(cy 0, .int), (cy 1, .long), (cy 2, .boolean), (cy 3, .object RX3), (cy 4, .object RX4)]
-- the memory's own laws
theorem gI_pI (M : Mm) (a k : Nat) (v : Int32) (b j : Nat) : gI (pI M a k v) b j = if b = a ∧ j = k then v else gI M b j := rfl
theorem gJ_pI (M : Mm) (a k : Nat) (v : Int32) : gJ (pI M a k v) = gJ M := rfl
theorem gR_pI (M : Mm) (a k : Nat) (v : Int32) : gR (pI M a k v) = gR M := rfl
theorem gK_pI (M : Mm) (a k : Nat) (v : Int32) : gK (pI M a k v) = gK M := rfl
theorem gN_pI (M : Mm) (a k : Nat) (v : Int32) : gN (pI M a k v) = gN M := rfl
theorem gL_pI (M : Mm) (a k : Nat) (v : Int32) : gL (pI M a k v) = gL M := rfl
theorem gI_pJ (M : Mm) (a k : Nat) (v : Int64) : gI (pJ M a k v) = gI M := rfl
theorem gJ_pJ (M : Mm) (a k : Nat) (v : Int64) (b j : Nat) : gJ (pJ M a k v) b j = if b = a ∧ j = k then v else gJ M b j := rfl
theorem gR_pJ (M : Mm) (a k : Nat) (v : Int64) : gR (pJ M a k v) = gR M := rfl
theorem gK_pJ (M : Mm) (a k : Nat) (v : Int64) : gK (pJ M a k v) = gK M := rfl
theorem gN_pJ (M : Mm) (a k : Nat) (v : Int64) : gN (pJ M a k v) = gN M := rfl
theorem gL_pJ (M : Mm) (a k : Nat) (v : Int64) : gL (pJ M a k v) = gL M := rfl
theorem gI_pR (M : Mm) (a k : Nat) (v : Option Nat) : gI (pR M a k v) = gI M := rfl
theorem gJ_pR (M : Mm) (a k : Nat) (v : Option Nat) : gJ (pR M a k v) = gJ M := rfl
theorem gR_pR (M : Mm) (a k : Nat) (v : Option Nat) (b j : Nat) : gR (pR M a k v) b j = if b = a ∧ j = k then v else gR M b j := rfl
theorem gK_pR (M : Mm) (a k : Nat) (v : Option Nat) : gK (pR M a k v) = gK M := rfl
theorem gN_pR (M : Mm) (a k : Nat) (v : Option Nat) : gN (pR M a k v) = gN M := rfl
theorem gL_pR (M : Mm) (a k : Nat) (v : Option Nat) : gL (pR M a k v) = gL M := rfl
theorem gI_nC (M : Mm) (a kd n b j : Nat) : gI (nC M a kd n) b j = if b = a then 0 else gI M b j := rfl
theorem gJ_nC (M : Mm) (a kd n b j : Nat) : gJ (nC M a kd n) b j = if b = a then 0 else gJ M b j := rfl
theorem gR_nC (M : Mm) (a kd n b j : Nat) : gR (nC M a kd n) b j = if b = a then none else gR M b j := rfl
theorem gK_nC (M : Mm) (a kd n b : Nat) : gK (nC M a kd n) b = if b = a then kd else gK M b := rfl
theorem gN_nC (M : Mm) (a kd n b : Nat) : gN (nC M a kd n) b = if b = a then n else gN M b := rfl
theorem gL_nC (M : Mm) (a kd n : Nat) : gL (nC M a kd n) = gL M ++ [a] := rfl
theorem gI_cI (M : Mm) (a0 a sp dp n b j : Nat) : gI (cI M a0 a sp dp n) b j = if b = a then va_cpy (gI M a0) (gI M a) sp dp n j else gI M b j := rfl
theorem gJ_cI (M : Mm) (a0 a sp dp n : Nat) : gJ (cI M a0 a sp dp n) = gJ M := rfl
theorem gR_cI (M : Mm) (a0 a sp dp n : Nat) : gR (cI M a0 a sp dp n) = gR M := rfl
theorem gK_cI (M : Mm) (a0 a sp dp n : Nat) : gK (cI M a0 a sp dp n) = gK M := rfl
theorem gN_cI (M : Mm) (a0 a sp dp n : Nat) : gN (cI M a0 a sp dp n) = gN M := rfl
theorem gL_cI (M : Mm) (a0 a sp dp n : Nat) : gL (cI M a0 a sp dp n) = gL M := rfl
-- the fields of an object
theorem fvs_get (M : Mm) (a : Nat) : ∀ (ts : List Nat) (k j t : Nat), ts[j]? = some t → (fvs M a k ts)[j]? = some (fv M a t (k + j))
  | [], _, _, _, h => by simp at h
  | t0 :: ts, k, 0, t, h => by simp at h; subst h; rfl
  | t0 :: ts, k, j + 1, t, h => by
    have h' : ts[j]? = some t := by simpa using h
    have := fvs_get M a ts (k + 1) j t h'
    rw [show k + (j + 1) = k + 1 + j by omega]
    simpa [fvs] using this
theorem fvs_len (M : Mm) (a : Nat) : ∀ (ts : List Nat) (k : Nat), (fvs M a k ts).length = ts.length
  | [], _ => rfl
  | _ :: ts, k => by simp [fvs, fvs_len M a ts (k + 1)]
theorem fvs_same {M M' : Mm} {a : Nat} : ∀ (ts : List Nat) (k : Nat), (∀ (j t : Nat), ts[j]? = some t → fv M a t (k + j) = fv M' a t (k + j)) → fvs M a k ts = fvs M' a k ts
  | [], _, _ => rfl
  | t :: ts, k, h => by
    have h0 := h 0 t rfl
    have h1 := fvs_same (M := M) (M' := M') (a := a) ts (k + 1) (fun j t' hj => by
      have := h (j + 1) t' (by simpa using hj)
      rwa [show k + (j + 1) = k + 1 + j by omega] at this)
    simp only [fvs, h1]
    rw [show k + 0 = k from rfl] at h0
    rw [h0]
theorem fvs_set {M M' : Mm} {a : Nat} : ∀ (ts : List Nat) (k j t : Nat), ts[j]? = some t → (∀ (i t' : Nat), ts[i]? = some t' → i ≠ j → fv M a t' (k + i) = fv M' a t' (k + i)) → (fvs M a k ts).set j (fv M' a t (k + j)) = fvs M' a k ts
  | [], _, _, _, h, _ => by simp at h
  | t0 :: ts, k, 0, t, h, hs => by
    simp at h; subst h
    have h1 := fvs_same (M := M) (M' := M') (a := a) ts (k + 1) (fun i t' hi => by
      have := hs (i + 1) t' (by simpa using hi) (by omega)
      rwa [show k + (i + 1) = k + 1 + i by omega] at this)
    simp [fvs, h1]
  | t0 :: ts, k, j + 1, t, h, hs => by
    have h' : ts[j]? = some t := by simpa using h
    have h1 := fvs_set (M := M) (M' := M') (a := a) ts (k + 1) j t h' (fun i t' hi hne => by
      have := hs (i + 1) t' (by simpa using hi) (by omega)
      rwa [show k + (i + 1) = k + 1 + i by omega] at this)
    have h0 := hs 0 t0 rfl (by omega)
    rw [show k + 0 = k from rfl] at h0
    rw [show k + (j + 1) = k + 1 + j by omega]
    simp [fvs, h1, h0]
theorem en_o {cy : Nat → ClassId} {M : Mm} {a ci : Nat} (h : gK M a = ci) (hc : ci < 7) : en cy M a = .inr (ci, fvs M a 0 (ft ci)) := by
  subst h
  unfold en
  rw [if_neg (by omega), if_neg (by omega), if_neg (by omega), if_neg (by omega), if_neg (by omega)]
theorem en_I {cy : Nat → ClassId} {M : Mm} {a : Nat} (h : gK M a = 7) : en cy M a = .inl (cy 0, gN M a, .inl (gI M a)) := by simp [en, h]
theorem en_J {cy : Nat → ClassId} {M : Mm} {a : Nat} (h : gK M a = 8) : en cy M a = .inl (cy 1, gN M a, .inr (.inl (gJ M a))) := by simp [en, h]
theorem en_Z {cy : Nat → ClassId} {M : Mm} {a : Nat} (h : gK M a = 9) : en cy M a = .inl (cy 2, gN M a, .inl (gI M a)) := by simp [en, h]
theorem en_R {cy : Nat → ClassId} {M : Mm} {a : Nat} (h : gK M a = 10) : en cy M a = .inl (cy 3, gN M a, .inr (.inr (.inr (.inr (gR M a))))) := by simp [en, h]
theorem en_T {cy : Nat → ClassId} {M : Mm} {a : Nat} (h : gK M a = 11) : en cy M a = .inl (cy 4, gN M a, .inr (.inr (.inr (.inr (gR M a))))) := by simp [en, h]
theorem en_at {cy : Nat → ClassId} {M M' : Mm} {b : Nat} (h1 : gI M b = gI M' b) (h2 : gJ M b = gJ M' b) (h3 : gR M b = gR M' b) (h4 : gK M b = gK M' b) (h5 : gN M b = gN M' b) : en cy M b = en cy M' b := by
  unfold en
  have hf : fvs M b 0 (ft (gK M b)) = fvs M' b 0 (ft (gK M' b)) := by
    rw [← h4]
    exact fvs_same _ 0 (fun j t _ => by simp only [fv, h1, h2, h3])
  rw [h1, h2, h3, h5, hf, h4]
theorem wl_get {cy : Nat → ClassId} {M : Mm} {a : Nat} (h : a ∈ gL M) : ∃ k : Nat, (wl cy M)[k]? = some (a, en cy M a) := va_pl_get (X := []) h
theorem wl_set {A : Nat → Prop} {cy : Nat → ClassId} {M M' : Mm} {a k : Nat} {e : va_E} (hD : va_D A (wl cy M)) (h : a ∈ gL M) (hk : (wl cy M)[k]? = some (a, en cy M a)) (hL : gL M' = gL M) (ha : e = en cy M' a) (hn : ∀ b, b ≠ a → en cy M b = en cy M' b) : (wl cy M).set k (a, e) = wl cy M' := by
  have h1 : (wl cy M).set k (a, e) = va_pl (gL M) (va_up (en cy M) a e) := va_pl_set (X := []) hD h hk
  rw [h1]
  unfold wl
  rw [hL]
  congr 1
  funext b
  unfold va_up
  by_cases hb : b = a
  · rw [if_pos hb, hb, ha]
  · rw [if_neg hb]; exact hn b hb
theorem wl_push {cy : Nat → ClassId} {M M' : Mm} {a : Nat} {e : va_E} (h : a ∉ gL M) (hL : gL M' = gL M ++ [a]) (ha : e = en cy M' a) (hn : ∀ b, b ≠ a → en cy M b = en cy M' b) : wl cy M ++ [(a, e)] = wl cy M' := by
  have h1 : wl cy M ++ [(a, e)] = va_pl (gL M ++ [a]) (va_up (en cy M) a e) := va_pl_push h
  rw [h1]
  unfold wl
  rw [hL]
  congr 1
  funext b
  unfold va_up
  by_cases hb : b = a
  · rw [if_pos hb, hb, ha]
  · rw [if_neg hb]; exact hn b hb
theorem wl_fresh {A : Nat → Prop} {cy : Nat → ClassId} {M : Mm} {a : Nat} {e : va_E} (hD : va_D A (wl cy M ++ [(a, e)])) : a ∉ gL M := by
  intro h
  obtain ⟨k, hk⟩ := wl_get (cy := cy) h
  have hl : k < (wl cy M).length := (List.getElem?_eq_some_iff.mp hk).1
  have h1 : (wl cy M ++ [(a, e)])[k]? = some (a, en cy M a) := by rw [List.getElem?_append_left hl]; exact hk
  have h2 : (wl cy M ++ [(a, e)])[(wl cy M).length]? = some (a, e) := by simp
  have := hD.1 _ _ _ _ h1 h2 rfl
  omega
theorem en_pI {cy : Nat → ClassId} {M : Mm} {a k b : Nat} {v : Int32} (h : b ≠ a) : en cy M b = en cy (pI M a k v) b := en_at (by funext j; rw [gI_pI, if_neg (fun z => h z.1)]) rfl rfl rfl rfl
theorem en_pJ {cy : Nat → ClassId} {M : Mm} {a k b : Nat} {v : Int64} (h : b ≠ a) : en cy M b = en cy (pJ M a k v) b := en_at rfl (by funext j; rw [gJ_pJ, if_neg (fun z => h z.1)]) rfl rfl rfl
theorem en_pR {cy : Nat → ClassId} {M : Mm} {a k b : Nat} {v : Option Nat} (h : b ≠ a) : en cy M b = en cy (pR M a k v) b := en_at rfl rfl (by funext j; rw [gR_pR, if_neg (fun z => h z.1)]) rfl rfl
theorem en_nC {cy : Nat → ClassId} {M : Mm} {a kd n b : Nat} (h : b ≠ a) : en cy M b = en cy (nC M a kd n) b := en_at (by funext j; rw [gI_nC, if_neg h]) (by funext j; rw [gJ_nC, if_neg h]) (by funext j; rw [gR_nC, if_neg h]) (by rw [gK_nC, if_neg h]) (by rw [gN_nC, if_neg h])
theorem en_cI {cy : Nat → ClassId} {M : Mm} {a0 a sp dp n b : Nat} (h : b ≠ a) : en cy M b = en cy (cI M a0 a sp dp n) b := en_at (by funext j; rw [gI_cI, if_neg h]) rfl rfl rfl rfl
theorem fvs_pI {M : Mm} {a k : Nat} {v : Int32} {ts : List Nat} (ht : ts[k]? = some 0) : (fvs M a 0 ts).set k (.int v) = fvs (pI M a k v) a 0 ts := by
  have h := fvs_set (M := M) (M' := pI M a k v) (a := a) ts 0 k 0 ht (fun i t' _ hne => by
    simp [fv, gI_pI, gJ_pI, gR_pI, hne])
  rw [← h]
  simp [fv, gI_pI]
theorem fvs_pJ {M : Mm} {a k : Nat} {v : Int64} {ts : List Nat} (ht : ts[k]? = some 1) : (fvs M a 0 ts).set k (.long v) = fvs (pJ M a k v) a 0 ts := by
  have h := fvs_set (M := M) (M' := pJ M a k v) (a := a) ts 0 k 1 ht (fun i t' _ hne => by
    simp [fv, gI_pJ, gJ_pJ, gR_pJ, hne])
  rw [← h]
  simp [fv, gJ_pJ]
theorem fvs_pR {M : Mm} {a k : Nat} {v : Option Nat} {ts : List Nat} (ht : ts[k]? = some 2) : (fvs M a 0 ts).set k (va_rf v) = fvs (pR M a k v) a 0 ts := by
  have h := fvs_set (M := M) (M' := pR M a k v) (a := a) ts 0 k 2 ht (fun i t' _ hne => by
    simp [fv, gI_pR, gJ_pR, gR_pR, hne])
  rw [← h]
  simp [fv, gR_pR]
end
section
/-! MY ROWS: an instruction over the memory -/
/-- the words of the tables that hold in a callee as they hold in its caller -/
def lwt : List Cond := lw_tbl.filter goodWord
theorem lwt_i (i : Nat) {w : Cond} (h : lw_tbl[i]? = some w) (g : goodWord w = true) : w ∈ lwt := List.mem_filter.mpr ⟨List.mem_of_getElem? h, g⟩
theorem lw_gi {ws : List Cond} (h : ∀ w ∈ ws, w ∈ lwt) : GoodIn lwt ws := fun w hw => ⟨h w hw, good_of_word (List.mem_filter.mp (h w hw)).2⟩
theorem lwt_sub {ws : List Cond} (h : ∀ w ∈ ws, w ∈ lw_tbl) (g : ws.all goodWord = true) : ∀ w ∈ ws, w ∈ lwt := fun w hw => List.mem_filter.mpr ⟨h w hw, List.all_eq_true.mp g w hw⟩
/-- a local's value, by its kind -/
abbrev Tg : Type := Int32 ⊕ Int64 ⊕ Option Nat
abbrev iv (x : Int32) : Tg := .inl x
abbrev jv (x : Int64) : Tg := .inr (.inl x)
abbrev rv (x : Option Nat) : Tg := .inr (.inr x)
def tv : Tg → Value
  | .inl x => .int x
  | .inr (.inl x) => .long x
  | .inr (.inr x) => va_rf x
def ct : Tg → Nat
  | .inl _ => 1
  | .inr (.inl _) => 2
  | .inr (.inr _) => 1
theorem va_rf_cat (x : Option Nat) : (va_rf x).category = 1 := by cases x <;> rfl
theorem tv_cat (v : Tg) : (tv v).category = ct v := by
  rcases v with x | x | x
  · rfl
  · rfl
  · exact va_rf_cat x
def lm (L : List (Nat × Tg)) : List (Nat × Value) := L.map fun q => (q.1, tv q.2)
def lh (ls : Array Slot) (n : Nat) (L : List (Nat × Tg)) : Prop := lv_has ls n (lm L)
theorem lh_at {ls : Array Slot} {n : Nat} {L : List (Nat × Tg)} (h : lh ls n L) (k : Nat) {i : Nat} {v : Tg} (hk : L[k]? = some (i, v)) : ls[i]? = some (.val (tv v)) :=
  lv_at h k (by unfold lm; rw [List.getElem?_map, hk]; rfl)
theorem lh_sub {ls : Array Slot} {n : Nat} {L L' : List (Nat × Tg)} (h : lh ls n L) (ks : List Nat) (hl : ks.filterMap (fun k => L[k]?) = L') : lh ls n L' := by
  refine ⟨h.1, h.2.1, fun q hq => ?_⟩
  unfold lm at hq
  obtain ⟨q0, h0, rfl⟩ := List.mem_map.mp hq
  rw [← hl] at h0
  obtain ⟨k, -, hk⟩ := List.mem_filterMap.mp h0
  exact lh_at h k hk
def ko (i : Nat) (q : Nat × Tg) : Bool := !(q.1 == i) && !(q.1 + 1 == i && ct q.2 == 2)
def koL (i : Nat) (q : Nat × Tg) : Bool := !(q.1 == i) && (!(q.1 == i + 1) && !(q.1 + 1 == i && ct q.2 == 2))
theorem lm_ko (i : Nat) (L : List (Nat × Tg)) : (lm L).filter (fun q => !(q.1 == i) && !(q.1 + 1 == i && q.2.category == 2)) = lm (L.filter (ko i)) := by
  unfold lm
  rw [List.filter_map]
  congr 1
  congr 1
  funext q
  simp only [Function.comp, ko, tv_cat]
theorem lm_koL (i : Nat) (L : List (Nat × Tg)) : (lm L).filter (fun q => !(q.1 == i) && (!(q.1 == i + 1) && !(q.1 + 1 == i && q.2.category == 2))) = lm (L.filter (koL i)) := by
  unfold lm
  rw [List.filter_map]
  congr 1
  congr 1
  funext q
  simp only [Function.comp, koL, tv_cat]
def la : Nat → List Tg → List (Nat × Tg)
  | _, [] => []
  | i, v :: vs => (i, v) :: la (i + ct v) vs
theorem la_args : ∀ (vs : List Tg) (i : Nat), lv_args i (vs.map tv) = lm (la i vs)
  | [], _ => rfl
  | v :: vs, i => by
    have h : (if (tv v).category = 2 then i + 2 else i + 1) = i + ct v := by
      rw [tv_cat]
      rcases v with x | x | x <;> simp [ct]
    show (i, tv v) :: lv_args (if (tv v).category = 2 then i + 2 else i + 1) (vs.map tv) = (i, tv v) :: lm (la (i + ct v) vs)
    rw [h, la_args vs (i + ct v)]
theorem la_len : ∀ (vs : List Tg), (lg_sl (vs.map tv)).length = (vs.map ct).sum
  | [] => rfl
  | v :: vs => by
    have := la_len vs
    unfold lg_sl at this ⊢
    rw [List.map_cons, List.flatMap_cons, List.length_append, this, List.map_cons, List.sum_cons, tv_cat]
    rcases v with x | x | x <;> rfl
theorem tv_sum (rs : List Tg) : ((rs.map tv).map fun v => v.category).sum = (rs.map ct).sum := by
  rw [List.map_map]
  congr 2
  funext v
  exact tv_cat v
def dv (t : Nat) : Value := if t = 0 then .int 0 else if t = 1 then .long 0 else .null
theorem fvs_nC (M : Mm) (a kd n : Nat) : ∀ (ts : List Nat) (k : Nat), fvs (nC M a kd n) a k ts = ts.map dv
  | [], _ => rfl
  | t :: ts, k => by
    rw [fvs, List.map_cons, fvs_nC M a kd n ts (k + 1)]
    congr 1
    simp [fv, dv, gI_nC, gJ_nC, gR_nC, va_rf]
def Cls (ci : Nat) (C : String) (T : u_T) (N : Nat) (ty : Nat → FieldType) : Prop := vwCl[ci]? = some (C, T, N) ∧ (∀ w ∈ u_ws C T N, w ∈ lwt) ∧ (∀ k, k < N → parseFieldDescriptor (T k).2.2.1 = some (ty k)) ∧ (∀ a, a < N → ∀ b, b < N → a ≠ b → (T a).2.1 ≠ (T b).2.1) ∧ ci < 7 ∧ (ft ci).length = N ∧ ∀ j, j < N → defaultValue (ty j) = vp_V ((ft ci).map dv) j
/-- what the machine's own tables say, beside the words -/
def Vk (D : va_G) (cy : Nat → ClassId) (U : State) : Prop := va_K D vwCl (tyq cy) U ∧ va_AO RX3 U ∧ va_AO RX4 U ∧ va_Nw (.methodLinkNest RX5 24 yX1_init RX5) U ∧ va_Nw (.methodLinkNest RX5 31 yX2_init RX5) U ∧ va_Nw (.methodLinkNest RX5 247 yX0_init RX5) U
theorem Vk.warm {D : va_G} {cy : Nat → ClassId} {s U : State} (h : Vk D cy s) (hW : s.WarmedH U.vm) : Vk D cy U := ⟨va_K.moved hW.alike h.1, va_AO.moved hW.alike h.2.1, va_AO.moved hW.alike h.2.2.1, va_Nw.warmM hW h.2.2.2.1, va_Nw.warmM hW h.2.2.2.2.1, va_Nw.warmM hW h.2.2.2.2.2⟩
theorem Vk.calling {D : va_G} {cy : Nat → ClassId} {U : State} (h : Vk D cy U) (g : JFrame) (mk : MethodId) (a : Array Value) : Vk D cy (U.calling g mk a) := ⟨va_K.moved (u := U) (U := U.calling g mk a) (Vm.Alike.refl U.vm) h.1, va_AO.moved (u := U) (U := U.calling g mk a) (Vm.Alike.refl U.vm) h.2.1, va_AO.moved (u := U) (U := U.calling g mk a) (Vm.Alike.refl U.vm) h.2.2.1, va_Nw.same rfl (u := U) (U := U.calling g mk a) rfl h.2.2.2.1, va_Nw.same rfl (u := U) (U := U.calling g mk a) rfl h.2.2.2.2.1, va_Nw.same rfl (u := U) (U := U.calling g mk a) rfl h.2.2.2.2.2⟩
def Ex (p : Program) (m : MethodId) (c : Code) (cc : ByteArray) (nL : Nat) (s : State) (args : Array Value) (own : String) (D : va_G) (cy : Nat → ClassId) (A : Nat → Prop) : Prop := CallFix p m c cc nL s args lwt own ∧ Vk D cy s ∧ ∀ q : Nat, s.heap.size ≤ q → A q
def Wd (D : va_G) (cy : Nat → ClassId) (A : Nat → Prop) (s : State) (M : Mm) (H : Heap) (locs : List Loc) : Prop := va_P D vwCl (wl cy M) H ∧ va_D A (wl cy M) ∧ va_S A s.heap H locs
/-- a method: its word is among the tables', and how many it takes -/
def Yk (y : MethodName) (cd : Cond) (bytes : ByteArray) (maxL : Nat) (ret : Option FieldType) (n : Nat) : Prop := cd = Cond.code y bytes maxL ret ∧ cd ∈ lwt ∧ Cond.initialized y.cls ∈ lwt ∧ (y.cls ≠ "java/lang/invoke/MethodHandle" ∧ y.cls ≠ "java/lang/invoke/VarHandle" ∧ (parseMethodDescriptor y.desc).map (fun d => d.parameters.length) = some n)
def Pr (D : va_G) (cy : Nat → ClassId) (sz : Nat) (M : Mm) (U : State) : Prop := U.heap.size = sz ∧ va_P D vwCl (wl cy M) U.heap ∧ Vk D cy U ∧ va_D (fun _ => True) (wl cy M)
def Po (D : va_G) (cy : Nat → ClassId) (A : Nat → Prop) (M : Mm) (t : State) : Prop := va_P D vwCl (wl cy M) t.heap ∧ va_D A (wl cy M)
def KI (l : Launch) (y : MethodName) (cd : Cond) (rm : Room) (av : List Tg) (M : Mm) (Qm : Int32 → Mm → Prop) : Prop := ∀ (D : va_G) (cy : Nat → ClassId) (sz : Nat), Met l y (cd :: lwt) rm (va_Pc (av.map tv) (Pr D cy sz M)) (va_Qi Qm (Po D cy (va_A (wl cy M) sz)) (va_A (wl cy M) sz)) rm.cells rm.slots (va_A (wl cy M) sz)
def KL (l : Launch) (y : MethodName) (cd : Cond) (rm : Room) (av : List Tg) (M : Mm) (Qm : Int64 → Mm → Prop) : Prop := ∀ (D : va_G) (cy : Nat → ClassId) (sz : Nat), Met l y (cd :: lwt) rm (va_Pc (av.map tv) (Pr D cy sz M)) (va_Ql Qm (Po D cy (va_A (wl cy M) sz)) (va_A (wl cy M) sz)) rm.cells rm.slots (va_A (wl cy M) sz)
def KV (l : Launch) (y : MethodName) (cd : Cond) (rm : Room) (av : List Tg) (M : Mm) (Qm : Mm → Prop) : Prop := ∀ (D : va_G) (cy : Nat → ClassId) (sz : Nat), Met l y (cd :: lwt) rm (va_Pc (av.map tv) (Pr D cy sz M)) (va_Qv Qm (Po D cy (va_A (wl cy M) sz)) (va_A (wl cy M) sz)) rm.cells rm.slots (va_A (wl cy M) sz)
def KQ (l : Launch) (y : MethodName) (cd : Cond) (rm : Room) (av : List Tg) (M : Mm) (Qm : Option Nat → Mm → Prop) : Prop := ∀ (D : va_G) (cy : Nat → ClassId) (sz : Nat), Met l y (cd :: lwt) rm (va_Pc (av.map tv) (Pr D cy sz M)) (va_Qq Qm (Po D cy (va_A (wl cy M) sz)) (va_A (wl cy M) sz)) rm.cells rm.slots (va_A (wl cy M) sz)
section RW
variable {p : Program} {l : Launch} {e : Env} {R : Room} {s : State} {m : MethodId} {args : Array Value} {below : List Frame} {meth : Method} {c : Code} {H : Heap} {locs : List Loc} {cells slots : Nat} {Q : State → Prop} {cc : ByteArray} {nL pc : Nat} {own : String} {ls : Array Slot} {rest : List Value} {D : va_G} {cy : Nat → ClassId} {A : Nat → Prop} {M : Mm}
-- references in locals and on the stack
theorem r_aload (hx : p.tables.exec = Jvm.exec) (hb : c.code = cc) {i : Nat} {x : Option Nat} (hd : decode cc pc = .ok (.aload i, 2)) (hl : ls[i]? = some (.val (va_rf x))) (k : W p l e R s m args below meth c H locs cells slots Q (F0 m (pc + 2) ls (va_rf x :: rest))) : W p l e R s m args below meth c H locs cells slots Q (F0 m pc ls rest) := by
  cases x with
  | none => exact lv_aloadN hx hb hd hl k
  | some a => exact lv_aload hx hb hd hl k
theorem r_aload_n (hx : p.tables.exec = Jvm.exec) (hb : c.code = cc) {k : Fin 4} {i : Nat} {x : Option Nat} (hd : decode cc pc = .ok (.aload_n k, 1)) (hi : (k : Nat) = i) (hl : ls[i]? = some (.val (va_rf x))) (k : W p l e R s m args below meth c H locs cells slots Q (F0 m (pc + 1) ls (va_rf x :: rest))) : W p l e R s m args below meth c H locs cells slots Q (F0 m pc ls rest) := by
  cases x with
  | none => exact lv_aload_nN hx hb hd hi hl k
  | some a => exact lv_aload_n hx hb hd hi hl k
theorem r_astore (hx : p.tables.exec = Jvm.exec) (hb : c.code = cc) {i : Nat} {x : Option Nat} {lv lv' : List (Nat × Tg)} (hd : decode cc pc = .ok (.astore i, 2)) (h : lh ls nL lv) (hn : i < nL) (hl : (i, rv x) :: lv.filter (ko i) = lv') (kk : ∀ ls' : Array Slot, lh ls' nL lv' → W p l e R s m args below meth c H locs cells slots Q (F0 m (pc + 2) ls' rest)) : W p l e R s m args below meth c H locs cells slots Q (F0 m pc ls (va_rf x :: rest)) := by
  subst hl
  cases x with
  | none => exact lv_astoreN hx hb hd h hn rfl (fun ls' h' => kk ls' (by rw [lm_ko] at h'; exact h'))
  | some a => exact lv_astore hx hb hd h hn rfl (fun ls' h' => kk ls' (by rw [lm_ko] at h'; exact h'))
theorem r_astore_n (hx : p.tables.exec = Jvm.exec) (hb : c.code = cc) {k : Fin 4} {i : Nat} {x : Option Nat} {lv lv' : List (Nat × Tg)} (hd : decode cc pc = .ok (.astore_n k, 1)) (hi : (k : Nat) = i) (h : lh ls nL lv) (hn : i < nL) (hl : (i, rv x) :: lv.filter (ko i) = lv') (kk : ∀ ls' : Array Slot, lh ls' nL lv' → W p l e R s m args below meth c H locs cells slots Q (F0 m (pc + 1) ls' rest)) : W p l e R s m args below meth c H locs cells slots Q (F0 m pc ls (va_rf x :: rest)) := by
  subst hl
  cases x with
  | none => exact lv_astore_nN hx hb hd hi h hn rfl (fun ls' h' => kk ls' (by rw [lm_ko] at h'; exact h'))
  | some a => exact lv_astore_n hx hb hd hi h hn rfl (fun ls' h' => kk ls' (by rw [lm_ko] at h'; exact h'))
theorem r_ifnull (hx : p.tables.exec = Jvm.exec) (hb : c.code = cc) {x : Option Nat} {off : Int} {tgt : Nat} (hd : decode cc pc = .ok (.ifnull off, 3)) (ht : (pc : Int) + off = (tgt : Int)) (kn : x = none → W p l e R s m args below meth c H locs cells slots Q (F0 m tgt ls rest)) (ks : ∀ a, x = some a → W p l e R s m args below meth c H locs cells slots Q (F0 m (pc + 3) ls rest)) : W p l e R s m args below meth c H locs cells slots Q (F0 m pc ls (va_rf x :: rest)) := by
  cases x with
  | none => exact lv_ifnullN hx hb hd ht (kn rfl)
  | some a => exact lv_ifnull hx hb hd (ks a rfl)
theorem r_ifnonnull (hx : p.tables.exec = Jvm.exec) (hb : c.code = cc) {x : Option Nat} {off : Int} {tgt : Nat} (hd : decode cc pc = .ok (.ifnonnull off, 3)) (ht : (pc : Int) + off = (tgt : Int)) (kn : x = none → W p l e R s m args below meth c H locs cells slots Q (F0 m (pc + 3) ls rest)) (ks : ∀ a, x = some a → W p l e R s m args below meth c H locs cells slots Q (F0 m tgt ls rest)) : W p l e R s m args below meth c H locs cells slots Q (F0 m pc ls (va_rf x :: rest)) := by
  cases x with
  | none => exact lv_ifnonnullN hx hb hd (kn rfl)
  | some a => exact lv_ifnonnull hx hb hd ht (ks a rfl)
theorem r_null (hx : p.tables.exec = Jvm.exec) (hb : c.code = cc) (hd : decode cc pc = .ok (.aconst_null, 1)) (k : W p l e R s m args below meth c H locs cells slots Q (F0 m (pc + 1) ls (va_rf none :: rest))) : W p l e R s m args below meth c H locs cells slots Q (F0 m pc ls rest) := lv_null hx hb hd k
theorem r_dupr (hx : p.tables.exec = Jvm.exec) (hb : c.code = cc) {x : Option Nat} (hd : decode cc pc = .ok (.dup, 1)) (k : W p l e R s m args below meth c H locs cells slots Q (F0 m (pc + 1) ls (va_rf x :: va_rf x :: rest))) : W p l e R s m args below meth c H locs cells slots Q (F0 m pc ls (va_rf x :: rest)) := lv_dup hx hb hd (va_rf_cat x) k
theorem r_dup2r (hx : p.tables.exec = Jvm.exec) (hb : c.code = cc) {x : Option Nat} {i : Int32} (hd : decode cc pc = .ok (.dup2, 1)) (k : W p l e R s m args below meth c H locs cells slots Q (F0 m (pc + 1) ls (.int i :: va_rf x :: .int i :: va_rf x :: rest))) : W p l e R s m args below meth c H locs cells slots Q (F0 m pc ls (.int i :: va_rf x :: rest)) := lv_dup2_11 hx hb hd rfl (va_rf_cat x) k
theorem r_istore (hx : p.tables.exec = Jvm.exec) (hb : c.code = cc) {i : Nat} {x : Int32} {lv lv' : List (Nat × Tg)} (hd : decode cc pc = .ok (.istore i, 2)) (h : lh ls nL lv) (hn : i < nL) (hl : (i, iv x) :: lv.filter (ko i) = lv') (kk : ∀ ls' : Array Slot, lh ls' nL lv' → W p l e R s m args below meth c H locs cells slots Q (F0 m (pc + 2) ls' rest)) : W p l e R s m args below meth c H locs cells slots Q (F0 m pc ls (.int x :: rest)) := by
  subst hl
  exact lv_istore hx hb hd h hn rfl (fun ls' h' => kk ls' (by rw [lm_ko] at h'; exact h'))
theorem r_istore_n (hx : p.tables.exec = Jvm.exec) (hb : c.code = cc) {k : Fin 4} {i : Nat} {x : Int32} {lv lv' : List (Nat × Tg)} (hd : decode cc pc = .ok (.istore_n k, 1)) (hi : (k : Nat) = i) (h : lh ls nL lv) (hn : i < nL) (hl : (i, iv x) :: lv.filter (ko i) = lv') (kk : ∀ ls' : Array Slot, lh ls' nL lv' → W p l e R s m args below meth c H locs cells slots Q (F0 m (pc + 1) ls' rest)) : W p l e R s m args below meth c H locs cells slots Q (F0 m pc ls (.int x :: rest)) := by
  subst hl
  exact lv_istore_n hx hb hd hi h hn rfl (fun ls' h' => kk ls' (by rw [lm_ko] at h'; exact h'))
theorem r_lstore (hx : p.tables.exec = Jvm.exec) (hb : c.code = cc) {i : Nat} {x : Int64} {lv lv' : List (Nat × Tg)} (hd : decode cc pc = .ok (.lstore i, 2)) (h : lh ls nL lv) (hn : i + 1 < nL) (hl : (i, jv x) :: lv.filter (koL i) = lv') (kk : ∀ ls' : Array Slot, lh ls' nL lv' → W p l e R s m args below meth c H locs cells slots Q (F0 m (pc + 2) ls' rest)) : W p l e R s m args below meth c H locs cells slots Q (F0 m pc ls (.long x :: rest)) := by
  subst hl
  exact lv_lstore hx hb hd h hn rfl (fun ls' h' => kk ls' (by rw [lm_koL] at h'; exact h'))
theorem r_lstore_n (hx : p.tables.exec = Jvm.exec) (hb : c.code = cc) {k : Fin 4} {i : Nat} {x : Int64} {lv lv' : List (Nat × Tg)} (hd : decode cc pc = .ok (.lstore_n k, 1)) (hi : (k : Nat) = i) (h : lh ls nL lv) (hn : i + 1 < nL) (hl : (i, jv x) :: lv.filter (koL i) = lv') (kk : ∀ ls' : Array Slot, lh ls' nL lv' → W p l e R s m args below meth c H locs cells slots Q (F0 m (pc + 1) ls' rest)) : W p l e R s m args below meth c H locs cells slots Q (F0 m pc ls (.long x :: rest)) := by
  subst hl
  exact lv_lstore_n hx hb hd hi h hn rfl (fun ls' h' => kk ls' (by rw [lm_koL] at h'; exact h'))
theorem r_iinc (hx : p.tables.exec = Jvm.exec) (hb : c.code = cc) {i k : Nat} {n : Int} {x v : Int32} {lv lv' : List (Nat × Tg)} (hd : decode cc pc = .ok (.iinc i n, 3)) (h : lh ls nL lv) (hk : lv[k]? = some (i, iv x)) (hv : x + Int32.ofInt n = v) (hn : i < nL) (hl : (i, iv v) :: lv.filter (ko i) = lv') (kk : ∀ ls' : Array Slot, lh ls' nL lv' → W p l e R s m args below meth c H locs cells slots Q (F0 m (pc + 3) ls' rest)) : W p l e R s m args below meth c H locs cells slots Q (F0 m pc ls rest) := by
  subst hl
  exact lv_iinc (k := k) hx hb hd h (by unfold lm; rw [List.getElem?_map, hk]; rfl) hv hn rfl (fun ls' h' => kk ls' (by rw [lm_ko] at h'; exact h'))
-- fields
theorem r_getI (E : Ex p m c cc nL s args own D cy A) (w : Wd D cy A s M H locs) {x : Option Nat} {a ci : Nat} {C : String} {T : u_T} {N : Nat} {ty : Nat → FieldType} (hxa : x = some a) (ho : ok M a ci) (K : Cls ci C T N ty) (k : Nat) {idx : Nat} (ht : (ft ci)[k]? = some 0) (hl : Cond.fieldLink own idx (T k).1 (T k).2.1 (T k).2.2.1 ∈ lwt) (hd : decode cc pc = .ok (.getfield idx, 3)) (kk : W p l e R s m args below meth c H locs cells slots Q (F0 m (pc + 3) ls (.int (gI M a k) :: rest))) : W p l e R s m args below meth c H locs cells slots Q (F0 m pc ls (va_rf x :: rest)) := by
  subst hxa
  obtain ⟨k0, hk0⟩ := wl_get (cy := cy) ho.1
  rw [en_o ho.2 K.2.2.2.2.1] at hk0
  have hkN : k < N := by rw [← K.2.2.2.2.2.1]; exact (List.getElem?_eq_some_iff.mp ht).1
  have hv := fvs_get M a (ft ci) 0 k 0 ht
  rw [show fv M a 0 (0 + k) = .int (gI M a k) by simp [fv]] at hv
  exact va_get E.1.1 E.1.2.1 E.1.2.2.2.2 K.2.1 E.1.2.2.2.1 E.2.1.1 w.1 k0 hk0 K.1 k hkN (E.1.2.2.2.2 _ hl) (fun _ h => h) hv hd kk
theorem r_getJ (E : Ex p m c cc nL s args own D cy A) (w : Wd D cy A s M H locs) {x : Option Nat} {a ci : Nat} {C : String} {T : u_T} {N : Nat} {ty : Nat → FieldType} (hxa : x = some a) (ho : ok M a ci) (K : Cls ci C T N ty) (k : Nat) {idx : Nat} (ht : (ft ci)[k]? = some 1) (hl : Cond.fieldLink own idx (T k).1 (T k).2.1 (T k).2.2.1 ∈ lwt) (hd : decode cc pc = .ok (.getfield idx, 3)) (kk : W p l e R s m args below meth c H locs cells slots Q (F0 m (pc + 3) ls (.long (gJ M a k) :: rest))) : W p l e R s m args below meth c H locs cells slots Q (F0 m pc ls (va_rf x :: rest)) := by
  subst hxa
  obtain ⟨k0, hk0⟩ := wl_get (cy := cy) ho.1
  rw [en_o ho.2 K.2.2.2.2.1] at hk0
  have hkN : k < N := by rw [← K.2.2.2.2.2.1]; exact (List.getElem?_eq_some_iff.mp ht).1
  have hv := fvs_get M a (ft ci) 0 k 1 ht
  rw [show fv M a 1 (0 + k) = .long (gJ M a k) by simp [fv]] at hv
  exact va_get E.1.1 E.1.2.1 E.1.2.2.2.2 K.2.1 E.1.2.2.2.1 E.2.1.1 w.1 k0 hk0 K.1 k hkN (E.1.2.2.2.2 _ hl) (fun _ h => h) hv hd kk
theorem r_getR (E : Ex p m c cc nL s args own D cy A) (w : Wd D cy A s M H locs) {x : Option Nat} {a ci : Nat} {C : String} {T : u_T} {N : Nat} {ty : Nat → FieldType} (hxa : x = some a) (ho : ok M a ci) (K : Cls ci C T N ty) (k : Nat) {idx : Nat} (ht : (ft ci)[k]? = some 2) (hl : Cond.fieldLink own idx (T k).1 (T k).2.1 (T k).2.2.1 ∈ lwt) (hd : decode cc pc = .ok (.getfield idx, 3)) (kk : W p l e R s m args below meth c H locs cells slots Q (F0 m (pc + 3) ls (va_rf (gR M a k) :: rest))) : W p l e R s m args below meth c H locs cells slots Q (F0 m pc ls (va_rf x :: rest)) := by
  subst hxa
  obtain ⟨k0, hk0⟩ := wl_get (cy := cy) ho.1
  rw [en_o ho.2 K.2.2.2.2.1] at hk0
  have hkN : k < N := by rw [← K.2.2.2.2.2.1]; exact (List.getElem?_eq_some_iff.mp ht).1
  have hv := fvs_get M a (ft ci) 0 k 2 ht
  rw [show fv M a 2 (0 + k) = va_rf (gR M a k) by simp [fv]] at hv
  exact va_get E.1.1 E.1.2.1 E.1.2.2.2.2 K.2.1 E.1.2.2.2.1 E.2.1.1 w.1 k0 hk0 K.1 k hkN (E.1.2.2.2.2 _ hl) (fun _ h => h) hv hd kk
theorem r_put0 (E : Ex p m c cc nL s args own D cy A) (w : Wd D cy A s M H locs) {M' : Mm} {x : Option Nat} {a ci t : Nat} {C : String} {T : u_T} {N : Nat} {ty : Nat → FieldType} {v : Value} (hxa : x = some a) (ho : ok M a ci) (K : Cls ci C T N ty) (k : Nat) {idx : Nat} (ht : (ft ci)[k]? = some t) (hl : Cond.fieldLink own idx (T k).1 (T k).2.1 (T k).2.2.1 ∈ lwt) (hfin : (T k).2.2.2 = false ∨ ((T k).2.2.2 = true ∧ meth.name = "<init>" ∧ (T k).1 = own)) (hn : narrow (ty k) v = v) (hfit : fits (ty k) v = true) (hL : gL M' = gL M) (hKd : gK M' a = gK M a) (hfs : (fvs M a 0 (ft ci)).set k v = fvs M' a 0 (ft ci)) (hne : ∀ b, b ≠ a → en cy M b = en cy M' b) (hd : decode cc pc = .ok (.putfield idx, 3)) (kk : ∀ (H' : Heap) (locs' : List Loc), Wd D cy A s M' H' locs' → W p l e R s m args below meth c H' locs' cells slots Q (F0 m (pc + 3) ls rest)) : W p l e R s m args below meth c H locs cells slots Q (F0 m pc ls (v :: va_rf x :: rest)) := by
  subst hxa
  obtain ⟨k0, hk00⟩ := wl_get (cy := cy) ho.1
  have hk0 := hk00
  rw [en_o ho.2 K.2.2.2.2.1] at hk0
  have hkN : k < N := by rw [← K.2.2.2.2.2.1]; exact (List.getElem?_eq_some_iff.mp ht).1
  have hset : (wl cy M).set k0 (a, .inr (ci, (fvs M a 0 (ft ci)).set k v)) = wl cy M' := by
    refine wl_set w.2.1 ho.1 hk00 hL ?_ hne
    rw [en_o (by rw [hKd]; exact ho.2) K.2.2.2.2.1, hfs]
  have hlen : k < (fvs M a 0 (ft ci)).length := by rw [fvs_len, K.2.2.2.2.2.1]; exact hkN
  rcases hfin with hf | ⟨hf, hi, hde⟩
  · exact va_put E.1.1 E.1.2.1 E.1.2.2.2.2 K.2.1 ty K.2.2.1 K.2.2.2.1 E.1.2.2.2.1 E.2.1.1 w.1 w.2.1 w.2.2 k0 hk0 K.1 k hkN (E.1.2.2.2.2 _ hl) (fun _ h => h) hf (K.2.2.1 k hkN) hn hfit hlen hd (fun H1 locs1 h1 h2 h3 => kk H1 locs1 (by rw [hset] at h1 h2; exact ⟨h1, h2, h3⟩))
  · exact va_putF E.1.1 E.1.2.1 E.1.2.2.2.2 K.2.1 ty K.2.2.1 K.2.2.2.1 E.1.2.2.2.1 E.2.1.1 w.1 w.2.1 w.2.2 k0 hk0 K.1 k hkN (E.1.2.2.2.2 _ hl) (fun _ h => h) hf hi hde (K.2.2.1 k hkN) hn hfit hlen hd (fun H1 locs1 h1 h2 h3 => kk H1 locs1 (by rw [hset] at h1 h2; exact ⟨h1, h2, h3⟩))
theorem r_putI (E : Ex p m c cc nL s args own D cy A) (w : Wd D cy A s M H locs) {x : Option Nat} {a ci : Nat} {C : String} {T : u_T} {N : Nat} {ty : Nat → FieldType} {v : Int32} (hxa : x = some a) (ho : ok M a ci) (K : Cls ci C T N ty) (k : Nat) {idx : Nat} (ht : (ft ci)[k]? = some 0) (hl : Cond.fieldLink own idx (T k).1 (T k).2.1 (T k).2.2.1 ∈ lwt) (hfin : (T k).2.2.2 = false ∨ ((T k).2.2.2 = true ∧ meth.name = "<init>" ∧ (T k).1 = own)) (hty : ty k = .int ∨ (ty k = .boolean ∧ bl v)) (hd : decode cc pc = .ok (.putfield idx, 3)) (kk : ∀ (H' : Heap) (locs' : List Loc), Wd D cy A s (pI M a k v) H' locs' → W p l e R s m args below meth c H' locs' cells slots Q (F0 m (pc + 3) ls rest)) : W p l e R s m args below meth c H locs cells slots Q (F0 m pc ls (.int v :: va_rf x :: rest)) := by
  refine r_put0 (M' := pI M a k v) E w hxa ho K k ht hl hfin ?_ ?_ rfl rfl (fvs_pI ht) (fun b hb => en_pI hb) hd kk
  · rcases hty with h | ⟨h, h0 | h1⟩
    · rw [h]; rfl
    · rw [h, h0]; rfl
    · rw [h, h1]; rfl
  · rcases hty with h | ⟨h, h0 | h1⟩
    · rw [h]; rfl
    · rw [h, h0]; rfl
    · rw [h, h1]; rfl
theorem r_putJ (E : Ex p m c cc nL s args own D cy A) (w : Wd D cy A s M H locs) {x : Option Nat} {a ci : Nat} {C : String} {T : u_T} {N : Nat} {ty : Nat → FieldType} {v : Int64} (hxa : x = some a) (ho : ok M a ci) (K : Cls ci C T N ty) (k : Nat) {idx : Nat} (ht : (ft ci)[k]? = some 1) (hl : Cond.fieldLink own idx (T k).1 (T k).2.1 (T k).2.2.1 ∈ lwt) (hfin : (T k).2.2.2 = false ∨ ((T k).2.2.2 = true ∧ meth.name = "<init>" ∧ (T k).1 = own)) (hty : ty k = .long) (hd : decode cc pc = .ok (.putfield idx, 3)) (kk : ∀ (H' : Heap) (locs' : List Loc), Wd D cy A s (pJ M a k v) H' locs' → W p l e R s m args below meth c H' locs' cells slots Q (F0 m (pc + 3) ls rest)) : W p l e R s m args below meth c H locs cells slots Q (F0 m pc ls (.long v :: va_rf x :: rest)) :=
  r_put0 (M' := pJ M a k v) E w hxa ho K k ht hl hfin (by rw [hty]; rfl) (by rw [hty]; rfl) rfl rfl (fvs_pJ ht) (fun b hb => en_pJ hb) hd kk
theorem r_putR (E : Ex p m c cc nL s args own D cy A) (w : Wd D cy A s M H locs) {x : Option Nat} {a ci : Nat} {C : String} {T : u_T} {N : Nat} {ty : Nat → FieldType} {v : Option Nat} (hxa : x = some a) (ho : ok M a ci) (K : Cls ci C T N ty) (k : Nat) {idx : Nat} (ht : (ft ci)[k]? = some 2) (hl : Cond.fieldLink own idx (T k).1 (T k).2.1 (T k).2.2.1 ∈ lwt) (hfin : (T k).2.2.2 = false ∨ ((T k).2.2.2 = true ∧ meth.name = "<init>" ∧ (T k).1 = own)) (hty : (∃ n, ty k = .object n) ∨ ∃ n, ty k = .array n) (hd : decode cc pc = .ok (.putfield idx, 3)) (kk : ∀ (H' : Heap) (locs' : List Loc), Wd D cy A s (pR M a k v) H' locs' → W p l e R s m args below meth c H' locs' cells slots Q (F0 m (pc + 3) ls rest)) : W p l e R s m args below meth c H locs cells slots Q (F0 m pc ls (va_rf v :: va_rf x :: rest)) := by
  refine r_put0 (M' := pR M a k v) E w hxa ho K k ht hl hfin ?_ ?_ rfl rfl (fvs_pR ht) (fun b hb => en_pR hb) hd kk
  · rcases hty with ⟨n, h⟩ | ⟨n, h⟩ <;> rw [h] <;> cases v <;> rfl
  · rcases hty with ⟨n, h⟩ | ⟨n, h⟩ <;> rw [h] <;> cases v <;> rfl
end RW
end
section
/-! MY ROWS, 2: arrays, what is made, returns, calls, the entry -/
section RX
variable {p : Program} {l : Launch} {e : Env} {R : Room} {s : State} {m : MethodId} {args : Array Value} {below : List Frame} {meth : Method} {c : Code} {H : Heap} {locs : List Loc} {cells slots : Nat} {Q : State → Prop} {cc : ByteArray} {nL pc : Nat} {own : String} {ls : Array Slot} {rest : List Value} {D : va_G} {cy : Nat → ClassId} {A : Nat → Prop} {M : Mm}
theorem r_iald (E : Ex p m c cc nL s args own D cy A) (w : Wd D cy A s M H locs) {x : Option Nat} {a : Nat} {i : Int32} (hxa : x = some a) (ha : ar M a 7 i) (hd : decode cc pc = .ok (.iaload, 1)) (kk : W p l e R s m args below meth c H locs cells slots Q (F0 m (pc + 1) ls (.int (gI M a i.toNatClampNeg) :: rest))) : W p l e R s m args below meth c H locs cells slots Q (F0 m pc ls (.int i :: va_rf x :: rest)) := by
  subst hxa
  obtain ⟨k0, hk0⟩ := wl_get (cy := cy) ha.1.1
  rw [en_I ha.1.2] at hk0
  exact va_iald E.1.1 E.1.2.1 E.2.1.1 w.1 k0 0 hk0 rfl ha.2 hd kk
theorem r_lald (E : Ex p m c cc nL s args own D cy A) (w : Wd D cy A s M H locs) {x : Option Nat} {a : Nat} {i : Int32} (hxa : x = some a) (ha : ar M a 8 i) (hd : decode cc pc = .ok (.laload, 1)) (kk : W p l e R s m args below meth c H locs cells slots Q (F0 m (pc + 1) ls (.long (gJ M a i.toNatClampNeg) :: rest))) : W p l e R s m args below meth c H locs cells slots Q (F0 m pc ls (.int i :: va_rf x :: rest)) := by
  subst hxa
  obtain ⟨k0, hk0⟩ := wl_get (cy := cy) ha.1.1
  rw [en_J ha.1.2] at hk0
  exact va_lald E.1.1 E.1.2.1 E.2.1.1 w.1 k0 1 hk0 rfl ha.2 hd kk
theorem r_zald (E : Ex p m c cc nL s args own D cy A) (w : Wd D cy A s M H locs) {x : Option Nat} {a : Nat} {i : Int32} (hxa : x = some a) (ha : ar M a 9 i) (hd : decode cc pc = .ok (.baload, 1)) (kk : W p l e R s m args below meth c H locs cells slots Q (F0 m (pc + 1) ls (.int (gI M a i.toNatClampNeg) :: rest))) : W p l e R s m args below meth c H locs cells slots Q (F0 m pc ls (.int i :: va_rf x :: rest)) := by
  subst hxa
  obtain ⟨k0, hk0⟩ := wl_get (cy := cy) ha.1.1
  rw [en_Z ha.1.2] at hk0
  exact va_zald E.1.1 E.1.2.1 E.2.1.1 w.1 k0 2 hk0 rfl ha.2 hd kk
theorem r_aald10 (E : Ex p m c cc nL s args own D cy A) (w : Wd D cy A s M H locs) {x : Option Nat} {a : Nat} {i : Int32} (hxa : x = some a) (ha : ar M a 10 i) (hd : decode cc pc = .ok (.aaload, 1)) (kk : W p l e R s m args below meth c H locs cells slots Q (F0 m (pc + 1) ls (va_rf (gR M a i.toNatClampNeg) :: rest))) : W p l e R s m args below meth c H locs cells slots Q (F0 m pc ls (.int i :: va_rf x :: rest)) := by
  subst hxa
  obtain ⟨k0, hk0⟩ := wl_get (cy := cy) ha.1.1
  rw [en_R ha.1.2] at hk0
  exact va_aldq E.1.1 E.1.2.1 E.2.1.1 w.1 k0 3 hk0 rfl ha.2 hd kk
theorem r_aald11 (E : Ex p m c cc nL s args own D cy A) (w : Wd D cy A s M H locs) {x : Option Nat} {a : Nat} {i : Int32} (hxa : x = some a) (ha : ar M a 11 i) (hd : decode cc pc = .ok (.aaload, 1)) (kk : W p l e R s m args below meth c H locs cells slots Q (F0 m (pc + 1) ls (va_rf (gR M a i.toNatClampNeg) :: rest))) : W p l e R s m args below meth c H locs cells slots Q (F0 m pc ls (.int i :: va_rf x :: rest)) := by
  subst hxa
  obtain ⟨k0, hk0⟩ := wl_get (cy := cy) ha.1.1
  rw [en_T ha.1.2] at hk0
  exact va_aldq E.1.1 E.1.2.1 E.2.1.1 w.1 k0 4 hk0 rfl ha.2 hd kk
theorem r_iast (E : Ex p m c cc nL s args own D cy A) (w : Wd D cy A s M H locs) {x : Option Nat} {a : Nat} {i : Int32} {v : Int32} (hxa : x = some a) (ha : ar M a 7 i) (hd : decode cc pc = .ok (.iastore, 1)) (kk : ∀ (H' : Heap) (locs' : List Loc), Wd D cy A s (pI M a i.toNatClampNeg v) H' locs' → W p l e R s m args below meth c H' locs' cells slots Q (F0 m (pc + 1) ls rest)) : W p l e R s m args below meth c H locs cells slots Q (F0 m pc ls (.int v :: .int i :: va_rf x :: rest)) := by
  subst hxa
  obtain ⟨k0, hk00⟩ := wl_get (cy := cy) ha.1.1
  have hk0 := hk00
  rw [en_I ha.1.2] at hk0
  refine va_iast E.1.1 E.1.2.1 E.2.1.1 w.1 w.2.1 w.2.2 k0 0 hk0 rfl ha.2 hd (fun H1 locs1 h1 h2 h3 => kk H1 locs1 ?_)
  have hset : (wl cy M).set k0 (a, .inl (cy 0, gN M a, .inl (upd (gI M a) i.toNatClampNeg v))) = wl cy (pI M a i.toNatClampNeg v) := by
    refine wl_set w.2.1 ha.1.1 hk00 rfl ?_ (fun b hb => en_pI hb)
    rw [en_I (show gK (pI M a i.toNatClampNeg v) a = 7 from ha.1.2)]
    have hf : gI (pI M a i.toNatClampNeg v) a = upd (gI M a) i.toNatClampNeg v := by
      funext q
      simp [gI_pI, upd]
    rw [hf]; rfl
  rw [hset] at h1 h2
  exact ⟨h1, h2, h3⟩
theorem r_last (E : Ex p m c cc nL s args own D cy A) (w : Wd D cy A s M H locs) {x : Option Nat} {a : Nat} {i : Int32} {v : Int64} (hxa : x = some a) (ha : ar M a 8 i) (hd : decode cc pc = .ok (.lastore, 1)) (kk : ∀ (H' : Heap) (locs' : List Loc), Wd D cy A s (pJ M a i.toNatClampNeg v) H' locs' → W p l e R s m args below meth c H' locs' cells slots Q (F0 m (pc + 1) ls rest)) : W p l e R s m args below meth c H locs cells slots Q (F0 m pc ls (.long v :: .int i :: va_rf x :: rest)) := by
  subst hxa
  obtain ⟨k0, hk00⟩ := wl_get (cy := cy) ha.1.1
  have hk0 := hk00
  rw [en_J ha.1.2] at hk0
  refine va_last E.1.1 E.1.2.1 E.2.1.1 w.1 w.2.1 w.2.2 k0 1 hk0 rfl ha.2 hd (fun H1 locs1 h1 h2 h3 => kk H1 locs1 ?_)
  have hset : (wl cy M).set k0 (a, .inl (cy 1, gN M a, .inr (.inl (vp_updL (gJ M a) i.toNatClampNeg v)))) = wl cy (pJ M a i.toNatClampNeg v) := by
    refine wl_set w.2.1 ha.1.1 hk00 rfl ?_ (fun b hb => en_pJ hb)
    rw [en_J (show gK (pJ M a i.toNatClampNeg v) a = 8 from ha.1.2)]
    have hf : gJ (pJ M a i.toNatClampNeg v) a = vp_updL (gJ M a) i.toNatClampNeg v := by
      funext q
      simp [gJ_pJ, vp_updL]
    rw [hf]; rfl
  rw [hset] at h1 h2
  exact ⟨h1, h2, h3⟩
theorem r_zast (E : Ex p m c cc nL s args own D cy A) (w : Wd D cy A s M H locs) {x : Option Nat} {a : Nat} {i : Int32} {v : Int32} (hxa : x = some a) (ha : ar M a 9 i) (hv : bl v) (hd : decode cc pc = .ok (.bastore, 1)) (kk : ∀ (H' : Heap) (locs' : List Loc), Wd D cy A s (pI M a i.toNatClampNeg v) H' locs' → W p l e R s m args below meth c H' locs' cells slots Q (F0 m (pc + 1) ls rest)) : W p l e R s m args below meth c H locs cells slots Q (F0 m pc ls (.int v :: .int i :: va_rf x :: rest)) := by
  subst hxa
  obtain ⟨k0, hk00⟩ := wl_get (cy := cy) ha.1.1
  have hk0 := hk00
  rw [en_Z ha.1.2] at hk0
  refine va_zast E.1.1 E.1.2.1 E.2.1.1 w.1 w.2.1 w.2.2 k0 2 hk0 rfl ha.2 hd (fun H1 locs1 h1 h2 h3 => kk H1 locs1 ?_)
  have hset : (wl cy M).set k0 (a, .inl (cy 2, gN M a, .inl (upd (gI M a) i.toNatClampNeg v))) = wl cy (pI M a i.toNatClampNeg v) := by
    refine wl_set w.2.1 ha.1.1 hk00 rfl ?_ (fun b hb => en_pI hb)
    rw [en_Z (show gK (pI M a i.toNatClampNeg v) a = 9 from ha.1.2)]
    have hf : gI (pI M a i.toNatClampNeg v) a = upd (gI M a) i.toNatClampNeg v := by
      funext q
      simp [gI_pI, upd]
    rw [hf]; rfl
  have hnar : vp_nar .boolean v = v := by rcases hv with h | h <;> rw [h] <;> rfl
  rw [hnar] at h1 h2
  rw [hset] at h1 h2
  exact ⟨h1, h2, h3⟩
theorem r_aast10 (E : Ex p m c cc nL s args own D cy A) (w : Wd D cy A s M H locs) {x y : Option Nat} {a v : Nat} {i : Int32} (hxa : x = some a) (hyv : y = some v) (ha : ar M a 10 i) (hv : ok M v 3) (hd : decode cc pc = .ok (.aastore, 1)) (kk : ∀ (H' : Heap) (locs' : List Loc), Wd D cy A s (pR M a i.toNatClampNeg (some v)) H' locs' → W p l e R s m args below meth c H' locs' cells slots Q (F0 m (pc + 1) ls rest)) : W p l e R s m args below meth c H locs cells slots Q (F0 m pc ls (va_rf y :: .int i :: va_rf x :: rest)) := by
  subst hxa; subst hyv
  obtain ⟨k0, hk00⟩ := wl_get (cy := cy) ha.1.1
  have hk0 := hk00
  rw [en_R ha.1.2] at hk0
  obtain ⟨k1, hk1⟩ := wl_get (cy := cy) hv.1
  rw [en_o hv.2 (by decide)] at hk1
  refine va_astq E.1.1 E.1.2.1 E.2.1.1 w.1 w.2.1 w.2.2 k0 3 k1 3 (r := (RX3, TX3, 14)) hk0 rfl hk1 rfl ha.2 hd (fun H1 locs1 h1 h2 h3 => kk H1 locs1 ?_)
  have hset : (wl cy M).set k0 (a, .inl (cy 3, gN M a, .inr (.inr (.inr (.inr (va_up (gR M a) i.toNatClampNeg (some v))))))) = wl cy (pR M a i.toNatClampNeg (some v)) := by
    refine wl_set w.2.1 ha.1.1 hk00 rfl ?_ (fun b hb => en_pR hb)
    rw [en_R (show gK (pR M a i.toNatClampNeg (some v)) a = 10 from ha.1.2)]
    have hf : gR (pR M a i.toNatClampNeg (some v)) a = va_up (gR M a) i.toNatClampNeg (some v) := by
      funext q
      simp [gR_pR, va_up]
    rw [hf]; rfl
  rw [hset] at h1 h2
  exact ⟨h1, h2, h3⟩
theorem r_aast11 (E : Ex p m c cc nL s args own D cy A) (w : Wd D cy A s M H locs) {x y : Option Nat} {a v : Nat} {i : Int32} (hxa : x = some a) (hyv : y = some v) (ha : ar M a 11 i) (hv : ok M v 4) (hd : decode cc pc = .ok (.aastore, 1)) (kk : ∀ (H' : Heap) (locs' : List Loc), Wd D cy A s (pR M a i.toNatClampNeg (some v)) H' locs' → W p l e R s m args below meth c H' locs' cells slots Q (F0 m (pc + 1) ls rest)) : W p l e R s m args below meth c H locs cells slots Q (F0 m pc ls (va_rf y :: .int i :: va_rf x :: rest)) := by
  subst hxa; subst hyv
  obtain ⟨k0, hk00⟩ := wl_get (cy := cy) ha.1.1
  have hk0 := hk00
  rw [en_T ha.1.2] at hk0
  obtain ⟨k1, hk1⟩ := wl_get (cy := cy) hv.1
  rw [en_o hv.2 (by decide)] at hk1
  refine va_astq E.1.1 E.1.2.1 E.2.1.1 w.1 w.2.1 w.2.2 k0 4 k1 4 (r := (RX4, TX4, 2)) hk0 rfl hk1 rfl ha.2 hd (fun H1 locs1 h1 h2 h3 => kk H1 locs1 ?_)
  have hset : (wl cy M).set k0 (a, .inl (cy 4, gN M a, .inr (.inr (.inr (.inr (va_up (gR M a) i.toNatClampNeg (some v))))))) = wl cy (pR M a i.toNatClampNeg (some v)) := by
    refine wl_set w.2.1 ha.1.1 hk00 rfl ?_ (fun b hb => en_pR hb)
    rw [en_T (show gK (pR M a i.toNatClampNeg (some v)) a = 11 from ha.1.2)]
    have hf : gR (pR M a i.toNatClampNeg (some v)) a = va_up (gR M a) i.toNatClampNeg (some v) := by
      funext q
      simp [gR_pR, va_up]
    rw [hf]; rfl
  rw [hset] at h1 h2
  exact ⟨h1, h2, h3⟩
theorem r_new (E : Ex p m c cc nL s args own D cy A) (w : Wd D cy A s M H locs) {ci : Nat} {C : String} {T : u_T} {N : Nat} {ty : Nat → FieldType} (K : Cls ci C T N ty) {idx : Nat} (hcl : Cond.classLink own idx C ∈ lwt) (hinst : Cond.instantiable C N ∈ lwt) (hini : Cond.initialized C ∈ lwt) (hcells : cells + 1 ≤ R.cells) (hslots : slots + N ≤ R.slots) (hd : decode cc pc = .ok (.new idx, 3)) (kk : ∀ (q : Nat) (H' : Heap), q ∉ gL M → Wd D cy A s (nC M q ci 0) H' locs → W p l e R s m args below meth c H' locs (cells + 1) (slots + N) Q (F0 m (pc + 3) ls (va_rf (some q) :: rest))) : W p l e R s m args below meth c H locs cells slots Q (F0 m pc ls rest) := by
  refine va_new (fs := (ft ci).map dv) E.1.1 E.1.2.1 E.1.2.2.2.2 K.2.1 ty K.2.2.1 E.1.2.2.2.1 (E.1.2.2.2.2 _ hcl) (E.1.2.2.2.2 _ hinst) (E.1.2.2.2.2 _ hini) E.2.1.1 w.1 w.2.1 w.2.2 E.2.2 K.1 K.2.2.2.2.2.2 hcells hslots hd (fun q H1 h1 h2 h3 => ?_)
  have hq : q ∉ gL M := wl_fresh h2
  have hp : wl cy M ++ [(q, .inr (ci, (ft ci).map dv))] = wl cy (nC M q ci 0) := by
    refine wl_push hq rfl ?_ (fun b hb => en_nC hb)
    rw [en_o (show gK (nC M q ci 0) q = ci by rw [gK_nC, if_pos rfl]) K.2.2.2.2.1, fvs_nC]
  rw [hp] at h1 h2
  exact kk q H1 hq ⟨h1, h2, h3⟩
theorem r_newa7 (E : Ex p m c cc nL s args own D cy A) (w : Wd D cy A s M H locs) (harr : Cond.arrayClass .int ∈ lwt) {n : Int32} {N : Nat} (hn : ¬ n < 0) (hN : n.toNatClampNeg = N) (hbytes : N * componentBytes .int ≤ 536870912) (hcells : cells + 1 ≤ R.cells) (hslots : slots + N ≤ R.slots) (hd : decode cc pc = .ok (.newarray .int, 2)) (kk : ∀ (q : Nat) (H' : Heap), q ∉ gL M → Wd D cy A s (nC M q 7 N) H' locs → W p l e R s m args below meth c H' locs (cells + 1) (slots + N) Q (F0 m (pc + 2) ls (va_rf (some q) :: rest))) : W p l e R s m args below meth c H locs cells slots Q (F0 m pc ls (.int n :: rest)) := by
  refine va_newa (atype := .int) (ty := .int) (a0 := (N, .inl (fun _ => 0))) E.1.1 E.1.2.1 (E.1.2.2.2.2 _ harr) rfl E.2.1.1 w.1 w.2.1 w.2.2 E.2.2 (fun _ => rfl) hn hN hbytes hcells hslots hd (fun q cA H1 hK' h1 h2 h3 => ?_)
  have hcA : cA = cy 0 := Option.some.inj ((hK'.2 5 (cA, .int) rfl).2.symm.trans (E.2.1.1.2 0 (cy 0, .int) rfl).2)
  subst hcA
  have hq : q ∉ gL M := wl_fresh h2
  have hp : wl cy M ++ [(q, .inl (cy 0, (N, .inl (fun _ => 0))))] = wl cy (nC M q 7 N) := by
    refine wl_push hq rfl ?_ (fun b hb => en_nC hb)
    rw [en_I (show gK (nC M q 7 N) q = 7 by rw [gK_nC, if_pos rfl])]
    have hf : gI (nC M q 7 N) q = fun _ => 0 := by
      funext j
      rw [gI_nC, if_pos rfl]
    rw [hf, gN_nC, if_pos rfl]
  rw [hp] at h1 h2
  exact kk q H1 hq ⟨h1, h2, h3⟩
theorem r_newa8 (E : Ex p m c cc nL s args own D cy A) (w : Wd D cy A s M H locs) (harr : Cond.arrayClass .long ∈ lwt) {n : Int32} {N : Nat} (hn : ¬ n < 0) (hN : n.toNatClampNeg = N) (hbytes : N * componentBytes .long ≤ 536870912) (hcells : cells + 1 ≤ R.cells) (hslots : slots + N ≤ R.slots) (hd : decode cc pc = .ok (.newarray .long, 2)) (kk : ∀ (q : Nat) (H' : Heap), q ∉ gL M → Wd D cy A s (nC M q 8 N) H' locs → W p l e R s m args below meth c H' locs (cells + 1) (slots + N) Q (F0 m (pc + 2) ls (va_rf (some q) :: rest))) : W p l e R s m args below meth c H locs cells slots Q (F0 m pc ls (.int n :: rest)) := by
  refine va_newa (atype := .long) (ty := .long) (a0 := (N, .inr (.inl (fun _ => 0)))) E.1.1 E.1.2.1 (E.1.2.2.2.2 _ harr) rfl E.2.1.1 w.1 w.2.1 w.2.2 E.2.2 (fun _ => rfl) hn hN hbytes hcells hslots hd (fun q cA H1 hK' h1 h2 h3 => ?_)
  have hcA : cA = cy 1 := Option.some.inj ((hK'.2 5 (cA, .long) rfl).2.symm.trans (E.2.1.1.2 1 (cy 1, .long) rfl).2)
  subst hcA
  have hq : q ∉ gL M := wl_fresh h2
  have hp : wl cy M ++ [(q, .inl (cy 1, (N, .inr (.inl (fun _ => 0)))))] = wl cy (nC M q 8 N) := by
    refine wl_push hq rfl ?_ (fun b hb => en_nC hb)
    rw [en_J (show gK (nC M q 8 N) q = 8 by rw [gK_nC, if_pos rfl])]
    have hf : gJ (nC M q 8 N) q = fun _ => 0 := by
      funext j
      rw [gJ_nC, if_pos rfl]
    rw [hf, gN_nC, if_pos rfl]
  rw [hp] at h1 h2
  exact kk q H1 hq ⟨h1, h2, h3⟩
theorem r_newa9 (E : Ex p m c cc nL s args own D cy A) (w : Wd D cy A s M H locs) (harr : Cond.arrayClass .boolean ∈ lwt) {n : Int32} {N : Nat} (hn : ¬ n < 0) (hN : n.toNatClampNeg = N) (hbytes : N * componentBytes .boolean ≤ 536870912) (hcells : cells + 1 ≤ R.cells) (hslots : slots + N ≤ R.slots) (hd : decode cc pc = .ok (.newarray .boolean, 2)) (kk : ∀ (q : Nat) (H' : Heap), q ∉ gL M → Wd D cy A s (nC M q 9 N) H' locs → W p l e R s m args below meth c H' locs (cells + 1) (slots + N) Q (F0 m (pc + 2) ls (va_rf (some q) :: rest))) : W p l e R s m args below meth c H locs cells slots Q (F0 m pc ls (.int n :: rest)) := by
  refine va_newa (atype := .boolean) (ty := .boolean) (a0 := (N, .inl (fun _ => 0))) E.1.1 E.1.2.1 (E.1.2.2.2.2 _ harr) rfl E.2.1.1 w.1 w.2.1 w.2.2 E.2.2 (fun _ => rfl) hn hN hbytes hcells hslots hd (fun q cA H1 hK' h1 h2 h3 => ?_)
  have hcA : cA = cy 2 := Option.some.inj ((hK'.2 5 (cA, .boolean) rfl).2.symm.trans (E.2.1.1.2 2 (cy 2, .boolean) rfl).2)
  subst hcA
  have hq : q ∉ gL M := wl_fresh h2
  have hp : wl cy M ++ [(q, .inl (cy 2, (N, .inl (fun _ => 0))))] = wl cy (nC M q 9 N) := by
    refine wl_push hq rfl ?_ (fun b hb => en_nC hb)
    rw [en_Z (show gK (nC M q 9 N) q = 9 by rw [gK_nC, if_pos rfl])]
    have hf : gI (nC M q 9 N) q = fun _ => 0 := by
      funext j
      rw [gI_nC, if_pos rfl]
    rw [hf, gN_nC, if_pos rfl]
  rw [hp] at h1 h2
  exact kk q H1 hq ⟨h1, h2, h3⟩
theorem r_newq10 (E : Ex p m c cc nL s args own D cy A) (w : Wd D cy A s M H locs) {idx : Nat} (hcl : Cond.classLink own idx RX3 ∈ lwt) {n : Int32} {N : Nat} (hn : ¬ n < 0) (hN : n.toNatClampNeg = N) (hbytes : N * 4 ≤ 536870912) (hcells : cells + 1 ≤ R.cells) (hslots : slots + N ≤ R.slots) (hd : decode cc pc = .ok (.anewarray idx, 3)) (kk : ∀ (q : Nat) (H' : Heap), q ∉ gL M → Wd D cy A s (nC M q 10 N) H' locs → W p l e R s m args below meth c H' locs (cells + 1) (slots + N) Q (F0 m (pc + 3) ls (va_rf (some q) :: rest))) : W p l e R s m args below meth c H locs cells slots Q (F0 m pc ls (.int n :: rest)) := by
  refine va_newq E.1.1 E.1.2.1 E.1.2.2.2.1 (E.1.2.2.2.2 _ hcl) E.2.1.2.1 E.2.1.1 w.1 w.2.1 w.2.2 E.2.2 hn hN hbytes hcells hslots hd (fun q cA H1 hK' h1 h2 h3 => ?_)
  obtain ⟨_, _, _, _, _, f1⟩ := (hK'.2 5 (cA, .object RX3) rfl).2
  obtain ⟨_, _, _, _, _, f2⟩ := (E.2.1.1.2 3 (cy 3, .object RX3) rfl).2
  have hcA : cA = cy 3 := Option.some.inj (f1.symm.trans f2)
  subst hcA
  have hq : q ∉ gL M := wl_fresh h2
  have hp : wl cy M ++ [(q, .inl (cy 3, N, .inr (.inr (.inr (.inr (fun _ => none))))))] = wl cy (nC M q 10 N) := by
    refine wl_push hq rfl ?_ (fun b hb => en_nC hb)
    rw [en_R (show gK (nC M q 10 N) q = 10 by rw [gK_nC, if_pos rfl])]
    have hf : gR (nC M q 10 N) q = fun _ => none := by
      funext j
      rw [gR_nC, if_pos rfl]
    rw [hf, gN_nC, if_pos rfl]
  rw [hp] at h1 h2
  exact kk q H1 hq ⟨h1, h2, h3⟩
theorem r_newq11 (E : Ex p m c cc nL s args own D cy A) (w : Wd D cy A s M H locs) {idx : Nat} (hcl : Cond.classLink own idx RX4 ∈ lwt) {n : Int32} {N : Nat} (hn : ¬ n < 0) (hN : n.toNatClampNeg = N) (hbytes : N * 4 ≤ 536870912) (hcells : cells + 1 ≤ R.cells) (hslots : slots + N ≤ R.slots) (hd : decode cc pc = .ok (.anewarray idx, 3)) (kk : ∀ (q : Nat) (H' : Heap), q ∉ gL M → Wd D cy A s (nC M q 11 N) H' locs → W p l e R s m args below meth c H' locs (cells + 1) (slots + N) Q (F0 m (pc + 3) ls (va_rf (some q) :: rest))) : W p l e R s m args below meth c H locs cells slots Q (F0 m pc ls (.int n :: rest)) := by
  refine va_newq E.1.1 E.1.2.1 E.1.2.2.2.1 (E.1.2.2.2.2 _ hcl) E.2.1.2.2.1 E.2.1.1 w.1 w.2.1 w.2.2 E.2.2 hn hN hbytes hcells hslots hd (fun q cA H1 hK' h1 h2 h3 => ?_)
  obtain ⟨_, _, _, _, _, f1⟩ := (hK'.2 5 (cA, .object RX4) rfl).2
  obtain ⟨_, _, _, _, _, f2⟩ := (E.2.1.1.2 4 (cy 4, .object RX4) rfl).2
  have hcA : cA = cy 4 := Option.some.inj (f1.symm.trans f2)
  subst hcA
  have hq : q ∉ gL M := wl_fresh h2
  have hp : wl cy M ++ [(q, .inl (cy 4, N, .inr (.inr (.inr (.inr (fun _ => none))))))] = wl cy (nC M q 11 N) := by
    refine wl_push hq rfl ?_ (fun b hb => en_nC hb)
    rw [en_T (show gK (nC M q 11 N) q = 11 by rw [gK_nC, if_pos rfl])]
    have hf : gR (nC M q 11 N) q = fun _ => none := by
      funext j
      rw [gR_nC, if_pos rfl]
    rw [hf, gN_nC, if_pos rfl]
  rw [hp] at h1 h2
  exact kk q H1 hq ⟨h1, h2, h3⟩
theorem r_iret (E : Ex p m c cc nL s args own D cy A) (w : Wd D cy A s M H locs) (hr : meth.sig.returnType = some .int) (hlk : meth.locks = false) {Qm : Int32 → Mm → Prop} {v : Int32} {mc ms : Nat} (hq : Qm v M) (hc : cells ≤ mc) (hs : slots ≤ ms) (hd : decode cc pc = .ok (.ireturn, 1)) : W p l e R s m args below meth c H locs cells slots (MQ below (va_Qi Qm (Po D cy A) A) args s mc ms A) (F0 m pc ls [.int v]) := by
  refine W.widen hc hs ?_
  exact W.iret E.1.1 E.1.2.1 hr (fun t ht hW => ⟨⟨v, M, rfl, hq, by rw [ht]; exact w.1, w.2.1⟩, w.2.2.F ht⟩) w.2.2.2.2 hd hlk
theorem r_zret (E : Ex p m c cc nL s args own D cy A) (w : Wd D cy A s M H locs) (hr : meth.sig.returnType = some .boolean) (hlk : meth.locks = false) {Qm : Int32 → Mm → Prop} {v : Int32} {mc ms : Nat} (hq : bl v ∧ Qm v M) (hc : cells ≤ mc) (hs : slots ≤ ms) (hd : decode cc pc = .ok (.ireturn, 1)) : W p l e R s m args below meth c H locs cells slots (MQ below (va_Qi Qm (Po D cy A) A) args s mc ms A) (F0 m pc ls [.int v]) := by
  refine W.widen hc hs ?_
  exact W.zret E.1.1 E.1.2.1 hr (by rcases hq.1 with h | h <;> rw [h] <;> rfl) (fun t ht hW => ⟨⟨v, M, rfl, hq.2, by rw [ht]; exact w.1, w.2.1⟩, w.2.2.F ht⟩) w.2.2.2.2 hd hlk
theorem r_lret (E : Ex p m c cc nL s args own D cy A) (w : Wd D cy A s M H locs) (hr : meth.sig.returnType = some .long) (hlk : meth.locks = false) {Qm : Int64 → Mm → Prop} {v : Int64} {mc ms : Nat} (hq : Qm v M) (hc : cells ≤ mc) (hs : slots ≤ ms) (hd : decode cc pc = .ok (.lreturn, 1)) : W p l e R s m args below meth c H locs cells slots (MQ below (va_Ql Qm (Po D cy A) A) args s mc ms A) (F0 m pc ls [.long v]) := by
  refine W.widen hc hs ?_
  exact W.lret E.1.1 E.1.2.1 hr (fun t ht hW => ⟨⟨v, M, rfl, hq, by rw [ht]; exact w.1, w.2.1⟩, w.2.2.F ht⟩) w.2.2.2.2 hd hlk
theorem r_vret (E : Ex p m c cc nL s args own D cy A) (w : Wd D cy A s M H locs) (hr : meth.sig.returnType = none) (hlk : meth.locks = false) {Qm : Mm → Prop} {mc ms : Nat} (hq : Qm M) (hc : cells ≤ mc) (hs : slots ≤ ms) (hd : decode cc pc = .ok (.return_, 1)) : W p l e R s m args below meth c H locs cells slots (MQ below (va_Qv Qm (Po D cy A) A) args s mc ms A) (F0 m pc ls []) := by
  refine W.widen hc hs ?_
  exact W.vret E.1.1 E.1.2.1 hr (fun t ht hW => ⟨⟨M, rfl, hq, by rw [ht]; exact w.1, w.2.1⟩, w.2.2.F ht⟩) w.2.2.2.2 hd hlk
theorem r_aret (E : Ex p m c cc nL s args own D cy A) (w : Wd D cy A s M H locs) {n : String} (hr : meth.sig.returnType = some (.object n)) (hlk : meth.locks = false) {Qm : Option Nat → Mm → Prop} {x : Option Nat} {mc ms : Nat} (hq : Qm x M) (hc : cells ≤ mc) (hs : slots ≤ ms) (hd : decode cc pc = .ok (.areturn, 1)) : W p l e R s m args below meth c H locs cells slots (MQ below (va_Qq Qm (Po D cy A) A) args s mc ms A) (F0 m pc ls [va_rf x]) := by
  refine W.widen hc hs ?_
  exact W.aret E.1.1 E.1.2.1 hr (Or.inl ⟨n, rfl⟩) (by cases x with | none => exact Or.inl rfl | some a => exact Or.inr ⟨a, rfl⟩) (fun t ht hW => ⟨⟨x, M, rfl, hq, by rw [ht]; exact w.1, w.2.1⟩, w.2.2.F ht⟩) w.2.2.2.2 hd hlk
theorem KI_of {l : Launch} {y : MethodName} {cd : Cond} {rm : Room} {av : List Tg} {M : Mm} {Qm : Int32 → Mm → Prop} {cc : ByteArray} {maxL : Nat} {ret : Option FieldType} (hy : plainName y.cls = true) (hcd : cd = Cond.code y cc maxL ret) (hlen : (av.map ct).sum ≤ maxL)
    (body : ∀ (p : Program) (e : Env) (s : State) (m : MethodId) (args : Array Value) (below : List Frame) (meth : Method) (c : Code) (D : va_G) (cy : Nat → ClassId) (A : Nat → Prop) (ls : Array Slot), Ex p m c cc maxL s args y.cls D cy A → meth.sig.returnType = ret → meth.locks = false → meth.name = y.name → Wd D cy A s M s.heap [] → lh ls maxL (la 0 av) → W p l e rm s m args below meth c s.heap [] 0 0 (MQ below (va_Qi Qm (Po D cy A) A) args s rm.cells rm.slots A) (F0 m 0 ls [])) : KI l y cd rm av M Qm := by
  intro D cy sz
  subst hcd
  refine Met.ofW (cc := cc) (maxL := maxL) (ret := ret) hy rfl ?_
  intro p e s m args below meth c s₁ B hml hv
  obtain ⟨rfl, hsz, hP, hV, hD0⟩ := hv
  subst hsz
  rw [lg_entry_eq]
  have hl := lv_entry (av.map tv) (n := maxL) (by rw [la_len]; exact hlen)
  rw [la_args] at hl
  have hts := atoms_spec (ws := Cond.code y cc maxL ret :: lwt) B.pre
  exact body p e s m _ below meth c D cy (va_A (wl cy M) s.heap.size) _ ⟨⟨B.exec, B.bytes, hml, findClass_of_methodNamed B.named, fun w h => hts w (List.mem_cons_of_mem _ h)⟩, hV, fun q h => Or.inr h⟩ B.returns B.notSynchronized (name_of_methodNamed B.named B.method).1 ⟨hP, hD0.self, va_S.rf⟩ hl
theorem KL_of {l : Launch} {y : MethodName} {cd : Cond} {rm : Room} {av : List Tg} {M : Mm} {Qm : Int64 → Mm → Prop} {cc : ByteArray} {maxL : Nat} {ret : Option FieldType} (hy : plainName y.cls = true) (hcd : cd = Cond.code y cc maxL ret) (hlen : (av.map ct).sum ≤ maxL)
    (body : ∀ (p : Program) (e : Env) (s : State) (m : MethodId) (args : Array Value) (below : List Frame) (meth : Method) (c : Code) (D : va_G) (cy : Nat → ClassId) (A : Nat → Prop) (ls : Array Slot), Ex p m c cc maxL s args y.cls D cy A → meth.sig.returnType = ret → meth.locks = false → meth.name = y.name → Wd D cy A s M s.heap [] → lh ls maxL (la 0 av) → W p l e rm s m args below meth c s.heap [] 0 0 (MQ below (va_Ql Qm (Po D cy A) A) args s rm.cells rm.slots A) (F0 m 0 ls [])) : KL l y cd rm av M Qm := by
  intro D cy sz
  subst hcd
  refine Met.ofW (cc := cc) (maxL := maxL) (ret := ret) hy rfl ?_
  intro p e s m args below meth c s₁ B hml hv
  obtain ⟨rfl, hsz, hP, hV, hD0⟩ := hv
  subst hsz
  rw [lg_entry_eq]
  have hl := lv_entry (av.map tv) (n := maxL) (by rw [la_len]; exact hlen)
  rw [la_args] at hl
  have hts := atoms_spec (ws := Cond.code y cc maxL ret :: lwt) B.pre
  exact body p e s m _ below meth c D cy (va_A (wl cy M) s.heap.size) _ ⟨⟨B.exec, B.bytes, hml, findClass_of_methodNamed B.named, fun w h => hts w (List.mem_cons_of_mem _ h)⟩, hV, fun q h => Or.inr h⟩ B.returns B.notSynchronized (name_of_methodNamed B.named B.method).1 ⟨hP, hD0.self, va_S.rf⟩ hl
theorem KV_of {l : Launch} {y : MethodName} {cd : Cond} {rm : Room} {av : List Tg} {M : Mm} {Qm : Mm → Prop} {cc : ByteArray} {maxL : Nat} {ret : Option FieldType} (hy : plainName y.cls = true) (hcd : cd = Cond.code y cc maxL ret) (hlen : (av.map ct).sum ≤ maxL)
    (body : ∀ (p : Program) (e : Env) (s : State) (m : MethodId) (args : Array Value) (below : List Frame) (meth : Method) (c : Code) (D : va_G) (cy : Nat → ClassId) (A : Nat → Prop) (ls : Array Slot), Ex p m c cc maxL s args y.cls D cy A → meth.sig.returnType = ret → meth.locks = false → meth.name = y.name → Wd D cy A s M s.heap [] → lh ls maxL (la 0 av) → W p l e rm s m args below meth c s.heap [] 0 0 (MQ below (va_Qv Qm (Po D cy A) A) args s rm.cells rm.slots A) (F0 m 0 ls [])) : KV l y cd rm av M Qm := by
  intro D cy sz
  subst hcd
  refine Met.ofW (cc := cc) (maxL := maxL) (ret := ret) hy rfl ?_
  intro p e s m args below meth c s₁ B hml hv
  obtain ⟨rfl, hsz, hP, hV, hD0⟩ := hv
  subst hsz
  rw [lg_entry_eq]
  have hl := lv_entry (av.map tv) (n := maxL) (by rw [la_len]; exact hlen)
  rw [la_args] at hl
  have hts := atoms_spec (ws := Cond.code y cc maxL ret :: lwt) B.pre
  exact body p e s m _ below meth c D cy (va_A (wl cy M) s.heap.size) _ ⟨⟨B.exec, B.bytes, hml, findClass_of_methodNamed B.named, fun w h => hts w (List.mem_cons_of_mem _ h)⟩, hV, fun q h => Or.inr h⟩ B.returns B.notSynchronized (name_of_methodNamed B.named B.method).1 ⟨hP, hD0.self, va_S.rf⟩ hl
theorem KQ_of {l : Launch} {y : MethodName} {cd : Cond} {rm : Room} {av : List Tg} {M : Mm} {Qm : Option Nat → Mm → Prop} {cc : ByteArray} {maxL : Nat} {ret : Option FieldType} (hy : plainName y.cls = true) (hcd : cd = Cond.code y cc maxL ret) (hlen : (av.map ct).sum ≤ maxL)
    (body : ∀ (p : Program) (e : Env) (s : State) (m : MethodId) (args : Array Value) (below : List Frame) (meth : Method) (c : Code) (D : va_G) (cy : Nat → ClassId) (A : Nat → Prop) (ls : Array Slot), Ex p m c cc maxL s args y.cls D cy A → meth.sig.returnType = ret → meth.locks = false → meth.name = y.name → Wd D cy A s M s.heap [] → lh ls maxL (la 0 av) → W p l e rm s m args below meth c s.heap [] 0 0 (MQ below (va_Qq Qm (Po D cy A) A) args s rm.cells rm.slots A) (F0 m 0 ls [])) : KQ l y cd rm av M Qm := by
  intro D cy sz
  subst hcd
  refine Met.ofW (cc := cc) (maxL := maxL) (ret := ret) hy rfl ?_
  intro p e s m args below meth c s₁ B hml hv
  obtain ⟨rfl, hsz, hP, hV, hD0⟩ := hv
  subst hsz
  rw [lg_entry_eq]
  have hl := lv_entry (av.map tv) (n := maxL) (by rw [la_len]; exact hlen)
  rw [la_args] at hl
  have hts := atoms_spec (ws := Cond.code y cc maxL ret :: lwt) B.pre
  exact body p e s m _ below meth c D cy (va_A (wl cy M) s.heap.size) _ ⟨⟨B.exec, B.bytes, hml, findClass_of_methodNamed B.named, fun w h => hts w (List.mem_cons_of_mem _ h)⟩, hV, fun q h => Or.inr h⟩ B.returns B.notSynchronized (name_of_methodNamed B.named B.method).1 ⟨hP, hD0.self, va_S.rf⟩ hl
theorem r_callVi (E : Ex p m c cc nL s args own D cy A) (w : Wd D cy A s M H locs) {x : Option Nat} {b ci : Nat} {C : String} {T : u_T} {N : Nat} {ty : Nat → FieldType} {st : List Value} {y : MethodName} {cd : Cond} {bytes : ByteArray} {maxL n idx : Nat} {ret : Option FieldType} {rm : Room} {Qm : Int32 → Mm → Prop} (hxb : x = some b) (ho : ok M b ci) (K : Cls ci C T N ty) (Y : Yk y cd bytes maxL ret n) (hR : rm.frames + 1 ≤ R.frames ∧ 8 + (maxL + 11) + rm.locals ≤ R.locals) (hcs : cells + rm.cells ≤ R.cells ∧ slots + rm.slots ≤ R.slots) (hC : y.cls = C) (hlink : Cond.methodLink own idx y ∈ lwt) (hinst : Cond.instanceMethod y ∈ lwt) (hsel : Cond.selects C y y ∈ lwt) (av : List Tg) (hst : st = (av.map tv).reverse ++ va_rf x :: rest) (hn : av.length = n) {lv : List (Nat × Tg)} (hsz : lh ls nL lv) (rs : List Tg) (hrs : rest = rs.map tv) (hsum : (rs.map ct).sum ≤ 8) (k : KI l y cd rm (rv (some b) :: av) M Qm) (hd : decode cc pc = .ok (.invokevirtual idx, 3)) (kk : ∀ (r : Int32) (M' : Mm) (H' : Heap) (locs' : List Loc), Qm r M' → Wd D cy A s M' H' locs' → W p l e R s m args below meth c H' locs' (cells + rm.cells) (slots + rm.slots) Q (F0 m (pc + 3) ls (.int r :: rest))) : W p l e R s m args below meth c H locs cells slots Q (F0 m pc ls st) := by
  have hF : ∀ q, va_A (wl cy M) H.size q → A q := by
    intro q hq
    rcases hq with ⟨k, e9, h9⟩ | h9
    · exact w.2.1.2 k (q, e9) h9
    · exact E.2.2 q (Nat.le_trans w.2.2.1 h9)
  have hroom : 2 * (F0 m pc ls st).monitorRoom + (rest.map fun v => v.category).sum ≤ 8 := lv_room (by rw [hrs, tv_sum]; exact hsum)
  obtain ⟨rfl, hcd, hini, hdd⟩ := Y
  subst hxb
  obtain ⟨k0, hk0⟩ := wl_get (cy := cy) ho.1
  rw [en_o ho.2 K.2.2.2.2.1] at hk0
  have hini' : Cond.initialized C ∈ lwt := by rw [← hC]; exact hini
  have hG : GoodIn lwt (wsV own idx C y (Cond.code y bytes maxL ret :: lwt)) := lw_gi (fun w9 h9 => by
    unfold wsV at h9
    simp only [List.cons_append, List.nil_append, List.mem_cons] at h9
    rcases h9 with h | h | h | h | h | h
    · rw [h]; exact hlink
    · rw [h]; exact hinst
    · rw [h]; exact hsel
    · rw [h]; exact hini'
    · rw [h]; exact hcd
    · exact h)
  exact va_calli (va_runV (As := av.map tv) (rest := rest) (b := b) E.1 (k D cy H.size) (cwV n E.1.2.2.2.2 hG rfl rfl rfl ⟨hC, hdd⟩ hR) ⟨fun a U g mk q => by obtain ⟨q0, q1, qP, qK, qD⟩ := q; exact ⟨q0, q1, qP, qK.calling g mk a, qD⟩, va_recv E.2.1.1 w.1 K.1 hk0, fun U hU hW => ⟨rfl, by rw [hU], by rw [hU]; exact w.1, E.2.1.warm hW, w.2.1.weaken (fun _ _ _ _ => trivial)⟩⟩ rfl (by rw [List.length_map]; exact hn) hsz.1 hst hroom hd hcs) w.2.2 (fun q _ h => hF q h) hF (fun r u t H1 locs1 ht hvm hw hB hz1 hk1 hS => kk r u H1 locs1 hw ⟨by rw [← ht]; exact hB.1, hB.2.weaken (fun k q _ hq => hF q.1 hq), hS⟩)
theorem r_callSi (E : Ex p m c cc nL s args own D cy A) (w : Wd D cy A s M H locs) {st : List Value} {y : MethodName} {cd : Cond} {bytes : ByteArray} {maxL n idx : Nat} {ret : Option FieldType} {rm : Room} {Qm : Int32 → Mm → Prop} (Y : Yk y cd bytes maxL ret n) (hR : rm.frames + 1 ≤ R.frames ∧ 8 + (maxL + 11) + rm.locals ≤ R.locals) (hcs : cells + rm.cells ≤ R.cells ∧ slots + rm.slots ≤ R.slots) (hC : y.cls = own) (hlink : Cond.methodLink own idx y ∈ lwt) (hstat : Cond.static y ∈ lwt) (av : List Tg) (hst : st = (av.map tv).reverse ++ rest) (hn : av.length = n) {lv : List (Nat × Tg)} (hsz : lh ls nL lv) (rs : List Tg) (hrs : rest = rs.map tv) (hsum : (rs.map ct).sum ≤ 8) (k : KI l y cd rm av M Qm) (hd : decode cc pc = .ok (.invokestatic idx, 3)) (kk : ∀ (r : Int32) (M' : Mm) (H' : Heap) (locs' : List Loc), Qm r M' → Wd D cy A s M' H' locs' → W p l e R s m args below meth c H' locs' (cells + rm.cells) (slots + rm.slots) Q (F0 m (pc + 3) ls (.int r :: rest))) : W p l e R s m args below meth c H locs cells slots Q (F0 m pc ls st) := by
  have hF : ∀ q, va_A (wl cy M) H.size q → A q := by
    intro q hq
    rcases hq with ⟨k, e9, h9⟩ | h9
    · exact w.2.1.2 k (q, e9) h9
    · exact E.2.2 q (Nat.le_trans w.2.2.1 h9)
  have hroom : 2 * (F0 m pc ls st).monitorRoom + (rest.map fun v => v.category).sum ≤ 8 := lv_room (by rw [hrs, tv_sum]; exact hsum)
  obtain ⟨rfl, hcd, hini, hdd⟩ := Y
  have hini' : Cond.initialized own ∈ lwt := by rw [← hC]; exact hini
  have hG : GoodIn lwt (wsS own idx y (Cond.code y bytes maxL ret :: lwt)) := lw_gi (fun w9 h9 => by
    unfold wsS at h9
    simp only [List.cons_append, List.nil_append, List.mem_cons] at h9
    rcases h9 with h | h | h | h | h
    · rw [h]; exact hlink
    · rw [h]; exact hstat
    · rw [h]; exact hini'
    · rw [h]; exact hcd
    · exact h)
  exact va_calli (va_runS (As := av.map tv) (rest := rest) E.1 (k D cy H.size) (cwS n E.1.2.2.2.2 hG rfl rfl rfl ⟨hC, hdd⟩ hR) ⟨fun a U g mk q => by obtain ⟨q0, q1, qP, qK, qD⟩ := q; exact ⟨q0, q1, qP, qK.calling g mk a, qD⟩, fun U hU hW => ⟨rfl, by rw [hU], by rw [hU]; exact w.1, E.2.1.warm hW, w.2.1.weaken (fun _ _ _ _ => trivial)⟩⟩ rfl (by rw [List.length_map]; exact hn) hsz.1 hst hroom hd hcs) w.2.2 (fun q _ h => hF q h) hF (fun r u t H1 locs1 ht hvm hw hB hz1 hk1 hS => kk r u H1 locs1 hw ⟨by rw [← ht]; exact hB.1, hB.2.weaken (fun k q _ hq => hF q.1 hq), hS⟩)
theorem r_callTi (E : Ex p m c cc nL s args own D cy A) (w : Wd D cy A s M H locs) {st : List Value} {y : MethodName} {cd : Cond} {bytes : ByteArray} {maxL n idx : Nat} {ret : Option FieldType} {rm : Room} {Qm : Int32 → Mm → Prop} (Y : Yk y cd bytes maxL ret n) (hR : rm.frames + 1 ≤ R.frames ∧ 8 + (maxL + 11) + rm.locals ≤ R.locals) (hcs : cells + rm.cells ≤ R.cells ∧ slots + rm.slots ≤ R.slots) (hlink : Cond.methodLink own idx y ∈ lwt) (hstat : Cond.static y ∈ lwt) (av : List Tg) (hst : st = (av.map tv).reverse ++ rest) (hn : av.length = n) {lv : List (Nat × Tg)} (hsz : lh ls nL lv) (rs : List Tg) (hrs : rest = rs.map tv) (hsum : (rs.map ct).sum ≤ 8) (k : KI l y cd rm av M Qm) (hd : decode cc pc = .ok (.invokestatic idx, 3)) (kk : ∀ (r : Int32) (M' : Mm) (H' : Heap) (locs' : List Loc), Qm r M' → Wd D cy A s M' H' locs' → W p l e R s m args below meth c H' locs' (cells + rm.cells) (slots + rm.slots) Q (F0 m (pc + 3) ls (.int r :: rest))) : W p l e R s m args below meth c H locs cells slots Q (F0 m pc ls st) := by
  have hF : ∀ q, va_A (wl cy M) H.size q → A q := by
    intro q hq
    rcases hq with ⟨k, e9, h9⟩ | h9
    · exact w.2.1.2 k (q, e9) h9
    · exact E.2.2 q (Nat.le_trans w.2.2.1 h9)
  have hroom : 2 * (F0 m pc ls st).monitorRoom + (rest.map fun v => v.category).sum ≤ 8 := lv_room (by rw [hrs, tv_sum]; exact hsum)
  obtain ⟨rfl, hcd, hini, hdd⟩ := Y
  have hG : GoodIn lwt (Cond.code y bytes maxL ret :: lwt) := lw_gi (fun w9 h9 => by
    rcases List.mem_cons.mp h9 with h | h
    · rw [h]; exact hcd
    · exact h)
  exact va_calli (va_runS (As := av.map tv) (rest := rest) E.1 (k D cy H.size) ⟨callB_of n E.1.2.2.2.2 hG rfl rfl rfl (E.1.2.2.2.2 _ hini) (E.1.2.2.2.2 _ hlink) hdd hR, E.1.2.2.2.2 _ hstat⟩ ⟨fun a U g mk q => by obtain ⟨q0, q1, qP, qK, qD⟩ := q; exact ⟨q0, q1, qP, qK.calling g mk a, qD⟩, fun U hU hW => ⟨rfl, by rw [hU], by rw [hU]; exact w.1, E.2.1.warm hW, w.2.1.weaken (fun _ _ _ _ => trivial)⟩⟩ rfl (by rw [List.length_map]; exact hn) hsz.1 hst hroom hd hcs) w.2.2 (fun q _ h => hF q h) hF (fun r u t H1 locs1 ht hvm hw hB hz1 hk1 hS => kk r u H1 locs1 hw ⟨by rw [← ht]; exact hB.1, hB.2.weaken (fun k q _ hq => hF q.1 hq), hS⟩)
theorem r_callVl (E : Ex p m c cc nL s args own D cy A) (w : Wd D cy A s M H locs) {x : Option Nat} {b ci : Nat} {C : String} {T : u_T} {N : Nat} {ty : Nat → FieldType} {st : List Value} {y : MethodName} {cd : Cond} {bytes : ByteArray} {maxL n idx : Nat} {ret : Option FieldType} {rm : Room} {Qm : Int64 → Mm → Prop} (hxb : x = some b) (ho : ok M b ci) (K : Cls ci C T N ty) (Y : Yk y cd bytes maxL ret n) (hR : rm.frames + 1 ≤ R.frames ∧ 8 + (maxL + 11) + rm.locals ≤ R.locals) (hcs : cells + rm.cells ≤ R.cells ∧ slots + rm.slots ≤ R.slots) (hC : y.cls = C) (hlink : Cond.methodLink own idx y ∈ lwt) (hinst : Cond.instanceMethod y ∈ lwt) (hsel : Cond.selects C y y ∈ lwt) (av : List Tg) (hst : st = (av.map tv).reverse ++ va_rf x :: rest) (hn : av.length = n) {lv : List (Nat × Tg)} (hsz : lh ls nL lv) (rs : List Tg) (hrs : rest = rs.map tv) (hsum : (rs.map ct).sum ≤ 8) (k : KL l y cd rm (rv (some b) :: av) M Qm) (hd : decode cc pc = .ok (.invokevirtual idx, 3)) (kk : ∀ (r : Int64) (M' : Mm) (H' : Heap) (locs' : List Loc), Qm r M' → Wd D cy A s M' H' locs' → W p l e R s m args below meth c H' locs' (cells + rm.cells) (slots + rm.slots) Q (F0 m (pc + 3) ls (.long r :: rest))) : W p l e R s m args below meth c H locs cells slots Q (F0 m pc ls st) := by
  have hF : ∀ q, va_A (wl cy M) H.size q → A q := by
    intro q hq
    rcases hq with ⟨k, e9, h9⟩ | h9
    · exact w.2.1.2 k (q, e9) h9
    · exact E.2.2 q (Nat.le_trans w.2.2.1 h9)
  have hroom : 2 * (F0 m pc ls st).monitorRoom + (rest.map fun v => v.category).sum ≤ 8 := lv_room (by rw [hrs, tv_sum]; exact hsum)
  obtain ⟨rfl, hcd, hini, hdd⟩ := Y
  subst hxb
  obtain ⟨k0, hk0⟩ := wl_get (cy := cy) ho.1
  rw [en_o ho.2 K.2.2.2.2.1] at hk0
  have hini' : Cond.initialized C ∈ lwt := by rw [← hC]; exact hini
  have hG : GoodIn lwt (wsV own idx C y (Cond.code y bytes maxL ret :: lwt)) := lw_gi (fun w9 h9 => by
    unfold wsV at h9
    simp only [List.cons_append, List.nil_append, List.mem_cons] at h9
    rcases h9 with h | h | h | h | h | h
    · rw [h]; exact hlink
    · rw [h]; exact hinst
    · rw [h]; exact hsel
    · rw [h]; exact hini'
    · rw [h]; exact hcd
    · exact h)
  exact va_calll (va_runV (As := av.map tv) (rest := rest) (b := b) E.1 (k D cy H.size) (cwV n E.1.2.2.2.2 hG rfl rfl rfl ⟨hC, hdd⟩ hR) ⟨fun a U g mk q => by obtain ⟨q0, q1, qP, qK, qD⟩ := q; exact ⟨q0, q1, qP, qK.calling g mk a, qD⟩, va_recv E.2.1.1 w.1 K.1 hk0, fun U hU hW => ⟨rfl, by rw [hU], by rw [hU]; exact w.1, E.2.1.warm hW, w.2.1.weaken (fun _ _ _ _ => trivial)⟩⟩ rfl (by rw [List.length_map]; exact hn) hsz.1 hst hroom hd hcs) w.2.2 (fun q _ h => hF q h) hF (fun r u t H1 locs1 ht hvm hw hB hz1 hk1 hS => kk r u H1 locs1 hw ⟨by rw [← ht]; exact hB.1, hB.2.weaken (fun k q _ hq => hF q.1 hq), hS⟩)
theorem r_callSl (E : Ex p m c cc nL s args own D cy A) (w : Wd D cy A s M H locs) {st : List Value} {y : MethodName} {cd : Cond} {bytes : ByteArray} {maxL n idx : Nat} {ret : Option FieldType} {rm : Room} {Qm : Int64 → Mm → Prop} (Y : Yk y cd bytes maxL ret n) (hR : rm.frames + 1 ≤ R.frames ∧ 8 + (maxL + 11) + rm.locals ≤ R.locals) (hcs : cells + rm.cells ≤ R.cells ∧ slots + rm.slots ≤ R.slots) (hC : y.cls = own) (hlink : Cond.methodLink own idx y ∈ lwt) (hstat : Cond.static y ∈ lwt) (av : List Tg) (hst : st = (av.map tv).reverse ++ rest) (hn : av.length = n) {lv : List (Nat × Tg)} (hsz : lh ls nL lv) (rs : List Tg) (hrs : rest = rs.map tv) (hsum : (rs.map ct).sum ≤ 8) (k : KL l y cd rm av M Qm) (hd : decode cc pc = .ok (.invokestatic idx, 3)) (kk : ∀ (r : Int64) (M' : Mm) (H' : Heap) (locs' : List Loc), Qm r M' → Wd D cy A s M' H' locs' → W p l e R s m args below meth c H' locs' (cells + rm.cells) (slots + rm.slots) Q (F0 m (pc + 3) ls (.long r :: rest))) : W p l e R s m args below meth c H locs cells slots Q (F0 m pc ls st) := by
  have hF : ∀ q, va_A (wl cy M) H.size q → A q := by
    intro q hq
    rcases hq with ⟨k, e9, h9⟩ | h9
    · exact w.2.1.2 k (q, e9) h9
    · exact E.2.2 q (Nat.le_trans w.2.2.1 h9)
  have hroom : 2 * (F0 m pc ls st).monitorRoom + (rest.map fun v => v.category).sum ≤ 8 := lv_room (by rw [hrs, tv_sum]; exact hsum)
  obtain ⟨rfl, hcd, hini, hdd⟩ := Y
  have hini' : Cond.initialized own ∈ lwt := by rw [← hC]; exact hini
  have hG : GoodIn lwt (wsS own idx y (Cond.code y bytes maxL ret :: lwt)) := lw_gi (fun w9 h9 => by
    unfold wsS at h9
    simp only [List.cons_append, List.nil_append, List.mem_cons] at h9
    rcases h9 with h | h | h | h | h
    · rw [h]; exact hlink
    · rw [h]; exact hstat
    · rw [h]; exact hini'
    · rw [h]; exact hcd
    · exact h)
  exact va_calll (va_runS (As := av.map tv) (rest := rest) E.1 (k D cy H.size) (cwS n E.1.2.2.2.2 hG rfl rfl rfl ⟨hC, hdd⟩ hR) ⟨fun a U g mk q => by obtain ⟨q0, q1, qP, qK, qD⟩ := q; exact ⟨q0, q1, qP, qK.calling g mk a, qD⟩, fun U hU hW => ⟨rfl, by rw [hU], by rw [hU]; exact w.1, E.2.1.warm hW, w.2.1.weaken (fun _ _ _ _ => trivial)⟩⟩ rfl (by rw [List.length_map]; exact hn) hsz.1 hst hroom hd hcs) w.2.2 (fun q _ h => hF q h) hF (fun r u t H1 locs1 ht hvm hw hB hz1 hk1 hS => kk r u H1 locs1 hw ⟨by rw [← ht]; exact hB.1, hB.2.weaken (fun k q _ hq => hF q.1 hq), hS⟩)
theorem r_callTl (E : Ex p m c cc nL s args own D cy A) (w : Wd D cy A s M H locs) {st : List Value} {y : MethodName} {cd : Cond} {bytes : ByteArray} {maxL n idx : Nat} {ret : Option FieldType} {rm : Room} {Qm : Int64 → Mm → Prop} (Y : Yk y cd bytes maxL ret n) (hR : rm.frames + 1 ≤ R.frames ∧ 8 + (maxL + 11) + rm.locals ≤ R.locals) (hcs : cells + rm.cells ≤ R.cells ∧ slots + rm.slots ≤ R.slots) (hlink : Cond.methodLink own idx y ∈ lwt) (hstat : Cond.static y ∈ lwt) (av : List Tg) (hst : st = (av.map tv).reverse ++ rest) (hn : av.length = n) {lv : List (Nat × Tg)} (hsz : lh ls nL lv) (rs : List Tg) (hrs : rest = rs.map tv) (hsum : (rs.map ct).sum ≤ 8) (k : KL l y cd rm av M Qm) (hd : decode cc pc = .ok (.invokestatic idx, 3)) (kk : ∀ (r : Int64) (M' : Mm) (H' : Heap) (locs' : List Loc), Qm r M' → Wd D cy A s M' H' locs' → W p l e R s m args below meth c H' locs' (cells + rm.cells) (slots + rm.slots) Q (F0 m (pc + 3) ls (.long r :: rest))) : W p l e R s m args below meth c H locs cells slots Q (F0 m pc ls st) := by
  have hF : ∀ q, va_A (wl cy M) H.size q → A q := by
    intro q hq
    rcases hq with ⟨k, e9, h9⟩ | h9
    · exact w.2.1.2 k (q, e9) h9
    · exact E.2.2 q (Nat.le_trans w.2.2.1 h9)
  have hroom : 2 * (F0 m pc ls st).monitorRoom + (rest.map fun v => v.category).sum ≤ 8 := lv_room (by rw [hrs, tv_sum]; exact hsum)
  obtain ⟨rfl, hcd, hini, hdd⟩ := Y
  have hG : GoodIn lwt (Cond.code y bytes maxL ret :: lwt) := lw_gi (fun w9 h9 => by
    rcases List.mem_cons.mp h9 with h | h
    · rw [h]; exact hcd
    · exact h)
  exact va_calll (va_runS (As := av.map tv) (rest := rest) E.1 (k D cy H.size) ⟨callB_of n E.1.2.2.2.2 hG rfl rfl rfl (E.1.2.2.2.2 _ hini) (E.1.2.2.2.2 _ hlink) hdd hR, E.1.2.2.2.2 _ hstat⟩ ⟨fun a U g mk q => by obtain ⟨q0, q1, qP, qK, qD⟩ := q; exact ⟨q0, q1, qP, qK.calling g mk a, qD⟩, fun U hU hW => ⟨rfl, by rw [hU], by rw [hU]; exact w.1, E.2.1.warm hW, w.2.1.weaken (fun _ _ _ _ => trivial)⟩⟩ rfl (by rw [List.length_map]; exact hn) hsz.1 hst hroom hd hcs) w.2.2 (fun q _ h => hF q h) hF (fun r u t H1 locs1 ht hvm hw hB hz1 hk1 hS => kk r u H1 locs1 hw ⟨by rw [← ht]; exact hB.1, hB.2.weaken (fun k q _ hq => hF q.1 hq), hS⟩)
theorem r_callVv (E : Ex p m c cc nL s args own D cy A) (w : Wd D cy A s M H locs) {x : Option Nat} {b ci : Nat} {C : String} {T : u_T} {N : Nat} {ty : Nat → FieldType} {st : List Value} {y : MethodName} {cd : Cond} {bytes : ByteArray} {maxL n idx : Nat} {ret : Option FieldType} {rm : Room} {Qm : Mm → Prop} (hxb : x = some b) (ho : ok M b ci) (K : Cls ci C T N ty) (Y : Yk y cd bytes maxL ret n) (hR : rm.frames + 1 ≤ R.frames ∧ 8 + (maxL + 11) + rm.locals ≤ R.locals) (hcs : cells + rm.cells ≤ R.cells ∧ slots + rm.slots ≤ R.slots) (hC : y.cls = C) (hlink : Cond.methodLink own idx y ∈ lwt) (hinst : Cond.instanceMethod y ∈ lwt) (hsel : Cond.selects C y y ∈ lwt) (av : List Tg) (hst : st = (av.map tv).reverse ++ va_rf x :: rest) (hn : av.length = n) {lv : List (Nat × Tg)} (hsz : lh ls nL lv) (rs : List Tg) (hrs : rest = rs.map tv) (hsum : (rs.map ct).sum ≤ 8) (k : KV l y cd rm (rv (some b) :: av) M Qm) (hd : decode cc pc = .ok (.invokevirtual idx, 3)) (kk : ∀ (M' : Mm) (H' : Heap) (locs' : List Loc), Qm  M' → Wd D cy A s M' H' locs' → W p l e R s m args below meth c H' locs' (cells + rm.cells) (slots + rm.slots) Q (F0 m (pc + 3) ls (rest))) : W p l e R s m args below meth c H locs cells slots Q (F0 m pc ls st) := by
  have hF : ∀ q, va_A (wl cy M) H.size q → A q := by
    intro q hq
    rcases hq with ⟨k, e9, h9⟩ | h9
    · exact w.2.1.2 k (q, e9) h9
    · exact E.2.2 q (Nat.le_trans w.2.2.1 h9)
  have hroom : 2 * (F0 m pc ls st).monitorRoom + (rest.map fun v => v.category).sum ≤ 8 := lv_room (by rw [hrs, tv_sum]; exact hsum)
  obtain ⟨rfl, hcd, hini, hdd⟩ := Y
  subst hxb
  obtain ⟨k0, hk0⟩ := wl_get (cy := cy) ho.1
  rw [en_o ho.2 K.2.2.2.2.1] at hk0
  have hini' : Cond.initialized C ∈ lwt := by rw [← hC]; exact hini
  have hG : GoodIn lwt (wsV own idx C y (Cond.code y bytes maxL ret :: lwt)) := lw_gi (fun w9 h9 => by
    unfold wsV at h9
    simp only [List.cons_append, List.nil_append, List.mem_cons] at h9
    rcases h9 with h | h | h | h | h | h
    · rw [h]; exact hlink
    · rw [h]; exact hinst
    · rw [h]; exact hsel
    · rw [h]; exact hini'
    · rw [h]; exact hcd
    · exact h)
  exact va_callv (va_runV (As := av.map tv) (rest := rest) (b := b) E.1 (k D cy H.size) (cwV n E.1.2.2.2.2 hG rfl rfl rfl ⟨hC, hdd⟩ hR) ⟨fun a U g mk q => by obtain ⟨q0, q1, qP, qK, qD⟩ := q; exact ⟨q0, q1, qP, qK.calling g mk a, qD⟩, va_recv E.2.1.1 w.1 K.1 hk0, fun U hU hW => ⟨rfl, by rw [hU], by rw [hU]; exact w.1, E.2.1.warm hW, w.2.1.weaken (fun _ _ _ _ => trivial)⟩⟩ rfl (by rw [List.length_map]; exact hn) hsz.1 hst hroom hd hcs) w.2.2 (fun q _ h => hF q h) hF (fun u t H1 locs1 ht hvm hw hB hz1 hk1 hS => kk u H1 locs1 hw ⟨by rw [← ht]; exact hB.1, hB.2.weaken (fun k q _ hq => hF q.1 hq), hS⟩)
theorem r_callSv (E : Ex p m c cc nL s args own D cy A) (w : Wd D cy A s M H locs) {st : List Value} {y : MethodName} {cd : Cond} {bytes : ByteArray} {maxL n idx : Nat} {ret : Option FieldType} {rm : Room} {Qm : Mm → Prop} (Y : Yk y cd bytes maxL ret n) (hR : rm.frames + 1 ≤ R.frames ∧ 8 + (maxL + 11) + rm.locals ≤ R.locals) (hcs : cells + rm.cells ≤ R.cells ∧ slots + rm.slots ≤ R.slots) (hC : y.cls = own) (hlink : Cond.methodLink own idx y ∈ lwt) (hstat : Cond.static y ∈ lwt) (av : List Tg) (hst : st = (av.map tv).reverse ++ rest) (hn : av.length = n) {lv : List (Nat × Tg)} (hsz : lh ls nL lv) (rs : List Tg) (hrs : rest = rs.map tv) (hsum : (rs.map ct).sum ≤ 8) (k : KV l y cd rm av M Qm) (hd : decode cc pc = .ok (.invokestatic idx, 3)) (kk : ∀ (M' : Mm) (H' : Heap) (locs' : List Loc), Qm  M' → Wd D cy A s M' H' locs' → W p l e R s m args below meth c H' locs' (cells + rm.cells) (slots + rm.slots) Q (F0 m (pc + 3) ls (rest))) : W p l e R s m args below meth c H locs cells slots Q (F0 m pc ls st) := by
  have hF : ∀ q, va_A (wl cy M) H.size q → A q := by
    intro q hq
    rcases hq with ⟨k, e9, h9⟩ | h9
    · exact w.2.1.2 k (q, e9) h9
    · exact E.2.2 q (Nat.le_trans w.2.2.1 h9)
  have hroom : 2 * (F0 m pc ls st).monitorRoom + (rest.map fun v => v.category).sum ≤ 8 := lv_room (by rw [hrs, tv_sum]; exact hsum)
  obtain ⟨rfl, hcd, hini, hdd⟩ := Y
  have hini' : Cond.initialized own ∈ lwt := by rw [← hC]; exact hini
  have hG : GoodIn lwt (wsS own idx y (Cond.code y bytes maxL ret :: lwt)) := lw_gi (fun w9 h9 => by
    unfold wsS at h9
    simp only [List.cons_append, List.nil_append, List.mem_cons] at h9
    rcases h9 with h | h | h | h | h
    · rw [h]; exact hlink
    · rw [h]; exact hstat
    · rw [h]; exact hini'
    · rw [h]; exact hcd
    · exact h)
  exact va_callv (va_runS (As := av.map tv) (rest := rest) E.1 (k D cy H.size) (cwS n E.1.2.2.2.2 hG rfl rfl rfl ⟨hC, hdd⟩ hR) ⟨fun a U g mk q => by obtain ⟨q0, q1, qP, qK, qD⟩ := q; exact ⟨q0, q1, qP, qK.calling g mk a, qD⟩, fun U hU hW => ⟨rfl, by rw [hU], by rw [hU]; exact w.1, E.2.1.warm hW, w.2.1.weaken (fun _ _ _ _ => trivial)⟩⟩ rfl (by rw [List.length_map]; exact hn) hsz.1 hst hroom hd hcs) w.2.2 (fun q _ h => hF q h) hF (fun u t H1 locs1 ht hvm hw hB hz1 hk1 hS => kk u H1 locs1 hw ⟨by rw [← ht]; exact hB.1, hB.2.weaken (fun k q _ hq => hF q.1 hq), hS⟩)
theorem r_callTv (E : Ex p m c cc nL s args own D cy A) (w : Wd D cy A s M H locs) {st : List Value} {y : MethodName} {cd : Cond} {bytes : ByteArray} {maxL n idx : Nat} {ret : Option FieldType} {rm : Room} {Qm : Mm → Prop} (Y : Yk y cd bytes maxL ret n) (hR : rm.frames + 1 ≤ R.frames ∧ 8 + (maxL + 11) + rm.locals ≤ R.locals) (hcs : cells + rm.cells ≤ R.cells ∧ slots + rm.slots ≤ R.slots) (hlink : Cond.methodLink own idx y ∈ lwt) (hstat : Cond.static y ∈ lwt) (av : List Tg) (hst : st = (av.map tv).reverse ++ rest) (hn : av.length = n) {lv : List (Nat × Tg)} (hsz : lh ls nL lv) (rs : List Tg) (hrs : rest = rs.map tv) (hsum : (rs.map ct).sum ≤ 8) (k : KV l y cd rm av M Qm) (hd : decode cc pc = .ok (.invokestatic idx, 3)) (kk : ∀ (M' : Mm) (H' : Heap) (locs' : List Loc), Qm  M' → Wd D cy A s M' H' locs' → W p l e R s m args below meth c H' locs' (cells + rm.cells) (slots + rm.slots) Q (F0 m (pc + 3) ls (rest))) : W p l e R s m args below meth c H locs cells slots Q (F0 m pc ls st) := by
  have hF : ∀ q, va_A (wl cy M) H.size q → A q := by
    intro q hq
    rcases hq with ⟨k, e9, h9⟩ | h9
    · exact w.2.1.2 k (q, e9) h9
    · exact E.2.2 q (Nat.le_trans w.2.2.1 h9)
  have hroom : 2 * (F0 m pc ls st).monitorRoom + (rest.map fun v => v.category).sum ≤ 8 := lv_room (by rw [hrs, tv_sum]; exact hsum)
  obtain ⟨rfl, hcd, hini, hdd⟩ := Y
  have hG : GoodIn lwt (Cond.code y bytes maxL ret :: lwt) := lw_gi (fun w9 h9 => by
    rcases List.mem_cons.mp h9 with h | h
    · rw [h]; exact hcd
    · exact h)
  exact va_callv (va_runS (As := av.map tv) (rest := rest) E.1 (k D cy H.size) ⟨callB_of n E.1.2.2.2.2 hG rfl rfl rfl (E.1.2.2.2.2 _ hini) (E.1.2.2.2.2 _ hlink) hdd hR, E.1.2.2.2.2 _ hstat⟩ ⟨fun a U g mk q => by obtain ⟨q0, q1, qP, qK, qD⟩ := q; exact ⟨q0, q1, qP, qK.calling g mk a, qD⟩, fun U hU hW => ⟨rfl, by rw [hU], by rw [hU]; exact w.1, E.2.1.warm hW, w.2.1.weaken (fun _ _ _ _ => trivial)⟩⟩ rfl (by rw [List.length_map]; exact hn) hsz.1 hst hroom hd hcs) w.2.2 (fun q _ h => hF q h) hF (fun u t H1 locs1 ht hvm hw hB hz1 hk1 hS => kk u H1 locs1 hw ⟨by rw [← ht]; exact hB.1, hB.2.weaken (fun k q _ hq => hF q.1 hq), hS⟩)
theorem r_callI (E : Ex p m c cc nL s args own D cy A) (w : Wd D cy A s M H locs) {x : Option Nat} {b : Nat} {st : List Value} {y : MethodName} {cd : Cond} {bytes : ByteArray} {maxL n idx : Nat} {rm : Room} {Qm : Mm → Prop} (hxb : x = some b) (Y : Yk y cd bytes maxL none n) (hR : rm.frames + 1 ≤ R.frames ∧ 8 + (maxL + 11) + rm.locals ≤ R.locals) (hcs : cells + rm.cells ≤ R.cells ∧ slots + rm.slots ≤ R.slots) (hname : y.name = "<init>") (hlink : Cond.methodLink own idx y ∈ lwt) (hinst : Cond.instanceMethod y ∈ lwt) (av : List Tg) (hst : st = (av.map tv).reverse ++ va_rf x :: rest) (hn : av.length = n) {lv : List (Nat × Tg)} (hsz : lh ls nL lv) (rs : List Tg) (hrs : rest = rs.map tv) (hsum : (rs.map ct).sum ≤ 8) (k : KV l y cd rm (rv (some b) :: av) M Qm) (hd : decode cc pc = .ok (.invokespecial idx, 3)) (kk : ∀ (M' : Mm) (H' : Heap) (locs' : List Loc), Qm  M' → Wd D cy A s M' H' locs' → W p l e R s m args below meth c H' locs' (cells + rm.cells) (slots + rm.slots) Q (F0 m (pc + 3) ls (rest))) : W p l e R s m args below meth c H locs cells slots Q (F0 m pc ls st) := by
  have hF : ∀ q, va_A (wl cy M) H.size q → A q := by
    intro q hq
    rcases hq with ⟨k, e9, h9⟩ | h9
    · exact w.2.1.2 k (q, e9) h9
    · exact E.2.2 q (Nat.le_trans w.2.2.1 h9)
  have hroom : 2 * (F0 m pc ls st).monitorRoom + (rest.map fun v => v.category).sum ≤ 8 := lv_room (by rw [hrs, tv_sum]; exact hsum)
  obtain ⟨rfl, hcd, hini, hdd⟩ := Y
  subst hxb
  have hG : GoodIn lwt (Cond.code y bytes maxL none :: lwt) := lw_gi (fun w9 h9 => by
    rcases List.mem_cons.mp h9 with h | h
    · rw [h]; exact hcd
    · exact h)
  exact va_callv (va_runI (As := av.map tv) (rest := rest) (b := b) E.1 (k D cy H.size) (cwI n E.1.2.2.2.2 hG rfl rfl rfl (E.1.2.2.2.2 _ hini) (E.1.2.2.2.2 _ hlink) (E.1.2.2.2.2 _ hinst) hname hdd hR) ⟨fun a U g mk q => by obtain ⟨q0, q1, qP, qK, qD⟩ := q; exact ⟨q0, q1, qP, qK.calling g mk a, qD⟩, fun U hU hW => ⟨rfl, by rw [hU], by rw [hU]; exact w.1, E.2.1.warm hW, w.2.1.weaken (fun _ _ _ _ => trivial)⟩⟩ rfl (by rw [List.length_map]; exact hn) hsz.1 hst hroom hd hcs) w.2.2 (fun q _ h => hF q h) hF (fun u t H1 locs1 ht hvm hw hB hz1 hk1 hS => kk u H1 locs1 hw ⟨by rw [← ht]; exact hB.1, hB.2.weaken (fun k q _ hq => hF q.1 hq), hS⟩)
theorem r_callIN (E : Ex p m c cc nL s args own D cy A) (w : Wd D cy A s M H locs) {x : Option Nat} {b : Nat} {host : String} {st : List Value} {y : MethodName} {cd : Cond} {bytes : ByteArray} {maxL n idx : Nat} {rm : Room} {Qm : Mm → Prop} (hxb : x = some b) (Y : Yk y cd bytes maxL none n) (hR : rm.frames + 1 ≤ R.frames ∧ 8 + (maxL + 11) + rm.locals ≤ R.locals) (hcs : cells + rm.cells ≤ R.cells ∧ slots + rm.slots ≤ R.slots) (hname : y.name = "<init>") (hlink : va_Nw (.methodLinkNest own idx y host) s) (hinst : Cond.instanceMethod y ∈ lwt) (av : List Tg) (hst : st = (av.map tv).reverse ++ va_rf x :: rest) (hn : av.length = n) {lv : List (Nat × Tg)} (hsz : lh ls nL lv) (rs : List Tg) (hrs : rest = rs.map tv) (hsum : (rs.map ct).sum ≤ 8) (k : KV l y cd rm (rv (some b) :: av) M Qm) (hd : decode cc pc = .ok (.invokespecial idx, 3)) (kk : ∀ (M' : Mm) (H' : Heap) (locs' : List Loc), Qm  M' → Wd D cy A s M' H' locs' → W p l e R s m args below meth c H' locs' (cells + rm.cells) (slots + rm.slots) Q (F0 m (pc + 3) ls (rest))) : W p l e R s m args below meth c H locs cells slots Q (F0 m pc ls st) := by
  have hF : ∀ q, va_A (wl cy M) H.size q → A q := by
    intro q hq
    rcases hq with ⟨k, e9, h9⟩ | h9
    · exact w.2.1.2 k (q, e9) h9
    · exact E.2.2 q (Nat.le_trans w.2.2.1 h9)
  have hroom : 2 * (F0 m pc ls st).monitorRoom + (rest.map fun v => v.category).sum ≤ 8 := lv_room (by rw [hrs, tv_sum]; exact hsum)
  obtain ⟨rfl, hcd, hini, hdd⟩ := Y
  subst hxb
  have hG : GoodIn lwt (Cond.code y bytes maxL none :: lwt) := lw_gi (fun w9 h9 => by
    rcases List.mem_cons.mp h9 with h | h
    · rw [h]; exact hcd
    · exact h)
  exact va_callv (va_runIN (As := av.map tv) (rest := rest) (b := b) E.1 (k D cy H.size) ⟨va_cnB n E.1.2.2.2.2 hG rfl rfl rfl hlink (E.1.2.2.2.2 _ hini) hdd hR, hname, E.1.2.2.2.2 _ hinst⟩ ⟨fun a U g mk q => by obtain ⟨q0, q1, qP, qK, qD⟩ := q; exact ⟨q0, q1, qP, qK.calling g mk a, qD⟩, fun U hU hW => ⟨rfl, by rw [hU], by rw [hU]; exact w.1, E.2.1.warm hW, w.2.1.weaken (fun _ _ _ _ => trivial)⟩⟩ rfl (by rw [List.length_map]; exact hn) hsz.1 hst hroom hd hcs) w.2.2 (fun q _ h => hF q h) hF (fun u t H1 locs1 ht hvm hw hB hz1 hk1 hS => kk u H1 locs1 hw ⟨by rw [← ht]; exact hB.1, hB.2.weaken (fun k q _ hq => hF q.1 hq), hS⟩)
theorem r_callVq (E : Ex p m c cc nL s args own D cy A) (w : Wd D cy A s M H locs) {x : Option Nat} {b ci : Nat} {C : String} {T : u_T} {N : Nat} {ty : Nat → FieldType} {st : List Value} {y : MethodName} {cd : Cond} {bytes : ByteArray} {maxL n idx : Nat} {ret : Option FieldType} {rm : Room} {Qm : Option Nat → Mm → Prop} (hxb : x = some b) (ho : ok M b ci) (K : Cls ci C T N ty) (Y : Yk y cd bytes maxL ret n) (hR : rm.frames + 1 ≤ R.frames ∧ 8 + (maxL + 11) + rm.locals ≤ R.locals) (hcs : cells + rm.cells ≤ R.cells ∧ slots + rm.slots ≤ R.slots) (hC : y.cls = C) (hlink : Cond.methodLink own idx y ∈ lwt) (hinst : Cond.instanceMethod y ∈ lwt) (hsel : Cond.selects C y y ∈ lwt) (av : List Tg) (hst : st = (av.map tv).reverse ++ va_rf x :: rest) (hn : av.length = n) {lv : List (Nat × Tg)} (hsz : lh ls nL lv) (rs : List Tg) (hrs : rest = rs.map tv) (hsum : (rs.map ct).sum ≤ 8) (k : KQ l y cd rm (rv (some b) :: av) M Qm) (hd : decode cc pc = .ok (.invokevirtual idx, 3)) (kk : ∀ (r : Option Nat) (M' : Mm) (H' : Heap) (locs' : List Loc), Qm r M' → Wd D cy A s M' H' locs' → W p l e R s m args below meth c H' locs' (cells + rm.cells) (slots + rm.slots) Q (F0 m (pc + 3) ls (va_rf r :: rest))) : W p l e R s m args below meth c H locs cells slots Q (F0 m pc ls st) := by
  have hF : ∀ q, va_A (wl cy M) H.size q → A q := by
    intro q hq
    rcases hq with ⟨k, e9, h9⟩ | h9
    · exact w.2.1.2 k (q, e9) h9
    · exact E.2.2 q (Nat.le_trans w.2.2.1 h9)
  have hroom : 2 * (F0 m pc ls st).monitorRoom + (rest.map fun v => v.category).sum ≤ 8 := lv_room (by rw [hrs, tv_sum]; exact hsum)
  obtain ⟨rfl, hcd, hini, hdd⟩ := Y
  subst hxb
  obtain ⟨k0, hk0⟩ := wl_get (cy := cy) ho.1
  rw [en_o ho.2 K.2.2.2.2.1] at hk0
  have hini' : Cond.initialized C ∈ lwt := by rw [← hC]; exact hini
  have hG : GoodIn lwt (wsV own idx C y (Cond.code y bytes maxL ret :: lwt)) := lw_gi (fun w9 h9 => by
    unfold wsV at h9
    simp only [List.cons_append, List.nil_append, List.mem_cons] at h9
    rcases h9 with h | h | h | h | h | h
    · rw [h]; exact hlink
    · rw [h]; exact hinst
    · rw [h]; exact hsel
    · rw [h]; exact hini'
    · rw [h]; exact hcd
    · exact h)
  exact va_callq (va_runV (As := av.map tv) (rest := rest) (b := b) E.1 (k D cy H.size) (cwV n E.1.2.2.2.2 hG rfl rfl rfl ⟨hC, hdd⟩ hR) ⟨fun a U g mk q => by obtain ⟨q0, q1, qP, qK, qD⟩ := q; exact ⟨q0, q1, qP, qK.calling g mk a, qD⟩, va_recv E.2.1.1 w.1 K.1 hk0, fun U hU hW => ⟨rfl, by rw [hU], by rw [hU]; exact w.1, E.2.1.warm hW, w.2.1.weaken (fun _ _ _ _ => trivial)⟩⟩ rfl (by rw [List.length_map]; exact hn) hsz.1 hst hroom hd hcs) w.2.2 (fun q _ h => hF q h) hF (fun r u t H1 locs1 ht hvm hw hB hz1 hk1 hS => kk r u H1 locs1 hw ⟨by rw [← ht]; exact hB.1, hB.2.weaken (fun k q _ hq => hF q.1 hq), hS⟩)
theorem r_callSq (E : Ex p m c cc nL s args own D cy A) (w : Wd D cy A s M H locs) {st : List Value} {y : MethodName} {cd : Cond} {bytes : ByteArray} {maxL n idx : Nat} {ret : Option FieldType} {rm : Room} {Qm : Option Nat → Mm → Prop} (Y : Yk y cd bytes maxL ret n) (hR : rm.frames + 1 ≤ R.frames ∧ 8 + (maxL + 11) + rm.locals ≤ R.locals) (hcs : cells + rm.cells ≤ R.cells ∧ slots + rm.slots ≤ R.slots) (hC : y.cls = own) (hlink : Cond.methodLink own idx y ∈ lwt) (hstat : Cond.static y ∈ lwt) (av : List Tg) (hst : st = (av.map tv).reverse ++ rest) (hn : av.length = n) {lv : List (Nat × Tg)} (hsz : lh ls nL lv) (rs : List Tg) (hrs : rest = rs.map tv) (hsum : (rs.map ct).sum ≤ 8) (k : KQ l y cd rm av M Qm) (hd : decode cc pc = .ok (.invokestatic idx, 3)) (kk : ∀ (r : Option Nat) (M' : Mm) (H' : Heap) (locs' : List Loc), Qm r M' → Wd D cy A s M' H' locs' → W p l e R s m args below meth c H' locs' (cells + rm.cells) (slots + rm.slots) Q (F0 m (pc + 3) ls (va_rf r :: rest))) : W p l e R s m args below meth c H locs cells slots Q (F0 m pc ls st) := by
  have hF : ∀ q, va_A (wl cy M) H.size q → A q := by
    intro q hq
    rcases hq with ⟨k, e9, h9⟩ | h9
    · exact w.2.1.2 k (q, e9) h9
    · exact E.2.2 q (Nat.le_trans w.2.2.1 h9)
  have hroom : 2 * (F0 m pc ls st).monitorRoom + (rest.map fun v => v.category).sum ≤ 8 := lv_room (by rw [hrs, tv_sum]; exact hsum)
  obtain ⟨rfl, hcd, hini, hdd⟩ := Y
  have hini' : Cond.initialized own ∈ lwt := by rw [← hC]; exact hini
  have hG : GoodIn lwt (wsS own idx y (Cond.code y bytes maxL ret :: lwt)) := lw_gi (fun w9 h9 => by
    unfold wsS at h9
    simp only [List.cons_append, List.nil_append, List.mem_cons] at h9
    rcases h9 with h | h | h | h | h
    · rw [h]; exact hlink
    · rw [h]; exact hstat
    · rw [h]; exact hini'
    · rw [h]; exact hcd
    · exact h)
  exact va_callq (va_runS (As := av.map tv) (rest := rest) E.1 (k D cy H.size) (cwS n E.1.2.2.2.2 hG rfl rfl rfl ⟨hC, hdd⟩ hR) ⟨fun a U g mk q => by obtain ⟨q0, q1, qP, qK, qD⟩ := q; exact ⟨q0, q1, qP, qK.calling g mk a, qD⟩, fun U hU hW => ⟨rfl, by rw [hU], by rw [hU]; exact w.1, E.2.1.warm hW, w.2.1.weaken (fun _ _ _ _ => trivial)⟩⟩ rfl (by rw [List.length_map]; exact hn) hsz.1 hst hroom hd hcs) w.2.2 (fun q _ h => hF q h) hF (fun r u t H1 locs1 ht hvm hw hB hz1 hk1 hS => kk r u H1 locs1 hw ⟨by rw [← ht]; exact hB.1, hB.2.weaken (fun k q _ hq => hF q.1 hq), hS⟩)
theorem r_callTq (E : Ex p m c cc nL s args own D cy A) (w : Wd D cy A s M H locs) {st : List Value} {y : MethodName} {cd : Cond} {bytes : ByteArray} {maxL n idx : Nat} {ret : Option FieldType} {rm : Room} {Qm : Option Nat → Mm → Prop} (Y : Yk y cd bytes maxL ret n) (hR : rm.frames + 1 ≤ R.frames ∧ 8 + (maxL + 11) + rm.locals ≤ R.locals) (hcs : cells + rm.cells ≤ R.cells ∧ slots + rm.slots ≤ R.slots) (hlink : Cond.methodLink own idx y ∈ lwt) (hstat : Cond.static y ∈ lwt) (av : List Tg) (hst : st = (av.map tv).reverse ++ rest) (hn : av.length = n) {lv : List (Nat × Tg)} (hsz : lh ls nL lv) (rs : List Tg) (hrs : rest = rs.map tv) (hsum : (rs.map ct).sum ≤ 8) (k : KQ l y cd rm av M Qm) (hd : decode cc pc = .ok (.invokestatic idx, 3)) (kk : ∀ (r : Option Nat) (M' : Mm) (H' : Heap) (locs' : List Loc), Qm r M' → Wd D cy A s M' H' locs' → W p l e R s m args below meth c H' locs' (cells + rm.cells) (slots + rm.slots) Q (F0 m (pc + 3) ls (va_rf r :: rest))) : W p l e R s m args below meth c H locs cells slots Q (F0 m pc ls st) := by
  have hF : ∀ q, va_A (wl cy M) H.size q → A q := by
    intro q hq
    rcases hq with ⟨k, e9, h9⟩ | h9
    · exact w.2.1.2 k (q, e9) h9
    · exact E.2.2 q (Nat.le_trans w.2.2.1 h9)
  have hroom : 2 * (F0 m pc ls st).monitorRoom + (rest.map fun v => v.category).sum ≤ 8 := lv_room (by rw [hrs, tv_sum]; exact hsum)
  obtain ⟨rfl, hcd, hini, hdd⟩ := Y
  have hG : GoodIn lwt (Cond.code y bytes maxL ret :: lwt) := lw_gi (fun w9 h9 => by
    rcases List.mem_cons.mp h9 with h | h
    · rw [h]; exact hcd
    · exact h)
  exact va_callq (va_runS (As := av.map tv) (rest := rest) E.1 (k D cy H.size) ⟨callB_of n E.1.2.2.2.2 hG rfl rfl rfl (E.1.2.2.2.2 _ hini) (E.1.2.2.2.2 _ hlink) hdd hR, E.1.2.2.2.2 _ hstat⟩ ⟨fun a U g mk q => by obtain ⟨q0, q1, qP, qK, qD⟩ := q; exact ⟨q0, q1, qP, qK.calling g mk a, qD⟩, fun U hU hW => ⟨rfl, by rw [hU], by rw [hU]; exact w.1, E.2.1.warm hW, w.2.1.weaken (fun _ _ _ _ => trivial)⟩⟩ rfl (by rw [List.length_map]; exact hn) hsz.1 hst hroom hd hcs) w.2.2 (fun q _ h => hF q h) hF (fun r u t H1 locs1 ht hvm hw hB hz1 hk1 hS => kk r u H1 locs1 hw ⟨by rw [← ht]; exact hB.1, hB.2.weaken (fun k q _ hq => hF q.1 hq), hS⟩)
end RX
end
section
/-! WHAT THE TABLES SAY, a row a word that an instruction links -/
theorem mt1 (j : Nat) {w : Cond} (h : tables_1_1[j]? = some w) (g : goodWord w = true) : w ∈ lwt := List.mem_filter.mpr ⟨List.mem_append_right _ (show w ∈ tables_1_1 ++ (tables_1_2 ++ (tables_1_3 ++ tables_1_4)) by have h := List.mem_of_getElem? h; exact List.mem_append_left _ h), g⟩
theorem mt2 (j : Nat) {w : Cond} (h : tables_1_2[j]? = some w) (g : goodWord w = true) : w ∈ lwt := List.mem_filter.mpr ⟨List.mem_append_right _ (show w ∈ tables_1_1 ++ (tables_1_2 ++ (tables_1_3 ++ tables_1_4)) by have h := List.mem_of_getElem? h; exact List.mem_append_right _ (List.mem_append_left _ h)), g⟩
theorem mt3 (j : Nat) {w : Cond} (h : tables_1_3[j]? = some w) (g : goodWord w = true) : w ∈ lwt := List.mem_filter.mpr ⟨List.mem_append_right _ (show w ∈ tables_1_1 ++ (tables_1_2 ++ (tables_1_3 ++ tables_1_4)) by have h := List.mem_of_getElem? h; exact List.mem_append_right _ (List.mem_append_right _ (List.mem_append_left _ h))), g⟩
theorem mt4 (j : Nat) {w : Cond} (h : tables_1_4[j]? = some w) (g : goodWord w = true) : w ∈ lwt := List.mem_filter.mpr ⟨List.mem_append_right _ (show w ∈ tables_1_1 ++ (tables_1_2 ++ (tables_1_3 ++ tables_1_4)) by have h := List.mem_of_getElem? h; exact List.mem_append_right _ (List.mem_append_right _ (List.mem_append_right _ h))), g⟩
theorem mtp (j : Nat) {q : MethodName × Nat} (h : lw_privs[j]? = some q) : Cond.selects q.1.cls q.1 q.1 ∈ lwt := List.mem_filter.mpr ⟨List.mem_append_left _ (List.mem_map.mpr ⟨q, List.mem_of_getElem? h, rfl⟩), rfl⟩
set_option maxRecDepth 20000 in
theorem ini_L : Cond.initialized RL ∈ lwt := mt1 0 rfl rfl
set_option maxRecDepth 20000 in
theorem ini_X5 : Cond.initialized RX5 ∈ lwt := mt1 1 rfl rfl
set_option maxRecDepth 20000 in
theorem ini_X1 : Cond.initialized RX1 ∈ lwt := mt1 2 rfl rfl
set_option maxRecDepth 20000 in
theorem ini_X2 : Cond.initialized RX2 ∈ lwt := mt1 3 rfl rfl
set_option maxRecDepth 20000 in
theorem ini_X6 : Cond.initialized RX6 ∈ lwt := mt1 4 rfl rfl
set_option maxRecDepth 20000 in
theorem ini_X4 : Cond.initialized RX4 ∈ lwt := mt1 5 rfl rfl
set_option maxRecDepth 20000 in
theorem ini_X3 : Cond.initialized RX3 ∈ lwt := mt1 6 rfl rfl
set_option maxRecDepth 20000 in
theorem ini_J7 : Cond.initialized RJ7 ∈ lwt := mt1 7 rfl rfl
set_option maxRecDepth 20000 in
theorem ini_J10 : Cond.initialized RJ10 ∈ lwt := mt1 8 rfl rfl
set_option maxRecDepth 20000 in
theorem ini_J9 : Cond.initialized RJ9 ∈ lwt := mt1 9 rfl rfl
set_option maxRecDepth 20000 in
theorem ini_J6 : Cond.initialized RJ6 ∈ lwt := mt1 10 rfl rfl
set_option maxRecDepth 20000 in
theorem ini_X0 : Cond.initialized RX0 ∈ lwt := mt1 11 rfl rfl
set_option maxRecDepth 20000 in
theorem ins_X5 : Cond.instantiable RX5 15 ∈ lwt := mt1 13 rfl rfl
set_option maxRecDepth 20000 in
theorem ins_X1 : Cond.instantiable RX1 4 ∈ lwt := mt1 23 rfl rfl
set_option maxRecDepth 20000 in
theorem acl_int : Cond.arrayClass .int ∈ lwt := mt1 41 rfl rfl
set_option maxRecDepth 20000 in
theorem ins_X2 : Cond.instantiable RX2 7 ∈ lwt := mt1 43 rfl rfl
set_option maxRecDepth 20000 in
theorem ins_X4 : Cond.instantiable RX4 2 ∈ lwt := mt1 133 rfl rfl
set_option maxRecDepth 20000 in
theorem ins_X3 : Cond.instantiable RX3 14 ∈ lwt := mt1 140 rfl rfl
set_option maxRecDepth 20000 in
theorem nat_arraycopy : Cond.native arraycopyName ∈ lwt := mt2 31 rfl rfl
set_option maxRecDepth 20000 in
theorem ins_X0 : Cond.instantiable RX0 3 ∈ lwt := mt2 172 rfl rfl
set_option maxRecDepth 20000 in
theorem ins_X6 : Cond.instantiable RX6 41 ∈ lwt := mt3 102 rfl rfl
set_option maxRecDepth 20000 in
theorem acl_boolean : Cond.arrayClass .boolean ∈ lwt := mt3 232 rfl rfl
set_option maxRecDepth 20000 in
theorem acl_long : Cond.arrayClass .long ∈ lwt := mt3 233 rfl rfl
set_option maxRecDepth 20000 in
theorem cl_X0 : Cls 0 RX0 TX0 3 tyX0 := ⟨rfl, lwt_sub (by decide +kernel) (by decide +kernel), tyX0_ok, nmX0, by decide, rfl, by decide⟩
set_option maxRecDepth 20000 in
theorem cl_X1 : Cls 1 RX1 TX1 4 tyX1 := ⟨rfl, lwt_sub (by decide +kernel) (by decide +kernel), tyX1_ok, nmX1, by decide, rfl, by decide⟩
set_option maxRecDepth 20000 in
theorem cl_X2 : Cls 2 RX2 TX2 7 tyX2 := ⟨rfl, lwt_sub (by decide +kernel) (by decide +kernel), tyX2_ok, nmX2, by decide, rfl, by decide⟩
set_option maxRecDepth 20000 in
theorem cl_X3 : Cls 3 RX3 TX3 14 tyX3 := ⟨rfl, lwt_sub (by decide +kernel) (by decide +kernel), tyX3_ok, nmX3, by decide, rfl, by decide⟩
set_option maxRecDepth 20000 in
theorem cl_X4 : Cls 4 RX4 TX4 2 tyX4 := ⟨rfl, lwt_sub (by decide +kernel) (by decide +kernel), tyX4_ok, nmX4, by decide, rfl, by decide⟩
set_option maxRecDepth 20000 in
theorem cl_X5 : Cls 5 RX5 TX5 15 tyX5 := ⟨rfl, lwt_sub (by decide +kernel) (by decide +kernel), tyX5_ok, nmX5, by decide, rfl, by decide⟩
set_option maxRecDepth 20000 in
theorem cl_X6 : Cls 6 RX6 TX6 41 tyX6 := ⟨rfl, lwt_sub (by decide +kernel) (by decide +kernel), tyX6_ok, nmX6, by decide, rfl, by decide⟩
set_option maxRecDepth 20000 in
theorem fl_X1_9 : Cond.fieldLink RX1 9 (TX1 0).1 (TX1 0).2.1 (TX1 0).2.2.1 ∈ lwt := mt1 28 rfl rfl
set_option maxRecDepth 20000 in
theorem fl_X1_15 : Cond.fieldLink RX1 15 (TX1 1).1 (TX1 1).2.1 (TX1 1).2.2.1 ∈ lwt := mt1 29 rfl rfl
set_option maxRecDepth 20000 in
theorem fl_X1_18 : Cond.fieldLink RX1 18 (TX1 2).1 (TX1 2).2.1 (TX1 2).2.2.1 ∈ lwt := mt1 30 rfl rfl
set_option maxRecDepth 20000 in
theorem fl_X1_21 : Cond.fieldLink RX1 21 (TX1 3).1 (TX1 3).2.1 (TX1 3).2.2.1 ∈ lwt := mt1 31 rfl rfl
set_option maxRecDepth 20000 in
theorem fl_X2_7 : Cond.fieldLink RX2 7 (TX2 0).1 (TX2 0).2.1 (TX2 0).2.2.1 ∈ lwt := mt1 48 rfl rfl
set_option maxRecDepth 20000 in
theorem fl_X5_188 : Cond.fieldLink RX5 188 (TX2 0).1 (TX2 0).2.1 (TX2 0).2.2.1 ∈ lwt := mt1 49 rfl rfl
set_option maxRecDepth 20000 in
theorem fl_X2_13 : Cond.fieldLink RX2 13 (TX2 1).1 (TX2 1).2.1 (TX2 1).2.2.1 ∈ lwt := mt1 50 rfl rfl
set_option maxRecDepth 20000 in
theorem fl_X2_17 : Cond.fieldLink RX2 17 (TX2 2).1 (TX2 2).2.1 (TX2 2).2.2.1 ∈ lwt := mt1 51 rfl rfl
set_option maxRecDepth 20000 in
theorem fl_X5_202 : Cond.fieldLink RX5 202 (TX2 2).1 (TX2 2).2.1 (TX2 2).2.2.1 ∈ lwt := mt1 52 rfl rfl
set_option maxRecDepth 20000 in
theorem fl_X2_20 : Cond.fieldLink RX2 20 (TX2 3).1 (TX2 3).2.1 (TX2 3).2.2.1 ∈ lwt := mt1 53 rfl rfl
set_option maxRecDepth 20000 in
theorem fl_X2_23 : Cond.fieldLink RX2 23 (TX2 4).1 (TX2 4).2.1 (TX2 4).2.2.1 ∈ lwt := mt1 54 rfl rfl
set_option maxRecDepth 20000 in
theorem fl_X5_205 : Cond.fieldLink RX5 205 (TX2 4).1 (TX2 4).2.1 (TX2 4).2.2.1 ∈ lwt := mt1 55 rfl rfl
set_option maxRecDepth 20000 in
theorem fl_X2_26 : Cond.fieldLink RX2 26 (TX2 5).1 (TX2 5).2.1 (TX2 5).2.2.1 ∈ lwt := mt1 56 rfl rfl
set_option maxRecDepth 20000 in
theorem fl_X2_29 : Cond.fieldLink RX2 29 (TX2 6).1 (TX2 6).2.1 (TX2 6).2.2.1 ∈ lwt := mt1 57 rfl rfl
set_option maxRecDepth 20000 in
theorem fl_X5_11 : Cond.fieldLink RX5 11 (TX5 0).1 (TX5 0).2.1 (TX5 0).2.2.1 ∈ lwt := mt1 73 rfl rfl
set_option maxRecDepth 20000 in
theorem fl_X5_15 : Cond.fieldLink RX5 15 (TX5 1).1 (TX5 1).2.1 (TX5 1).2.2.1 ∈ lwt := mt1 74 rfl rfl
set_option maxRecDepth 20000 in
theorem fl_X5_19 : Cond.fieldLink RX5 19 (TX5 2).1 (TX5 2).2.1 (TX5 2).2.2.1 ∈ lwt := mt1 75 rfl rfl
set_option maxRecDepth 20000 in
theorem fl_X5_25 : Cond.fieldLink RX5 25 (TX5 3).1 (TX5 3).2.1 (TX5 3).2.2.1 ∈ lwt := mt1 76 rfl rfl
set_option maxRecDepth 20000 in
theorem fl_X5_32 : Cond.fieldLink RX5 32 (TX5 4).1 (TX5 4).2.1 (TX5 4).2.2.1 ∈ lwt := mt1 77 rfl rfl
set_option maxRecDepth 20000 in
theorem fl_X5_243 : Cond.fieldLink RX5 243 (TX5 5).1 (TX5 5).2.1 (TX5 5).2.2.1 ∈ lwt := mt1 78 rfl rfl
set_option maxRecDepth 20000 in
theorem fl_X5_47 : Cond.fieldLink RX5 47 (TX5 6).1 (TX5 6).2.1 (TX5 6).2.2.1 ∈ lwt := mt1 79 rfl rfl
set_option maxRecDepth 20000 in
theorem fl_X5_54 : Cond.fieldLink RX5 54 (TX5 7).1 (TX5 7).2.1 (TX5 7).2.2.1 ∈ lwt := mt1 80 rfl rfl
set_option maxRecDepth 20000 in
theorem fl_X5_36 : Cond.fieldLink RX5 36 (TX5 8).1 (TX5 8).2.1 (TX5 8).2.2.1 ∈ lwt := mt1 81 rfl rfl
set_option maxRecDepth 20000 in
theorem fl_X5_40 : Cond.fieldLink RX5 40 (TX5 9).1 (TX5 9).2.1 (TX5 9).2.2.1 ∈ lwt := mt1 82 rfl rfl
set_option maxRecDepth 20000 in
theorem fl_X5_174 : Cond.fieldLink RX5 174 (TX5 10).1 (TX5 10).2.1 (TX5 10).2.2.1 ∈ lwt := mt1 83 rfl rfl
set_option maxRecDepth 20000 in
theorem fl_X5_211 : Cond.fieldLink RX5 211 (TX5 11).1 (TX5 11).2.1 (TX5 11).2.2.1 ∈ lwt := mt1 84 rfl rfl
set_option maxRecDepth 20000 in
theorem fl_X5_168 : Cond.fieldLink RX5 168 (TX5 12).1 (TX5 12).2.1 (TX5 12).2.2.1 ∈ lwt := mt1 85 rfl rfl
set_option maxRecDepth 20000 in
theorem fl_X5_43 : Cond.fieldLink RX5 43 (TX5 13).1 (TX5 13).2.1 (TX5 13).2.2.1 ∈ lwt := mt1 86 rfl rfl
set_option maxRecDepth 20000 in
theorem fl_X5_122 : Cond.fieldLink RX5 122 (TX5 14).1 (TX5 14).2.1 (TX5 14).2.2.1 ∈ lwt := mt1 87 rfl rfl
set_option maxRecDepth 20000 in
theorem fl_X3_9 : Cond.fieldLink RX3 9 (TX3 0).1 (TX3 0).2.1 (TX3 0).2.2.1 ∈ lwt := mt1 148 rfl rfl
set_option maxRecDepth 20000 in
theorem fl_X5_92 : Cond.fieldLink RX5 92 (TX3 0).1 (TX3 0).2.1 (TX3 0).2.2.1 ∈ lwt := mt1 149 rfl rfl
set_option maxRecDepth 20000 in
theorem fl_X1_78 : Cond.fieldLink RX1 78 (TX3 0).1 (TX3 0).2.1 (TX3 0).2.2.1 ∈ lwt := mt1 150 rfl rfl
set_option maxRecDepth 20000 in
theorem fl_X5_71 : Cond.fieldLink RX5 71 (TX3 1).1 (TX3 1).2.1 (TX3 1).2.2.1 ∈ lwt := mt1 151 rfl rfl
set_option maxRecDepth 20000 in
theorem fl_X3_72 : Cond.fieldLink RX3 72 (TX3 1).1 (TX3 1).2.1 (TX3 1).2.2.1 ∈ lwt := mt1 152 rfl rfl
set_option maxRecDepth 20000 in
theorem fl_X3_68 : Cond.fieldLink RX3 68 (TX3 2).1 (TX3 2).2.1 (TX3 2).2.2.1 ∈ lwt := mt1 153 rfl rfl
set_option maxRecDepth 20000 in
theorem fl_X3_15 : Cond.fieldLink RX3 15 (TX3 3).1 (TX3 3).2.1 (TX3 3).2.2.1 ∈ lwt := mt1 154 rfl rfl
set_option maxRecDepth 20000 in
theorem fl_X1_51 : Cond.fieldLink RX1 51 (TX3 3).1 (TX3 3).2.1 (TX3 3).2.2.1 ∈ lwt := mt1 155 rfl rfl
set_option maxRecDepth 20000 in
theorem fl_X5_95 : Cond.fieldLink RX5 95 (TX3 3).1 (TX3 3).2.1 (TX3 3).2.2.1 ∈ lwt := mt1 156 rfl rfl
set_option maxRecDepth 20000 in
theorem fl_X1_55 : Cond.fieldLink RX1 55 (TX3 4).1 (TX3 4).2.1 (TX3 4).2.2.1 ∈ lwt := mt1 157 rfl rfl
set_option maxRecDepth 20000 in
theorem fl_X5_235 : Cond.fieldLink RX5 235 (TX3 4).1 (TX3 4).2.1 (TX3 4).2.2.1 ∈ lwt := mt1 158 rfl rfl
set_option maxRecDepth 20000 in
theorem fl_X1_58 : Cond.fieldLink RX1 58 (TX3 5).1 (TX3 5).2.1 (TX3 5).2.2.1 ∈ lwt := mt1 159 rfl rfl
set_option maxRecDepth 20000 in
theorem fl_X5_238 : Cond.fieldLink RX5 238 (TX3 5).1 (TX3 5).2.1 (TX3 5).2.2.1 ∈ lwt := mt1 160 rfl rfl
set_option maxRecDepth 20000 in
theorem fl_X1_30 : Cond.fieldLink RX1 30 (TX3 6).1 (TX3 6).2.1 (TX3 6).2.2.1 ∈ lwt := mt1 161 rfl rfl
set_option maxRecDepth 20000 in
theorem fl_X3_65 : Cond.fieldLink RX3 65 (TX3 6).1 (TX3 6).2.1 (TX3 6).2.2.1 ∈ lwt := mt1 162 rfl rfl
set_option maxRecDepth 20000 in
theorem fl_X3_19 : Cond.fieldLink RX3 19 (TX3 7).1 (TX3 7).2.1 (TX3 7).2.2.1 ∈ lwt := mt1 163 rfl rfl
set_option maxRecDepth 20000 in
theorem fl_X1_81 : Cond.fieldLink RX1 81 (TX3 7).1 (TX3 7).2.1 (TX3 7).2.2.1 ∈ lwt := mt1 164 rfl rfl
set_option maxRecDepth 20000 in
theorem fl_X3_22 : Cond.fieldLink RX3 22 (TX3 8).1 (TX3 8).2.1 (TX3 8).2.2.1 ∈ lwt := mt1 165 rfl rfl
set_option maxRecDepth 20000 in
theorem fl_X0_26 : Cond.fieldLink RX0 26 (TX3 8).1 (TX3 8).2.1 (TX3 8).2.2.1 ∈ lwt := mt1 166 rfl rfl
set_option maxRecDepth 20000 in
theorem fl_X1_61 : Cond.fieldLink RX1 61 (TX3 8).1 (TX3 8).2.1 (TX3 8).2.2.1 ∈ lwt := mt1 167 rfl rfl
set_option maxRecDepth 20000 in
theorem fl_X3_40 : Cond.fieldLink RX3 40 (TX3 9).1 (TX3 9).2.1 (TX3 9).2.2.1 ∈ lwt := mt1 168 rfl rfl
set_option maxRecDepth 20000 in
theorem fl_X1_72 : Cond.fieldLink RX1 72 (TX3 9).1 (TX3 9).2.1 (TX3 9).2.2.1 ∈ lwt := mt1 169 rfl rfl
set_option maxRecDepth 20000 in
theorem fl_X5_135 : Cond.fieldLink RX5 135 (TX3 9).1 (TX3 9).2.1 (TX3 9).2.2.1 ∈ lwt := mt1 170 rfl rfl
set_option maxRecDepth 20000 in
theorem fl_X3_25 : Cond.fieldLink RX3 25 (TX3 10).1 (TX3 10).2.1 (TX3 10).2.2.1 ∈ lwt := mt1 171 rfl rfl
set_option maxRecDepth 20000 in
theorem fl_X0_17 : Cond.fieldLink RX0 17 (TX3 10).1 (TX3 10).2.1 (TX3 10).2.2.1 ∈ lwt := mt1 172 rfl rfl
set_option maxRecDepth 20000 in
theorem fl_X1_75 : Cond.fieldLink RX1 75 (TX3 10).1 (TX3 10).2.1 (TX3 10).2.2.1 ∈ lwt := mt1 173 rfl rfl
set_option maxRecDepth 20000 in
theorem fl_X3_28 : Cond.fieldLink RX3 28 (TX3 11).1 (TX3 11).2.1 (TX3 11).2.2.1 ∈ lwt := mt1 174 rfl rfl
set_option maxRecDepth 20000 in
theorem fl_X1_84 : Cond.fieldLink RX1 84 (TX3 11).1 (TX3 11).2.1 (TX3 11).2.2.1 ∈ lwt := mt1 175 rfl rfl
set_option maxRecDepth 20000 in
theorem fl_X5_138 : Cond.fieldLink RX5 138 (TX3 11).1 (TX3 11).2.1 (TX3 11).2.2.1 ∈ lwt := mt1 176 rfl rfl
set_option maxRecDepth 20000 in
theorem fl_X3_31 : Cond.fieldLink RX3 31 (TX3 12).1 (TX3 12).2.1 (TX3 12).2.2.1 ∈ lwt := mt1 177 rfl rfl
set_option maxRecDepth 20000 in
theorem fl_X1_38 : Cond.fieldLink RX1 38 (TX3 13).1 (TX3 13).2.1 (TX3 13).2.2.1 ∈ lwt := mt1 178 rfl rfl
set_option maxRecDepth 20000 in
theorem fl_X5_119 : Cond.fieldLink RX5 119 (TX3 13).1 (TX3 13).2.1 (TX3 13).2.2.1 ∈ lwt := mt1 179 rfl rfl
set_option maxRecDepth 20000 in
theorem fl_X4_17 : Cond.fieldLink RX4 17 (TX4 0).1 (TX4 0).2.1 (TX4 0).2.2.1 ∈ lwt := mt1 209 rfl rfl
set_option maxRecDepth 20000 in
theorem fl_X5_64 : Cond.fieldLink RX5 64 (TX4 0).1 (TX4 0).2.1 (TX4 0).2.2.1 ∈ lwt := mt1 210 rfl rfl
set_option maxRecDepth 20000 in
theorem fl_X4_11 : Cond.fieldLink RX4 11 (TX4 1).1 (TX4 1).2.1 (TX4 1).2.2.1 ∈ lwt := mt1 211 rfl rfl
set_option maxRecDepth 20000 in
theorem fl_X5_218 : Cond.fieldLink RX5 218 (TX4 1).1 (TX4 1).2.1 (TX4 1).2.2.1 ∈ lwt := mt1 212 rfl rfl
set_option maxRecDepth 20000 in
theorem fl_X0_9 : Cond.fieldLink RX0 9 (TX0 0).1 (TX0 0).2.1 (TX0 0).2.2.1 ∈ lwt := mt2 177 rfl rfl
set_option maxRecDepth 20000 in
theorem fl_X0_42 : Cond.fieldLink RX0 42 (TX0 1).1 (TX0 1).2.1 (TX0 1).2.2.1 ∈ lwt := mt2 178 rfl rfl
set_option maxRecDepth 20000 in
theorem fl_X5_165 : Cond.fieldLink RX5 165 (TX0 1).1 (TX0 1).2.1 (TX0 1).2.2.1 ∈ lwt := mt2 179 rfl rfl
set_option maxRecDepth 20000 in
theorem fl_X0_13 : Cond.fieldLink RX0 13 (TX0 2).1 (TX0 2).2.1 (TX0 2).2.2.1 ∈ lwt := mt2 180 rfl rfl
set_option maxRecDepth 20000 in
theorem fl_X5_171 : Cond.fieldLink RX5 171 (TX0 2).1 (TX0 2).2.1 (TX0 2).2.2.1 ∈ lwt := mt2 181 rfl rfl
set_option maxRecDepth 20000 in
theorem fl_X6_81 : Cond.fieldLink RX6 81 (TX6 0).1 (TX6 0).2.1 (TX6 0).2.2.1 ∈ lwt := mt3 108 rfl rfl
set_option maxRecDepth 20000 in
theorem fl_X6_7 : Cond.fieldLink RX6 7 (TX6 1).1 (TX6 1).2.1 (TX6 1).2.2.1 ∈ lwt := mt3 109 rfl rfl
set_option maxRecDepth 20000 in
theorem fl_X6_88 : Cond.fieldLink RX6 88 (TX6 2).1 (TX6 2).2.1 (TX6 2).2.2.1 ∈ lwt := mt3 110 rfl rfl
set_option maxRecDepth 20000 in
theorem fl_X6_91 : Cond.fieldLink RX6 91 (TX6 3).1 (TX6 3).2.1 (TX6 3).2.2.1 ∈ lwt := mt3 111 rfl rfl
set_option maxRecDepth 20000 in
theorem fl_X6_94 : Cond.fieldLink RX6 94 (TX6 4).1 (TX6 4).2.1 (TX6 4).2.2.1 ∈ lwt := mt3 112 rfl rfl
set_option maxRecDepth 20000 in
theorem fl_X6_13 : Cond.fieldLink RX6 13 (TX6 5).1 (TX6 5).2.1 (TX6 5).2.2.1 ∈ lwt := mt3 113 rfl rfl
set_option maxRecDepth 20000 in
theorem fl_X6_16 : Cond.fieldLink RX6 16 (TX6 6).1 (TX6 6).2.1 (TX6 6).2.2.1 ∈ lwt := mt3 114 rfl rfl
set_option maxRecDepth 20000 in
theorem fl_X6_20 : Cond.fieldLink RX6 20 (TX6 7).1 (TX6 7).2.1 (TX6 7).2.2.1 ∈ lwt := mt3 115 rfl rfl
set_option maxRecDepth 20000 in
theorem fl_X6_23 : Cond.fieldLink RX6 23 (TX6 8).1 (TX6 8).2.1 (TX6 8).2.2.1 ∈ lwt := mt3 116 rfl rfl
set_option maxRecDepth 20000 in
theorem fl_X6_112 : Cond.fieldLink RX6 112 (TX6 9).1 (TX6 9).2.1 (TX6 9).2.2.1 ∈ lwt := mt3 117 rfl rfl
set_option maxRecDepth 20000 in
theorem fl_X6_26 : Cond.fieldLink RX6 26 (TX6 10).1 (TX6 10).2.1 (TX6 10).2.2.1 ∈ lwt := mt3 118 rfl rfl
set_option maxRecDepth 20000 in
theorem fl_X6_29 : Cond.fieldLink RX6 29 (TX6 11).1 (TX6 11).2.1 (TX6 11).2.2.1 ∈ lwt := mt3 119 rfl rfl
set_option maxRecDepth 20000 in
theorem fl_X6_32 : Cond.fieldLink RX6 32 (TX6 12).1 (TX6 12).2.1 (TX6 12).2.2.1 ∈ lwt := mt3 120 rfl rfl
set_option maxRecDepth 20000 in
theorem fl_X6_70 : Cond.fieldLink RX6 70 (TX6 13).1 (TX6 13).2.1 (TX6 13).2.2.1 ∈ lwt := mt3 121 rfl rfl
set_option maxRecDepth 20000 in
theorem fl_X6_74 : Cond.fieldLink RX6 74 (TX6 14).1 (TX6 14).2.1 (TX6 14).2.2.1 ∈ lwt := mt3 122 rfl rfl
set_option maxRecDepth 20000 in
theorem fl_X6_35 : Cond.fieldLink RX6 35 (TX6 15).1 (TX6 15).2.1 (TX6 15).2.2.1 ∈ lwt := mt3 123 rfl rfl
set_option maxRecDepth 20000 in
theorem fl_X6_38 : Cond.fieldLink RX6 38 (TX6 16).1 (TX6 16).2.1 (TX6 16).2.2.1 ∈ lwt := mt3 124 rfl rfl
set_option maxRecDepth 20000 in
theorem fl_X6_41 : Cond.fieldLink RX6 41 (TX6 17).1 (TX6 17).2.1 (TX6 17).2.2.1 ∈ lwt := mt3 125 rfl rfl
set_option maxRecDepth 20000 in
theorem fl_X6_132 : Cond.fieldLink RX6 132 (TX6 18).1 (TX6 18).2.1 (TX6 18).2.2.1 ∈ lwt := mt3 126 rfl rfl
set_option maxRecDepth 20000 in
theorem fl_X6_44 : Cond.fieldLink RX6 44 (TX6 19).1 (TX6 19).2.1 (TX6 19).2.2.1 ∈ lwt := mt3 127 rfl rfl
set_option maxRecDepth 20000 in
theorem fl_X6_47 : Cond.fieldLink RX6 47 (TX6 20).1 (TX6 20).2.1 (TX6 20).2.2.1 ∈ lwt := mt3 128 rfl rfl
set_option maxRecDepth 20000 in
theorem fl_X6_50 : Cond.fieldLink RX6 50 (TX6 21).1 (TX6 21).2.1 (TX6 21).2.2.1 ∈ lwt := mt3 129 rfl rfl
set_option maxRecDepth 20000 in
theorem fl_X6_123 : Cond.fieldLink RX6 123 (TX6 22).1 (TX6 22).2.1 (TX6 22).2.2.1 ∈ lwt := mt3 130 rfl rfl
set_option maxRecDepth 20000 in
theorem fl_X6_53 : Cond.fieldLink RX6 53 (TX6 23).1 (TX6 23).2.1 (TX6 23).2.2.1 ∈ lwt := mt3 131 rfl rfl
set_option maxRecDepth 20000 in
theorem fl_X6_56 : Cond.fieldLink RX6 56 (TX6 24).1 (TX6 24).2.1 (TX6 24).2.2.1 ∈ lwt := mt3 132 rfl rfl
set_option maxRecDepth 20000 in
theorem fl_X6_158 : Cond.fieldLink RX6 158 (TX6 25).1 (TX6 25).2.1 (TX6 25).2.2.1 ∈ lwt := mt3 133 rfl rfl
set_option maxRecDepth 20000 in
theorem fl_X6_161 : Cond.fieldLink RX6 161 (TX6 26).1 (TX6 26).2.1 (TX6 26).2.2.1 ∈ lwt := mt3 134 rfl rfl
set_option maxRecDepth 20000 in
theorem fl_X6_171 : Cond.fieldLink RX6 171 (TX6 27).1 (TX6 27).2.1 (TX6 27).2.2.1 ∈ lwt := mt3 135 rfl rfl
set_option maxRecDepth 20000 in
theorem fl_X6_77 : Cond.fieldLink RX6 77 (TX6 28).1 (TX6 28).2.1 (TX6 28).2.2.1 ∈ lwt := mt3 136 rfl rfl
set_option maxRecDepth 20000 in
theorem fl_X6_60 : Cond.fieldLink RX6 60 (TX6 29).1 (TX6 29).2.1 (TX6 29).2.2.1 ∈ lwt := mt3 137 rfl rfl
set_option maxRecDepth 20000 in
theorem fl_X6_178 : Cond.fieldLink RX6 178 (TX6 30).1 (TX6 30).2.1 (TX6 30).2.2.1 ∈ lwt := mt3 138 rfl rfl
set_option maxRecDepth 20000 in
theorem fl_X6_64 : Cond.fieldLink RX6 64 (TX6 31).1 (TX6 31).2.1 (TX6 31).2.2.1 ∈ lwt := mt3 139 rfl rfl
set_option maxRecDepth 20000 in
theorem fl_X6_67 : Cond.fieldLink RX6 67 (TX6 32).1 (TX6 32).2.1 (TX6 32).2.2.1 ∈ lwt := mt3 140 rfl rfl
set_option maxRecDepth 20000 in
theorem fl_X6_181 : Cond.fieldLink RX6 181 (TX6 33).1 (TX6 33).2.1 (TX6 33).2.2.1 ∈ lwt := mt3 141 rfl rfl
set_option maxRecDepth 20000 in
theorem fl_X6_194 : Cond.fieldLink RX6 194 (TX6 34).1 (TX6 34).2.1 (TX6 34).2.2.1 ∈ lwt := mt3 142 rfl rfl
set_option maxRecDepth 20000 in
theorem fl_X6_188 : Cond.fieldLink RX6 188 (TX6 35).1 (TX6 35).2.1 (TX6 35).2.2.1 ∈ lwt := mt3 143 rfl rfl
set_option maxRecDepth 20000 in
theorem fl_X6_191 : Cond.fieldLink RX6 191 (TX6 36).1 (TX6 36).2.1 (TX6 36).2.2.1 ∈ lwt := mt3 144 rfl rfl
set_option maxRecDepth 20000 in
theorem fl_X6_198 : Cond.fieldLink RX6 198 (TX6 37).1 (TX6 37).2.1 (TX6 37).2.2.1 ∈ lwt := mt3 145 rfl rfl
set_option maxRecDepth 20000 in
theorem fl_X6_201 : Cond.fieldLink RX6 201 (TX6 38).1 (TX6 38).2.1 (TX6 38).2.2.1 ∈ lwt := mt3 146 rfl rfl
set_option maxRecDepth 20000 in
theorem fl_X6_204 : Cond.fieldLink RX6 204 (TX6 39).1 (TX6 39).2.1 (TX6 39).2.2.1 ∈ lwt := mt3 147 rfl rfl
set_option maxRecDepth 20000 in
theorem fl_X6_207 : Cond.fieldLink RX6 207 (TX6 40).1 (TX6 40).2.1 (TX6 40).2.2.1 ∈ lwt := mt3 148 rfl rfl
set_option maxRecDepth 20000 in
theorem ml_L_9 : Cond.methodLink RL 9 yX5_init ∈ lwt := mt1 14 rfl rfl
set_option maxRecDepth 20000 in
theorem ml_X5_1 : Cond.methodLink RX5 1 objectInit ∈ lwt := mt1 17 rfl rfl
set_option maxRecDepth 20000 in
theorem ml_X1_3 : Cond.methodLink RX1 3 objectInit ∈ lwt := mt1 27 rfl rfl
set_option maxRecDepth 20000 in
theorem ml_X2_1 : Cond.methodLink RX2 1 objectInit ∈ lwt := mt1 47 rfl rfl
set_option maxRecDepth 20000 in
theorem ml_L_13 : Cond.methodLink RL 13 yX5_builds ∈ lwt := mt1 119 rfl rfl
set_option maxRecDepth 20000 in
theorem ml_L_18 : Cond.methodLink RL 18 yX5_test ∈ lwt := mt1 123 rfl rfl
set_option maxRecDepth 20000 in
theorem ml_X5_50 : Cond.methodLink RX5 50 yX5_isKind ∈ lwt := mt1 127 rfl rfl
set_option maxRecDepth 20000 in
theorem ml_X5_81 : Cond.methodLink RX5 81 yX5_isWithin ∈ lwt := mt1 130 rfl rfl
set_option maxRecDepth 20000 in
theorem ml_X5_57 : Cond.methodLink RX5 57 yX4_init ∈ lwt := mt1 134 rfl rfl
set_option maxRecDepth 20000 in
theorem ml_X4_3 : Cond.methodLink RX4 3 objectInit ∈ lwt := mt1 137 rfl rfl
set_option maxRecDepth 20000 in
theorem ml_X4_21 : Cond.methodLink RX4 21 yX3_init ∈ lwt := mt1 141 rfl rfl
set_option maxRecDepth 20000 in
theorem ml_X3_3 : Cond.methodLink RX3 3 objectInit ∈ lwt := mt1 144 rfl rfl
set_option maxRecDepth 20000 in
theorem ml_X3_34 : Cond.methodLink RX3 34 yJ7_fill_53178 ∈ lwt := mt1 145 rfl rfl
set_option maxRecDepth 20000 in
theorem ml_L_22 : Cond.methodLink RL 22 yX5_is ∈ lwt := mt1 218 rfl rfl
set_option maxRecDepth 20000 in
theorem ml_X5_60 : Cond.methodLink RX5 60 yX5_findTest ∈ lwt := mt1 222 rfl rfl
set_option maxRecDepth 20000 in
theorem ml_L_27 : Cond.methodLink RL 27 yX5_row ∈ lwt := mt1 226 rfl rfl
set_option maxRecDepth 20000 in
theorem ml_X5_67 : Cond.methodLink RX5 67 yX5_findRow ∈ lwt := mt1 230 rfl rfl
set_option maxRecDepth 20000 in
theorem ml_X5_77 : Cond.methodLink RX5 77 yX3_empty ∈ lwt := mt1 234 rfl rfl
set_option maxRecDepth 20000 in
theorem ml_L_31 : Cond.methodLink RL 31 yX5_lay ∈ lwt := mt1 238 rfl rfl
set_option maxRecDepth 20000 in
theorem ml_X5_85 : Cond.methodLink RX5 85 yX5_refuseWith ∈ lwt := mt2 3 rfl rfl
set_option maxRecDepth 20000 in
theorem ml_X5_89 : Cond.methodLink RX5 89 yX5_isPlace ∈ lwt := mt2 7 rfl rfl
set_option maxRecDepth 20000 in
theorem ml_L_36 : Cond.methodLink RL 36 yX5_at ∈ lwt := mt2 10 rfl rfl
set_option maxRecDepth 20000 in
theorem ml_X5_98 : Cond.methodLink RX5 98 yX5_refuseRow ∈ lwt := mt2 14 rfl rfl
set_option maxRecDepth 20000 in
theorem ml_L_41 : Cond.methodLink RL 41 yX5_tear ∈ lwt := mt2 18 rfl rfl
set_option maxRecDepth 20000 in
theorem ml_L_45 : Cond.methodLink RL 45 yX5_copy ∈ lwt := mt2 22 rfl rfl
set_option maxRecDepth 20000 in
theorem ml_X5_102 : Cond.methodLink RX5 102 yX5_holds ∈ lwt := mt2 26 rfl rfl
set_option maxRecDepth 20000 in
theorem ml_X5_105 : Cond.methodLink RX5 105 arraycopyName ∈ lwt := mt2 29 rfl rfl
set_option maxRecDepth 20000 in
theorem ml_L_50 : Cond.methodLink RL 50 yX5_rank ∈ lwt := mt2 32 rfl rfl
set_option maxRecDepth 20000 in
theorem ml_X5_111 : Cond.methodLink RX5 111 yX3_rankOf ∈ lwt := mt2 36 rfl rfl
set_option maxRecDepth 20000 in
theorem ml_L_54 : Cond.methodLink RL 54 yX5_mean ∈ lwt := mt2 40 rfl rfl
set_option maxRecDepth 20000 in
theorem ml_L_58 : Cond.methodLink RL 58 yX5_price ∈ lwt := mt2 44 rfl rfl
set_option maxRecDepth 20000 in
theorem ml_L_62 : Cond.methodLink RL 62 yX5_cuts ∈ lwt := mt2 48 rfl rfl
set_option maxRecDepth 20000 in
theorem ml_X5_115 : Cond.methodLink RX5 115 yX5_bringUpToDate ∈ lwt := mt2 52 rfl rfl
set_option maxRecDepth 20000 in
theorem ml_X5_239 : Cond.methodLink RX5 239 yX1_divide ∈ lwt := mt2 56 rfl rfl
set_option maxRecDepth 20000 in
theorem ml_X1_24 : Cond.methodLink RX1 24 yX3_gatherMeasured ∈ lwt := mt2 60 rfl rfl
set_option maxRecDepth 20000 in
theorem ml_X3_77 : Cond.methodLink RX3 77 yX3_rankOf ∈ lwt := mt2 64 rfl rfl
set_option maxRecDepth 20000 in
theorem ml_X1_34 : Cond.methodLink RX1 34 yX1_solveFrom ∈ lwt := mt2 65 rfl rfl
set_option maxRecDepth 20000 in
theorem ml_X1_64 : Cond.methodLink RX1 64 yX1_farFromMiddle ∈ lwt := mt2 69 rfl rfl
set_option maxRecDepth 20000 in
theorem ml_X1_68 : Cond.methodLink RX1 68 yX1_insert ∈ lwt := mt2 73 rfl rfl
set_option maxRecDepth 20000 in
theorem ml_X1_41 : Cond.methodLink RX1 41 yX1_setSpans ∈ lwt := mt2 77 rfl rfl
set_option maxRecDepth 20000 in
theorem ml_X1_45 : Cond.methodLink RX1 45 yX1_setMiddles ∈ lwt := mt2 81 rfl rfl
set_option maxRecDepth 20000 in
theorem ml_X1_48 : Cond.methodLink RX1 48 yX3_pairSteps ∈ lwt := mt2 85 rfl rfl
set_option maxRecDepth 20000 in
theorem ml_X3_44 : Cond.methodLink RX3 44 yX3_cutCount ∈ lwt := mt2 89 rfl rfl
set_option maxRecDepth 20000 in
theorem ml_X3_48 : Cond.methodLink RX3 48 yX3_stepSize ∈ lwt := mt2 93 rfl rfl
set_option maxRecDepth 20000 in
theorem ml_X3_81 : Cond.methodLink RX3 81 yX3_pairStep ∈ lwt := mt2 97 rfl rfl
set_option maxRecDepth 20000 in
theorem ml_X3_60 : Cond.methodLink RX3 60 Lib.Math.abs.name ∈ lwt := mt2 101 rfl rfl
set_option maxRecDepth 20000 in
theorem ml_X5_125 : Cond.methodLink RX5 125 yX3_cutCount ∈ lwt := mt2 104 rfl rfl
set_option maxRecDepth 20000 in
theorem ml_L_66 : Cond.methodLink RL 66 yX5_cut ∈ lwt := mt2 105 rfl rfl
set_option maxRecDepth 20000 in
theorem ml_X5_129 : Cond.methodLink RX5 129 yX3_hasCut ∈ lwt := mt2 109 rfl rfl
set_option maxRecDepth 20000 in
theorem ml_X5_132 : Cond.methodLink RX5 132 yX3_cutBuild ∈ lwt := mt2 113 rfl rfl
set_option maxRecDepth 20000 in
theorem ml_L_70 : Cond.methodLink RL 70 yX5_middle ∈ lwt := mt2 117 rfl rfl
set_option maxRecDepth 20000 in
theorem ml_L_74 : Cond.methodLink RL 74 yX5_size ∈ lwt := mt2 121 rfl rfl
set_option maxRecDepth 20000 in
theorem ml_X5_141 : Cond.methodLink RX5 141 yX3_stepSize ∈ lwt := mt2 125 rfl rfl
set_option maxRecDepth 20000 in
theorem ml_L_78 : Cond.methodLink RL 78 yX5_reach ∈ lwt := mt2 126 rfl rfl
set_option maxRecDepth 20000 in
theorem ml_L_82 : Cond.methodLink RL 82 yX5_own ∈ lwt := mt2 130 rfl rfl
set_option maxRecDepth 20000 in
theorem ml_X5_144 : Cond.methodLink RX5 144 yX5_bringRowsUpToDate ∈ lwt := mt2 134 rfl rfl
set_option maxRecDepth 20000 in
theorem ml_X5_148 : Cond.methodLink RX5 148 yX5_isItsOwn ∈ lwt := mt2 138 rfl rfl
set_option maxRecDepth 20000 in
theorem ml_X5_248 : Cond.methodLink RX5 248 yJ6_signum_0f7a4 ∈ lwt := mt2 142 rfl rfl
set_option maxRecDepth 20000 in
theorem ml_X5_253 : Cond.methodLink RX5 253 yX3_stepsNear ∈ lwt := mt2 145 rfl rfl
set_option maxRecDepth 20000 in
theorem ml_X3_52 : Cond.methodLink RX3 52 yJ6_signum_0f7a4 ∈ lwt := mt2 149 rfl rfl
set_option maxRecDepth 20000 in
theorem ml_X3_57 : Cond.methodLink RX3 57 yX3_cutBuild ∈ lwt := mt2 150 rfl rfl
set_option maxRecDepth 20000 in
theorem ml_X5_257 : Cond.methodLink RX5 257 yX3_isMeasuredAround ∈ lwt := mt2 151 rfl rfl
set_option maxRecDepth 20000 in
theorem ml_L_86 : Cond.methodLink RL 86 yX5_undone ∈ lwt := mt2 155 rfl rfl
set_option maxRecDepth 20000 in
theorem ml_X5_152 : Cond.methodLink RX5 152 yX3_undoingOf ∈ lwt := mt2 159 rfl rfl
set_option maxRecDepth 20000 in
theorem ml_L_90 : Cond.methodLink RL 90 yX5_odds ∈ lwt := mt2 163 rfl rfl
set_option maxRecDepth 20000 in
theorem ml_X5_155 : Cond.methodLink RX5 155 yX5_readyChances ∈ lwt := mt2 167 rfl rfl
set_option maxRecDepth 20000 in
theorem ml_X0_3 : Cond.methodLink RX0 3 objectInit ∈ lwt := mt2 176 rfl rfl
set_option maxRecDepth 20000 in
theorem ml_X5_159 : Cond.methodLink RX5 159 yX0_reckon ∈ lwt := mt2 189 rfl rfl
set_option maxRecDepth 20000 in
theorem ml_X0_22 : Cond.methodLink RX0 22 yX3_stepSize ∈ lwt := mt2 193 rfl rfl
set_option maxRecDepth 20000 in
theorem ml_X0_29 : Cond.methodLink RX0 29 yX0_outermost ∈ lwt := mt2 194 rfl rfl
set_option maxRecDepth 20000 in
theorem ml_X0_52 : Cond.methodLink RX0 52 Lib.Math.max.name ∈ lwt := mt2 197 rfl rfl
set_option maxRecDepth 20000 in
theorem ml_X0_55 : Cond.methodLink RX0 55 Lib.Math.min.name ∈ lwt := mt2 200 rfl rfl
set_option maxRecDepth 20000 in
theorem ml_X0_33 : Cond.methodLink RX0 33 Lib.Math.abs.name ∈ lwt := mt2 203 rfl rfl
set_option maxRecDepth 20000 in
theorem ml_X0_38 : Cond.methodLink RX0 38 yX0_countUpTo ∈ lwt := mt2 204 rfl rfl
set_option maxRecDepth 20000 in
theorem ml_X0_58 : Cond.methodLink RX0 58 yX0_clear ∈ lwt := mt2 208 rfl rfl
set_option maxRecDepth 20000 in
theorem ml_X0_62 : Cond.methodLink RX0 62 yX0_addOne ∈ lwt := mt2 212 rfl rfl
set_option maxRecDepth 20000 in
theorem ml_X0_45 : Cond.methodLink RX0 45 yX0_choose ∈ lwt := mt2 216 rfl rfl
set_option maxRecDepth 20000 in
theorem ml_X0_49 : Cond.methodLink RX0 49 yX0_commonDivisor ∈ lwt := mt2 219 rfl rfl
set_option maxRecDepth 20000 in
theorem ml_L_94 : Cond.methodLink RL 94 yX5_cry ∈ lwt := mt2 222 rfl rfl
set_option maxRecDepth 20000 in
theorem ml_X5_177 : Cond.methodLink RX5 177 yX5_cryRow ∈ lwt := mt2 226 rfl rfl
set_option maxRecDepth 20000 in
theorem ml_X5_260 : Cond.methodLink RX5 260 yX5_isAlarming ∈ lwt := mt2 230 rfl rfl
set_option maxRecDepth 20000 in
theorem ml_X5_273 : Cond.methodLink RX5 273 yX3_wasAlarmed ∈ lwt := mt2 234 rfl rfl
set_option maxRecDepth 20000 in
theorem ml_X5_263 : Cond.methodLink RX5 263 yX5_isRare ∈ lwt := mt2 238 rfl rfl
set_option maxRecDepth 20000 in
theorem ml_X5_267 : Cond.methodLink RX5 267 yX3_rememberAlarm ∈ lwt := mt3 2 rfl rfl
set_option maxRecDepth 20000 in
theorem ml_X5_270 : Cond.methodLink RX5 270 yX5_keepAlarm ∈ lwt := mt3 6 rfl rfl
set_option maxRecDepth 20000 in
theorem ml_L_98 : Cond.methodLink RL 98 yX5_cried ∈ lwt := mt3 10 rfl rfl
set_option maxRecDepth 20000 in
theorem ml_L_102 : Cond.methodLink RL 102 yX5_halve ∈ lwt := mt3 14 rfl rfl
set_option maxRecDepth 20000 in
theorem ml_X5_181 : Cond.methodLink RX5 181 yX2_begin ∈ lwt := mt3 18 rfl rfl
set_option maxRecDepth 20000 in
theorem ml_X5_185 : Cond.methodLink RX5 185 yX2_mostReruns ∈ lwt := mt3 22 rfl rfl
set_option maxRecDepth 20000 in
theorem ml_L_106 : Cond.methodLink RL 106 yX5_asks ∈ lwt := mt3 26 rfl rfl
set_option maxRecDepth 20000 in
theorem ml_X5_191 : Cond.methodLink RX5 191 yX2_hasEnded ∈ lwt := mt3 30 rfl rfl
set_option maxRecDepth 20000 in
theorem ml_X5_195 : Cond.methodLink RX5 195 yX2_middleBuild ∈ lwt := mt3 34 rfl rfl
set_option maxRecDepth 20000 in
theorem ml_L_111 : Cond.methodLink RL 111 yX5_rerun ∈ lwt := mt3 38 rfl rfl
set_option maxRecDepth 20000 in
theorem ml_X5_198 : Cond.methodLink RX5 198 yX2_take ∈ lwt := mt3 42 rfl rfl
set_option maxRecDepth 20000 in
theorem ml_X2_32 : Cond.methodLink RX2 32 yX2_decide ∈ lwt := mt3 46 rfl rfl
set_option maxRecDepth 20000 in
theorem ml_X2_35 : Cond.methodLink RX2 35 yX2_middleBuild ∈ lwt := mt3 50 rfl rfl
set_option maxRecDepth 20000 in
theorem ml_L_116 : Cond.methodLink RL 116 yX5_found ∈ lwt := mt3 51 rfl rfl
set_option maxRecDepth 20000 in
theorem ml_L_120 : Cond.methodLink RL 120 yX5_reruns ∈ lwt := mt3 55 rfl rfl
set_option maxRecDepth 20000 in
theorem ml_L_124 : Cond.methodLink RL 124 yX5_upper ∈ lwt := mt3 59 rfl rfl
set_option maxRecDepth 20000 in
theorem ml_L_129 : Cond.methodLink RL 129 yX5_lower ∈ lwt := mt3 63 rfl rfl
set_option maxRecDepth 20000 in
theorem ml_L_133 : Cond.methodLink RL 133 yX5_asked ∈ lwt := mt3 67 rfl rfl
set_option maxRecDepth 20000 in
theorem ml_L_137 : Cond.methodLink RL 137 yX5_count ∈ lwt := mt3 71 rfl rfl
set_option maxRecDepth 20000 in
theorem ml_X5_208 : Cond.methodLink RX5 208 yX5_countRows ∈ lwt := mt3 75 rfl rfl
set_option maxRecDepth 20000 in
theorem ml_L_141 : Cond.methodLink RL 141 yX5_finding ∈ lwt := mt3 79 rfl rfl
set_option maxRecDepth 20000 in
theorem ml_L_145 : Cond.methodLink RL 145 yX5_findings ∈ lwt := mt3 83 rfl rfl
set_option maxRecDepth 20000 in
theorem ml_L_149 : Cond.methodLink RL 149 yX5_digest ∈ lwt := mt3 87 rfl rfl
set_option maxRecDepth 20000 in
theorem ml_X5_222 : Cond.methodLink RX5 222 yX3_digestOnto ∈ lwt := mt3 93 rfl rfl
set_option maxRecDepth 20000 in
theorem ml_X5_226 : Cond.methodLink RX5 226 yX5_asks ∈ lwt := mt3 98 rfl rfl
set_option maxRecDepth 20000 in
theorem ml_X5_229 : Cond.methodLink RX5 229 yX5_found ∈ lwt := mt3 99 rfl rfl
set_option maxRecDepth 20000 in
theorem ml_X5_232 : Cond.methodLink RX5 232 yX5_reruns ∈ lwt := mt3 100 rfl rfl
set_option maxRecDepth 20000 in
theorem ml_L_12 : Cond.methodLink RL 12 yX6_init ∈ lwt := mt3 103 rfl rfl
set_option maxRecDepth 20000 in
theorem ml_X6_1 : Cond.methodLink RX6 1 objectInit ∈ lwt := mt3 106 rfl rfl
set_option maxRecDepth 20000 in
theorem ml_L_144 : Cond.methodLink RL 144 yX6_finding ∈ lwt := mt3 234 rfl rfl
set_option maxRecDepth 20000 in
theorem ml_L_148 : Cond.methodLink RL 148 yX6_findings ∈ lwt := mt3 238 rfl rfl
set_option maxRecDepth 20000 in
theorem ml_X6_84 : Cond.methodLink RX6 84 yX6_in ∈ lwt := mt4 2 rfl rfl
set_option maxRecDepth 20000 in
theorem ml_L_136 : Cond.methodLink RL 136 yX6_asked ∈ lwt := mt4 5 rfl rfl
set_option maxRecDepth 20000 in
theorem ml_L_17 : Cond.methodLink RL 17 yX6_builds ∈ lwt := mt4 9 rfl rfl
set_option maxRecDepth 20000 in
theorem ml_L_21 : Cond.methodLink RL 21 yX6_test ∈ lwt := mt4 13 rfl rfl
set_option maxRecDepth 20000 in
theorem ml_L_26 : Cond.methodLink RL 26 yX6_is ∈ lwt := mt4 17 rfl rfl
set_option maxRecDepth 20000 in
theorem ml_X6_97 : Cond.methodLink RX6 97 yX6_isTest ∈ lwt := mt4 21 rfl rfl
set_option maxRecDepth 20000 in
theorem ml_L_30 : Cond.methodLink RL 30 yX6_row ∈ lwt := mt4 25 rfl rfl
set_option maxRecDepth 20000 in
theorem ml_X6_101 : Cond.methodLink RX6 101 yX6_isRow ∈ lwt := mt4 29 rfl rfl
set_option maxRecDepth 20000 in
theorem ml_L_35 : Cond.methodLink RL 35 yX6_lay ∈ lwt := mt4 33 rfl rfl
set_option maxRecDepth 20000 in
theorem ml_X6_106 : Cond.methodLink RX6 106 yX6_meets ∈ lwt := mt4 38 rfl rfl
set_option maxRecDepth 20000 in
theorem ml_L_40 : Cond.methodLink RL 40 yX6_at ∈ lwt := mt4 42 rfl rfl
set_option maxRecDepth 20000 in
theorem ml_L_44 : Cond.methodLink RL 44 yX6_tear ∈ lwt := mt4 46 rfl rfl
set_option maxRecDepth 20000 in
theorem ml_L_49 : Cond.methodLink RL 49 yX6_copy ∈ lwt := mt4 50 rfl rfl
set_option maxRecDepth 20000 in
theorem ml_L_53 : Cond.methodLink RL 53 yX6_rank ∈ lwt := mt4 55 rfl rfl
set_option maxRecDepth 20000 in
theorem ml_X6_119 : Cond.methodLink RX6 119 yX6_need ∈ lwt := mt4 59 rfl rfl
set_option maxRecDepth 20000 in
theorem ml_X6_115 : Cond.methodLink RX6 115 yX6_layCuts ∈ lwt := mt4 63 rfl rfl
set_option maxRecDepth 20000 in
theorem ml_X6_126 : Cond.methodLink RX6 126 yX6_layRow ∈ lwt := mt4 67 rfl rfl
set_option maxRecDepth 20000 in
theorem ml_X6_129 : Cond.methodLink RX6 129 yX6_costOf ∈ lwt := mt4 71 rfl rfl
set_option maxRecDepth 20000 in
theorem ml_L_57 : Cond.methodLink RL 57 yX6_mean ∈ lwt := mt4 75 rfl rfl
set_option maxRecDepth 20000 in
theorem ml_L_61 : Cond.methodLink RL 61 yX6_price ∈ lwt := mt4 79 rfl rfl
set_option maxRecDepth 20000 in
theorem ml_L_65 : Cond.methodLink RL 65 yX6_cuts ∈ lwt := mt4 83 rfl rfl
set_option maxRecDepth 20000 in
theorem ml_L_69 : Cond.methodLink RL 69 yX6_cut ∈ lwt := mt4 87 rfl rfl
set_option maxRecDepth 20000 in
theorem ml_X6_135 : Cond.methodLink RX6 135 yX6_isCut ∈ lwt := mt4 91 rfl rfl
set_option maxRecDepth 20000 in
theorem ml_X6_138 : Cond.methodLink RX6 138 yX6_buildOfCut ∈ lwt := mt4 95 rfl rfl
set_option maxRecDepth 20000 in
theorem ml_L_73 : Cond.methodLink RL 73 yX6_middle ∈ lwt := mt4 99 rfl rfl
set_option maxRecDepth 20000 in
theorem ml_L_77 : Cond.methodLink RL 77 yX6_size ∈ lwt := mt4 103 rfl rfl
set_option maxRecDepth 20000 in
theorem ml_X6_141 : Cond.methodLink RX6 141 yX6_sizeOf ∈ lwt := mt4 107 rfl rfl
set_option maxRecDepth 20000 in
theorem ml_L_81 : Cond.methodLink RL 81 yX6_reach ∈ lwt := mt4 111 rfl rfl
set_option maxRecDepth 20000 in
theorem ml_L_85 : Cond.methodLink RL 85 yX6_own ∈ lwt := mt4 115 rfl rfl
set_option maxRecDepth 20000 in
theorem ml_X6_150 : Cond.methodLink RX6 150 yX6_isOwn ∈ lwt := mt4 119 rfl rfl
set_option maxRecDepth 20000 in
theorem ml_X6_144 : Cond.methodLink RX6 144 yX6_showsNear ∈ lwt := mt4 123 rfl rfl
set_option maxRecDepth 20000 in
theorem ml_X6_147 : Cond.methodLink RX6 147 yX6_couldShow ∈ lwt := mt4 127 rfl rfl
set_option maxRecDepth 20000 in
theorem ml_L_89 : Cond.methodLink RL 89 yX6_undone ∈ lwt := mt4 131 rfl rfl
set_option maxRecDepth 20000 in
theorem ml_X6_155 : Cond.methodLink RX6 155 yX6_layPairs ∈ lwt := mt4 135 rfl rfl
set_option maxRecDepth 20000 in
theorem ml_L_93 : Cond.methodLink RL 93 yX6_odds ∈ lwt := mt4 140 rfl rfl
set_option maxRecDepth 20000 in
theorem ml_X6_164 : Cond.methodLink RX6 164 yX6_layOdds ∈ lwt := mt4 144 rfl rfl
set_option maxRecDepth 20000 in
theorem ml_X6_167 : Cond.methodLink RX6 167 yX6_gcd ∈ lwt := mt4 148 rfl rfl
set_option maxRecDepth 20000 in
theorem ml_L_128 : Cond.methodLink RL 128 yX6_upper ∈ lwt := mt4 151 rfl rfl
set_option maxRecDepth 20000 in
theorem ml_L_132 : Cond.methodLink RL 132 yX6_lower ∈ lwt := mt4 155 rfl rfl
set_option maxRecDepth 20000 in
theorem ml_L_97 : Cond.methodLink RL 97 yX6_cry ∈ lwt := mt4 159 rfl rfl
set_option maxRecDepth 20000 in
theorem ml_X6_184 : Cond.methodLink RX6 184 yX6_cryOf ∈ lwt := mt4 163 rfl rfl
set_option maxRecDepth 20000 in
theorem ml_X6_174 : Cond.methodLink RX6 174 yX6_isLoud ∈ lwt := mt4 167 rfl rfl
set_option maxRecDepth 20000 in
theorem ml_L_101 : Cond.methodLink RL 101 yX6_cried ∈ lwt := mt4 171 rfl rfl
set_option maxRecDepth 20000 in
theorem ml_L_105 : Cond.methodLink RL 105 yX6_halve ∈ lwt := mt4 175 rfl rfl
set_option maxRecDepth 20000 in
theorem ml_L_110 : Cond.methodLink RL 110 yX6_asks ∈ lwt := mt4 179 rfl rfl
set_option maxRecDepth 20000 in
theorem ml_X6_210 : Cond.methodLink RX6 210 yX6_hasEnded ∈ lwt := mt4 183 rfl rfl
set_option maxRecDepth 20000 in
theorem ml_X6_214 : Cond.methodLink RX6 214 yX6_middleBuild ∈ lwt := mt4 187 rfl rfl
set_option maxRecDepth 20000 in
theorem ml_L_115 : Cond.methodLink RL 115 yX6_rerun ∈ lwt := mt4 191 rfl rfl
set_option maxRecDepth 20000 in
theorem ml_L_119 : Cond.methodLink RL 119 yX6_found ∈ lwt := mt4 195 rfl rfl
set_option maxRecDepth 20000 in
theorem ml_L_123 : Cond.methodLink RL 123 yX6_reruns ∈ lwt := mt4 199 rfl rfl
set_option maxRecDepth 20000 in
theorem ml_L_140 : Cond.methodLink RL 140 yX6_count ∈ lwt := mt4 203 rfl rfl
set_option maxRecDepth 20000 in
theorem ml_L_152 : Cond.methodLink RL 152 yX6_digest ∈ lwt := mt4 207 rfl rfl
set_option maxRecDepth 20000 in
theorem ml_X6_222 : Cond.methodLink RX6 222 yX6_asks ∈ lwt := mt4 213 rfl rfl
set_option maxRecDepth 20000 in
theorem ml_X6_225 : Cond.methodLink RX6 225 yX6_found ∈ lwt := mt4 214 rfl rfl
abbrev cdX5_init : Cond := .code yX5_init cX5_init 1 none
set_option maxRecDepth 20000 in
theorem yk_X5_init : Yk yX5_init cdX5_init cX5_init 1 none 0 := ⟨rfl, mt1 16 rfl rfl, ini_X5, by decide +kernel⟩
set_option maxRecDepth 20000 in
theorem cd_object : Cond.code objectInit ⟨#[0xb1]⟩ 1 none ∈ lwt := mt1 19 rfl rfl
abbrev cdX1_init : Cond := .code yX1_init cX1_init 1 none
set_option maxRecDepth 20000 in
theorem yk_X1_init : Yk yX1_init cdX1_init cX1_init 1 none 0 := ⟨rfl, mt1 26 rfl rfl, ini_X1, by decide +kernel⟩
abbrev cdX2_init : Cond := .code yX2_init cX2_init 1 none
set_option maxRecDepth 20000 in
theorem yk_X2_init : Yk yX2_init cdX2_init cX2_init 1 none 0 := ⟨rfl, mt1 46 rfl rfl, ini_X2, by decide +kernel⟩
abbrev cdX5_builds : Cond := .code yX5_builds cX5_builds 2 (some .int)
set_option maxRecDepth 20000 in
theorem yk_X5_builds : Yk yX5_builds cdX5_builds cX5_builds 2 (some .int) 1 := ⟨rfl, mt1 122 rfl rfl, ini_X5, by decide +kernel⟩
abbrev cdX5_test : Cond := .code yX5_test cX5_test 2 (some .int)
set_option maxRecDepth 20000 in
theorem yk_X5_test : Yk yX5_test cdX5_test cX5_test 2 (some .int) 1 := ⟨rfl, mt1 126 rfl rfl, ini_X5, by decide +kernel⟩
abbrev cdX5_isKind : Cond := .code yX5_isKind cX5_isKind 1 (some .boolean)
set_option maxRecDepth 20000 in
theorem yk_X5_isKind : Yk yX5_isKind cdX5_isKind cX5_isKind 1 (some .boolean) 1 := ⟨rfl, mt1 129 rfl rfl, ini_X5, by decide +kernel⟩
abbrev cdX5_isWithin : Cond := .code yX5_isWithin cX5_isWithin 2 (some .boolean)
set_option maxRecDepth 20000 in
theorem yk_X5_isWithin : Yk yX5_isWithin cdX5_isWithin cX5_isWithin 2 (some .boolean) 2 := ⟨rfl, mt1 132 rfl rfl, ini_X5, by decide +kernel⟩
abbrev cdX4_init : Cond := .code yX4_init cX4_init 3 none
set_option maxRecDepth 20000 in
theorem yk_X4_init : Yk yX4_init cdX4_init cX4_init 3 none 1 := ⟨rfl, mt1 136 rfl rfl, ini_X4, by decide +kernel⟩
abbrev cdX3_init : Cond := .code yX3_init cX3_init 1 none
set_option maxRecDepth 20000 in
theorem yk_X3_init : Yk yX3_init cdX3_init cX3_init 1 none 0 := ⟨rfl, mt1 143 rfl rfl, ini_X3, by decide +kernel⟩
abbrev cdJ7_fill_53178 : Cond := .code yJ7_fill_53178 cJ7_fill_53178 4 none
set_option maxRecDepth 20000 in
theorem yk_J7_fill_53178 : Yk yJ7_fill_53178 cdJ7_fill_53178 cJ7_fill_53178 4 none 2 := ⟨rfl, mt1 147 rfl rfl, ini_J7, by decide +kernel⟩
abbrev cdX5_is : Cond := .code yX5_is cX5_is 4 (some .int)
set_option maxRecDepth 20000 in
theorem yk_X5_is : Yk yX5_is cdX5_is cX5_is 4 (some .int) 2 := ⟨rfl, mt1 221 rfl rfl, ini_X5, by decide +kernel⟩
abbrev cdX5_findTest : Cond := .code yX5_findTest cX5_findTest 2 (some (.object "SlowWatch$Test"))
set_option maxRecDepth 20000 in
theorem yk_X5_findTest : Yk yX5_findTest cdX5_findTest cX5_findTest 2 (some (.object "SlowWatch$Test")) 1 := ⟨rfl, mt1 225 rfl rfl, ini_X5, by decide +kernel⟩
abbrev cdX5_row : Cond := .code yX5_row cX5_row 5 (some .int)
set_option maxRecDepth 20000 in
theorem yk_X5_row : Yk yX5_row cdX5_row cX5_row 5 (some .int) 2 := ⟨rfl, mt1 229 rfl rfl, ini_X5, by decide +kernel⟩
abbrev cdX5_findRow : Cond := .code yX5_findRow cX5_findRow 4 (some (.object "SlowWatch$Row"))
set_option maxRecDepth 20000 in
theorem yk_X5_findRow : Yk yX5_findRow cdX5_findRow cX5_findRow 4 (some (.object "SlowWatch$Row")) 2 := ⟨rfl, mt1 233 rfl rfl, ini_X5, by decide +kernel⟩
abbrev cdX3_empty : Cond := .code yX3_empty cX3_empty 1 none
set_option maxRecDepth 20000 in
theorem yk_X3_empty : Yk yX3_empty cdX3_empty cX3_empty 1 none 0 := ⟨rfl, mt1 237 rfl rfl, ini_X3, by decide +kernel⟩
abbrev cdX5_lay : Cond := .code yX5_lay cX5_lay 7 (some .int)
set_option maxRecDepth 20000 in
theorem yk_X5_lay : Yk yX5_lay cdX5_lay cX5_lay 7 (some .int) 4 := ⟨rfl, mt2 1 rfl rfl, ini_X5, by decide +kernel⟩
abbrev cdX5_refuseWith : Cond := .code yX5_refuseWith cX5_refuseWith 2 (some .int)
set_option maxRecDepth 20000 in
theorem yk_X5_refuseWith : Yk yX5_refuseWith cdX5_refuseWith cX5_refuseWith 2 (some .int) 1 := ⟨rfl, mt2 6 rfl rfl, ini_X5, by decide +kernel⟩
abbrev cdX5_isPlace : Cond := .code yX5_isPlace cX5_isPlace 1 (some .boolean)
set_option maxRecDepth 20000 in
theorem yk_X5_isPlace : Yk yX5_isPlace cdX5_isPlace cX5_isPlace 1 (some .boolean) 1 := ⟨rfl, mt2 9 rfl rfl, ini_X5, by decide +kernel⟩
abbrev cdX5_at : Cond := .code yX5_at cX5_at 5 (some .int)
set_option maxRecDepth 20000 in
theorem yk_X5_at : Yk yX5_at cdX5_at cX5_at 5 (some .int) 3 := ⟨rfl, mt2 13 rfl rfl, ini_X5, by decide +kernel⟩
abbrev cdX5_refuseRow : Cond := .code yX5_refuseRow cX5_refuseRow 2 (some .int)
set_option maxRecDepth 20000 in
theorem yk_X5_refuseRow : Yk yX5_refuseRow cdX5_refuseRow cX5_refuseRow 2 (some .int) 1 := ⟨rfl, mt2 17 rfl rfl, ini_X5, by decide +kernel⟩
abbrev cdX5_tear : Cond := .code yX5_tear cX5_tear 4 (some .int)
set_option maxRecDepth 20000 in
theorem yk_X5_tear : Yk yX5_tear cdX5_tear cX5_tear 4 (some .int) 2 := ⟨rfl, mt2 21 rfl rfl, ini_X5, by decide +kernel⟩
abbrev cdX5_copy : Cond := .code yX5_copy cX5_copy 9 (some .int)
set_option maxRecDepth 20000 in
theorem yk_X5_copy : Yk yX5_copy cdX5_copy cX5_copy 9 (some .int) 6 := ⟨rfl, mt2 25 rfl rfl, ini_X5, by decide +kernel⟩
abbrev cdX5_holds : Cond := .code yX5_holds cX5_holds 2 (some .boolean)
set_option maxRecDepth 20000 in
theorem yk_X5_holds : Yk yX5_holds cdX5_holds cX5_holds 2 (some .boolean) 2 := ⟨rfl, mt2 28 rfl rfl, ini_X5, by decide +kernel⟩
abbrev cdX5_rank : Cond := .code yX5_rank cX5_rank 5 (some .int)
set_option maxRecDepth 20000 in
theorem yk_X5_rank : Yk yX5_rank cdX5_rank cX5_rank 5 (some .int) 3 := ⟨rfl, mt2 35 rfl rfl, ini_X5, by decide +kernel⟩
abbrev cdX3_rankOf : Cond := .code yX3_rankOf cX3_rankOf 7 (some .int)
set_option maxRecDepth 20000 in
theorem yk_X3_rankOf : Yk yX3_rankOf cdX3_rankOf cX3_rankOf 7 (some .int) 2 := ⟨rfl, mt2 39 rfl rfl, ini_X3, by decide +kernel⟩
abbrev cdX5_mean : Cond := .code yX5_mean cX5_mean 7 (some .int)
set_option maxRecDepth 20000 in
theorem yk_X5_mean : Yk yX5_mean cdX5_mean cX5_mean 7 (some .int) 2 := ⟨rfl, mt2 43 rfl rfl, ini_X5, by decide +kernel⟩
abbrev cdX5_price : Cond := .code yX5_price cX5_price 3 (some .int)
set_option maxRecDepth 20000 in
theorem yk_X5_price : Yk yX5_price cdX5_price cX5_price 3 (some .int) 1 := ⟨rfl, mt2 47 rfl rfl, ini_X5, by decide +kernel⟩
abbrev cdX5_cuts : Cond := .code yX5_cuts cX5_cuts 4 (some .int)
set_option maxRecDepth 20000 in
theorem yk_X5_cuts : Yk yX5_cuts cdX5_cuts cX5_cuts 4 (some .int) 2 := ⟨rfl, mt2 51 rfl rfl, ini_X5, by decide +kernel⟩
abbrev cdX5_bringUpToDate : Cond := .code yX5_bringUpToDate cX5_bringUpToDate 2 none
set_option maxRecDepth 20000 in
theorem yk_X5_bringUpToDate : Yk yX5_bringUpToDate cdX5_bringUpToDate cX5_bringUpToDate 2 none 1 := ⟨rfl, mt2 55 rfl rfl, ini_X5, by decide +kernel⟩
abbrev cdX1_divide : Cond := .code yX1_divide cX1_divide 5 none
set_option maxRecDepth 20000 in
theorem yk_X1_divide : Yk yX1_divide cdX1_divide cX1_divide 5 none 3 := ⟨rfl, mt2 59 rfl rfl, ini_X1, by decide +kernel⟩
abbrev cdX3_gatherMeasured : Cond := .code yX3_gatherMeasured cX3_gatherMeasured 3 none
set_option maxRecDepth 20000 in
theorem yk_X3_gatherMeasured : Yk yX3_gatherMeasured cdX3_gatherMeasured cX3_gatherMeasured 3 none 1 := ⟨rfl, mt2 63 rfl rfl, ini_X3, by decide +kernel⟩
abbrev cdX1_solveFrom : Cond := .code yX1_solveFrom cX1_solveFrom 12 none
set_option maxRecDepth 20000 in
theorem yk_X1_solveFrom : Yk yX1_solveFrom cdX1_solveFrom cX1_solveFrom 12 none 3 := ⟨rfl, mt2 68 rfl rfl, ini_X1, by decide +kernel⟩
abbrev cdX1_farFromMiddle : Cond := .code yX1_farFromMiddle cX1_farFromMiddle 5 (some .int)
set_option maxRecDepth 20000 in
theorem yk_X1_farFromMiddle : Yk yX1_farFromMiddle cdX1_farFromMiddle cX1_farFromMiddle 5 (some .int) 2 := ⟨rfl, mt2 72 rfl rfl, ini_X1, by decide +kernel⟩
abbrev cdX1_insert : Cond := .code yX1_insert cX1_insert 4 none
set_option maxRecDepth 20000 in
theorem yk_X1_insert : Yk yX1_insert cdX1_insert cX1_insert 4 none 2 := ⟨rfl, mt2 76 rfl rfl, ini_X1, by decide +kernel⟩
abbrev cdX1_setSpans : Cond := .code yX1_setSpans cX1_setSpans 4 none
set_option maxRecDepth 20000 in
theorem yk_X1_setSpans : Yk yX1_setSpans cdX1_setSpans cX1_setSpans 4 none 1 := ⟨rfl, mt2 80 rfl rfl, ini_X1, by decide +kernel⟩
abbrev cdX1_setMiddles : Cond := .code yX1_setMiddles cX1_setMiddles 5 none
set_option maxRecDepth 20000 in
theorem yk_X1_setMiddles : Yk yX1_setMiddles cdX1_setMiddles cX1_setMiddles 5 none 1 := ⟨rfl, mt2 84 rfl rfl, ini_X1, by decide +kernel⟩
abbrev cdX3_pairSteps : Cond := .code yX3_pairSteps cX3_pairSteps 2 none
set_option maxRecDepth 20000 in
theorem yk_X3_pairSteps : Yk yX3_pairSteps cdX3_pairSteps cX3_pairSteps 2 none 0 := ⟨rfl, mt2 88 rfl rfl, ini_X3, by decide +kernel⟩
abbrev cdX3_cutCount : Cond := .code yX3_cutCount cX3_cutCount 1 (some .int)
set_option maxRecDepth 20000 in
theorem yk_X3_cutCount : Yk yX3_cutCount cdX3_cutCount cX3_cutCount 1 (some .int) 0 := ⟨rfl, mt2 92 rfl rfl, ini_X3, by decide +kernel⟩
abbrev cdX3_stepSize : Cond := .code yX3_stepSize cX3_stepSize 2 (some .int)
set_option maxRecDepth 20000 in
theorem yk_X3_stepSize : Yk yX3_stepSize cdX3_stepSize cX3_stepSize 2 (some .int) 1 := ⟨rfl, mt2 96 rfl rfl, ini_X3, by decide +kernel⟩
abbrev cdX3_pairStep : Cond := .code yX3_pairStep cX3_pairStep 6 none
set_option maxRecDepth 20000 in
theorem yk_X3_pairStep : Yk yX3_pairStep cdX3_pairStep cX3_pairStep 6 none 1 := ⟨rfl, mt2 100 rfl rfl, ini_X3, by decide +kernel⟩
set_option maxRecDepth 20000 in
theorem cd_math_abs : Cond.code Lib.Math.abs.name Lib.Math.abs.code 1 (some .int) ∈ lwt := mt2 103 rfl rfl
abbrev cdX5_cut : Cond := .code yX5_cut cX5_cut 5 (some .int)
set_option maxRecDepth 20000 in
theorem yk_X5_cut : Yk yX5_cut cdX5_cut cX5_cut 5 (some .int) 3 := ⟨rfl, mt2 108 rfl rfl, ini_X5, by decide +kernel⟩
abbrev cdX3_hasCut : Cond := .code yX3_hasCut cX3_hasCut 2 (some .boolean)
set_option maxRecDepth 20000 in
theorem yk_X3_hasCut : Yk yX3_hasCut cdX3_hasCut cX3_hasCut 2 (some .boolean) 1 := ⟨rfl, mt2 112 rfl rfl, ini_X3, by decide +kernel⟩
abbrev cdX3_cutBuild : Cond := .code yX3_cutBuild cX3_cutBuild 2 (some .int)
set_option maxRecDepth 20000 in
theorem yk_X3_cutBuild : Yk yX3_cutBuild cdX3_cutBuild cX3_cutBuild 2 (some .int) 1 := ⟨rfl, mt2 116 rfl rfl, ini_X3, by decide +kernel⟩
abbrev cdX5_middle : Cond := .code yX5_middle cX5_middle 5 (some .int)
set_option maxRecDepth 20000 in
theorem yk_X5_middle : Yk yX5_middle cdX5_middle cX5_middle 5 (some .int) 3 := ⟨rfl, mt2 120 rfl rfl, ini_X5, by decide +kernel⟩
abbrev cdX5_size : Cond := .code yX5_size cX5_size 5 (some .int)
set_option maxRecDepth 20000 in
theorem yk_X5_size : Yk yX5_size cdX5_size cX5_size 5 (some .int) 3 := ⟨rfl, mt2 124 rfl rfl, ini_X5, by decide +kernel⟩
abbrev cdX5_reach : Cond := .code yX5_reach cX5_reach 3 (some .int)
set_option maxRecDepth 20000 in
theorem yk_X5_reach : Yk yX5_reach cdX5_reach cX5_reach 3 (some .int) 1 := ⟨rfl, mt2 129 rfl rfl, ini_X5, by decide +kernel⟩
abbrev cdX5_own : Cond := .code yX5_own cX5_own 6 (some .int)
set_option maxRecDepth 20000 in
theorem yk_X5_own : Yk yX5_own cdX5_own cX5_own 6 (some .int) 3 := ⟨rfl, mt2 133 rfl rfl, ini_X5, by decide +kernel⟩
abbrev cdX5_bringRowsUpToDate : Cond := .code yX5_bringRowsUpToDate cX5_bringRowsUpToDate 3 none
set_option maxRecDepth 20000 in
theorem yk_X5_bringRowsUpToDate : Yk yX5_bringRowsUpToDate cdX5_bringRowsUpToDate cX5_bringRowsUpToDate 3 none 1 := ⟨rfl, mt2 137 rfl rfl, ini_X5, by decide +kernel⟩
abbrev cdX5_isItsOwn : Cond := .code yX5_isItsOwn cX5_isItsOwn 10 (some .boolean)
set_option maxRecDepth 20000 in
theorem yk_X5_isItsOwn : Yk yX5_isItsOwn cdX5_isItsOwn cX5_isItsOwn 10 (some .boolean) 3 := ⟨rfl, mt2 141 rfl rfl, ini_X5, by decide +kernel⟩
abbrev cdJ6_signum_0f7a4 : Cond := .code yJ6_signum_0f7a4 cJ6_signum_0f7a4 1 (some .int)
set_option maxRecDepth 20000 in
theorem yk_J6_signum_0f7a4 : Yk yJ6_signum_0f7a4 cdJ6_signum_0f7a4 cJ6_signum_0f7a4 1 (some .int) 1 := ⟨rfl, mt2 144 rfl rfl, ini_J6, by decide +kernel⟩
abbrev cdX3_stepsNear : Cond := .code yX3_stepsNear cX3_stepsNear 6 (some .boolean)
set_option maxRecDepth 20000 in
theorem yk_X3_stepsNear : Yk yX3_stepsNear cdX3_stepsNear cX3_stepsNear 6 (some .boolean) 3 := ⟨rfl, mt2 148 rfl rfl, ini_X3, by decide +kernel⟩
abbrev cdX3_isMeasuredAround : Cond := .code yX3_isMeasuredAround cX3_isMeasuredAround 2 (some .boolean)
set_option maxRecDepth 20000 in
theorem yk_X3_isMeasuredAround : Yk yX3_isMeasuredAround cdX3_isMeasuredAround cX3_isMeasuredAround 2 (some .boolean) 1 := ⟨rfl, mt2 154 rfl rfl, ini_X3, by decide +kernel⟩
abbrev cdX5_undone : Cond := .code yX5_undone cX5_undone 6 (some .int)
set_option maxRecDepth 20000 in
theorem yk_X5_undone : Yk yX5_undone cdX5_undone cX5_undone 6 (some .int) 3 := ⟨rfl, mt2 158 rfl rfl, ini_X5, by decide +kernel⟩
abbrev cdX3_undoingOf : Cond := .code yX3_undoingOf cX3_undoingOf 2 (some .int)
set_option maxRecDepth 20000 in
theorem yk_X3_undoingOf : Yk yX3_undoingOf cdX3_undoingOf cX3_undoingOf 2 (some .int) 1 := ⟨rfl, mt2 162 rfl rfl, ini_X3, by decide +kernel⟩
abbrev cdX5_odds : Cond := .code yX5_odds cX5_odds 6 (some .int)
set_option maxRecDepth 20000 in
theorem yk_X5_odds : Yk yX5_odds cdX5_odds cX5_odds 6 (some .int) 3 := ⟨rfl, mt2 166 rfl rfl, ini_X5, by decide +kernel⟩
abbrev cdX5_readyChances : Cond := .code yX5_readyChances cX5_readyChances 1 (some (.object "SlowWatch$Chances"))
set_option maxRecDepth 20000 in
theorem yk_X5_readyChances : Yk yX5_readyChances cdX5_readyChances cX5_readyChances 1 (some (.object "SlowWatch$Chances")) 0 := ⟨rfl, mt2 170 rfl rfl, ini_X5, by decide +kernel⟩
abbrev cdX0_init : Cond := .code yX0_init cX0_init 1 none
set_option maxRecDepth 20000 in
theorem yk_X0_init : Yk yX0_init cdX0_init cX0_init 1 none 0 := ⟨rfl, mt2 175 rfl rfl, ini_X0, by decide +kernel⟩
abbrev cdX0_reckon : Cond := .code yX0_reckon cX0_reckon 14 (some .boolean)
set_option maxRecDepth 20000 in
theorem yk_X0_reckon : Yk yX0_reckon cdX0_reckon cX0_reckon 14 (some .boolean) 2 := ⟨rfl, mt2 192 rfl rfl, ini_X0, by decide +kernel⟩
abbrev cdX0_outermost : Cond := .code yX0_outermost cX0_outermost 6 (some .int)
set_option maxRecDepth 20000 in
theorem yk_X0_outermost : Yk yX0_outermost cdX0_outermost cX0_outermost 6 (some .int) 4 := ⟨rfl, mt2 196 rfl rfl, ini_X0, by decide +kernel⟩
set_option maxRecDepth 20000 in
theorem cd_math_max : Cond.code Lib.Math.max.name Lib.Math.max.code 2 (some .int) ∈ lwt := mt2 199 rfl rfl
set_option maxRecDepth 20000 in
theorem cd_math_min : Cond.code Lib.Math.min.name Lib.Math.min.code 2 (some .int) ∈ lwt := mt2 202 rfl rfl
abbrev cdX0_countUpTo : Cond := .code yX0_countUpTo cX0_countUpTo 9 (some .int)
set_option maxRecDepth 20000 in
theorem yk_X0_countUpTo : Yk yX0_countUpTo cdX0_countUpTo cX0_countUpTo 9 (some .int) 6 := ⟨rfl, mt2 207 rfl rfl, ini_X0, by decide +kernel⟩
abbrev cdX0_clear : Cond := .code yX0_clear cX0_clear 5 none
set_option maxRecDepth 20000 in
theorem yk_X0_clear : Yk yX0_clear cdX0_clear cX0_clear 5 none 2 := ⟨rfl, mt2 211 rfl rfl, ini_X0, by decide +kernel⟩
abbrev cdX0_addOne : Cond := .code yX0_addOne cX0_addOne 8 none
set_option maxRecDepth 20000 in
theorem yk_X0_addOne : Yk yX0_addOne cdX0_addOne cX0_addOne 8 none 3 := ⟨rfl, mt2 215 rfl rfl, ini_X0, by decide +kernel⟩
abbrev cdX0_choose : Cond := .code yX0_choose cX0_choose 4 (some .int)
set_option maxRecDepth 20000 in
theorem yk_X0_choose : Yk yX0_choose cdX0_choose cX0_choose 4 (some .int) 2 := ⟨rfl, mt2 218 rfl rfl, ini_X0, by decide +kernel⟩
abbrev cdX0_commonDivisor : Cond := .code yX0_commonDivisor cX0_commonDivisor 6 (some .int)
set_option maxRecDepth 20000 in
theorem yk_X0_commonDivisor : Yk yX0_commonDivisor cdX0_commonDivisor cX0_commonDivisor 6 (some .int) 2 := ⟨rfl, mt2 221 rfl rfl, ini_X0, by decide +kernel⟩
abbrev cdX5_cry : Cond := .code yX5_cry cX5_cry 9 (some .int)
set_option maxRecDepth 20000 in
theorem yk_X5_cry : Yk yX5_cry cdX5_cry cX5_cry 9 (some .int) 3 := ⟨rfl, mt2 225 rfl rfl, ini_X5, by decide +kernel⟩
abbrev cdX5_cryRow : Cond := .code yX5_cryRow cX5_cryRow 10 (some .int)
set_option maxRecDepth 20000 in
theorem yk_X5_cryRow : Yk yX5_cryRow cdX5_cryRow cX5_cryRow 10 (some .int) 5 := ⟨rfl, mt2 229 rfl rfl, ini_X5, by decide +kernel⟩
abbrev cdX5_isAlarming : Cond := .code yX5_isAlarming cX5_isAlarming 6 (some .boolean)
set_option maxRecDepth 20000 in
theorem yk_X5_isAlarming : Yk yX5_isAlarming cdX5_isAlarming cX5_isAlarming 6 (some .boolean) 3 := ⟨rfl, mt2 233 rfl rfl, ini_X5, by decide +kernel⟩
abbrev cdX3_wasAlarmed : Cond := .code yX3_wasAlarmed cX3_wasAlarmed 2 (some .boolean)
set_option maxRecDepth 20000 in
theorem yk_X3_wasAlarmed : Yk yX3_wasAlarmed cdX3_wasAlarmed cX3_wasAlarmed 2 (some .boolean) 1 := ⟨rfl, mt2 237 rfl rfl, ini_X3, by decide +kernel⟩
abbrev cdX5_isRare : Cond := .code yX5_isRare cX5_isRare 6 (some .boolean)
set_option maxRecDepth 20000 in
theorem yk_X5_isRare : Yk yX5_isRare cdX5_isRare cX5_isRare 6 (some .boolean) 4 := ⟨rfl, mt3 1 rfl rfl, ini_X5, by decide +kernel⟩
abbrev cdX3_rememberAlarm : Cond := .code yX3_rememberAlarm cX3_rememberAlarm 2 none
set_option maxRecDepth 20000 in
theorem yk_X3_rememberAlarm : Yk yX3_rememberAlarm cdX3_rememberAlarm cX3_rememberAlarm 2 none 1 := ⟨rfl, mt3 5 rfl rfl, ini_X3, by decide +kernel⟩
abbrev cdX5_keepAlarm : Cond := .code yX5_keepAlarm cX5_keepAlarm 2 none
set_option maxRecDepth 20000 in
theorem yk_X5_keepAlarm : Yk yX5_keepAlarm cdX5_keepAlarm cX5_keepAlarm 2 none 1 := ⟨rfl, mt3 9 rfl rfl, ini_X5, by decide +kernel⟩
abbrev cdX5_cried : Cond := .code yX5_cried cX5_cried 2 (some .int)
set_option maxRecDepth 20000 in
theorem yk_X5_cried : Yk yX5_cried cdX5_cried cX5_cried 2 (some .int) 1 := ⟨rfl, mt3 13 rfl rfl, ini_X5, by decide +kernel⟩
abbrev cdX5_halve : Cond := .code yX5_halve cX5_halve 4 (some .int)
set_option maxRecDepth 20000 in
theorem yk_X5_halve : Yk yX5_halve cdX5_halve cX5_halve 4 (some .int) 3 := ⟨rfl, mt3 17 rfl rfl, ini_X5, by decide +kernel⟩
abbrev cdX2_begin : Cond := .code yX2_begin cX2_begin 4 none
set_option maxRecDepth 20000 in
theorem yk_X2_begin : Yk yX2_begin cdX2_begin cX2_begin 4 none 3 := ⟨rfl, mt3 21 rfl rfl, ini_X2, by decide +kernel⟩
abbrev cdX2_mostReruns : Cond := .code yX2_mostReruns cX2_mostReruns 3 (some .int)
set_option maxRecDepth 20000 in
theorem yk_X2_mostReruns : Yk yX2_mostReruns cdX2_mostReruns cX2_mostReruns 3 (some .int) 0 := ⟨rfl, mt3 25 rfl rfl, ini_X2, by decide +kernel⟩
abbrev cdX5_asks : Cond := .code yX5_asks cX5_asks 1 (some .int)
set_option maxRecDepth 20000 in
theorem yk_X5_asks : Yk yX5_asks cdX5_asks cX5_asks 1 (some .int) 0 := ⟨rfl, mt3 29 rfl rfl, ini_X5, by decide +kernel⟩
abbrev cdX2_hasEnded : Cond := .code yX2_hasEnded cX2_hasEnded 1 (some .boolean)
set_option maxRecDepth 20000 in
theorem yk_X2_hasEnded : Yk yX2_hasEnded cdX2_hasEnded cX2_hasEnded 1 (some .boolean) 0 := ⟨rfl, mt3 33 rfl rfl, ini_X2, by decide +kernel⟩
abbrev cdX2_middleBuild : Cond := .code yX2_middleBuild cX2_middleBuild 1 (some .int)
set_option maxRecDepth 20000 in
theorem yk_X2_middleBuild : Yk yX2_middleBuild cdX2_middleBuild cX2_middleBuild 1 (some .int) 0 := ⟨rfl, mt3 37 rfl rfl, ini_X2, by decide +kernel⟩
abbrev cdX5_rerun : Cond := .code yX5_rerun cX5_rerun 2 (some .int)
set_option maxRecDepth 20000 in
theorem yk_X5_rerun : Yk yX5_rerun cdX5_rerun cX5_rerun 2 (some .int) 1 := ⟨rfl, mt3 41 rfl rfl, ini_X5, by decide +kernel⟩
abbrev cdX2_take : Cond := .code yX2_take cX2_take 2 (some .int)
set_option maxRecDepth 20000 in
theorem yk_X2_take : Yk yX2_take cdX2_take cX2_take 2 (some .int) 1 := ⟨rfl, mt3 45 rfl rfl, ini_X2, by decide +kernel⟩
abbrev cdX2_decide : Cond := .code yX2_decide cX2_decide 2 none
set_option maxRecDepth 20000 in
theorem yk_X2_decide : Yk yX2_decide cdX2_decide cX2_decide 2 none 0 := ⟨rfl, mt3 49 rfl rfl, ini_X2, by decide +kernel⟩
abbrev cdX5_found : Cond := .code yX5_found cX5_found 1 (some .int)
set_option maxRecDepth 20000 in
theorem yk_X5_found : Yk yX5_found cdX5_found cX5_found 1 (some .int) 0 := ⟨rfl, mt3 54 rfl rfl, ini_X5, by decide +kernel⟩
abbrev cdX5_reruns : Cond := .code yX5_reruns cX5_reruns 1 (some .int)
set_option maxRecDepth 20000 in
theorem yk_X5_reruns : Yk yX5_reruns cdX5_reruns cX5_reruns 1 (some .int) 0 := ⟨rfl, mt3 58 rfl rfl, ini_X5, by decide +kernel⟩
abbrev cdX5_upper : Cond := .code yX5_upper cX5_upper 1 (some .long)
set_option maxRecDepth 20000 in
theorem yk_X5_upper : Yk yX5_upper cdX5_upper cX5_upper 1 (some .long) 0 := ⟨rfl, mt3 62 rfl rfl, ini_X5, by decide +kernel⟩
abbrev cdX5_lower : Cond := .code yX5_lower cX5_lower 1 (some .long)
set_option maxRecDepth 20000 in
theorem yk_X5_lower : Yk yX5_lower cdX5_lower cX5_lower 1 (some .long) 0 := ⟨rfl, mt3 66 rfl rfl, ini_X5, by decide +kernel⟩
abbrev cdX5_asked : Cond := .code yX5_asked cX5_asked 1 (some .long)
set_option maxRecDepth 20000 in
theorem yk_X5_asked : Yk yX5_asked cdX5_asked cX5_asked 1 (some .long) 0 := ⟨rfl, mt3 70 rfl rfl, ini_X5, by decide +kernel⟩
abbrev cdX5_count : Cond := .code yX5_count cX5_count 2 (some .int)
set_option maxRecDepth 20000 in
theorem yk_X5_count : Yk yX5_count cdX5_count cX5_count 2 (some .int) 1 := ⟨rfl, mt3 74 rfl rfl, ini_X5, by decide +kernel⟩
abbrev cdX5_countRows : Cond := .code yX5_countRows cX5_countRows 4 (some .int)
set_option maxRecDepth 20000 in
theorem yk_X5_countRows : Yk yX5_countRows cdX5_countRows cX5_countRows 4 (some .int) 0 := ⟨rfl, mt3 78 rfl rfl, ini_X5, by decide +kernel⟩
abbrev cdX5_finding : Cond := .code yX5_finding cX5_finding 1 (some .int)
set_option maxRecDepth 20000 in
theorem yk_X5_finding : Yk yX5_finding cdX5_finding cX5_finding 1 (some .int) 0 := ⟨rfl, mt3 82 rfl rfl, ini_X5, by decide +kernel⟩
abbrev cdX5_findings : Cond := .code yX5_findings cX5_findings 2 (some .int)
set_option maxRecDepth 20000 in
theorem yk_X5_findings : Yk yX5_findings cdX5_findings cX5_findings 2 (some .int) 1 := ⟨rfl, mt3 86 rfl rfl, ini_X5, by decide +kernel⟩
abbrev cdX5_digest : Cond := .code yX5_digest cX5_digest 5 (some .long)
set_option maxRecDepth 20000 in
theorem yk_X5_digest : Yk yX5_digest cdX5_digest cX5_digest 5 (some .long) 0 := ⟨rfl, mt3 90 rfl rfl, ini_X5, by decide +kernel⟩
abbrev cdX3_digestOnto : Cond := .code yX3_digestOnto cX3_digestOnto 6 (some .long)
set_option maxRecDepth 20000 in
theorem yk_X3_digestOnto : Yk yX3_digestOnto cdX3_digestOnto cX3_digestOnto 6 (some .long) 1 := ⟨rfl, mt3 96 rfl rfl, ini_X3, by decide +kernel⟩
abbrev cdX6_init : Cond := .code yX6_init cX6_init 1 none
set_option maxRecDepth 20000 in
theorem yk_X6_init : Yk yX6_init cdX6_init cX6_init 1 none 0 := ⟨rfl, mt3 105 rfl rfl, ini_X6, by decide +kernel⟩
abbrev cdX6_finding : Cond := .code yX6_finding cX6_finding 1 (some .int)
set_option maxRecDepth 20000 in
theorem yk_X6_finding : Yk yX6_finding cdX6_finding cX6_finding 1 (some .int) 0 := ⟨rfl, mt3 237 rfl rfl, ini_X6, by decide +kernel⟩
abbrev cdX6_findings : Cond := .code yX6_findings cX6_findings 2 (some .int)
set_option maxRecDepth 20000 in
theorem yk_X6_findings : Yk yX6_findings cdX6_findings cX6_findings 2 (some .int) 1 := ⟨rfl, mt4 1 rfl rfl, ini_X6, by decide +kernel⟩
abbrev cdX6_in : Cond := .code yX6_in cX6_in 3 (some .boolean)
set_option maxRecDepth 20000 in
theorem yk_X6_in : Yk yX6_in cdX6_in cX6_in 3 (some .boolean) 3 := ⟨rfl, mt4 4 rfl rfl, ini_X6, by decide +kernel⟩
abbrev cdX6_asked : Cond := .code yX6_asked cX6_asked 1 (some .long)
set_option maxRecDepth 20000 in
theorem yk_X6_asked : Yk yX6_asked cdX6_asked cX6_asked 1 (some .long) 0 := ⟨rfl, mt4 8 rfl rfl, ini_X6, by decide +kernel⟩
abbrev cdX6_builds : Cond := .code yX6_builds cX6_builds 2 (some .int)
set_option maxRecDepth 20000 in
theorem yk_X6_builds : Yk yX6_builds cdX6_builds cX6_builds 2 (some .int) 1 := ⟨rfl, mt4 12 rfl rfl, ini_X6, by decide +kernel⟩
abbrev cdX6_test : Cond := .code yX6_test cX6_test 2 (some .int)
set_option maxRecDepth 20000 in
theorem yk_X6_test : Yk yX6_test cdX6_test cX6_test 2 (some .int) 1 := ⟨rfl, mt4 16 rfl rfl, ini_X6, by decide +kernel⟩
abbrev cdX6_is : Cond := .code yX6_is cX6_is 3 (some .int)
set_option maxRecDepth 20000 in
theorem yk_X6_is : Yk yX6_is cdX6_is cX6_is 3 (some .int) 2 := ⟨rfl, mt4 20 rfl rfl, ini_X6, by decide +kernel⟩
abbrev cdX6_isTest : Cond := .code yX6_isTest cX6_isTest 2 (some .boolean)
set_option maxRecDepth 20000 in
theorem yk_X6_isTest : Yk yX6_isTest cdX6_isTest cX6_isTest 2 (some .boolean) 1 := ⟨rfl, mt4 24 rfl rfl, ini_X6, by decide +kernel⟩
abbrev cdX6_row : Cond := .code yX6_row cX6_row 6 (some .int)
set_option maxRecDepth 20000 in
theorem yk_X6_row : Yk yX6_row cdX6_row cX6_row 6 (some .int) 2 := ⟨rfl, mt4 28 rfl rfl, ini_X6, by decide +kernel⟩
abbrev cdX6_isRow : Cond := .code yX6_isRow cX6_isRow 3 (some .boolean)
set_option maxRecDepth 20000 in
theorem yk_X6_isRow : Yk yX6_isRow cdX6_isRow cX6_isRow 3 (some .boolean) 2 := ⟨rfl, mt4 32 rfl rfl, ini_X6, by decide +kernel⟩
abbrev cdX6_lay : Cond := .code yX6_lay cX6_lay 7 (some .int)
set_option maxRecDepth 20000 in
theorem yk_X6_lay : Yk yX6_lay cdX6_lay cX6_lay 7 (some .int) 4 := ⟨rfl, mt4 36 rfl rfl, ini_X6, by decide +kernel⟩
abbrev cdX6_meets : Cond := .code yX6_meets cX6_meets 2 (some .int)
set_option maxRecDepth 20000 in
theorem yk_X6_meets : Yk yX6_meets cdX6_meets cX6_meets 2 (some .int) 1 := ⟨rfl, mt4 41 rfl rfl, ini_X6, by decide +kernel⟩
abbrev cdX6_at : Cond := .code yX6_at cX6_at 5 (some .int)
set_option maxRecDepth 20000 in
theorem yk_X6_at : Yk yX6_at cdX6_at cX6_at 5 (some .int) 3 := ⟨rfl, mt4 45 rfl rfl, ini_X6, by decide +kernel⟩
abbrev cdX6_tear : Cond := .code yX6_tear cX6_tear 3 (some .int)
set_option maxRecDepth 20000 in
theorem yk_X6_tear : Yk yX6_tear cdX6_tear cX6_tear 3 (some .int) 2 := ⟨rfl, mt4 49 rfl rfl, ini_X6, by decide +kernel⟩
abbrev cdX6_copy : Cond := .code yX6_copy cX6_copy 10 (some .int)
set_option maxRecDepth 20000 in
theorem yk_X6_copy : Yk yX6_copy cdX6_copy cX6_copy 10 (some .int) 6 := ⟨rfl, mt4 53 rfl rfl, ini_X6, by decide +kernel⟩
abbrev cdX6_rank : Cond := .code yX6_rank cX6_rank 6 (some .int)
set_option maxRecDepth 20000 in
theorem yk_X6_rank : Yk yX6_rank cdX6_rank cX6_rank 6 (some .int) 3 := ⟨rfl, mt4 58 rfl rfl, ini_X6, by decide +kernel⟩
abbrev cdX6_need : Cond := .code yX6_need cX6_need 3 (some .int)
set_option maxRecDepth 20000 in
theorem yk_X6_need : Yk yX6_need cdX6_need cX6_need 3 (some .int) 2 := ⟨rfl, mt4 62 rfl rfl, ini_X6, by decide +kernel⟩
abbrev cdX6_layCuts : Cond := .code yX6_layCuts cX6_layCuts 6 none
set_option maxRecDepth 20000 in
theorem yk_X6_layCuts : Yk yX6_layCuts cdX6_layCuts cX6_layCuts 6 none 1 := ⟨rfl, mt4 66 rfl rfl, ini_X6, by decide +kernel⟩
abbrev cdX6_layRow : Cond := .code yX6_layRow cX6_layRow 4 none
set_option maxRecDepth 20000 in
theorem yk_X6_layRow : Yk yX6_layRow cdX6_layRow cX6_layRow 4 none 1 := ⟨rfl, mt4 70 rfl rfl, ini_X6, by decide +kernel⟩
abbrev cdX6_costOf : Cond := .code yX6_costOf cX6_costOf 7 (some .int)
set_option maxRecDepth 20000 in
theorem yk_X6_costOf : Yk yX6_costOf cdX6_costOf cX6_costOf 7 (some .int) 2 := ⟨rfl, mt4 74 rfl rfl, ini_X6, by decide +kernel⟩
abbrev cdX6_mean : Cond := .code yX6_mean cX6_mean 6 (some .int)
set_option maxRecDepth 20000 in
theorem yk_X6_mean : Yk yX6_mean cdX6_mean cX6_mean 6 (some .int) 2 := ⟨rfl, mt4 78 rfl rfl, ini_X6, by decide +kernel⟩
abbrev cdX6_price : Cond := .code yX6_price cX6_price 3 (some .int)
set_option maxRecDepth 20000 in
theorem yk_X6_price : Yk yX6_price cdX6_price cX6_price 3 (some .int) 1 := ⟨rfl, mt4 82 rfl rfl, ini_X6, by decide +kernel⟩
abbrev cdX6_cuts : Cond := .code yX6_cuts cX6_cuts 4 (some .int)
set_option maxRecDepth 20000 in
theorem yk_X6_cuts : Yk yX6_cuts cdX6_cuts cX6_cuts 4 (some .int) 2 := ⟨rfl, mt4 86 rfl rfl, ini_X6, by decide +kernel⟩
abbrev cdX6_cut : Cond := .code yX6_cut cX6_cut 5 (some .int)
set_option maxRecDepth 20000 in
theorem yk_X6_cut : Yk yX6_cut cdX6_cut cX6_cut 5 (some .int) 3 := ⟨rfl, mt4 90 rfl rfl, ini_X6, by decide +kernel⟩
abbrev cdX6_isCut : Cond := .code yX6_isCut cX6_isCut 2 (some .boolean)
set_option maxRecDepth 20000 in
theorem yk_X6_isCut : Yk yX6_isCut cdX6_isCut cX6_isCut 2 (some .boolean) 1 := ⟨rfl, mt4 94 rfl rfl, ini_X6, by decide +kernel⟩
abbrev cdX6_buildOfCut : Cond := .code yX6_buildOfCut cX6_buildOfCut 2 (some .int)
set_option maxRecDepth 20000 in
theorem yk_X6_buildOfCut : Yk yX6_buildOfCut cdX6_buildOfCut cX6_buildOfCut 2 (some .int) 1 := ⟨rfl, mt4 98 rfl rfl, ini_X6, by decide +kernel⟩
abbrev cdX6_middle : Cond := .code yX6_middle cX6_middle 5 (some .int)
set_option maxRecDepth 20000 in
theorem yk_X6_middle : Yk yX6_middle cdX6_middle cX6_middle 5 (some .int) 3 := ⟨rfl, mt4 102 rfl rfl, ini_X6, by decide +kernel⟩
abbrev cdX6_size : Cond := .code yX6_size cX6_size 5 (some .int)
set_option maxRecDepth 20000 in
theorem yk_X6_size : Yk yX6_size cdX6_size cX6_size 5 (some .int) 3 := ⟨rfl, mt4 106 rfl rfl, ini_X6, by decide +kernel⟩
abbrev cdX6_sizeOf : Cond := .code yX6_sizeOf cX6_sizeOf 2 (some .int)
set_option maxRecDepth 20000 in
theorem yk_X6_sizeOf : Yk yX6_sizeOf cdX6_sizeOf cX6_sizeOf 2 (some .int) 1 := ⟨rfl, mt4 110 rfl rfl, ini_X6, by decide +kernel⟩
abbrev cdX6_reach : Cond := .code yX6_reach cX6_reach 3 (some .int)
set_option maxRecDepth 20000 in
theorem yk_X6_reach : Yk yX6_reach cdX6_reach cX6_reach 3 (some .int) 1 := ⟨rfl, mt4 114 rfl rfl, ini_X6, by decide +kernel⟩
abbrev cdX6_own : Cond := .code yX6_own cX6_own 5 (some .int)
set_option maxRecDepth 20000 in
theorem yk_X6_own : Yk yX6_own cdX6_own cX6_own 5 (some .int) 3 := ⟨rfl, mt4 118 rfl rfl, ini_X6, by decide +kernel⟩
abbrev cdX6_isOwn : Cond := .code yX6_isOwn cX6_isOwn 9 (some .boolean)
set_option maxRecDepth 20000 in
theorem yk_X6_isOwn : Yk yX6_isOwn cdX6_isOwn cX6_isOwn 9 (some .boolean) 3 := ⟨rfl, mt4 122 rfl rfl, ini_X6, by decide +kernel⟩
abbrev cdX6_showsNear : Cond := .code yX6_showsNear cX6_showsNear 7 (some .boolean)
set_option maxRecDepth 20000 in
theorem yk_X6_showsNear : Yk yX6_showsNear cdX6_showsNear cX6_showsNear 7 (some .boolean) 2 := ⟨rfl, mt4 126 rfl rfl, ini_X6, by decide +kernel⟩
abbrev cdX6_couldShow : Cond := .code yX6_couldShow cX6_couldShow 2 (some .boolean)
set_option maxRecDepth 20000 in
theorem yk_X6_couldShow : Yk yX6_couldShow cdX6_couldShow cX6_couldShow 2 (some .boolean) 1 := ⟨rfl, mt4 130 rfl rfl, ini_X6, by decide +kernel⟩
abbrev cdX6_undone : Cond := .code yX6_undone cX6_undone 5 (some .int)
set_option maxRecDepth 20000 in
theorem yk_X6_undone : Yk yX6_undone cdX6_undone cX6_undone 5 (some .int) 3 := ⟨rfl, mt4 134 rfl rfl, ini_X6, by decide +kernel⟩
abbrev cdX6_layPairs : Cond := .code yX6_layPairs cX6_layPairs 5 none
set_option maxRecDepth 20000 in
theorem yk_X6_layPairs : Yk yX6_layPairs cdX6_layPairs cX6_layPairs 5 none 0 := ⟨rfl, mt4 138 rfl rfl, ini_X6, by decide +kernel⟩
abbrev cdX6_odds : Cond := .code yX6_odds cX6_odds 7 (some .int)
set_option maxRecDepth 20000 in
theorem yk_X6_odds : Yk yX6_odds cdX6_odds cX6_odds 7 (some .int) 3 := ⟨rfl, mt4 143 rfl rfl, ini_X6, by decide +kernel⟩
abbrev cdX6_layOdds : Cond := .code yX6_layOdds cX6_layOdds 11 (some .boolean)
set_option maxRecDepth 20000 in
theorem yk_X6_layOdds : Yk yX6_layOdds cdX6_layOdds cX6_layOdds 11 (some .boolean) 1 := ⟨rfl, mt4 147 rfl rfl, ini_X6, by decide +kernel⟩
abbrev cdX6_gcd : Cond := .code yX6_gcd cX6_gcd 10 (some .long)
set_option maxRecDepth 20000 in
theorem yk_X6_gcd : Yk yX6_gcd cdX6_gcd cX6_gcd 10 (some .long) 2 := ⟨rfl, mt4 150 rfl rfl, ini_X6, by decide +kernel⟩
abbrev cdX6_upper : Cond := .code yX6_upper cX6_upper 1 (some .long)
set_option maxRecDepth 20000 in
theorem yk_X6_upper : Yk yX6_upper cdX6_upper cX6_upper 1 (some .long) 0 := ⟨rfl, mt4 154 rfl rfl, ini_X6, by decide +kernel⟩
abbrev cdX6_lower : Cond := .code yX6_lower cX6_lower 1 (some .long)
set_option maxRecDepth 20000 in
theorem yk_X6_lower : Yk yX6_lower cdX6_lower cX6_lower 1 (some .long) 0 := ⟨rfl, mt4 158 rfl rfl, ini_X6, by decide +kernel⟩
abbrev cdX6_cry : Cond := .code yX6_cry cX6_cry 7 (some .int)
set_option maxRecDepth 20000 in
theorem yk_X6_cry : Yk yX6_cry cdX6_cry cX6_cry 7 (some .int) 3 := ⟨rfl, mt4 162 rfl rfl, ini_X6, by decide +kernel⟩
abbrev cdX6_cryOf : Cond := .code yX6_cryOf cX6_cryOf 11 (some .int)
set_option maxRecDepth 20000 in
theorem yk_X6_cryOf : Yk yX6_cryOf cdX6_cryOf cX6_cryOf 11 (some .int) 5 := ⟨rfl, mt4 166 rfl rfl, ini_X6, by decide +kernel⟩
abbrev cdX6_isLoud : Cond := .code yX6_isLoud cX6_isLoud 7 (some .boolean)
set_option maxRecDepth 20000 in
theorem yk_X6_isLoud : Yk yX6_isLoud cdX6_isLoud cX6_isLoud 7 (some .boolean) 6 := ⟨rfl, mt4 170 rfl rfl, ini_X6, by decide +kernel⟩
abbrev cdX6_cried : Cond := .code yX6_cried cX6_cried 2 (some .int)
set_option maxRecDepth 20000 in
theorem yk_X6_cried : Yk yX6_cried cdX6_cried cX6_cried 2 (some .int) 1 := ⟨rfl, mt4 174 rfl rfl, ini_X6, by decide +kernel⟩
abbrev cdX6_halve : Cond := .code yX6_halve cX6_halve 6 (some .int)
set_option maxRecDepth 20000 in
theorem yk_X6_halve : Yk yX6_halve cdX6_halve cX6_halve 6 (some .int) 3 := ⟨rfl, mt4 178 rfl rfl, ini_X6, by decide +kernel⟩
abbrev cdX6_asks : Cond := .code yX6_asks cX6_asks 1 (some .int)
set_option maxRecDepth 20000 in
theorem yk_X6_asks : Yk yX6_asks cdX6_asks cX6_asks 1 (some .int) 0 := ⟨rfl, mt4 182 rfl rfl, ini_X6, by decide +kernel⟩
abbrev cdX6_hasEnded : Cond := .code yX6_hasEnded cX6_hasEnded 1 (some .boolean)
set_option maxRecDepth 20000 in
theorem yk_X6_hasEnded : Yk yX6_hasEnded cdX6_hasEnded cX6_hasEnded 1 (some .boolean) 0 := ⟨rfl, mt4 186 rfl rfl, ini_X6, by decide +kernel⟩
abbrev cdX6_middleBuild : Cond := .code yX6_middleBuild cX6_middleBuild 1 (some .int)
set_option maxRecDepth 20000 in
theorem yk_X6_middleBuild : Yk yX6_middleBuild cdX6_middleBuild cX6_middleBuild 1 (some .int) 0 := ⟨rfl, mt4 190 rfl rfl, ini_X6, by decide +kernel⟩
abbrev cdX6_rerun : Cond := .code yX6_rerun cX6_rerun 2 (some .int)
set_option maxRecDepth 20000 in
theorem yk_X6_rerun : Yk yX6_rerun cdX6_rerun cX6_rerun 2 (some .int) 1 := ⟨rfl, mt4 194 rfl rfl, ini_X6, by decide +kernel⟩
abbrev cdX6_found : Cond := .code yX6_found cX6_found 1 (some .int)
set_option maxRecDepth 20000 in
theorem yk_X6_found : Yk yX6_found cdX6_found cX6_found 1 (some .int) 0 := ⟨rfl, mt4 198 rfl rfl, ini_X6, by decide +kernel⟩
abbrev cdX6_reruns : Cond := .code yX6_reruns cX6_reruns 1 (some .int)
set_option maxRecDepth 20000 in
theorem yk_X6_reruns : Yk yX6_reruns cdX6_reruns cX6_reruns 1 (some .int) 0 := ⟨rfl, mt4 202 rfl rfl, ini_X6, by decide +kernel⟩
abbrev cdX6_count : Cond := .code yX6_count cX6_count 4 (some .int)
set_option maxRecDepth 20000 in
theorem yk_X6_count : Yk yX6_count cdX6_count cX6_count 4 (some .int) 1 := ⟨rfl, mt4 206 rfl rfl, ini_X6, by decide +kernel⟩
abbrev cdX6_digest : Cond := .code yX6_digest cX6_digest 7 (some .long)
set_option maxRecDepth 20000 in
theorem yk_X6_digest : Yk yX6_digest cdX6_digest cX6_digest 7 (some .long) 0 := ⟨rfl, mt4 210 rfl rfl, ini_X6, by decide +kernel⟩
set_option maxRecDepth 20000 in
theorem im_X5_init : Cond.instanceMethod yX5_init ∈ lwt := mt1 15 rfl rfl
set_option maxRecDepth 20000 in
theorem im_object : Cond.instanceMethod objectInit ∈ lwt := mt1 18 rfl rfl
set_option maxRecDepth 20000 in
theorem im_X1_init : Cond.instanceMethod yX1_init ∈ lwt := mt1 25 rfl rfl
set_option maxRecDepth 20000 in
theorem im_X2_init : Cond.instanceMethod yX2_init ∈ lwt := mt1 45 rfl rfl
set_option maxRecDepth 20000 in
theorem im_X5_builds : Cond.instanceMethod yX5_builds ∈ lwt := mt1 120 rfl rfl
set_option maxRecDepth 20000 in
theorem im_X5_test : Cond.instanceMethod yX5_test ∈ lwt := mt1 124 rfl rfl
set_option maxRecDepth 20000 in
theorem im_X4_init : Cond.instanceMethod yX4_init ∈ lwt := mt1 135 rfl rfl
set_option maxRecDepth 20000 in
theorem im_X3_init : Cond.instanceMethod yX3_init ∈ lwt := mt1 142 rfl rfl
set_option maxRecDepth 20000 in
theorem im_X5_is : Cond.instanceMethod yX5_is ∈ lwt := mt1 219 rfl rfl
set_option maxRecDepth 20000 in
theorem im_X5_findTest : Cond.instanceMethod yX5_findTest ∈ lwt := mt1 224 rfl rfl
set_option maxRecDepth 20000 in
theorem im_X5_row : Cond.instanceMethod yX5_row ∈ lwt := mt1 227 rfl rfl
set_option maxRecDepth 20000 in
theorem im_X5_findRow : Cond.instanceMethod yX5_findRow ∈ lwt := mt1 232 rfl rfl
set_option maxRecDepth 20000 in
theorem im_X3_empty : Cond.instanceMethod yX3_empty ∈ lwt := mt1 235 rfl rfl
set_option maxRecDepth 20000 in
theorem im_X5_lay : Cond.instanceMethod yX5_lay ∈ lwt := mt1 239 rfl rfl
set_option maxRecDepth 20000 in
theorem im_X5_refuseWith : Cond.instanceMethod yX5_refuseWith ∈ lwt := mt2 5 rfl rfl
set_option maxRecDepth 20000 in
theorem im_X5_at : Cond.instanceMethod yX5_at ∈ lwt := mt2 11 rfl rfl
set_option maxRecDepth 20000 in
theorem im_X5_refuseRow : Cond.instanceMethod yX5_refuseRow ∈ lwt := mt2 16 rfl rfl
set_option maxRecDepth 20000 in
theorem im_X5_tear : Cond.instanceMethod yX5_tear ∈ lwt := mt2 19 rfl rfl
set_option maxRecDepth 20000 in
theorem im_X5_copy : Cond.instanceMethod yX5_copy ∈ lwt := mt2 23 rfl rfl
set_option maxRecDepth 20000 in
theorem im_X5_rank : Cond.instanceMethod yX5_rank ∈ lwt := mt2 33 rfl rfl
set_option maxRecDepth 20000 in
theorem im_X3_rankOf : Cond.instanceMethod yX3_rankOf ∈ lwt := mt2 37 rfl rfl
set_option maxRecDepth 20000 in
theorem im_X5_mean : Cond.instanceMethod yX5_mean ∈ lwt := mt2 41 rfl rfl
set_option maxRecDepth 20000 in
theorem im_X5_price : Cond.instanceMethod yX5_price ∈ lwt := mt2 45 rfl rfl
set_option maxRecDepth 20000 in
theorem im_X5_cuts : Cond.instanceMethod yX5_cuts ∈ lwt := mt2 49 rfl rfl
set_option maxRecDepth 20000 in
theorem im_X5_bringUpToDate : Cond.instanceMethod yX5_bringUpToDate ∈ lwt := mt2 54 rfl rfl
set_option maxRecDepth 20000 in
theorem im_X1_divide : Cond.instanceMethod yX1_divide ∈ lwt := mt2 57 rfl rfl
set_option maxRecDepth 20000 in
theorem im_X3_gatherMeasured : Cond.instanceMethod yX3_gatherMeasured ∈ lwt := mt2 61 rfl rfl
set_option maxRecDepth 20000 in
theorem im_X1_solveFrom : Cond.instanceMethod yX1_solveFrom ∈ lwt := mt2 67 rfl rfl
set_option maxRecDepth 20000 in
theorem im_X1_farFromMiddle : Cond.instanceMethod yX1_farFromMiddle ∈ lwt := mt2 71 rfl rfl
set_option maxRecDepth 20000 in
theorem im_X1_insert : Cond.instanceMethod yX1_insert ∈ lwt := mt2 75 rfl rfl
set_option maxRecDepth 20000 in
theorem im_X1_setSpans : Cond.instanceMethod yX1_setSpans ∈ lwt := mt2 79 rfl rfl
set_option maxRecDepth 20000 in
theorem im_X1_setMiddles : Cond.instanceMethod yX1_setMiddles ∈ lwt := mt2 83 rfl rfl
set_option maxRecDepth 20000 in
theorem im_X3_pairSteps : Cond.instanceMethod yX3_pairSteps ∈ lwt := mt2 86 rfl rfl
set_option maxRecDepth 20000 in
theorem im_X3_cutCount : Cond.instanceMethod yX3_cutCount ∈ lwt := mt2 90 rfl rfl
set_option maxRecDepth 20000 in
theorem im_X3_stepSize : Cond.instanceMethod yX3_stepSize ∈ lwt := mt2 94 rfl rfl
set_option maxRecDepth 20000 in
theorem im_X3_pairStep : Cond.instanceMethod yX3_pairStep ∈ lwt := mt2 99 rfl rfl
set_option maxRecDepth 20000 in
theorem im_X5_cut : Cond.instanceMethod yX5_cut ∈ lwt := mt2 106 rfl rfl
set_option maxRecDepth 20000 in
theorem im_X3_hasCut : Cond.instanceMethod yX3_hasCut ∈ lwt := mt2 110 rfl rfl
set_option maxRecDepth 20000 in
theorem im_X3_cutBuild : Cond.instanceMethod yX3_cutBuild ∈ lwt := mt2 114 rfl rfl
set_option maxRecDepth 20000 in
theorem im_X5_middle : Cond.instanceMethod yX5_middle ∈ lwt := mt2 118 rfl rfl
set_option maxRecDepth 20000 in
theorem im_X5_size : Cond.instanceMethod yX5_size ∈ lwt := mt2 122 rfl rfl
set_option maxRecDepth 20000 in
theorem im_X5_reach : Cond.instanceMethod yX5_reach ∈ lwt := mt2 127 rfl rfl
set_option maxRecDepth 20000 in
theorem im_X5_own : Cond.instanceMethod yX5_own ∈ lwt := mt2 131 rfl rfl
set_option maxRecDepth 20000 in
theorem im_X5_bringRowsUpToDate : Cond.instanceMethod yX5_bringRowsUpToDate ∈ lwt := mt2 136 rfl rfl
set_option maxRecDepth 20000 in
theorem im_X5_isItsOwn : Cond.instanceMethod yX5_isItsOwn ∈ lwt := mt2 140 rfl rfl
set_option maxRecDepth 20000 in
theorem im_X3_stepsNear : Cond.instanceMethod yX3_stepsNear ∈ lwt := mt2 146 rfl rfl
set_option maxRecDepth 20000 in
theorem im_X3_isMeasuredAround : Cond.instanceMethod yX3_isMeasuredAround ∈ lwt := mt2 152 rfl rfl
set_option maxRecDepth 20000 in
theorem im_X5_undone : Cond.instanceMethod yX5_undone ∈ lwt := mt2 156 rfl rfl
set_option maxRecDepth 20000 in
theorem im_X3_undoingOf : Cond.instanceMethod yX3_undoingOf ∈ lwt := mt2 160 rfl rfl
set_option maxRecDepth 20000 in
theorem im_X5_odds : Cond.instanceMethod yX5_odds ∈ lwt := mt2 164 rfl rfl
set_option maxRecDepth 20000 in
theorem im_X5_readyChances : Cond.instanceMethod yX5_readyChances ∈ lwt := mt2 169 rfl rfl
set_option maxRecDepth 20000 in
theorem im_X0_init : Cond.instanceMethod yX0_init ∈ lwt := mt2 174 rfl rfl
set_option maxRecDepth 20000 in
theorem im_X0_reckon : Cond.instanceMethod yX0_reckon ∈ lwt := mt2 190 rfl rfl
set_option maxRecDepth 20000 in
theorem im_X0_countUpTo : Cond.instanceMethod yX0_countUpTo ∈ lwt := mt2 206 rfl rfl
set_option maxRecDepth 20000 in
theorem im_X0_clear : Cond.instanceMethod yX0_clear ∈ lwt := mt2 210 rfl rfl
set_option maxRecDepth 20000 in
theorem im_X0_addOne : Cond.instanceMethod yX0_addOne ∈ lwt := mt2 214 rfl rfl
set_option maxRecDepth 20000 in
theorem im_X5_cry : Cond.instanceMethod yX5_cry ∈ lwt := mt2 223 rfl rfl
set_option maxRecDepth 20000 in
theorem im_X5_cryRow : Cond.instanceMethod yX5_cryRow ∈ lwt := mt2 228 rfl rfl
set_option maxRecDepth 20000 in
theorem im_X5_isAlarming : Cond.instanceMethod yX5_isAlarming ∈ lwt := mt2 232 rfl rfl
set_option maxRecDepth 20000 in
theorem im_X3_wasAlarmed : Cond.instanceMethod yX3_wasAlarmed ∈ lwt := mt2 235 rfl rfl
set_option maxRecDepth 20000 in
theorem im_X5_isRare : Cond.instanceMethod yX5_isRare ∈ lwt := mt3 0 rfl rfl
set_option maxRecDepth 20000 in
theorem im_X3_rememberAlarm : Cond.instanceMethod yX3_rememberAlarm ∈ lwt := mt3 3 rfl rfl
set_option maxRecDepth 20000 in
theorem im_X5_keepAlarm : Cond.instanceMethod yX5_keepAlarm ∈ lwt := mt3 8 rfl rfl
set_option maxRecDepth 20000 in
theorem im_X5_cried : Cond.instanceMethod yX5_cried ∈ lwt := mt3 11 rfl rfl
set_option maxRecDepth 20000 in
theorem im_X5_halve : Cond.instanceMethod yX5_halve ∈ lwt := mt3 15 rfl rfl
set_option maxRecDepth 20000 in
theorem im_X2_begin : Cond.instanceMethod yX2_begin ∈ lwt := mt3 19 rfl rfl
set_option maxRecDepth 20000 in
theorem im_X2_mostReruns : Cond.instanceMethod yX2_mostReruns ∈ lwt := mt3 23 rfl rfl
set_option maxRecDepth 20000 in
theorem im_X5_asks : Cond.instanceMethod yX5_asks ∈ lwt := mt3 27 rfl rfl
set_option maxRecDepth 20000 in
theorem im_X2_hasEnded : Cond.instanceMethod yX2_hasEnded ∈ lwt := mt3 31 rfl rfl
set_option maxRecDepth 20000 in
theorem im_X2_middleBuild : Cond.instanceMethod yX2_middleBuild ∈ lwt := mt3 35 rfl rfl
set_option maxRecDepth 20000 in
theorem im_X5_rerun : Cond.instanceMethod yX5_rerun ∈ lwt := mt3 39 rfl rfl
set_option maxRecDepth 20000 in
theorem im_X2_take : Cond.instanceMethod yX2_take ∈ lwt := mt3 43 rfl rfl
set_option maxRecDepth 20000 in
theorem im_X2_decide : Cond.instanceMethod yX2_decide ∈ lwt := mt3 48 rfl rfl
set_option maxRecDepth 20000 in
theorem im_X5_found : Cond.instanceMethod yX5_found ∈ lwt := mt3 52 rfl rfl
set_option maxRecDepth 20000 in
theorem im_X5_reruns : Cond.instanceMethod yX5_reruns ∈ lwt := mt3 56 rfl rfl
set_option maxRecDepth 20000 in
theorem im_X5_upper : Cond.instanceMethod yX5_upper ∈ lwt := mt3 60 rfl rfl
set_option maxRecDepth 20000 in
theorem im_X5_lower : Cond.instanceMethod yX5_lower ∈ lwt := mt3 64 rfl rfl
set_option maxRecDepth 20000 in
theorem im_X5_asked : Cond.instanceMethod yX5_asked ∈ lwt := mt3 68 rfl rfl
set_option maxRecDepth 20000 in
theorem im_X5_count : Cond.instanceMethod yX5_count ∈ lwt := mt3 72 rfl rfl
set_option maxRecDepth 20000 in
theorem im_X5_countRows : Cond.instanceMethod yX5_countRows ∈ lwt := mt3 77 rfl rfl
set_option maxRecDepth 20000 in
theorem im_X5_finding : Cond.instanceMethod yX5_finding ∈ lwt := mt3 80 rfl rfl
set_option maxRecDepth 20000 in
theorem im_X5_findings : Cond.instanceMethod yX5_findings ∈ lwt := mt3 84 rfl rfl
set_option maxRecDepth 20000 in
theorem im_X5_digest : Cond.instanceMethod yX5_digest ∈ lwt := mt3 88 rfl rfl
set_option maxRecDepth 20000 in
theorem im_X3_digestOnto : Cond.instanceMethod yX3_digestOnto ∈ lwt := mt3 94 rfl rfl
set_option maxRecDepth 20000 in
theorem im_X6_init : Cond.instanceMethod yX6_init ∈ lwt := mt3 104 rfl rfl
set_option maxRecDepth 20000 in
theorem im_X6_finding : Cond.instanceMethod yX6_finding ∈ lwt := mt3 235 rfl rfl
set_option maxRecDepth 20000 in
theorem im_X6_findings : Cond.instanceMethod yX6_findings ∈ lwt := mt3 239 rfl rfl
set_option maxRecDepth 20000 in
theorem im_X6_asked : Cond.instanceMethod yX6_asked ∈ lwt := mt4 6 rfl rfl
set_option maxRecDepth 20000 in
theorem im_X6_builds : Cond.instanceMethod yX6_builds ∈ lwt := mt4 10 rfl rfl
set_option maxRecDepth 20000 in
theorem im_X6_test : Cond.instanceMethod yX6_test ∈ lwt := mt4 14 rfl rfl
set_option maxRecDepth 20000 in
theorem im_X6_is : Cond.instanceMethod yX6_is ∈ lwt := mt4 18 rfl rfl
set_option maxRecDepth 20000 in
theorem im_X6_isTest : Cond.instanceMethod yX6_isTest ∈ lwt := mt4 23 rfl rfl
set_option maxRecDepth 20000 in
theorem im_X6_row : Cond.instanceMethod yX6_row ∈ lwt := mt4 26 rfl rfl
set_option maxRecDepth 20000 in
theorem im_X6_isRow : Cond.instanceMethod yX6_isRow ∈ lwt := mt4 31 rfl rfl
set_option maxRecDepth 20000 in
theorem im_X6_lay : Cond.instanceMethod yX6_lay ∈ lwt := mt4 34 rfl rfl
set_option maxRecDepth 20000 in
theorem im_X6_meets : Cond.instanceMethod yX6_meets ∈ lwt := mt4 40 rfl rfl
set_option maxRecDepth 20000 in
theorem im_X6_at : Cond.instanceMethod yX6_at ∈ lwt := mt4 43 rfl rfl
set_option maxRecDepth 20000 in
theorem im_X6_tear : Cond.instanceMethod yX6_tear ∈ lwt := mt4 47 rfl rfl
set_option maxRecDepth 20000 in
theorem im_X6_copy : Cond.instanceMethod yX6_copy ∈ lwt := mt4 51 rfl rfl
set_option maxRecDepth 20000 in
theorem im_X6_rank : Cond.instanceMethod yX6_rank ∈ lwt := mt4 56 rfl rfl
set_option maxRecDepth 20000 in
theorem im_X6_need : Cond.instanceMethod yX6_need ∈ lwt := mt4 61 rfl rfl
set_option maxRecDepth 20000 in
theorem im_X6_layCuts : Cond.instanceMethod yX6_layCuts ∈ lwt := mt4 65 rfl rfl
set_option maxRecDepth 20000 in
theorem im_X6_layRow : Cond.instanceMethod yX6_layRow ∈ lwt := mt4 69 rfl rfl
set_option maxRecDepth 20000 in
theorem im_X6_costOf : Cond.instanceMethod yX6_costOf ∈ lwt := mt4 73 rfl rfl
set_option maxRecDepth 20000 in
theorem im_X6_mean : Cond.instanceMethod yX6_mean ∈ lwt := mt4 76 rfl rfl
set_option maxRecDepth 20000 in
theorem im_X6_price : Cond.instanceMethod yX6_price ∈ lwt := mt4 80 rfl rfl
set_option maxRecDepth 20000 in
theorem im_X6_cuts : Cond.instanceMethod yX6_cuts ∈ lwt := mt4 84 rfl rfl
set_option maxRecDepth 20000 in
theorem im_X6_cut : Cond.instanceMethod yX6_cut ∈ lwt := mt4 88 rfl rfl
set_option maxRecDepth 20000 in
theorem im_X6_isCut : Cond.instanceMethod yX6_isCut ∈ lwt := mt4 93 rfl rfl
set_option maxRecDepth 20000 in
theorem im_X6_buildOfCut : Cond.instanceMethod yX6_buildOfCut ∈ lwt := mt4 97 rfl rfl
set_option maxRecDepth 20000 in
theorem im_X6_middle : Cond.instanceMethod yX6_middle ∈ lwt := mt4 100 rfl rfl
set_option maxRecDepth 20000 in
theorem im_X6_size : Cond.instanceMethod yX6_size ∈ lwt := mt4 104 rfl rfl
set_option maxRecDepth 20000 in
theorem im_X6_sizeOf : Cond.instanceMethod yX6_sizeOf ∈ lwt := mt4 109 rfl rfl
set_option maxRecDepth 20000 in
theorem im_X6_reach : Cond.instanceMethod yX6_reach ∈ lwt := mt4 112 rfl rfl
set_option maxRecDepth 20000 in
theorem im_X6_own : Cond.instanceMethod yX6_own ∈ lwt := mt4 116 rfl rfl
set_option maxRecDepth 20000 in
theorem im_X6_isOwn : Cond.instanceMethod yX6_isOwn ∈ lwt := mt4 121 rfl rfl
set_option maxRecDepth 20000 in
theorem im_X6_showsNear : Cond.instanceMethod yX6_showsNear ∈ lwt := mt4 125 rfl rfl
set_option maxRecDepth 20000 in
theorem im_X6_couldShow : Cond.instanceMethod yX6_couldShow ∈ lwt := mt4 129 rfl rfl
set_option maxRecDepth 20000 in
theorem im_X6_undone : Cond.instanceMethod yX6_undone ∈ lwt := mt4 132 rfl rfl
set_option maxRecDepth 20000 in
theorem im_X6_layPairs : Cond.instanceMethod yX6_layPairs ∈ lwt := mt4 137 rfl rfl
set_option maxRecDepth 20000 in
theorem im_X6_odds : Cond.instanceMethod yX6_odds ∈ lwt := mt4 141 rfl rfl
set_option maxRecDepth 20000 in
theorem im_X6_layOdds : Cond.instanceMethod yX6_layOdds ∈ lwt := mt4 146 rfl rfl
set_option maxRecDepth 20000 in
theorem im_X6_upper : Cond.instanceMethod yX6_upper ∈ lwt := mt4 152 rfl rfl
set_option maxRecDepth 20000 in
theorem im_X6_lower : Cond.instanceMethod yX6_lower ∈ lwt := mt4 156 rfl rfl
set_option maxRecDepth 20000 in
theorem im_X6_cry : Cond.instanceMethod yX6_cry ∈ lwt := mt4 160 rfl rfl
set_option maxRecDepth 20000 in
theorem im_X6_cryOf : Cond.instanceMethod yX6_cryOf ∈ lwt := mt4 165 rfl rfl
set_option maxRecDepth 20000 in
theorem im_X6_isLoud : Cond.instanceMethod yX6_isLoud ∈ lwt := mt4 169 rfl rfl
set_option maxRecDepth 20000 in
theorem im_X6_cried : Cond.instanceMethod yX6_cried ∈ lwt := mt4 172 rfl rfl
set_option maxRecDepth 20000 in
theorem im_X6_halve : Cond.instanceMethod yX6_halve ∈ lwt := mt4 176 rfl rfl
set_option maxRecDepth 20000 in
theorem im_X6_asks : Cond.instanceMethod yX6_asks ∈ lwt := mt4 180 rfl rfl
set_option maxRecDepth 20000 in
theorem im_X6_hasEnded : Cond.instanceMethod yX6_hasEnded ∈ lwt := mt4 185 rfl rfl
set_option maxRecDepth 20000 in
theorem im_X6_middleBuild : Cond.instanceMethod yX6_middleBuild ∈ lwt := mt4 189 rfl rfl
set_option maxRecDepth 20000 in
theorem im_X6_rerun : Cond.instanceMethod yX6_rerun ∈ lwt := mt4 192 rfl rfl
set_option maxRecDepth 20000 in
theorem im_X6_found : Cond.instanceMethod yX6_found ∈ lwt := mt4 196 rfl rfl
set_option maxRecDepth 20000 in
theorem im_X6_reruns : Cond.instanceMethod yX6_reruns ∈ lwt := mt4 200 rfl rfl
set_option maxRecDepth 20000 in
theorem im_X6_count : Cond.instanceMethod yX6_count ∈ lwt := mt4 204 rfl rfl
set_option maxRecDepth 20000 in
theorem im_X6_digest : Cond.instanceMethod yX6_digest ∈ lwt := mt4 208 rfl rfl
set_option maxRecDepth 20000 in
theorem st_X5_isKind : Cond.static yX5_isKind ∈ lwt := mt1 128 rfl rfl
set_option maxRecDepth 20000 in
theorem st_X5_isWithin : Cond.static yX5_isWithin ∈ lwt := mt1 131 rfl rfl
set_option maxRecDepth 20000 in
theorem st_J7_fill_53178 : Cond.static yJ7_fill_53178 ∈ lwt := mt1 146 rfl rfl
set_option maxRecDepth 20000 in
theorem st_X5_isPlace : Cond.static yX5_isPlace ∈ lwt := mt2 8 rfl rfl
set_option maxRecDepth 20000 in
theorem st_X5_holds : Cond.static yX5_holds ∈ lwt := mt2 27 rfl rfl
set_option maxRecDepth 20000 in
theorem st_arraycopy : Cond.static arraycopyName ∈ lwt := mt2 30 rfl rfl
set_option maxRecDepth 20000 in
theorem st_math_abs : Cond.static Lib.Math.abs.name ∈ lwt := mt2 102 rfl rfl
set_option maxRecDepth 20000 in
theorem st_J6_signum_0f7a4 : Cond.static yJ6_signum_0f7a4 ∈ lwt := mt2 143 rfl rfl
set_option maxRecDepth 20000 in
theorem st_X0_outermost : Cond.static yX0_outermost ∈ lwt := mt2 195 rfl rfl
set_option maxRecDepth 20000 in
theorem st_math_max : Cond.static Lib.Math.max.name ∈ lwt := mt2 198 rfl rfl
set_option maxRecDepth 20000 in
theorem st_math_min : Cond.static Lib.Math.min.name ∈ lwt := mt2 201 rfl rfl
set_option maxRecDepth 20000 in
theorem st_X0_choose : Cond.static yX0_choose ∈ lwt := mt2 217 rfl rfl
set_option maxRecDepth 20000 in
theorem st_X0_commonDivisor : Cond.static yX0_commonDivisor ∈ lwt := mt2 220 rfl rfl
set_option maxRecDepth 20000 in
theorem st_X6_in : Cond.static yX6_in ∈ lwt := mt4 3 rfl rfl
set_option maxRecDepth 20000 in
theorem st_X6_gcd : Cond.static yX6_gcd ∈ lwt := mt4 149 rfl rfl
set_option maxRecDepth 20000 in
theorem sl_X5_builds : Cond.selects RX5 yX5_builds yX5_builds ∈ lwt := mt1 121 rfl rfl
set_option maxRecDepth 20000 in
theorem sl_X5_test : Cond.selects RX5 yX5_test yX5_test ∈ lwt := mt1 125 rfl rfl
set_option maxRecDepth 20000 in
theorem sl_X5_is : Cond.selects RX5 yX5_is yX5_is ∈ lwt := mt1 220 rfl rfl
set_option maxRecDepth 20000 in
theorem sl_X5_row : Cond.selects RX5 yX5_row yX5_row ∈ lwt := mt1 228 rfl rfl
set_option maxRecDepth 20000 in
theorem sl_X3_empty : Cond.selects RX3 yX3_empty yX3_empty ∈ lwt := mt1 236 rfl rfl
set_option maxRecDepth 20000 in
theorem sl_X5_lay : Cond.selects RX5 yX5_lay yX5_lay ∈ lwt := mt2 0 rfl rfl
set_option maxRecDepth 20000 in
theorem sl_X5_at : Cond.selects RX5 yX5_at yX5_at ∈ lwt := mt2 12 rfl rfl
set_option maxRecDepth 20000 in
theorem sl_X5_tear : Cond.selects RX5 yX5_tear yX5_tear ∈ lwt := mt2 20 rfl rfl
set_option maxRecDepth 20000 in
theorem sl_X5_copy : Cond.selects RX5 yX5_copy yX5_copy ∈ lwt := mt2 24 rfl rfl
set_option maxRecDepth 20000 in
theorem sl_X5_rank : Cond.selects RX5 yX5_rank yX5_rank ∈ lwt := mt2 34 rfl rfl
set_option maxRecDepth 20000 in
theorem sl_X3_rankOf : Cond.selects RX3 yX3_rankOf yX3_rankOf ∈ lwt := mt2 38 rfl rfl
set_option maxRecDepth 20000 in
theorem sl_X5_mean : Cond.selects RX5 yX5_mean yX5_mean ∈ lwt := mt2 42 rfl rfl
set_option maxRecDepth 20000 in
theorem sl_X5_price : Cond.selects RX5 yX5_price yX5_price ∈ lwt := mt2 46 rfl rfl
set_option maxRecDepth 20000 in
theorem sl_X5_cuts : Cond.selects RX5 yX5_cuts yX5_cuts ∈ lwt := mt2 50 rfl rfl
set_option maxRecDepth 20000 in
theorem sl_X1_divide : Cond.selects RX1 yX1_divide yX1_divide ∈ lwt := mt2 58 rfl rfl
set_option maxRecDepth 20000 in
theorem sl_X3_gatherMeasured : Cond.selects RX3 yX3_gatherMeasured yX3_gatherMeasured ∈ lwt := mt2 62 rfl rfl
set_option maxRecDepth 20000 in
theorem sl_X3_pairSteps : Cond.selects RX3 yX3_pairSteps yX3_pairSteps ∈ lwt := mt2 87 rfl rfl
set_option maxRecDepth 20000 in
theorem sl_X3_cutCount : Cond.selects RX3 yX3_cutCount yX3_cutCount ∈ lwt := mt2 91 rfl rfl
set_option maxRecDepth 20000 in
theorem sl_X3_stepSize : Cond.selects RX3 yX3_stepSize yX3_stepSize ∈ lwt := mt2 95 rfl rfl
set_option maxRecDepth 20000 in
theorem sl_X5_cut : Cond.selects RX5 yX5_cut yX5_cut ∈ lwt := mt2 107 rfl rfl
set_option maxRecDepth 20000 in
theorem sl_X3_hasCut : Cond.selects RX3 yX3_hasCut yX3_hasCut ∈ lwt := mt2 111 rfl rfl
set_option maxRecDepth 20000 in
theorem sl_X3_cutBuild : Cond.selects RX3 yX3_cutBuild yX3_cutBuild ∈ lwt := mt2 115 rfl rfl
set_option maxRecDepth 20000 in
theorem sl_X5_middle : Cond.selects RX5 yX5_middle yX5_middle ∈ lwt := mt2 119 rfl rfl
set_option maxRecDepth 20000 in
theorem sl_X5_size : Cond.selects RX5 yX5_size yX5_size ∈ lwt := mt2 123 rfl rfl
set_option maxRecDepth 20000 in
theorem sl_X5_reach : Cond.selects RX5 yX5_reach yX5_reach ∈ lwt := mt2 128 rfl rfl
set_option maxRecDepth 20000 in
theorem sl_X5_own : Cond.selects RX5 yX5_own yX5_own ∈ lwt := mt2 132 rfl rfl
set_option maxRecDepth 20000 in
theorem sl_X3_stepsNear : Cond.selects RX3 yX3_stepsNear yX3_stepsNear ∈ lwt := mt2 147 rfl rfl
set_option maxRecDepth 20000 in
theorem sl_X3_isMeasuredAround : Cond.selects RX3 yX3_isMeasuredAround yX3_isMeasuredAround ∈ lwt := mt2 153 rfl rfl
set_option maxRecDepth 20000 in
theorem sl_X5_undone : Cond.selects RX5 yX5_undone yX5_undone ∈ lwt := mt2 157 rfl rfl
set_option maxRecDepth 20000 in
theorem sl_X3_undoingOf : Cond.selects RX3 yX3_undoingOf yX3_undoingOf ∈ lwt := mt2 161 rfl rfl
set_option maxRecDepth 20000 in
theorem sl_X5_odds : Cond.selects RX5 yX5_odds yX5_odds ∈ lwt := mt2 165 rfl rfl
set_option maxRecDepth 20000 in
theorem sl_X0_reckon : Cond.selects RX0 yX0_reckon yX0_reckon ∈ lwt := mt2 191 rfl rfl
set_option maxRecDepth 20000 in
theorem sl_X5_cry : Cond.selects RX5 yX5_cry yX5_cry ∈ lwt := mt2 224 rfl rfl
set_option maxRecDepth 20000 in
theorem sl_X3_wasAlarmed : Cond.selects RX3 yX3_wasAlarmed yX3_wasAlarmed ∈ lwt := mt2 236 rfl rfl
set_option maxRecDepth 20000 in
theorem sl_X3_rememberAlarm : Cond.selects RX3 yX3_rememberAlarm yX3_rememberAlarm ∈ lwt := mt3 4 rfl rfl
set_option maxRecDepth 20000 in
theorem sl_X5_cried : Cond.selects RX5 yX5_cried yX5_cried ∈ lwt := mt3 12 rfl rfl
set_option maxRecDepth 20000 in
theorem sl_X5_halve : Cond.selects RX5 yX5_halve yX5_halve ∈ lwt := mt3 16 rfl rfl
set_option maxRecDepth 20000 in
theorem sl_X2_begin : Cond.selects RX2 yX2_begin yX2_begin ∈ lwt := mt3 20 rfl rfl
set_option maxRecDepth 20000 in
theorem sl_X2_mostReruns : Cond.selects RX2 yX2_mostReruns yX2_mostReruns ∈ lwt := mt3 24 rfl rfl
set_option maxRecDepth 20000 in
theorem sl_X5_asks : Cond.selects RX5 yX5_asks yX5_asks ∈ lwt := mt3 28 rfl rfl
set_option maxRecDepth 20000 in
theorem sl_X2_hasEnded : Cond.selects RX2 yX2_hasEnded yX2_hasEnded ∈ lwt := mt3 32 rfl rfl
set_option maxRecDepth 20000 in
theorem sl_X2_middleBuild : Cond.selects RX2 yX2_middleBuild yX2_middleBuild ∈ lwt := mt3 36 rfl rfl
set_option maxRecDepth 20000 in
theorem sl_X5_rerun : Cond.selects RX5 yX5_rerun yX5_rerun ∈ lwt := mt3 40 rfl rfl
set_option maxRecDepth 20000 in
theorem sl_X2_take : Cond.selects RX2 yX2_take yX2_take ∈ lwt := mt3 44 rfl rfl
set_option maxRecDepth 20000 in
theorem sl_X5_found : Cond.selects RX5 yX5_found yX5_found ∈ lwt := mt3 53 rfl rfl
set_option maxRecDepth 20000 in
theorem sl_X5_reruns : Cond.selects RX5 yX5_reruns yX5_reruns ∈ lwt := mt3 57 rfl rfl
set_option maxRecDepth 20000 in
theorem sl_X5_upper : Cond.selects RX5 yX5_upper yX5_upper ∈ lwt := mt3 61 rfl rfl
set_option maxRecDepth 20000 in
theorem sl_X5_lower : Cond.selects RX5 yX5_lower yX5_lower ∈ lwt := mt3 65 rfl rfl
set_option maxRecDepth 20000 in
theorem sl_X5_asked : Cond.selects RX5 yX5_asked yX5_asked ∈ lwt := mt3 69 rfl rfl
set_option maxRecDepth 20000 in
theorem sl_X5_count : Cond.selects RX5 yX5_count yX5_count ∈ lwt := mt3 73 rfl rfl
set_option maxRecDepth 20000 in
theorem sl_X5_finding : Cond.selects RX5 yX5_finding yX5_finding ∈ lwt := mt3 81 rfl rfl
set_option maxRecDepth 20000 in
theorem sl_X5_findings : Cond.selects RX5 yX5_findings yX5_findings ∈ lwt := mt3 85 rfl rfl
set_option maxRecDepth 20000 in
theorem sl_X5_digest : Cond.selects RX5 yX5_digest yX5_digest ∈ lwt := mt3 89 rfl rfl
set_option maxRecDepth 20000 in
theorem sl_X3_digestOnto : Cond.selects RX3 yX3_digestOnto yX3_digestOnto ∈ lwt := mt3 95 rfl rfl
set_option maxRecDepth 20000 in
theorem sl_X6_finding : Cond.selects RX6 yX6_finding yX6_finding ∈ lwt := mt3 236 rfl rfl
set_option maxRecDepth 20000 in
theorem sl_X6_findings : Cond.selects RX6 yX6_findings yX6_findings ∈ lwt := mt4 0 rfl rfl
set_option maxRecDepth 20000 in
theorem sl_X6_asked : Cond.selects RX6 yX6_asked yX6_asked ∈ lwt := mt4 7 rfl rfl
set_option maxRecDepth 20000 in
theorem sl_X6_builds : Cond.selects RX6 yX6_builds yX6_builds ∈ lwt := mt4 11 rfl rfl
set_option maxRecDepth 20000 in
theorem sl_X6_test : Cond.selects RX6 yX6_test yX6_test ∈ lwt := mt4 15 rfl rfl
set_option maxRecDepth 20000 in
theorem sl_X6_is : Cond.selects RX6 yX6_is yX6_is ∈ lwt := mt4 19 rfl rfl
set_option maxRecDepth 20000 in
theorem sl_X6_row : Cond.selects RX6 yX6_row yX6_row ∈ lwt := mt4 27 rfl rfl
set_option maxRecDepth 20000 in
theorem sl_X6_lay : Cond.selects RX6 yX6_lay yX6_lay ∈ lwt := mt4 35 rfl rfl
set_option maxRecDepth 20000 in
theorem sl_X6_at : Cond.selects RX6 yX6_at yX6_at ∈ lwt := mt4 44 rfl rfl
set_option maxRecDepth 20000 in
theorem sl_X6_tear : Cond.selects RX6 yX6_tear yX6_tear ∈ lwt := mt4 48 rfl rfl
set_option maxRecDepth 20000 in
theorem sl_X6_copy : Cond.selects RX6 yX6_copy yX6_copy ∈ lwt := mt4 52 rfl rfl
set_option maxRecDepth 20000 in
theorem sl_X6_rank : Cond.selects RX6 yX6_rank yX6_rank ∈ lwt := mt4 57 rfl rfl
set_option maxRecDepth 20000 in
theorem sl_X6_mean : Cond.selects RX6 yX6_mean yX6_mean ∈ lwt := mt4 77 rfl rfl
set_option maxRecDepth 20000 in
theorem sl_X6_price : Cond.selects RX6 yX6_price yX6_price ∈ lwt := mt4 81 rfl rfl
set_option maxRecDepth 20000 in
theorem sl_X6_cuts : Cond.selects RX6 yX6_cuts yX6_cuts ∈ lwt := mt4 85 rfl rfl
set_option maxRecDepth 20000 in
theorem sl_X6_cut : Cond.selects RX6 yX6_cut yX6_cut ∈ lwt := mt4 89 rfl rfl
set_option maxRecDepth 20000 in
theorem sl_X6_middle : Cond.selects RX6 yX6_middle yX6_middle ∈ lwt := mt4 101 rfl rfl
set_option maxRecDepth 20000 in
theorem sl_X6_size : Cond.selects RX6 yX6_size yX6_size ∈ lwt := mt4 105 rfl rfl
set_option maxRecDepth 20000 in
theorem sl_X6_reach : Cond.selects RX6 yX6_reach yX6_reach ∈ lwt := mt4 113 rfl rfl
set_option maxRecDepth 20000 in
theorem sl_X6_own : Cond.selects RX6 yX6_own yX6_own ∈ lwt := mt4 117 rfl rfl
set_option maxRecDepth 20000 in
theorem sl_X6_undone : Cond.selects RX6 yX6_undone yX6_undone ∈ lwt := mt4 133 rfl rfl
set_option maxRecDepth 20000 in
theorem sl_X6_odds : Cond.selects RX6 yX6_odds yX6_odds ∈ lwt := mt4 142 rfl rfl
set_option maxRecDepth 20000 in
theorem sl_X6_upper : Cond.selects RX6 yX6_upper yX6_upper ∈ lwt := mt4 153 rfl rfl
set_option maxRecDepth 20000 in
theorem sl_X6_lower : Cond.selects RX6 yX6_lower yX6_lower ∈ lwt := mt4 157 rfl rfl
set_option maxRecDepth 20000 in
theorem sl_X6_cry : Cond.selects RX6 yX6_cry yX6_cry ∈ lwt := mt4 161 rfl rfl
set_option maxRecDepth 20000 in
theorem sl_X6_cried : Cond.selects RX6 yX6_cried yX6_cried ∈ lwt := mt4 173 rfl rfl
set_option maxRecDepth 20000 in
theorem sl_X6_halve : Cond.selects RX6 yX6_halve yX6_halve ∈ lwt := mt4 177 rfl rfl
set_option maxRecDepth 20000 in
theorem sl_X6_asks : Cond.selects RX6 yX6_asks yX6_asks ∈ lwt := mt4 181 rfl rfl
set_option maxRecDepth 20000 in
theorem sl_X6_rerun : Cond.selects RX6 yX6_rerun yX6_rerun ∈ lwt := mt4 193 rfl rfl
set_option maxRecDepth 20000 in
theorem sl_X6_found : Cond.selects RX6 yX6_found yX6_found ∈ lwt := mt4 197 rfl rfl
set_option maxRecDepth 20000 in
theorem sl_X6_reruns : Cond.selects RX6 yX6_reruns yX6_reruns ∈ lwt := mt4 201 rfl rfl
set_option maxRecDepth 20000 in
theorem sl_X6_count : Cond.selects RX6 yX6_count yX6_count ∈ lwt := mt4 205 rfl rfl
set_option maxRecDepth 20000 in
theorem sl_X6_digest : Cond.selects RX6 yX6_digest yX6_digest ∈ lwt := mt4 209 rfl rfl
set_option maxRecDepth 20000 in
theorem sl_X5_findTest : Cond.selects RX5 yX5_findTest yX5_findTest ∈ lwt := mtp (q := (yX5_findTest, 15)) 0 rfl
set_option maxRecDepth 20000 in
theorem sl_X5_findRow : Cond.selects RX5 yX5_findRow yX5_findRow ∈ lwt := mtp (q := (yX5_findRow, 15)) 1 rfl
set_option maxRecDepth 20000 in
theorem sl_X5_refuseWith : Cond.selects RX5 yX5_refuseWith yX5_refuseWith ∈ lwt := mtp (q := (yX5_refuseWith, 15)) 2 rfl
set_option maxRecDepth 20000 in
theorem sl_X5_refuseRow : Cond.selects RX5 yX5_refuseRow yX5_refuseRow ∈ lwt := mtp (q := (yX5_refuseRow, 15)) 3 rfl
set_option maxRecDepth 20000 in
theorem sl_X5_bringUpToDate : Cond.selects RX5 yX5_bringUpToDate yX5_bringUpToDate ∈ lwt := mtp (q := (yX5_bringUpToDate, 15)) 4 rfl
set_option maxRecDepth 20000 in
theorem sl_X1_solveFrom : Cond.selects RX1 yX1_solveFrom yX1_solveFrom ∈ lwt := mtp (q := (yX1_solveFrom, 4)) 5 rfl
set_option maxRecDepth 20000 in
theorem sl_X1_farFromMiddle : Cond.selects RX1 yX1_farFromMiddle yX1_farFromMiddle ∈ lwt := mtp (q := (yX1_farFromMiddle, 4)) 6 rfl
set_option maxRecDepth 20000 in
theorem sl_X1_insert : Cond.selects RX1 yX1_insert yX1_insert ∈ lwt := mtp (q := (yX1_insert, 4)) 7 rfl
set_option maxRecDepth 20000 in
theorem sl_X1_setSpans : Cond.selects RX1 yX1_setSpans yX1_setSpans ∈ lwt := mtp (q := (yX1_setSpans, 4)) 8 rfl
set_option maxRecDepth 20000 in
theorem sl_X1_setMiddles : Cond.selects RX1 yX1_setMiddles yX1_setMiddles ∈ lwt := mtp (q := (yX1_setMiddles, 4)) 9 rfl
set_option maxRecDepth 20000 in
theorem sl_X3_pairStep : Cond.selects RX3 yX3_pairStep yX3_pairStep ∈ lwt := mtp (q := (yX3_pairStep, 14)) 10 rfl
set_option maxRecDepth 20000 in
theorem sl_X5_bringRowsUpToDate : Cond.selects RX5 yX5_bringRowsUpToDate yX5_bringRowsUpToDate ∈ lwt := mtp (q := (yX5_bringRowsUpToDate, 15)) 11 rfl
set_option maxRecDepth 20000 in
theorem sl_X5_isItsOwn : Cond.selects RX5 yX5_isItsOwn yX5_isItsOwn ∈ lwt := mtp (q := (yX5_isItsOwn, 15)) 12 rfl
set_option maxRecDepth 20000 in
theorem sl_X5_readyChances : Cond.selects RX5 yX5_readyChances yX5_readyChances ∈ lwt := mtp (q := (yX5_readyChances, 15)) 13 rfl
set_option maxRecDepth 20000 in
theorem sl_X0_countUpTo : Cond.selects RX0 yX0_countUpTo yX0_countUpTo ∈ lwt := mtp (q := (yX0_countUpTo, 3)) 14 rfl
set_option maxRecDepth 20000 in
theorem sl_X0_clear : Cond.selects RX0 yX0_clear yX0_clear ∈ lwt := mtp (q := (yX0_clear, 3)) 15 rfl
set_option maxRecDepth 20000 in
theorem sl_X0_addOne : Cond.selects RX0 yX0_addOne yX0_addOne ∈ lwt := mtp (q := (yX0_addOne, 3)) 16 rfl
set_option maxRecDepth 20000 in
theorem sl_X5_cryRow : Cond.selects RX5 yX5_cryRow yX5_cryRow ∈ lwt := mtp (q := (yX5_cryRow, 15)) 17 rfl
set_option maxRecDepth 20000 in
theorem sl_X5_isAlarming : Cond.selects RX5 yX5_isAlarming yX5_isAlarming ∈ lwt := mtp (q := (yX5_isAlarming, 15)) 18 rfl
set_option maxRecDepth 20000 in
theorem sl_X5_isRare : Cond.selects RX5 yX5_isRare yX5_isRare ∈ lwt := mtp (q := (yX5_isRare, 15)) 19 rfl
set_option maxRecDepth 20000 in
theorem sl_X5_keepAlarm : Cond.selects RX5 yX5_keepAlarm yX5_keepAlarm ∈ lwt := mtp (q := (yX5_keepAlarm, 15)) 20 rfl
set_option maxRecDepth 20000 in
theorem sl_X2_decide : Cond.selects RX2 yX2_decide yX2_decide ∈ lwt := mtp (q := (yX2_decide, 7)) 21 rfl
set_option maxRecDepth 20000 in
theorem sl_X5_countRows : Cond.selects RX5 yX5_countRows yX5_countRows ∈ lwt := mtp (q := (yX5_countRows, 15)) 22 rfl
set_option maxRecDepth 20000 in
theorem sl_X6_isTest : Cond.selects RX6 yX6_isTest yX6_isTest ∈ lwt := mtp (q := (yX6_isTest, 41)) 23 rfl
set_option maxRecDepth 20000 in
theorem sl_X6_isRow : Cond.selects RX6 yX6_isRow yX6_isRow ∈ lwt := mtp (q := (yX6_isRow, 41)) 24 rfl
set_option maxRecDepth 20000 in
theorem sl_X6_meets : Cond.selects RX6 yX6_meets yX6_meets ∈ lwt := mtp (q := (yX6_meets, 41)) 25 rfl
set_option maxRecDepth 20000 in
theorem sl_X6_need : Cond.selects RX6 yX6_need yX6_need ∈ lwt := mtp (q := (yX6_need, 41)) 26 rfl
set_option maxRecDepth 20000 in
theorem sl_X6_layCuts : Cond.selects RX6 yX6_layCuts yX6_layCuts ∈ lwt := mtp (q := (yX6_layCuts, 41)) 27 rfl
set_option maxRecDepth 20000 in
theorem sl_X6_layRow : Cond.selects RX6 yX6_layRow yX6_layRow ∈ lwt := mtp (q := (yX6_layRow, 41)) 28 rfl
set_option maxRecDepth 20000 in
theorem sl_X6_costOf : Cond.selects RX6 yX6_costOf yX6_costOf ∈ lwt := mtp (q := (yX6_costOf, 41)) 29 rfl
set_option maxRecDepth 20000 in
theorem sl_X6_isCut : Cond.selects RX6 yX6_isCut yX6_isCut ∈ lwt := mtp (q := (yX6_isCut, 41)) 30 rfl
set_option maxRecDepth 20000 in
theorem sl_X6_buildOfCut : Cond.selects RX6 yX6_buildOfCut yX6_buildOfCut ∈ lwt := mtp (q := (yX6_buildOfCut, 41)) 31 rfl
set_option maxRecDepth 20000 in
theorem sl_X6_sizeOf : Cond.selects RX6 yX6_sizeOf yX6_sizeOf ∈ lwt := mtp (q := (yX6_sizeOf, 41)) 32 rfl
set_option maxRecDepth 20000 in
theorem sl_X6_isOwn : Cond.selects RX6 yX6_isOwn yX6_isOwn ∈ lwt := mtp (q := (yX6_isOwn, 41)) 33 rfl
set_option maxRecDepth 20000 in
theorem sl_X6_showsNear : Cond.selects RX6 yX6_showsNear yX6_showsNear ∈ lwt := mtp (q := (yX6_showsNear, 41)) 34 rfl
set_option maxRecDepth 20000 in
theorem sl_X6_couldShow : Cond.selects RX6 yX6_couldShow yX6_couldShow ∈ lwt := mtp (q := (yX6_couldShow, 41)) 35 rfl
set_option maxRecDepth 20000 in
theorem sl_X6_layPairs : Cond.selects RX6 yX6_layPairs yX6_layPairs ∈ lwt := mtp (q := (yX6_layPairs, 41)) 36 rfl
set_option maxRecDepth 20000 in
theorem sl_X6_layOdds : Cond.selects RX6 yX6_layOdds yX6_layOdds ∈ lwt := mtp (q := (yX6_layOdds, 41)) 37 rfl
set_option maxRecDepth 20000 in
theorem sl_X6_cryOf : Cond.selects RX6 yX6_cryOf yX6_cryOf ∈ lwt := mtp (q := (yX6_cryOf, 41)) 38 rfl
set_option maxRecDepth 20000 in
theorem sl_X6_isLoud : Cond.selects RX6 yX6_isLoud yX6_isLoud ∈ lwt := mtp (q := (yX6_isLoud, 41)) 39 rfl
set_option maxRecDepth 20000 in
theorem sl_X6_hasEnded : Cond.selects RX6 yX6_hasEnded yX6_hasEnded ∈ lwt := mtp (q := (yX6_hasEnded, 41)) 40 rfl
set_option maxRecDepth 20000 in
theorem sl_X6_middleBuild : Cond.selects RX6 yX6_middleBuild yX6_middleBuild ∈ lwt := mtp (q := (yX6_middleBuild, 41)) 41 rfl
set_option maxRecDepth 20000 in
theorem kc_X5_80 : Cond.constant RX5 80 (1000000) ∈ lwt := mt2 2 rfl rfl
set_option maxRecDepth 20000 in
theorem kc_X5_214 : Cond.constantLong RX5 214 (17) ∈ lwt := mt3 91 rfl rfl
set_option maxRecDepth 20000 in
theorem kc_X5_216 : Cond.constantLong RX5 216 (31) ∈ lwt := mt3 92 rfl rfl
set_option maxRecDepth 20000 in
theorem kc_X3_75 : Cond.constantLong RX3 75 (31) ∈ lwt := mt3 97 rfl rfl
set_option maxRecDepth 20000 in
theorem kc_X6_59 : Cond.constant RX6 59 (35700) ∈ lwt := mt3 107 rfl rfl
set_option maxRecDepth 20000 in
theorem kc_X6_105 : Cond.constant RX6 105 (1000000) ∈ lwt := mt4 37 rfl rfl
set_option maxRecDepth 20000 in
theorem kc_X6_110 : Cond.constantLong RX6 110 (40) ∈ lwt := mt4 54 rfl rfl
set_option maxRecDepth 20000 in
theorem kc_X6_153 : Cond.constantLong RX6 153 (10) ∈ lwt := mt4 139 rfl rfl
set_option maxRecDepth 20000 in
theorem kc_X6_218 : Cond.constantLong RX6 218 (31) ∈ lwt := mt4 211 rfl rfl
set_option maxRecDepth 20000 in
theorem kc_X6_220 : Cond.constantLong RX6 220 (527) ∈ lwt := mt4 212 rfl rfl
set_option maxRecDepth 20000 in
theorem kl_L_7 : Cond.classLink RL 7 RX5 ∈ lwt := mt1 12 rfl rfl
set_option maxRecDepth 20000 in
theorem kl_X5_9 : Cond.classLink RX5 9 RX4 ∈ lwt := mt1 20 rfl rfl
set_option maxRecDepth 20000 in
theorem kl_X5_22 : Cond.classLink RX5 22 RX1 ∈ lwt := mt1 22 rfl rfl
set_option maxRecDepth 20000 in
theorem kl_X5_29 : Cond.classLink RX5 29 RX2 ∈ lwt := mt1 42 rfl rfl
set_option maxRecDepth 20000 in
theorem kl_X4_9 : Cond.classLink RX4 9 RX3 ∈ lwt := mt1 138 rfl rfl
set_option maxRecDepth 20000 in
theorem kl_X5_160 : Cond.classLink RX5 160 RX0 ∈ lwt := mt2 171 rfl rfl
set_option maxRecDepth 20000 in
theorem kl_L_10 : Cond.classLink RL 10 RX6 ∈ lwt := mt3 101 rfl rfl
end
section
/-! MY ROWS, 3: lengths, copies, calls that make nothing, the rooms, switches -/
/-- the room of a method whose calls go d deep -/
def rmm (d mc ms : Nat) : Room := { frames := d, cells := mc, slots := ms, locals := 40 * d }
section RY
variable {p : Program} {l : Launch} {e : Env} {R : Room} {s : State} {m : MethodId} {args : Array Value} {below : List Frame} {meth : Method} {c : Code} {H : Heap} {locs : List Loc} {cells slots : Nat} {Q : State → Prop} {cc : ByteArray} {nL pc : Nat} {own : String} {ls : Array Slot} {rest : List Value} {D : va_G} {cy : Nat → ClassId} {A : Nat → Prop} {M : Mm}
theorem r_alen7 (E : Ex p m c cc nL s args own D cy A) (w : Wd D cy A s M H locs) {x : Option Nat} {a : Nat} (hxa : x = some a) (ha : ok M a 7) (hd : decode cc pc = .ok (.arraylength, 1)) (kk : W p l e R s m args below meth c H locs cells slots Q (F0 m (pc + 1) ls (.int (nI (gN M a)) :: rest))) : W p l e R s m args below meth c H locs cells slots Q (F0 m pc ls (va_rf x :: rest)) := by
  subst hxa
  obtain ⟨k0, hk0⟩ := wl_get (cy := cy) ha.1
  rw [en_I ha.2] at hk0
  exact va_alen E.1.1 E.1.2.1 E.2.1.1 w.1 k0 0 hk0 rfl rfl hd kk
theorem r_copy (E : Ex p m c cc nL s args own D cy A) (w : Wd D cy A s M H locs) {x y : Option Nat} {a0 a idx : Nat} {sp dp n : Int32} (hxa : x = some a0) (hya : y = some a) (ha0 : ok M a0 7) (ha : ok M a 7) (h1 : ¬ sp < 0) (h2 : ¬ dp < 0) (h3 : ¬ n < 0) (h4 : sp.toNatClampNeg + n.toNatClampNeg ≤ gN M a0) (h5 : dp.toNatClampNeg + n.toNatClampNeg ≤ gN M a) (hlink : Cond.methodLink own idx arraycopyName ∈ lwt) {lv : List (Nat × Tg)} (hsz : lh ls nL lv) (hframes : 1 ≤ R.frames) (hlocals : (rest.map fun v => v.category).sum + (nativeFrameWords "java/lang/System" "arraycopy" 5 + 11) ≤ R.locals) (hd : decode cc pc = .ok (.invokestatic idx, 3)) (kk : ∀ (H' : Heap) (locs' : List Loc), Wd D cy A s (cI M a0 a sp.toNatClampNeg dp.toNatClampNeg n.toNatClampNeg) H' locs' → W p l e R s m args below meth c H' locs' cells slots Q (F0 m (pc + 3) ls rest)) : W p l e R s m args below meth c H locs cells slots Q (F0 m pc ls (.int n :: .int dp :: va_rf y :: .int sp :: va_rf x :: rest)) := by
  subst hxa; subst hya
  obtain ⟨k0, hk0⟩ := wl_get (cy := cy) ha0.1
  rw [en_I ha0.2] at hk0
  obtain ⟨k1, hk10⟩ := wl_get (cy := cy) ha.1
  have hk1 := hk10
  rw [en_I ha.2] at hk1
  have hts := E.1.2.2.2.2
  refine va_copyi E.1.1 E.1.2.1 (by rw [E.1.2.2.1]; exact hsz.1.symm) E.1.2.2.2.1 (hts _ hlink) (hts _ nat_arraycopy) (hts _ st_arraycopy) (hts _ ini_J10) E.2.1.1 w.1 w.2.1 w.2.2 k0 k1 0 0 hk0 hk1 rfl rfl rfl h1 h2 h3 h4 h5 (fun _ _ => rfl) hframes hlocals hd (fun H1 locs1 g1 g2 g3 => kk H1 locs1 ?_)
  have hset : (wl cy M).set k1 (a, .inl (cy 0, gN M a, .inl (va_cpy (gI M a0) (gI M a) sp.toNatClampNeg dp.toNatClampNeg n.toNatClampNeg))) = wl cy (cI M a0 a sp.toNatClampNeg dp.toNatClampNeg n.toNatClampNeg) := by
    refine wl_set w.2.1 ha.1 hk10 rfl ?_ (fun b hb => en_cI hb)
    rw [en_I (show gK (cI M a0 a sp.toNatClampNeg dp.toNatClampNeg n.toNatClampNeg) a = 7 from ha.2)]
    have hf : gI (cI M a0 a sp.toNatClampNeg dp.toNatClampNeg n.toNatClampNeg) a = va_cpy (gI M a0) (gI M a) sp.toNatClampNeg dp.toNatClampNeg n.toNatClampNeg := by
      funext q
      rw [gI_cI, if_pos rfl]
    rw [hf]; rfl
  rw [hset] at g1 g2
  exact ⟨g1, g2, g3⟩
theorem z_callVi (E : Ex p m c cc nL s args own D cy A) (w : Wd D cy A s M H locs) {x : Option Nat} {b ci : Nat} {C : String} {T : u_T} {N : Nat} {ty : Nat → FieldType} {st : List Value} {y : MethodName} {cd : Cond} {bytes : ByteArray} {maxL n idx d : Nat} {ret : Option FieldType} {Qm : Int32 → Mm → Prop} (hxb : x = some b) (ho : ok M b ci) (K : Cls ci C T N ty) (Y : Yk y cd bytes maxL ret n) (hR : d + 1 ≤ R.frames ∧ 8 + (maxL + 11) + 40 * d ≤ R.locals) (hcs : cells ≤ R.cells ∧ slots ≤ R.slots) (hC : y.cls = C) (hlink : Cond.methodLink own idx y ∈ lwt) (hinst : Cond.instanceMethod y ∈ lwt) (hsel : Cond.selects C y y ∈ lwt) (av : List Tg) (hst : st = (av.map tv).reverse ++ va_rf x :: rest) (hn : av.length = n) {lv : List (Nat × Tg)} (hsz : lh ls nL lv) (rs : List Tg) (hrs : rest = rs.map tv) (hsum : (rs.map ct).sum ≤ 8) (k : KI l y cd (rmm d 0 0) (rv (some b) :: av) M Qm) (hd : decode cc pc = .ok (.invokevirtual idx, 3)) (kk : ∀ (r : Int32) (M' : Mm) (H' : Heap) (locs' : List Loc), Qm r M' → Wd D cy A s M' H' locs' → W p l e R s m args below meth c H' locs' cells slots Q (F0 m (pc + 3) ls (.int r :: rest))) : W p l e R s m args below meth c H locs cells slots Q (F0 m pc ls st) :=
  r_callVi (rm := rmm d 0 0) E w hxb ho K Y hR hcs hC hlink hinst hsel av hst hn hsz rs hrs hsum k hd kk
theorem z_callSi (E : Ex p m c cc nL s args own D cy A) (w : Wd D cy A s M H locs) {st : List Value} {y : MethodName} {cd : Cond} {bytes : ByteArray} {maxL n idx d : Nat} {ret : Option FieldType} {Qm : Int32 → Mm → Prop} (Y : Yk y cd bytes maxL ret n) (hR : d + 1 ≤ R.frames ∧ 8 + (maxL + 11) + 40 * d ≤ R.locals) (hcs : cells ≤ R.cells ∧ slots ≤ R.slots) (hC : y.cls = own) (hlink : Cond.methodLink own idx y ∈ lwt) (hstat : Cond.static y ∈ lwt) (av : List Tg) (hst : st = (av.map tv).reverse ++ rest) (hn : av.length = n) {lv : List (Nat × Tg)} (hsz : lh ls nL lv) (rs : List Tg) (hrs : rest = rs.map tv) (hsum : (rs.map ct).sum ≤ 8) (k : KI l y cd (rmm d 0 0) av M Qm) (hd : decode cc pc = .ok (.invokestatic idx, 3)) (kk : ∀ (r : Int32) (M' : Mm) (H' : Heap) (locs' : List Loc), Qm r M' → Wd D cy A s M' H' locs' → W p l e R s m args below meth c H' locs' cells slots Q (F0 m (pc + 3) ls (.int r :: rest))) : W p l e R s m args below meth c H locs cells slots Q (F0 m pc ls st) :=
  r_callSi (rm := rmm d 0 0) E w Y hR hcs hC hlink hstat av hst hn hsz rs hrs hsum k hd kk
theorem z_callTi (E : Ex p m c cc nL s args own D cy A) (w : Wd D cy A s M H locs) {st : List Value} {y : MethodName} {cd : Cond} {bytes : ByteArray} {maxL n idx d : Nat} {ret : Option FieldType} {Qm : Int32 → Mm → Prop} (Y : Yk y cd bytes maxL ret n) (hR : d + 1 ≤ R.frames ∧ 8 + (maxL + 11) + 40 * d ≤ R.locals) (hcs : cells ≤ R.cells ∧ slots ≤ R.slots) (hlink : Cond.methodLink own idx y ∈ lwt) (hstat : Cond.static y ∈ lwt) (av : List Tg) (hst : st = (av.map tv).reverse ++ rest) (hn : av.length = n) {lv : List (Nat × Tg)} (hsz : lh ls nL lv) (rs : List Tg) (hrs : rest = rs.map tv) (hsum : (rs.map ct).sum ≤ 8) (k : KI l y cd (rmm d 0 0) av M Qm) (hd : decode cc pc = .ok (.invokestatic idx, 3)) (kk : ∀ (r : Int32) (M' : Mm) (H' : Heap) (locs' : List Loc), Qm r M' → Wd D cy A s M' H' locs' → W p l e R s m args below meth c H' locs' cells slots Q (F0 m (pc + 3) ls (.int r :: rest))) : W p l e R s m args below meth c H locs cells slots Q (F0 m pc ls st) :=
  r_callTi (rm := rmm d 0 0) E w Y hR hcs hlink hstat av hst hn hsz rs hrs hsum k hd kk
theorem z_callVl (E : Ex p m c cc nL s args own D cy A) (w : Wd D cy A s M H locs) {x : Option Nat} {b ci : Nat} {C : String} {T : u_T} {N : Nat} {ty : Nat → FieldType} {st : List Value} {y : MethodName} {cd : Cond} {bytes : ByteArray} {maxL n idx d : Nat} {ret : Option FieldType} {Qm : Int64 → Mm → Prop} (hxb : x = some b) (ho : ok M b ci) (K : Cls ci C T N ty) (Y : Yk y cd bytes maxL ret n) (hR : d + 1 ≤ R.frames ∧ 8 + (maxL + 11) + 40 * d ≤ R.locals) (hcs : cells ≤ R.cells ∧ slots ≤ R.slots) (hC : y.cls = C) (hlink : Cond.methodLink own idx y ∈ lwt) (hinst : Cond.instanceMethod y ∈ lwt) (hsel : Cond.selects C y y ∈ lwt) (av : List Tg) (hst : st = (av.map tv).reverse ++ va_rf x :: rest) (hn : av.length = n) {lv : List (Nat × Tg)} (hsz : lh ls nL lv) (rs : List Tg) (hrs : rest = rs.map tv) (hsum : (rs.map ct).sum ≤ 8) (k : KL l y cd (rmm d 0 0) (rv (some b) :: av) M Qm) (hd : decode cc pc = .ok (.invokevirtual idx, 3)) (kk : ∀ (r : Int64) (M' : Mm) (H' : Heap) (locs' : List Loc), Qm r M' → Wd D cy A s M' H' locs' → W p l e R s m args below meth c H' locs' cells slots Q (F0 m (pc + 3) ls (.long r :: rest))) : W p l e R s m args below meth c H locs cells slots Q (F0 m pc ls st) :=
  r_callVl (rm := rmm d 0 0) E w hxb ho K Y hR hcs hC hlink hinst hsel av hst hn hsz rs hrs hsum k hd kk
theorem z_callSl (E : Ex p m c cc nL s args own D cy A) (w : Wd D cy A s M H locs) {st : List Value} {y : MethodName} {cd : Cond} {bytes : ByteArray} {maxL n idx d : Nat} {ret : Option FieldType} {Qm : Int64 → Mm → Prop} (Y : Yk y cd bytes maxL ret n) (hR : d + 1 ≤ R.frames ∧ 8 + (maxL + 11) + 40 * d ≤ R.locals) (hcs : cells ≤ R.cells ∧ slots ≤ R.slots) (hC : y.cls = own) (hlink : Cond.methodLink own idx y ∈ lwt) (hstat : Cond.static y ∈ lwt) (av : List Tg) (hst : st = (av.map tv).reverse ++ rest) (hn : av.length = n) {lv : List (Nat × Tg)} (hsz : lh ls nL lv) (rs : List Tg) (hrs : rest = rs.map tv) (hsum : (rs.map ct).sum ≤ 8) (k : KL l y cd (rmm d 0 0) av M Qm) (hd : decode cc pc = .ok (.invokestatic idx, 3)) (kk : ∀ (r : Int64) (M' : Mm) (H' : Heap) (locs' : List Loc), Qm r M' → Wd D cy A s M' H' locs' → W p l e R s m args below meth c H' locs' cells slots Q (F0 m (pc + 3) ls (.long r :: rest))) : W p l e R s m args below meth c H locs cells slots Q (F0 m pc ls st) :=
  r_callSl (rm := rmm d 0 0) E w Y hR hcs hC hlink hstat av hst hn hsz rs hrs hsum k hd kk
theorem z_callTl (E : Ex p m c cc nL s args own D cy A) (w : Wd D cy A s M H locs) {st : List Value} {y : MethodName} {cd : Cond} {bytes : ByteArray} {maxL n idx d : Nat} {ret : Option FieldType} {Qm : Int64 → Mm → Prop} (Y : Yk y cd bytes maxL ret n) (hR : d + 1 ≤ R.frames ∧ 8 + (maxL + 11) + 40 * d ≤ R.locals) (hcs : cells ≤ R.cells ∧ slots ≤ R.slots) (hlink : Cond.methodLink own idx y ∈ lwt) (hstat : Cond.static y ∈ lwt) (av : List Tg) (hst : st = (av.map tv).reverse ++ rest) (hn : av.length = n) {lv : List (Nat × Tg)} (hsz : lh ls nL lv) (rs : List Tg) (hrs : rest = rs.map tv) (hsum : (rs.map ct).sum ≤ 8) (k : KL l y cd (rmm d 0 0) av M Qm) (hd : decode cc pc = .ok (.invokestatic idx, 3)) (kk : ∀ (r : Int64) (M' : Mm) (H' : Heap) (locs' : List Loc), Qm r M' → Wd D cy A s M' H' locs' → W p l e R s m args below meth c H' locs' cells slots Q (F0 m (pc + 3) ls (.long r :: rest))) : W p l e R s m args below meth c H locs cells slots Q (F0 m pc ls st) :=
  r_callTl (rm := rmm d 0 0) E w Y hR hcs hlink hstat av hst hn hsz rs hrs hsum k hd kk
theorem z_callVv (E : Ex p m c cc nL s args own D cy A) (w : Wd D cy A s M H locs) {x : Option Nat} {b ci : Nat} {C : String} {T : u_T} {N : Nat} {ty : Nat → FieldType} {st : List Value} {y : MethodName} {cd : Cond} {bytes : ByteArray} {maxL n idx d : Nat} {ret : Option FieldType} {Qm : Mm → Prop} (hxb : x = some b) (ho : ok M b ci) (K : Cls ci C T N ty) (Y : Yk y cd bytes maxL ret n) (hR : d + 1 ≤ R.frames ∧ 8 + (maxL + 11) + 40 * d ≤ R.locals) (hcs : cells ≤ R.cells ∧ slots ≤ R.slots) (hC : y.cls = C) (hlink : Cond.methodLink own idx y ∈ lwt) (hinst : Cond.instanceMethod y ∈ lwt) (hsel : Cond.selects C y y ∈ lwt) (av : List Tg) (hst : st = (av.map tv).reverse ++ va_rf x :: rest) (hn : av.length = n) {lv : List (Nat × Tg)} (hsz : lh ls nL lv) (rs : List Tg) (hrs : rest = rs.map tv) (hsum : (rs.map ct).sum ≤ 8) (k : KV l y cd (rmm d 0 0) (rv (some b) :: av) M Qm) (hd : decode cc pc = .ok (.invokevirtual idx, 3)) (kk : ∀ (M' : Mm) (H' : Heap) (locs' : List Loc), Qm M' → Wd D cy A s M' H' locs' → W p l e R s m args below meth c H' locs' cells slots Q (F0 m (pc + 3) ls (rest))) : W p l e R s m args below meth c H locs cells slots Q (F0 m pc ls st) :=
  r_callVv (rm := rmm d 0 0) E w hxb ho K Y hR hcs hC hlink hinst hsel av hst hn hsz rs hrs hsum k hd kk
theorem z_callSv (E : Ex p m c cc nL s args own D cy A) (w : Wd D cy A s M H locs) {st : List Value} {y : MethodName} {cd : Cond} {bytes : ByteArray} {maxL n idx d : Nat} {ret : Option FieldType} {Qm : Mm → Prop} (Y : Yk y cd bytes maxL ret n) (hR : d + 1 ≤ R.frames ∧ 8 + (maxL + 11) + 40 * d ≤ R.locals) (hcs : cells ≤ R.cells ∧ slots ≤ R.slots) (hC : y.cls = own) (hlink : Cond.methodLink own idx y ∈ lwt) (hstat : Cond.static y ∈ lwt) (av : List Tg) (hst : st = (av.map tv).reverse ++ rest) (hn : av.length = n) {lv : List (Nat × Tg)} (hsz : lh ls nL lv) (rs : List Tg) (hrs : rest = rs.map tv) (hsum : (rs.map ct).sum ≤ 8) (k : KV l y cd (rmm d 0 0) av M Qm) (hd : decode cc pc = .ok (.invokestatic idx, 3)) (kk : ∀ (M' : Mm) (H' : Heap) (locs' : List Loc), Qm M' → Wd D cy A s M' H' locs' → W p l e R s m args below meth c H' locs' cells slots Q (F0 m (pc + 3) ls (rest))) : W p l e R s m args below meth c H locs cells slots Q (F0 m pc ls st) :=
  r_callSv (rm := rmm d 0 0) E w Y hR hcs hC hlink hstat av hst hn hsz rs hrs hsum k hd kk
theorem z_callTv (E : Ex p m c cc nL s args own D cy A) (w : Wd D cy A s M H locs) {st : List Value} {y : MethodName} {cd : Cond} {bytes : ByteArray} {maxL n idx d : Nat} {ret : Option FieldType} {Qm : Mm → Prop} (Y : Yk y cd bytes maxL ret n) (hR : d + 1 ≤ R.frames ∧ 8 + (maxL + 11) + 40 * d ≤ R.locals) (hcs : cells ≤ R.cells ∧ slots ≤ R.slots) (hlink : Cond.methodLink own idx y ∈ lwt) (hstat : Cond.static y ∈ lwt) (av : List Tg) (hst : st = (av.map tv).reverse ++ rest) (hn : av.length = n) {lv : List (Nat × Tg)} (hsz : lh ls nL lv) (rs : List Tg) (hrs : rest = rs.map tv) (hsum : (rs.map ct).sum ≤ 8) (k : KV l y cd (rmm d 0 0) av M Qm) (hd : decode cc pc = .ok (.invokestatic idx, 3)) (kk : ∀ (M' : Mm) (H' : Heap) (locs' : List Loc), Qm M' → Wd D cy A s M' H' locs' → W p l e R s m args below meth c H' locs' cells slots Q (F0 m (pc + 3) ls (rest))) : W p l e R s m args below meth c H locs cells slots Q (F0 m pc ls st) :=
  r_callTv (rm := rmm d 0 0) E w Y hR hcs hlink hstat av hst hn hsz rs hrs hsum k hd kk
theorem z_callI (E : Ex p m c cc nL s args own D cy A) (w : Wd D cy A s M H locs) {x : Option Nat} {b : Nat} {st : List Value} {y : MethodName} {cd : Cond} {bytes : ByteArray} {maxL n idx d : Nat} {Qm : Mm → Prop} (hxb : x = some b) (Y : Yk y cd bytes maxL none n) (hR : d + 1 ≤ R.frames ∧ 8 + (maxL + 11) + 40 * d ≤ R.locals) (hcs : cells ≤ R.cells ∧ slots ≤ R.slots) (hname : y.name = "<init>") (hlink : Cond.methodLink own idx y ∈ lwt) (hinst : Cond.instanceMethod y ∈ lwt) (av : List Tg) (hst : st = (av.map tv).reverse ++ va_rf x :: rest) (hn : av.length = n) {lv : List (Nat × Tg)} (hsz : lh ls nL lv) (rs : List Tg) (hrs : rest = rs.map tv) (hsum : (rs.map ct).sum ≤ 8) (k : KV l y cd (rmm d 0 0) (rv (some b) :: av) M Qm) (hd : decode cc pc = .ok (.invokespecial idx, 3)) (kk : ∀ (M' : Mm) (H' : Heap) (locs' : List Loc), Qm M' → Wd D cy A s M' H' locs' → W p l e R s m args below meth c H' locs' cells slots Q (F0 m (pc + 3) ls (rest))) : W p l e R s m args below meth c H locs cells slots Q (F0 m pc ls st) :=
  r_callI (rm := rmm d 0 0) E w hxb Y hR hcs hname hlink hinst av hst hn hsz rs hrs hsum k hd kk
theorem z_callIN (E : Ex p m c cc nL s args own D cy A) (w : Wd D cy A s M H locs) {x : Option Nat} {b : Nat} {st : List Value} {y : MethodName} {cd : Cond} {bytes : ByteArray} {maxL n idx d : Nat} {Qm : Mm → Prop} (hxb : x = some b) (Y : Yk y cd bytes maxL none n) (hR : d + 1 ≤ R.frames ∧ 8 + (maxL + 11) + 40 * d ≤ R.locals) (hcs : cells ≤ R.cells ∧ slots ≤ R.slots) (hname : y.name = "<init>") {host : String} (hlink : va_Nw (.methodLinkNest own idx y host) s) (hinst : Cond.instanceMethod y ∈ lwt) (av : List Tg) (hst : st = (av.map tv).reverse ++ va_rf x :: rest) (hn : av.length = n) {lv : List (Nat × Tg)} (hsz : lh ls nL lv) (rs : List Tg) (hrs : rest = rs.map tv) (hsum : (rs.map ct).sum ≤ 8) (k : KV l y cd (rmm d 0 0) (rv (some b) :: av) M Qm) (hd : decode cc pc = .ok (.invokespecial idx, 3)) (kk : ∀ (M' : Mm) (H' : Heap) (locs' : List Loc), Qm M' → Wd D cy A s M' H' locs' → W p l e R s m args below meth c H' locs' cells slots Q (F0 m (pc + 3) ls (rest))) : W p l e R s m args below meth c H locs cells slots Q (F0 m pc ls st) :=
  r_callIN (rm := rmm d 0 0) E w hxb Y hR hcs hname hlink hinst av hst hn hsz rs hrs hsum k hd kk
theorem z_callVq (E : Ex p m c cc nL s args own D cy A) (w : Wd D cy A s M H locs) {x : Option Nat} {b ci : Nat} {C : String} {T : u_T} {N : Nat} {ty : Nat → FieldType} {st : List Value} {y : MethodName} {cd : Cond} {bytes : ByteArray} {maxL n idx d : Nat} {ret : Option FieldType} {Qm : Option Nat → Mm → Prop} (hxb : x = some b) (ho : ok M b ci) (K : Cls ci C T N ty) (Y : Yk y cd bytes maxL ret n) (hR : d + 1 ≤ R.frames ∧ 8 + (maxL + 11) + 40 * d ≤ R.locals) (hcs : cells ≤ R.cells ∧ slots ≤ R.slots) (hC : y.cls = C) (hlink : Cond.methodLink own idx y ∈ lwt) (hinst : Cond.instanceMethod y ∈ lwt) (hsel : Cond.selects C y y ∈ lwt) (av : List Tg) (hst : st = (av.map tv).reverse ++ va_rf x :: rest) (hn : av.length = n) {lv : List (Nat × Tg)} (hsz : lh ls nL lv) (rs : List Tg) (hrs : rest = rs.map tv) (hsum : (rs.map ct).sum ≤ 8) (k : KQ l y cd (rmm d 0 0) (rv (some b) :: av) M Qm) (hd : decode cc pc = .ok (.invokevirtual idx, 3)) (kk : ∀ (r : Option Nat) (M' : Mm) (H' : Heap) (locs' : List Loc), Qm r M' → Wd D cy A s M' H' locs' → W p l e R s m args below meth c H' locs' cells slots Q (F0 m (pc + 3) ls (va_rf r :: rest))) : W p l e R s m args below meth c H locs cells slots Q (F0 m pc ls st) :=
  r_callVq (rm := rmm d 0 0) E w hxb ho K Y hR hcs hC hlink hinst hsel av hst hn hsz rs hrs hsum k hd kk
theorem z_callSq (E : Ex p m c cc nL s args own D cy A) (w : Wd D cy A s M H locs) {st : List Value} {y : MethodName} {cd : Cond} {bytes : ByteArray} {maxL n idx d : Nat} {ret : Option FieldType} {Qm : Option Nat → Mm → Prop} (Y : Yk y cd bytes maxL ret n) (hR : d + 1 ≤ R.frames ∧ 8 + (maxL + 11) + 40 * d ≤ R.locals) (hcs : cells ≤ R.cells ∧ slots ≤ R.slots) (hC : y.cls = own) (hlink : Cond.methodLink own idx y ∈ lwt) (hstat : Cond.static y ∈ lwt) (av : List Tg) (hst : st = (av.map tv).reverse ++ rest) (hn : av.length = n) {lv : List (Nat × Tg)} (hsz : lh ls nL lv) (rs : List Tg) (hrs : rest = rs.map tv) (hsum : (rs.map ct).sum ≤ 8) (k : KQ l y cd (rmm d 0 0) av M Qm) (hd : decode cc pc = .ok (.invokestatic idx, 3)) (kk : ∀ (r : Option Nat) (M' : Mm) (H' : Heap) (locs' : List Loc), Qm r M' → Wd D cy A s M' H' locs' → W p l e R s m args below meth c H' locs' cells slots Q (F0 m (pc + 3) ls (va_rf r :: rest))) : W p l e R s m args below meth c H locs cells slots Q (F0 m pc ls st) :=
  r_callSq (rm := rmm d 0 0) E w Y hR hcs hC hlink hstat av hst hn hsz rs hrs hsum k hd kk
theorem z_callTq (E : Ex p m c cc nL s args own D cy A) (w : Wd D cy A s M H locs) {st : List Value} {y : MethodName} {cd : Cond} {bytes : ByteArray} {maxL n idx d : Nat} {ret : Option FieldType} {Qm : Option Nat → Mm → Prop} (Y : Yk y cd bytes maxL ret n) (hR : d + 1 ≤ R.frames ∧ 8 + (maxL + 11) + 40 * d ≤ R.locals) (hcs : cells ≤ R.cells ∧ slots ≤ R.slots) (hlink : Cond.methodLink own idx y ∈ lwt) (hstat : Cond.static y ∈ lwt) (av : List Tg) (hst : st = (av.map tv).reverse ++ rest) (hn : av.length = n) {lv : List (Nat × Tg)} (hsz : lh ls nL lv) (rs : List Tg) (hrs : rest = rs.map tv) (hsum : (rs.map ct).sum ≤ 8) (k : KQ l y cd (rmm d 0 0) av M Qm) (hd : decode cc pc = .ok (.invokestatic idx, 3)) (kk : ∀ (r : Option Nat) (M' : Mm) (H' : Heap) (locs' : List Loc), Qm r M' → Wd D cy A s M' H' locs' → W p l e R s m args below meth c H' locs' cells slots Q (F0 m (pc + 3) ls (va_rf r :: rest))) : W p l e R s m args below meth c H locs cells slots Q (F0 m pc ls st) :=
  r_callTq (rm := rmm d 0 0) E w Y hR hcs hlink hstat av hst hn hsz rs hrs hsum k hd kk
end RY
end
section
def B_X2_init_0 (Q : Mm → Prop)  (h0 : Nat) (M : Mm) : Prop := Q M
set_option maxHeartbeats 4000000 in
set_option maxRecDepth 100000 in
theorem k_X2_init_0 {p : Program} {l : Launch} {e : Env} {s : State} {m : MethodId} {args : Array Value} {below : List Frame} {meth : Method} {c : Code} {D : va_G} {cy : Nat → ClassId} {A : Nat → Prop} {Q : Mm → Prop} (E : Ex p m c cX2_init 1 s args RX2 D cy A) (hr : meth.sig.returnType = none) (hlk : meth.locks = false) (hin : meth.name = "<init>") : ∀ (h0 : Nat) (M : Mm) (H : Heap) (locs : List Loc) (ls : Array Slot), B_X2_init_0 Q  h0 M → Wd D cy A s M H locs → lh ls 1 [(0, rv (some h0))] → W p l e (rmm 1 0 0) s m args below meth c H locs 0 0 (MQ below (va_Qv Q (Po D cy A) A) args s 0 0 A) (F0 m 0 ls []) := by
  obtain ⟨hx, hb, hml, hown, hts⟩ := E.1
  intro h0 M H locs ls h w hl
  unfold B_X2_init_0 at h
  refine r_aload_n (x := (some h0)) hx hb dX2_init_0 rfl (lh_at hl 0 rfl) ?_
  refine W.objInit hx hb hown (hts _ ml_X2_1) (hts _ im_object) (hts _ cd_object) rfl (by rw [hml]; exact hl.1) rfl dX2_init_1 (Nat.le_of_ble_eq_true rfl) (Nat.le_of_ble_eq_true rfl) ?_
  refine W.eq (g2 := F0 m 4 ls []) rfl ?_
  exact r_vret E w hr hlk h (Nat.le_refl 0) (Nat.le_refl 0) dX2_init_4
theorem K_X2_init {l : Launch} {Q : Mm → Prop} {h0 : Nat} {M : Mm} (h : B_X2_init_0 Q h0 M) : KV l yX2_init cdX2_init (rmm 1 0 0) [rv (some h0)] M Q :=
  KV_of (by decide) rfl (Nat.le_of_ble_eq_true rfl) (fun p e s m args below meth c D cy A ls E hr hlk hn w hl => k_X2_init_0 E hr hlk hn _ _ _ _ _ h w hl)
def B_X2_begin_0 (Q : Mm → Prop)  (h0 : Nat) (x1 : Int32) (x2 : Int32) (x3 : Int32) (M : Mm) : Prop := (ok M h0 2 ∧ (∀ M2, M2 = pI M h0 0 (1 : Int32) → (∀ M3, M3 = pI M2 h0 1 x1 → (∀ M4, M4 = pI M3 h0 2 x2 → (∀ M5, M5 = pI M4 h0 3 x3 → (∀ M6, M6 = pI M5 h0 4 (0 : Int32) → (∀ M7, M7 = pI M6 h0 5 (0 : Int32) → (∀ M8, M8 = pI M7 h0 6 (0 : Int32) → Q M8))))))))
set_option maxHeartbeats 4000000 in
set_option maxRecDepth 100000 in
theorem k_X2_begin_0 {p : Program} {l : Launch} {e : Env} {s : State} {m : MethodId} {args : Array Value} {below : List Frame} {meth : Method} {c : Code} {D : va_G} {cy : Nat → ClassId} {A : Nat → Prop} {Q : Mm → Prop} (E : Ex p m c cX2_begin 4 s args RX2 D cy A) (hr : meth.sig.returnType = none) (hlk : meth.locks = false) : ∀ (h0 : Nat) (x1 : Int32) (x2 : Int32) (x3 : Int32) (M : Mm) (H : Heap) (locs : List Loc) (ls : Array Slot), B_X2_begin_0 Q  h0 x1 x2 x3 M → Wd D cy A s M H locs → lh ls 4 [(0, rv (some h0)), (1, iv x1), (2, iv x2), (3, iv x3)] → W p l e (rmm 0 0 0) s m args below meth c H locs 0 0 (MQ below (va_Qv Q (Po D cy A) A) args s 0 0 A) (F0 m 0 ls []) := by
  obtain ⟨hx, hb, hml, hown, hts⟩ := E.1
  intro h0 x1 x2 x3 M H locs ls h w hl
  unfold B_X2_begin_0 at h
  refine r_aload_n (x := (some h0)) hx hb dX2_begin_0 rfl (lh_at hl 0 rfl) ?_
  refine lv_iconst (v := (1 : Int32)) hx hb dX2_begin_1 (by decide) ?_
  obtain ⟨ho1, h⟩ := h
  refine r_putI (v := (1 : Int32)) E w rfl ho1 cl_X2 0 rfl fl_X2_7 (Or.inl rfl) (Or.inr ⟨rfl, Or.inr rfl⟩) dX2_begin_2 (fun H locs w => ?_)
  obtain ⟨M2, eM2⟩ : ∃ z, z = pI M h0 0 (1 : Int32) := ⟨_, rfl⟩
  rw [← eM2] at w
  have h := h M2 eM2
  refine r_aload_n (x := (some h0)) hx hb dX2_begin_5 rfl (lh_at hl 0 rfl) ?_
  refine lv_iload_n (x := x1) hx hb dX2_begin_6 rfl (lh_at hl 1 rfl) ?_
  have ho1 : ok M2 h0 2 := by rw [eM2]; exact ho1
  refine r_putI (v := x1) E w rfl ho1 cl_X2 1 rfl fl_X2_13 (Or.inl rfl) (Or.inl rfl) dX2_begin_7 (fun H locs w => ?_)
  obtain ⟨M3, eM3⟩ : ∃ z, z = pI M2 h0 1 x1 := ⟨_, rfl⟩
  rw [← eM3] at w
  have h := h M3 eM3
  refine r_aload_n (x := (some h0)) hx hb dX2_begin_10 rfl (lh_at hl 0 rfl) ?_
  refine lv_iload_n (x := x2) hx hb dX2_begin_11 rfl (lh_at hl 2 rfl) ?_
  have ho1 : ok M3 h0 2 := by rw [eM3]; exact ho1
  refine r_putI (v := x2) E w rfl ho1 cl_X2 2 rfl fl_X2_17 (Or.inl rfl) (Or.inl rfl) dX2_begin_12 (fun H locs w => ?_)
  obtain ⟨M4, eM4⟩ : ∃ z, z = pI M3 h0 2 x2 := ⟨_, rfl⟩
  rw [← eM4] at w
  have h := h M4 eM4
  refine r_aload_n (x := (some h0)) hx hb dX2_begin_15 rfl (lh_at hl 0 rfl) ?_
  refine lv_iload_n (x := x3) hx hb dX2_begin_16 rfl (lh_at hl 3 rfl) ?_
  have ho1 : ok M4 h0 2 := by rw [eM4]; exact ho1
  refine r_putI (v := x3) E w rfl ho1 cl_X2 3 rfl fl_X2_20 (Or.inl rfl) (Or.inl rfl) dX2_begin_17 (fun H locs w => ?_)
  obtain ⟨M5, eM5⟩ : ∃ z, z = pI M4 h0 3 x3 := ⟨_, rfl⟩
  rw [← eM5] at w
  have h := h M5 eM5
  refine r_aload_n (x := (some h0)) hx hb dX2_begin_20 rfl (lh_at hl 0 rfl) ?_
  refine lv_iconst (v := (0 : Int32)) hx hb dX2_begin_21 (by decide) ?_
  have ho1 : ok M5 h0 2 := by rw [eM5]; exact ho1
  refine r_putI (v := (0 : Int32)) E w rfl ho1 cl_X2 4 rfl fl_X2_23 (Or.inl rfl) (Or.inl rfl) dX2_begin_22 (fun H locs w => ?_)
  obtain ⟨M6, eM6⟩ : ∃ z, z = pI M5 h0 4 (0 : Int32) := ⟨_, rfl⟩
  rw [← eM6] at w
  have h := h M6 eM6
  refine r_aload_n (x := (some h0)) hx hb dX2_begin_25 rfl (lh_at hl 0 rfl) ?_
  refine lv_iconst (v := (0 : Int32)) hx hb dX2_begin_26 (by decide) ?_
  have ho1 : ok M6 h0 2 := by rw [eM6]; exact ho1
  refine r_putI (v := (0 : Int32)) E w rfl ho1 cl_X2 5 rfl fl_X2_26 (Or.inl rfl) (Or.inl rfl) dX2_begin_27 (fun H locs w => ?_)
  obtain ⟨M7, eM7⟩ : ∃ z, z = pI M6 h0 5 (0 : Int32) := ⟨_, rfl⟩
  rw [← eM7] at w
  have h := h M7 eM7
  refine r_aload_n (x := (some h0)) hx hb dX2_begin_30 rfl (lh_at hl 0 rfl) ?_
  refine lv_iconst (v := (0 : Int32)) hx hb dX2_begin_31 (by decide) ?_
  have ho1 : ok M7 h0 2 := by rw [eM7]; exact ho1
  refine r_putI (v := (0 : Int32)) E w rfl ho1 cl_X2 6 rfl fl_X2_29 (Or.inl rfl) (Or.inl rfl) dX2_begin_32 (fun H locs w => ?_)
  obtain ⟨M8, eM8⟩ : ∃ z, z = pI M7 h0 6 (0 : Int32) := ⟨_, rfl⟩
  rw [← eM8] at w
  have h := h M8 eM8
  exact r_vret E w hr hlk h (Nat.le_refl 0) (Nat.le_refl 0) dX2_begin_35
theorem K_X2_begin {l : Launch} {Q : Mm → Prop} {h0 : Nat} {x1 : Int32} {x2 : Int32} {x3 : Int32} {M : Mm} (h : B_X2_begin_0 Q h0 x1 x2 x3 M) : KV l yX2_begin cdX2_begin (rmm 0 0 0) [rv (some h0), iv x1, iv x2, iv x3] M Q :=
  KV_of (by decide) rfl (Nat.le_of_ble_eq_true rfl) (fun p e s m args below meth c D cy A ls E hr hlk hn w hl => k_X2_begin_0 E hr hlk _ _ _ _ _ _ _ _ h w hl)
def B_X2_hasEnded_0 (Q : Int32 → Mm → Prop)  (h0 : Nat) (M : Mm) : Prop := (ok M h0 2 ∧ (((1 : Int32) < ((gI M h0 2) - (gI M h0 1)) → Q (0 : Int32) M) ∧ (¬ (1 : Int32) < ((gI M h0 2) - (gI M h0 1)) → Q (1 : Int32) M)))
set_option maxHeartbeats 4000000 in
set_option maxRecDepth 100000 in
theorem k_X2_hasEnded_0 {p : Program} {l : Launch} {e : Env} {s : State} {m : MethodId} {args : Array Value} {below : List Frame} {meth : Method} {c : Code} {D : va_G} {cy : Nat → ClassId} {A : Nat → Prop} {Q : Int32 → Mm → Prop} (E : Ex p m c cX2_hasEnded 1 s args RX2 D cy A) (hr : meth.sig.returnType = (some .boolean)) (hlk : meth.locks = false) : ∀ (h0 : Nat) (M : Mm) (H : Heap) (locs : List Loc) (ls : Array Slot), B_X2_hasEnded_0 Q  h0 M → Wd D cy A s M H locs → lh ls 1 [(0, rv (some h0))] → W p l e (rmm 0 0 0) s m args below meth c H locs 0 0 (MQ below (va_Qi Q (Po D cy A) A) args s 0 0 A) (F0 m 0 ls []) := by
  obtain ⟨hx, hb, hml, hown, hts⟩ := E.1
  intro h0 M H locs ls h w hl
  unfold B_X2_hasEnded_0 at h
  refine r_aload_n (x := (some h0)) hx hb dX2_hasEnded_0 rfl (lh_at hl 0 rfl) ?_
  obtain ⟨ho1, h⟩ := h
  refine r_getI E w rfl ho1 cl_X2 2 rfl fl_X2_17 dX2_hasEnded_1 ?_
  refine r_aload_n (x := (some h0)) hx hb dX2_hasEnded_4 rfl (lh_at hl 0 rfl) ?_
  refine r_getI E w rfl ho1 cl_X2 1 rfl fl_X2_13 dX2_hasEnded_5 ?_
  refine lv_isub hx hb dX2_hasEnded_8 ?_
  refine lv_iconst (v := (1 : Int32)) hx hb dX2_hasEnded_9 (by decide) ?_
  refine lv_icmp_gt (tgt := 17) hx hb dX2_hasEnded_10 (by decide) (fun c2 => ?_) (fun c2 => ?_)
  · have h := h.1 c2
    refine lv_iconst (v := (0 : Int32)) hx hb dX2_hasEnded_17 (by decide) ?_
    exact r_zret E w hr hlk ⟨Or.inl rfl, h⟩ (Nat.le_refl 0) (Nat.le_refl 0) dX2_hasEnded_18
  · have h := h.2 c2
    refine lv_iconst (v := (1 : Int32)) hx hb dX2_hasEnded_13 (by decide) ?_
    refine lv_goto (tgt := 18) hx hb dX2_hasEnded_14 (by decide) ?_
    exact r_zret E w hr hlk ⟨Or.inr rfl, h⟩ (Nat.le_refl 0) (Nat.le_refl 0) dX2_hasEnded_18
theorem K_X2_hasEnded {l : Launch} {Q : Int32 → Mm → Prop} {h0 : Nat} {M : Mm} (h : B_X2_hasEnded_0 Q h0 M) : KI l yX2_hasEnded cdX2_hasEnded (rmm 0 0 0) [rv (some h0)] M Q :=
  KI_of (by decide) rfl (Nat.le_of_ble_eq_true rfl) (fun p e s m args below meth c D cy A ls E hr hlk hn w hl => k_X2_hasEnded_0 E hr hlk _ _ _ _ _ h w hl)
def B_X2_middleBuild_0 (Q : Int32 → Mm → Prop)  (h0 : Nat) (M : Mm) : Prop := (ok M h0 2 ∧ Q ((gI M h0 1) + (((gI M h0 2) - (gI M h0 1)) / (2 : Int32))) M)
set_option maxHeartbeats 4000000 in
set_option maxRecDepth 100000 in
theorem k_X2_middleBuild_0 {p : Program} {l : Launch} {e : Env} {s : State} {m : MethodId} {args : Array Value} {below : List Frame} {meth : Method} {c : Code} {D : va_G} {cy : Nat → ClassId} {A : Nat → Prop} {Q : Int32 → Mm → Prop} (E : Ex p m c cX2_middleBuild 1 s args RX2 D cy A) (hr : meth.sig.returnType = (some .int)) (hlk : meth.locks = false) : ∀ (h0 : Nat) (M : Mm) (H : Heap) (locs : List Loc) (ls : Array Slot), B_X2_middleBuild_0 Q  h0 M → Wd D cy A s M H locs → lh ls 1 [(0, rv (some h0))] → W p l e (rmm 0 0 0) s m args below meth c H locs 0 0 (MQ below (va_Qi Q (Po D cy A) A) args s 0 0 A) (F0 m 0 ls []) := by
  obtain ⟨hx, hb, hml, hown, hts⟩ := E.1
  intro h0 M H locs ls h w hl
  unfold B_X2_middleBuild_0 at h
  refine r_aload_n (x := (some h0)) hx hb dX2_middleBuild_0 rfl (lh_at hl 0 rfl) ?_
  obtain ⟨ho1, h⟩ := h
  refine r_getI E w rfl ho1 cl_X2 1 rfl fl_X2_13 dX2_middleBuild_1 ?_
  refine r_aload_n (x := (some h0)) hx hb dX2_middleBuild_4 rfl (lh_at hl 0 rfl) ?_
  refine r_getI E w rfl ho1 cl_X2 2 rfl fl_X2_17 dX2_middleBuild_5 ?_
  refine r_aload_n (x := (some h0)) hx hb dX2_middleBuild_8 rfl (lh_at hl 0 rfl) ?_
  refine r_getI E w rfl ho1 cl_X2 1 rfl fl_X2_13 dX2_middleBuild_9 ?_
  refine lv_isub hx hb dX2_middleBuild_12 ?_
  refine lv_iconst (v := (2 : Int32)) hx hb dX2_middleBuild_13 (by decide) ?_
  refine lv_idiv hx hb dX2_middleBuild_14 (by decide) ?_
  refine lv_iadd hx hb dX2_middleBuild_15 ?_
  exact r_iret E w hr hlk h (Nat.le_refl 0) (Nat.le_refl 0) dX2_middleBuild_16
theorem K_X2_middleBuild {l : Launch} {Q : Int32 → Mm → Prop} {h0 : Nat} {M : Mm} (h : B_X2_middleBuild_0 Q h0 M) : KI l yX2_middleBuild cdX2_middleBuild (rmm 0 0 0) [rv (some h0)] M Q :=
  KI_of (by decide) rfl (Nat.le_of_ble_eq_true rfl) (fun p e s m args below meth c D cy A ls E hr hlk hn w hl => k_X2_middleBuild_0 E hr hlk _ _ _ _ _ h w hl)
def B_X2_mostReruns_12 (Q : Int32 → Mm → Prop)  : Nat → Nat → Int32 → Int32 → Mm → Prop
  | 0, _, _, _, _ => False
  | n + 1, h0, x1, x2, M => ((x2 ≤ (1 : Int32) → Q x1 M) ∧ (¬ x2 ≤ (1 : Int32) → (ok M h0 2 ∧ B_X2_mostReruns_12 Q  n h0 (x1 + (gI M h0 3)) (x2 - (x2 / (2 : Int32))) M)))
set_option maxHeartbeats 4000000 in
set_option maxRecDepth 100000 in
theorem k_X2_mostReruns_12 {p : Program} {l : Launch} {e : Env} {s : State} {m : MethodId} {args : Array Value} {below : List Frame} {meth : Method} {c : Code} {D : va_G} {cy : Nat → ClassId} {A : Nat → Prop} {Q : Int32 → Mm → Prop} (E : Ex p m c cX2_mostReruns 3 s args RX2 D cy A) (hr : meth.sig.returnType = (some .int)) (hlk : meth.locks = false) : ∀ (n : Nat), ∀ (h0 : Nat) (x1 : Int32) (x2 : Int32) (M : Mm) (H : Heap) (locs : List Loc) (ls : Array Slot), B_X2_mostReruns_12 Q  n h0 x1 x2 M → Wd D cy A s M H locs → lh ls 3 [(0, rv (some h0)), (1, iv x1), (2, iv x2)] → W p l e (rmm 0 0 0) s m args below meth c H locs 0 0 (MQ below (va_Qi Q (Po D cy A) A) args s 0 0 A) (F0 m 12 ls []) := by
  obtain ⟨hx, hb, hml, hown, hts⟩ := E.1
  intro n
  induction n with
  | zero => intro h0 x1 x2 M H locs ls h; exact False.elim h
  | succ n ih =>
    intro h0 x1 x2 M H locs ls h w hl
    unfold B_X2_mostReruns_12 at h
    refine lv_iload_n (x := x2) hx hb dX2_mostReruns_12 rfl (lh_at hl 2 rfl) ?_
    refine lv_iconst (v := (1 : Int32)) hx hb dX2_mostReruns_13 (by decide) ?_
    refine lv_icmp_le (tgt := 33) hx hb dX2_mostReruns_14 (by decide) (fun c1 => ?_) (fun c1 => ?_)
    · have h := h.1 c1
      refine lv_iload_n (x := x1) hx hb dX2_mostReruns_33 rfl (lh_at hl 1 rfl) ?_
      exact r_iret E w hr hlk h (Nat.le_refl 0) (Nat.le_refl 0) dX2_mostReruns_34
    · have h := h.2 c1
      refine lv_iload_n (x := x1) hx hb dX2_mostReruns_17 rfl (lh_at hl 1 rfl) ?_
      refine r_aload_n (x := (some h0)) hx hb dX2_mostReruns_18 rfl (lh_at hl 0 rfl) ?_
      obtain ⟨ho2, h⟩ := h
      refine r_getI E w rfl ho2 cl_X2 3 rfl fl_X2_20 dX2_mostReruns_19 ?_
      refine lv_iadd hx hb dX2_mostReruns_22 ?_
      refine r_istore_n (lv' := [(1, iv (x1 + (gI M h0 3))), (0, rv (some h0)), (2, iv x2)]) hx hb dX2_mostReruns_23 rfl hl (by decide) rfl (fun ls hl => ?_)
      refine lv_iload_n (x := x2) hx hb dX2_mostReruns_24 rfl (lh_at hl 2 rfl) ?_
      refine lv_iload_n (x := x2) hx hb dX2_mostReruns_25 rfl (lh_at hl 2 rfl) ?_
      refine lv_iconst (v := (2 : Int32)) hx hb dX2_mostReruns_26 (by decide) ?_
      refine lv_idiv hx hb dX2_mostReruns_27 (by decide) ?_
      refine lv_isub hx hb dX2_mostReruns_28 ?_
      refine r_istore_n (lv' := [(2, iv (x2 - (x2 / (2 : Int32)))), (1, iv (x1 + (gI M h0 3))), (0, rv (some h0))]) hx hb dX2_mostReruns_29 rfl hl (by decide) rfl (fun ls hl => ?_)
      refine lv_goto (tgt := 12) hx hb dX2_mostReruns_30 (by decide) ?_
      exact ih _ _ _ _ _ _ _ h w (lh_sub hl [2, 1, 0] rfl)
def B_X2_mostReruns_0 (Q : Int32 → Mm → Prop)  (h0 : Nat) (M : Mm) : Prop := (ok M h0 2 ∧ (∃ n, B_X2_mostReruns_12 Q  n h0 (0 : Int32) ((gI M h0 2) - (gI M h0 1)) M))
set_option maxHeartbeats 4000000 in
set_option maxRecDepth 100000 in
theorem k_X2_mostReruns_0 {p : Program} {l : Launch} {e : Env} {s : State} {m : MethodId} {args : Array Value} {below : List Frame} {meth : Method} {c : Code} {D : va_G} {cy : Nat → ClassId} {A : Nat → Prop} {Q : Int32 → Mm → Prop} (E : Ex p m c cX2_mostReruns 3 s args RX2 D cy A) (hr : meth.sig.returnType = (some .int)) (hlk : meth.locks = false) : ∀ (h0 : Nat) (M : Mm) (H : Heap) (locs : List Loc) (ls : Array Slot), B_X2_mostReruns_0 Q  h0 M → Wd D cy A s M H locs → lh ls 3 [(0, rv (some h0))] → W p l e (rmm 0 0 0) s m args below meth c H locs 0 0 (MQ below (va_Qi Q (Po D cy A) A) args s 0 0 A) (F0 m 0 ls []) := by
  obtain ⟨hx, hb, hml, hown, hts⟩ := E.1
  intro h0 M H locs ls h w hl
  unfold B_X2_mostReruns_0 at h
  refine lv_iconst (v := (0 : Int32)) hx hb dX2_mostReruns_0 (by decide) ?_
  refine r_istore_n (lv' := [(1, iv (0 : Int32)), (0, rv (some h0))]) hx hb dX2_mostReruns_1 rfl hl (by decide) rfl (fun ls hl => ?_)
  refine r_aload_n (x := (some h0)) hx hb dX2_mostReruns_2 rfl (lh_at hl 1 rfl) ?_
  obtain ⟨ho1, h⟩ := h
  refine r_getI E w rfl ho1 cl_X2 2 rfl fl_X2_17 dX2_mostReruns_3 ?_
  refine r_aload_n (x := (some h0)) hx hb dX2_mostReruns_6 rfl (lh_at hl 1 rfl) ?_
  refine r_getI E w rfl ho1 cl_X2 1 rfl fl_X2_13 dX2_mostReruns_7 ?_
  refine lv_isub hx hb dX2_mostReruns_10 ?_
  refine r_istore_n (lv' := [(2, iv ((gI M h0 2) - (gI M h0 1))), (1, iv (0 : Int32)), (0, rv (some h0))]) hx hb dX2_mostReruns_11 rfl hl (by decide) rfl (fun ls hl => ?_)
  obtain ⟨n2, h⟩ := h
  exact k_X2_mostReruns_12 E hr hlk  n2 _ _ _ _ _ _ _ h w (lh_sub hl [2, 1, 0] rfl)
theorem K_X2_mostReruns {l : Launch} {Q : Int32 → Mm → Prop} {h0 : Nat} {M : Mm} (h : B_X2_mostReruns_0 Q h0 M) : KI l yX2_mostReruns cdX2_mostReruns (rmm 0 0 0) [rv (some h0)] M Q :=
  KI_of (by decide) rfl (Nat.le_of_ble_eq_true rfl) (fun p e s m args below meth c D cy A ls E hr hlk hn w hl => k_X2_mostReruns_0 E hr hlk _ _ _ _ _ h w hl)
def B_X2_decide_34 (Q : Mm → Prop)  (h0 : Nat) (M : Mm) : Prop := (ok M h0 2 ∧ (∀ M2, M2 = pI M h0 5 (0 : Int32) → (∀ M3, M3 = pI M2 h0 6 (0 : Int32) → Q M3)))
set_option maxHeartbeats 4000000 in
set_option maxRecDepth 100000 in
theorem k_X2_decide_34 {p : Program} {l : Launch} {e : Env} {s : State} {m : MethodId} {args : Array Value} {below : List Frame} {meth : Method} {c : Code} {D : va_G} {cy : Nat → ClassId} {A : Nat → Prop} {Q : Mm → Prop} (E : Ex p m c cX2_decide 2 s args RX2 D cy A) (hr : meth.sig.returnType = none) (hlk : meth.locks = false) : ∀ (h0 : Nat) (M : Mm) (H : Heap) (locs : List Loc) (ls : Array Slot), B_X2_decide_34 Q  h0 M → Wd D cy A s M H locs → lh ls 2 [(0, rv (some h0))] → W p l e (rmm 1 0 0) s m args below meth c H locs 0 0 (MQ below (va_Qv Q (Po D cy A) A) args s 0 0 A) (F0 m 34 ls []) := by
  obtain ⟨hx, hb, hml, hown, hts⟩ := E.1
  intro h0 M H locs ls h w hl
  unfold B_X2_decide_34 at h
  refine r_aload_n (x := (some h0)) hx hb dX2_decide_34 rfl (lh_at hl 0 rfl) ?_
  refine lv_iconst (v := (0 : Int32)) hx hb dX2_decide_35 (by decide) ?_
  obtain ⟨ho1, h⟩ := h
  refine r_putI (v := (0 : Int32)) E w rfl ho1 cl_X2 5 rfl fl_X2_26 (Or.inl rfl) (Or.inl rfl) dX2_decide_36 (fun H locs w => ?_)
  obtain ⟨M2, eM2⟩ : ∃ z, z = pI M h0 5 (0 : Int32) := ⟨_, rfl⟩
  rw [← eM2] at w
  have h := h M2 eM2
  refine r_aload_n (x := (some h0)) hx hb dX2_decide_39 rfl (lh_at hl 0 rfl) ?_
  refine lv_iconst (v := (0 : Int32)) hx hb dX2_decide_40 (by decide) ?_
  have ho1 : ok M2 h0 2 := by rw [eM2]; exact ho1
  refine r_putI (v := (0 : Int32)) E w rfl ho1 cl_X2 6 rfl fl_X2_29 (Or.inl rfl) (Or.inl rfl) dX2_decide_41 (fun H locs w => ?_)
  obtain ⟨M3, eM3⟩ : ∃ z, z = pI M2 h0 6 (0 : Int32) := ⟨_, rfl⟩
  rw [← eM3] at w
  have h := h M3 eM3
  exact r_vret E w hr hlk h (Nat.le_refl 0) (Nat.le_refl 0) dX2_decide_44
def B_X2_decide_0 (Q : Mm → Prop)  (h0 : Nat) (M : Mm) : Prop := (ok M h0 2 ∧ (B_X2_middleBuild_0 (fun r3 M2 => (ok M2 h0 2 ∧ (((gI M2 h0 6) ≤ ((gI M2 h0 5) - (gI M2 h0 6)) → (∀ M6, M6 = pI M2 h0 1 r3 → B_X2_decide_34 Q  h0 M6)) ∧ (¬ (gI M2 h0 6) ≤ ((gI M2 h0 5) - (gI M2 h0 6)) → (∀ M7, M7 = pI M2 h0 2 r3 → B_X2_decide_34 Q  h0 M7))))) h0  M))
set_option maxHeartbeats 4000000 in
set_option maxRecDepth 100000 in
theorem k_X2_decide_0 {p : Program} {l : Launch} {e : Env} {s : State} {m : MethodId} {args : Array Value} {below : List Frame} {meth : Method} {c : Code} {D : va_G} {cy : Nat → ClassId} {A : Nat → Prop} {Q : Mm → Prop} (E : Ex p m c cX2_decide 2 s args RX2 D cy A) (hr : meth.sig.returnType = none) (hlk : meth.locks = false) : ∀ (h0 : Nat) (M : Mm) (H : Heap) (locs : List Loc) (ls : Array Slot), B_X2_decide_0 Q  h0 M → Wd D cy A s M H locs → lh ls 2 [(0, rv (some h0))] → W p l e (rmm 1 0 0) s m args below meth c H locs 0 0 (MQ below (va_Qv Q (Po D cy A) A) args s 0 0 A) (F0 m 0 ls []) := by
  obtain ⟨hx, hb, hml, hown, hts⟩ := E.1
  intro h0 M H locs ls h w hl
  unfold B_X2_decide_0 at h
  refine r_aload_n (x := (some h0)) hx hb dX2_decide_0 rfl (lh_at hl 0 rfl) ?_
  obtain ⟨ho1, h⟩ := h
  refine z_callVi E w rfl ho1 cl_X2 yk_X2_middleBuild ⟨Nat.le_of_ble_eq_true rfl, Nat.le_of_ble_eq_true rfl⟩ ⟨(Nat.zero_le _), (Nat.zero_le _)⟩ rfl ml_X2_35 im_X2_middleBuild sl_X2_middleBuild [] rfl rfl hl [] rfl (Nat.le_of_ble_eq_true rfl) (K_X2_middleBuild h) dX2_decide_1 (fun r3 M2 H locs h w => ?_)
  refine r_istore_n (lv' := [(1, iv r3), (0, rv (some h0))]) hx hb dX2_decide_4 rfl hl (by decide) rfl (fun ls hl => ?_)
  refine r_aload_n (x := (some h0)) hx hb dX2_decide_5 rfl (lh_at hl 1 rfl) ?_
  obtain ⟨ho4, h⟩ := h
  refine r_getI E w rfl ho4 cl_X2 6 rfl fl_X2_29 dX2_decide_6 ?_
  refine r_aload_n (x := (some h0)) hx hb dX2_decide_9 rfl (lh_at hl 1 rfl) ?_
  refine r_getI E w rfl ho4 cl_X2 5 rfl fl_X2_26 dX2_decide_10 ?_
  refine r_aload_n (x := (some h0)) hx hb dX2_decide_13 rfl (lh_at hl 1 rfl) ?_
  refine r_getI E w rfl ho4 cl_X2 6 rfl fl_X2_29 dX2_decide_14 ?_
  refine lv_isub hx hb dX2_decide_17 ?_
  refine lv_icmp_le (tgt := 29) hx hb dX2_decide_18 (by decide) (fun c5 => ?_) (fun c5 => ?_)
  · have h := h.1 c5
    refine r_aload_n (x := (some h0)) hx hb dX2_decide_29 rfl (lh_at hl 1 rfl) ?_
    refine lv_iload_n (x := r3) hx hb dX2_decide_30 rfl (lh_at hl 0 rfl) ?_
    refine r_putI (v := r3) E w rfl ho4 cl_X2 1 rfl fl_X2_13 (Or.inl rfl) (Or.inl rfl) dX2_decide_31 (fun H locs w => ?_)
    obtain ⟨M6, eM6⟩ : ∃ z, z = pI M2 h0 1 r3 := ⟨_, rfl⟩
    rw [← eM6] at w
    have h := h M6 eM6
    exact k_X2_decide_34 E hr hlk  _ _ _ _ _ h w (lh_sub hl [1] rfl)
  · have h := h.2 c5
    refine r_aload_n (x := (some h0)) hx hb dX2_decide_21 rfl (lh_at hl 1 rfl) ?_
    refine lv_iload_n (x := r3) hx hb dX2_decide_22 rfl (lh_at hl 0 rfl) ?_
    refine r_putI (v := r3) E w rfl ho4 cl_X2 2 rfl fl_X2_17 (Or.inl rfl) (Or.inl rfl) dX2_decide_23 (fun H locs w => ?_)
    obtain ⟨M7, eM7⟩ : ∃ z, z = pI M2 h0 2 r3 := ⟨_, rfl⟩
    rw [← eM7] at w
    have h := h M7 eM7
    refine lv_goto (tgt := 34) hx hb dX2_decide_26 (by decide) ?_
    exact k_X2_decide_34 E hr hlk  _ _ _ _ _ h w (lh_sub hl [1] rfl)
theorem K_X2_decide {l : Launch} {Q : Mm → Prop} {h0 : Nat} {M : Mm} (h : B_X2_decide_0 Q h0 M) : KV l yX2_decide cdX2_decide (rmm 1 0 0) [rv (some h0)] M Q :=
  KV_of (by decide) rfl (Nat.le_of_ble_eq_true rfl) (fun p e s m args below meth c D cy A ls E hr hlk hn w hl => k_X2_decide_0 E hr hlk _ _ _ _ _ h w hl)
def B_X2_take_34 (Q : Int32 → Mm → Prop)  (h0 : Nat) (M : Mm) : Prop := (ok M h0 2 ∧ (((gI M h0 3) ≤ (gI M h0 5) → (B_X2_decide_0 (fun  M3 => Q (0 : Int32) M3) h0  M)) ∧ (¬ (gI M h0 3) ≤ (gI M h0 5) → Q ((gI M h0 3) - (gI M h0 5)) M)))
set_option maxHeartbeats 4000000 in
set_option maxRecDepth 100000 in
theorem k_X2_take_34 {p : Program} {l : Launch} {e : Env} {s : State} {m : MethodId} {args : Array Value} {below : List Frame} {meth : Method} {c : Code} {D : va_G} {cy : Nat → ClassId} {A : Nat → Prop} {Q : Int32 → Mm → Prop} (E : Ex p m c cX2_take 2 s args RX2 D cy A) (hr : meth.sig.returnType = (some .int)) (hlk : meth.locks = false) : ∀ (h0 : Nat) (M : Mm) (H : Heap) (locs : List Loc) (ls : Array Slot), B_X2_take_34 Q  h0 M → Wd D cy A s M H locs → lh ls 2 [(0, rv (some h0))] → W p l e (rmm 2 0 0) s m args below meth c H locs 0 0 (MQ below (va_Qi Q (Po D cy A) A) args s 0 0 A) (F0 m 34 ls []) := by
  obtain ⟨hx, hb, hml, hown, hts⟩ := E.1
  intro h0 M H locs ls h w hl
  unfold B_X2_take_34 at h
  refine r_aload_n (x := (some h0)) hx hb dX2_take_34 rfl (lh_at hl 0 rfl) ?_
  obtain ⟨ho1, h⟩ := h
  refine r_getI E w rfl ho1 cl_X2 5 rfl fl_X2_26 dX2_take_35 ?_
  refine r_aload_n (x := (some h0)) hx hb dX2_take_38 rfl (lh_at hl 0 rfl) ?_
  refine r_getI E w rfl ho1 cl_X2 3 rfl fl_X2_20 dX2_take_39 ?_
  refine lv_icmp_ge (tgt := 55) hx hb dX2_take_42 (by decide) (fun c2 => ?_) (fun c2 => ?_)
  · have h := h.1 c2
    refine r_aload_n (x := (some h0)) hx hb dX2_take_55 rfl (lh_at hl 0 rfl) ?_
    refine z_callVv E w rfl ho1 cl_X2 yk_X2_decide ⟨Nat.le_of_ble_eq_true rfl, Nat.le_of_ble_eq_true rfl⟩ ⟨(Nat.zero_le _), (Nat.zero_le _)⟩ rfl ml_X2_32 im_X2_decide sl_X2_decide [] rfl rfl hl [] rfl (Nat.le_of_ble_eq_true rfl) (K_X2_decide h) dX2_take_56 (fun  M3 H locs h w => ?_)
    refine lv_iconst (v := (0 : Int32)) hx hb dX2_take_59 (by decide) ?_
    exact r_iret E w hr hlk h (Nat.le_refl 0) (Nat.le_refl 0) dX2_take_60
  · have h := h.2 c2
    refine r_aload_n (x := (some h0)) hx hb dX2_take_45 rfl (lh_at hl 0 rfl) ?_
    refine r_getI E w rfl ho1 cl_X2 3 rfl fl_X2_20 dX2_take_46 ?_
    refine r_aload_n (x := (some h0)) hx hb dX2_take_49 rfl (lh_at hl 0 rfl) ?_
    refine r_getI E w rfl ho1 cl_X2 5 rfl fl_X2_26 dX2_take_50 ?_
    refine lv_isub hx hb dX2_take_53 ?_
    exact r_iret E w hr hlk h (Nat.le_refl 0) (Nat.le_refl 0) dX2_take_54
def B_X2_take_0 (Q : Int32 → Mm → Prop)  (h0 : Nat) (x1 : Int32) (M : Mm) : Prop := (ok M h0 2 ∧ (∀ M2, M2 = pI M h0 4 ((gI M h0 4) + (1 : Int32)) → (∀ M3, M3 = pI M2 h0 5 ((gI M2 h0 5) + (1 : Int32)) → ((x1 = 0 → B_X2_take_34 Q  h0 M3) ∧ (¬ x1 = 0 → (∀ M5, M5 = pI M3 h0 6 ((gI M3 h0 6) + (1 : Int32)) → B_X2_take_34 Q  h0 M5))))))
set_option maxHeartbeats 4000000 in
set_option maxRecDepth 100000 in
theorem k_X2_take_0 {p : Program} {l : Launch} {e : Env} {s : State} {m : MethodId} {args : Array Value} {below : List Frame} {meth : Method} {c : Code} {D : va_G} {cy : Nat → ClassId} {A : Nat → Prop} {Q : Int32 → Mm → Prop} (E : Ex p m c cX2_take 2 s args RX2 D cy A) (hr : meth.sig.returnType = (some .int)) (hlk : meth.locks = false) : ∀ (h0 : Nat) (x1 : Int32) (M : Mm) (H : Heap) (locs : List Loc) (ls : Array Slot), B_X2_take_0 Q  h0 x1 M → Wd D cy A s M H locs → lh ls 2 [(0, rv (some h0)), (1, iv x1)] → W p l e (rmm 2 0 0) s m args below meth c H locs 0 0 (MQ below (va_Qi Q (Po D cy A) A) args s 0 0 A) (F0 m 0 ls []) := by
  obtain ⟨hx, hb, hml, hown, hts⟩ := E.1
  intro h0 x1 M H locs ls h w hl
  unfold B_X2_take_0 at h
  refine r_aload_n (x := (some h0)) hx hb dX2_take_0 rfl (lh_at hl 0 rfl) ?_
  refine r_dupr hx hb dX2_take_1 ?_
  obtain ⟨ho1, h⟩ := h
  refine r_getI E w rfl ho1 cl_X2 4 rfl fl_X2_23 dX2_take_2 ?_
  refine lv_iconst (v := (1 : Int32)) hx hb dX2_take_5 (by decide) ?_
  refine lv_iadd hx hb dX2_take_6 ?_
  refine r_putI (v := ((gI M h0 4) + (1 : Int32))) E w rfl ho1 cl_X2 4 rfl fl_X2_23 (Or.inl rfl) (Or.inl rfl) dX2_take_7 (fun H locs w => ?_)
  obtain ⟨M2, eM2⟩ : ∃ z, z = pI M h0 4 ((gI M h0 4) + (1 : Int32)) := ⟨_, rfl⟩
  rw [← eM2] at w
  have h := h M2 eM2
  refine r_aload_n (x := (some h0)) hx hb dX2_take_10 rfl (lh_at hl 0 rfl) ?_
  refine r_dupr hx hb dX2_take_11 ?_
  have ho1 : ok M2 h0 2 := by rw [eM2]; exact ho1
  refine r_getI E w rfl ho1 cl_X2 5 rfl fl_X2_26 dX2_take_12 ?_
  refine lv_iconst (v := (1 : Int32)) hx hb dX2_take_15 (by decide) ?_
  refine lv_iadd hx hb dX2_take_16 ?_
  refine r_putI (v := ((gI M2 h0 5) + (1 : Int32))) E w rfl ho1 cl_X2 5 rfl fl_X2_26 (Or.inl rfl) (Or.inl rfl) dX2_take_17 (fun H locs w => ?_)
  obtain ⟨M3, eM3⟩ : ∃ z, z = pI M2 h0 5 ((gI M2 h0 5) + (1 : Int32)) := ⟨_, rfl⟩
  rw [← eM3] at w
  have h := h M3 eM3
  refine lv_iload_n (x := x1) hx hb dX2_take_20 rfl (lh_at hl 1 rfl) ?_
  refine lv_if_eq (tgt := 34) hx hb dX2_take_21 (by decide) (fun c4 => ?_) (fun c4 => ?_)
  · have h := h.1 c4
    exact k_X2_take_34 E hr hlk  _ _ _ _ _ h w (lh_sub hl [0] rfl)
  · have h := h.2 c4
    refine r_aload_n (x := (some h0)) hx hb dX2_take_24 rfl (lh_at hl 0 rfl) ?_
    refine r_dupr hx hb dX2_take_25 ?_
    have ho1 : ok M3 h0 2 := by rw [eM3]; exact ho1
    refine r_getI E w rfl ho1 cl_X2 6 rfl fl_X2_29 dX2_take_26 ?_
    refine lv_iconst (v := (1 : Int32)) hx hb dX2_take_29 (by decide) ?_
    refine lv_iadd hx hb dX2_take_30 ?_
    refine r_putI (v := ((gI M3 h0 6) + (1 : Int32))) E w rfl ho1 cl_X2 6 rfl fl_X2_29 (Or.inl rfl) (Or.inl rfl) dX2_take_31 (fun H locs w => ?_)
    obtain ⟨M5, eM5⟩ : ∃ z, z = pI M3 h0 6 ((gI M3 h0 6) + (1 : Int32)) := ⟨_, rfl⟩
    rw [← eM5] at w
    have h := h M5 eM5
    exact k_X2_take_34 E hr hlk  _ _ _ _ _ h w (lh_sub hl [0] rfl)
theorem K_X2_take {l : Launch} {Q : Int32 → Mm → Prop} {h0 : Nat} {x1 : Int32} {M : Mm} (h : B_X2_take_0 Q h0 x1 M) : KI l yX2_take cdX2_take (rmm 2 0 0) [rv (some h0), iv x1] M Q :=
  KI_of (by decide) rfl (Nat.le_of_ble_eq_true rfl) (fun p e s m args below meth c D cy A ls E hr hlk hn w hl => k_X2_take_0 E hr hlk _ _ _ _ _ _ h w hl)
end
