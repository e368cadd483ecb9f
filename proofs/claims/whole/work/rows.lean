section
-- ===== PART A: goes FIRST, ahead of the names: the tables' words, and 'selects' of the private methods out of them =====
/-- a private method of a class that the tables say can be made, by its rows of tables_1 -/
def lw_okq (q : MethodName × Nat) : Prop := (q.1.cls ≠ "java/lang/invoke/MethodHandle" ∧ q.1.cls ≠ "java/lang/invoke/VarHandle") ∧ Cond.instantiable q.1.cls q.2 ∈ tables_1 ∧ Cond.privateMethod q.1 ∈ tables_1 ∧ Cond.instanceMethod q.1 ∈ tables_1
theorem lw_p0 : lw_okq (⟨"BranchGuess", "rebuild", "()V"⟩, 11) := ⟨⟨by decide +kernel, by decide +kernel⟩, List.mem_of_getElem? (i := 20) (by decide +kernel), List.mem_of_getElem? (i := 574) (by decide +kernel), List.mem_of_getElem? (i := 575) (by decide +kernel)⟩
theorem lw_p1 : lw_okq (⟨"BranchGuess", "record", "(I)V"⟩, 11) := ⟨⟨by decide +kernel, by decide +kernel⟩, List.mem_of_getElem? (i := 20) (by decide +kernel), List.mem_of_getElem? (i := 659) (by decide +kernel), List.mem_of_getElem? (i := 660) (by decide +kernel)⟩
theorem lw_p2 : lw_okq (⟨"BranchGuess", "isTold", "()Z"⟩, 11) := ⟨⟨by decide +kernel, by decide +kernel⟩, List.mem_of_getElem? (i := 20) (by decide +kernel), List.mem_of_getElem? (i := 782) (by decide +kernel), List.mem_of_getElem? (i := 783) (by decide +kernel)⟩
theorem lw_p3 : lw_okq (⟨"BranchGuess", "isStep", "(I)Z"⟩, 11) := ⟨⟨by decide +kernel, by decide +kernel⟩, List.mem_of_getElem? (i := 20) (by decide +kernel), List.mem_of_getElem? (i := 794) (by decide +kernel), List.mem_of_getElem? (i := 795) (by decide +kernel)⟩
theorem lw_p4 : lw_okq (⟨"BranchGuess", "isBranch", "(I)Z"⟩, 11) := ⟨⟨by decide +kernel, by decide +kernel⟩, List.mem_of_getElem? (i := 20) (by decide +kernel), List.mem_of_getElem? (i := 810) (by decide +kernel), List.mem_of_getElem? (i := 811) (by decide +kernel)⟩
theorem lw_p5 : lw_okq (⟨"BranchGuess", "isMoment", "(I)Z"⟩, 11) := ⟨⟨by decide +kernel, by decide +kernel⟩, List.mem_of_getElem? (i := 20) (by decide +kernel), List.mem_of_getElem? (i := 819) (by decide +kernel), List.mem_of_getElem? (i := 820) (by decide +kernel)⟩
theorem lw_p6 : lw_okq (⟨"BranchGuess", "goTo", "(I)V"⟩, 11) := ⟨⟨by decide +kernel, by decide +kernel⟩, List.mem_of_getElem? (i := 20) (by decide +kernel), List.mem_of_getElem? (i := 874) (by decide +kernel), List.mem_of_getElem? (i := 875) (by decide +kernel)⟩
theorem lw_p7 : lw_okq (⟨"BranchGuess", "isTable", "(I)Z"⟩, 11) := ⟨⟨by decide +kernel, by decide +kernel⟩, List.mem_of_getElem? (i := 20) (by decide +kernel), List.mem_of_getElem? (i := 891) (by decide +kernel), List.mem_of_getElem? (i := 892) (by decide +kernel)⟩
theorem lw_p8 : lw_okq (⟨"BranchGuess", "askedAt", "(II)Z"⟩, 11) := ⟨⟨by decide +kernel, by decide +kernel⟩, List.mem_of_getElem? (i := 20) (by decide +kernel), List.mem_of_getElem? (i := 905) (by decide +kernel), List.mem_of_getElem? (i := 906) (by decide +kernel)⟩
theorem lw_p9 : lw_okq (⟨"BranchGuess", "wander", "(I)I"⟩, 11) := ⟨⟨by decide +kernel, by decide +kernel⟩, List.mem_of_getElem? (i := 20) (by decide +kernel), List.mem_of_getElem? (i := 959) (by decide +kernel), List.mem_of_getElem? (i := 960) (by decide +kernel)⟩
theorem lw_p10 : lw_okq (⟨"BranchGuess", "costBy", "(I)I"⟩, 11) := ⟨⟨by decide +kernel, by decide +kernel⟩, List.mem_of_getElem? (i := 20) (by decide +kernel), List.mem_of_getElem? (i := 976) (by decide +kernel), List.mem_of_getElem? (i := 977) (by decide +kernel)⟩
theorem lw_p11 : lw_okq (⟨"BranchGuess", "setRivalBy", "(I)V"⟩, 11) := ⟨⟨by decide +kernel, by decide +kernel⟩, List.mem_of_getElem? (i := 20) (by decide +kernel), List.mem_of_getElem? (i := 980) (by decide +kernel), List.mem_of_getElem? (i := 981) (by decide +kernel)⟩
theorem lw_p12 : lw_okq (⟨"BranchGuess", "rivalWrongs", "()I"⟩, 11) := ⟨⟨by decide +kernel, by decide +kernel⟩, List.mem_of_getElem? (i := 20) (by decide +kernel), List.mem_of_getElem? (i := 992) (by decide +kernel), List.mem_of_getElem? (i := 993) (by decide +kernel)⟩
theorem lw_p13 : lw_okq (⟨"BranchGuess", "setRivalWithout", "(I)V"⟩, 11) := ⟨⟨by decide +kernel, by decide +kernel⟩, List.mem_of_getElem? (i := 20) (by decide +kernel), List.mem_of_getElem? (i := 1004) (by decide +kernel), List.mem_of_getElem? (i := 1005) (by decide +kernel)⟩
theorem lw_p14 : lw_okq (⟨"BranchGuess", "leastSpan", "(I)I"⟩, 11) := ⟨⟨by decide +kernel, by decide +kernel⟩, List.mem_of_getElem? (i := 20) (by decide +kernel), List.mem_of_getElem? (i := 1016) (by decide +kernel), List.mem_of_getElem? (i := 1017) (by decide +kernel)⟩
theorem lw_p15 : lw_okq (⟨"BranchGuess", "mostSpan", "(I)I"⟩, 11) := ⟨⟨by decide +kernel, by decide +kernel⟩, List.mem_of_getElem? (i := 20) (by decide +kernel), List.mem_of_getElem? (i := 1020) (by decide +kernel), List.mem_of_getElem? (i := 1021) (by decide +kernel)⟩
def lw_privs_1 : List (MethodName × Nat) := [(⟨"BranchGuess", "rebuild", "()V"⟩, 11), (⟨"BranchGuess", "record", "(I)V"⟩, 11), (⟨"BranchGuess", "isTold", "()Z"⟩, 11), (⟨"BranchGuess", "isStep", "(I)Z"⟩, 11), (⟨"BranchGuess", "isBranch", "(I)Z"⟩, 11), (⟨"BranchGuess", "isMoment", "(I)Z"⟩, 11), (⟨"BranchGuess", "goTo", "(I)V"⟩, 11), (⟨"BranchGuess", "isTable", "(I)Z"⟩, 11), (⟨"BranchGuess", "askedAt", "(II)Z"⟩, 11), (⟨"BranchGuess", "wander", "(I)I"⟩, 11), (⟨"BranchGuess", "costBy", "(I)I"⟩, 11), (⟨"BranchGuess", "setRivalBy", "(I)V"⟩, 11), (⟨"BranchGuess", "rivalWrongs", "()I"⟩, 11), (⟨"BranchGuess", "setRivalWithout", "(I)V"⟩, 11), (⟨"BranchGuess", "leastSpan", "(I)I"⟩, 11), (⟨"BranchGuess", "mostSpan", "(I)I"⟩, 11)]
theorem lw_r1 : ∀ q ∈ lw_privs_1, lw_okq q := List.forall_mem_cons.mpr ⟨lw_p0, List.forall_mem_cons.mpr ⟨lw_p1, List.forall_mem_cons.mpr ⟨lw_p2, List.forall_mem_cons.mpr ⟨lw_p3, List.forall_mem_cons.mpr ⟨lw_p4, List.forall_mem_cons.mpr ⟨lw_p5, List.forall_mem_cons.mpr ⟨lw_p6, List.forall_mem_cons.mpr ⟨lw_p7, List.forall_mem_cons.mpr ⟨lw_p8, List.forall_mem_cons.mpr ⟨lw_p9, List.forall_mem_cons.mpr ⟨lw_p10, List.forall_mem_cons.mpr ⟨lw_p11, List.forall_mem_cons.mpr ⟨lw_p12, List.forall_mem_cons.mpr ⟨lw_p13, List.forall_mem_cons.mpr ⟨lw_p14, List.forall_mem_cons.mpr ⟨lw_p15, fun _ h => absurd h List.not_mem_nil⟩⟩⟩⟩⟩⟩⟩⟩⟩⟩⟩⟩⟩⟩⟩⟩
theorem lw_p16 : lw_okq (⟨"BranchGuess", "setRivalSpanned", "(II)V"⟩, 11) := ⟨⟨by decide +kernel, by decide +kernel⟩, List.mem_of_getElem? (i := 20) (by decide +kernel), List.mem_of_getElem? (i := 1024) (by decide +kernel), List.mem_of_getElem? (i := 1025) (by decide +kernel)⟩
theorem lw_p17 : lw_okq (⟨"BranchGuess", "isPattern", "(III)Z"⟩, 11) := ⟨⟨by decide +kernel, by decide +kernel⟩, List.mem_of_getElem? (i := 20) (by decide +kernel), List.mem_of_getElem? (i := 1036) (by decide +kernel), List.mem_of_getElem? (i := 1037) (by decide +kernel)⟩
theorem lw_p18 : lw_okq (⟨"BranchGuess", "playRounds", "(IIII)V"⟩, 11) := ⟨⟨by decide +kernel, by decide +kernel⟩, List.mem_of_getElem? (i := 20) (by decide +kernel), List.mem_of_getElem? (i := 1042) (by decide +kernel), List.mem_of_getElem? (i := 1043) (by decide +kernel)⟩
theorem lw_p19 : lw_okq (⟨"BranchGuess", "firstRightRound", "()I"⟩, 11) := ⟨⟨by decide +kernel, by decide +kernel⟩, List.mem_of_getElem? (i := 20) (by decide +kernel), List.mem_of_getElem? (i := 1050) (by decide +kernel), List.mem_of_getElem? (i := 1051) (by decide +kernel)⟩
theorem lw_p20 : lw_okq (⟨"BranchGuess", "rivalGuessesAs", "(I)Z"⟩, 11) := ⟨⟨by decide +kernel, by decide +kernel⟩, List.mem_of_getElem? (i := 20) (by decide +kernel), List.mem_of_getElem? (i := 1084) (by decide +kernel), List.mem_of_getElem? (i := 1085) (by decide +kernel)⟩
theorem lw_p21 : lw_okq (⟨"BranchGuess", "keepActs", "(I)V"⟩, 11) := ⟨⟨by decide +kernel, by decide +kernel⟩, List.mem_of_getElem? (i := 20) (by decide +kernel), List.mem_of_getElem? (i := 1096) (by decide +kernel), List.mem_of_getElem? (i := 1097) (by decide +kernel)⟩
theorem lw_p22 : lw_okq (⟨"BranchGuessModel", "advance", "()V"⟩, 67) := ⟨⟨by decide +kernel, by decide +kernel⟩, List.mem_of_getElem? (i := 1148) (by decide +kernel), List.mem_of_getElem? (i := 1383) (by decide +kernel), List.mem_of_getElem? (i := 1384) (by decide +kernel)⟩
theorem lw_p23 : lw_okq (⟨"BranchGuessModel", "see", "(I)I"⟩, 67) := ⟨⟨by decide +kernel, by decide +kernel⟩, List.mem_of_getElem? (i := 1148) (by decide +kernel), List.mem_of_getElem? (i := 1387) (by decide +kernel), List.mem_of_getElem? (i := 1388) (by decide +kernel)⟩
theorem lw_p24 : lw_okq (⟨"BranchGuessModel", "good", "()Z"⟩, 67) := ⟨⟨by decide +kernel, by decide +kernel⟩, List.mem_of_getElem? (i := 1148) (by decide +kernel), List.mem_of_getElem? (i := 1397) (by decide +kernel), List.mem_of_getElem? (i := 1398) (by decide +kernel)⟩
theorem lw_p25 : lw_okq (⟨"BranchGuessModel", "readText", "()V"⟩, 67) := ⟨⟨by decide +kernel, by decide +kernel⟩, List.mem_of_getElem? (i := 1148) (by decide +kernel), List.mem_of_getElem? (i := 1401) (by decide +kernel), List.mem_of_getElem? (i := 1402) (by decide +kernel)⟩
theorem lw_p26 : lw_okq (⟨"BranchGuessModel", "readFirst", "()V"⟩, 67) := ⟨⟨by decide +kernel, by decide +kernel⟩, List.mem_of_getElem? (i := 1148) (by decide +kernel), List.mem_of_getElem? (i := 1405) (by decide +kernel), List.mem_of_getElem? (i := 1406) (by decide +kernel)⟩
theorem lw_p27 : lw_okq (⟨"BranchGuessModel", "expects", "(Ljava/lang/String;)V"⟩, 67) := ⟨⟨by decide +kernel, by decide +kernel⟩, List.mem_of_getElem? (i := 1148) (by decide +kernel), List.mem_of_getElem? (i := 1410) (by decide +kernel), List.mem_of_getElem? (i := 1411) (by decide +kernel)⟩
theorem lw_p28 : lw_okq (⟨"BranchGuessModel", "is", "(Ljava/lang/String;)Z"⟩, 67) := ⟨⟨by decide +kernel, by decide +kernel⟩, List.mem_of_getElem? (i := 1148) (by decide +kernel), List.mem_of_getElem? (i := 1414) (by decide +kernel), List.mem_of_getElem? (i := 1415) (by decide +kernel)⟩
theorem lw_p29 : lw_okq (⟨"BranchGuessModel", "errs", "(I)V"⟩, 67) := ⟨⟨by decide +kernel, by decide +kernel⟩, List.mem_of_getElem? (i := 1148) (by decide +kernel), List.mem_of_getElem? (i := 1420) (by decide +kernel), List.mem_of_getElem? (i := 1421) (by decide +kernel)⟩
theorem lw_p30 : lw_okq (⟨"BranchGuessModel", "toldBy", "(Ljava/lang/String;II)I"⟩, 67) := ⟨⟨by decide +kernel, by decide +kernel⟩, List.mem_of_getElem? (i := 1148) (by decide +kernel), List.mem_of_getElem? (i := 1425) (by decide +kernel), List.mem_of_getElem? (i := 1426) (by decide +kernel)⟩
theorem lw_p31 : lw_okq (⟨"BranchGuessModel", "takes", "(II)I"⟩, 67) := ⟨⟨by decide +kernel, by decide +kernel⟩, List.mem_of_getElem? (i := 1148) (by decide +kernel), List.mem_of_getElem? (i := 1429) (by decide +kernel), List.mem_of_getElem? (i := 1430) (by decide +kernel)⟩
def lw_privs_2 : List (MethodName × Nat) := [(⟨"BranchGuess", "setRivalSpanned", "(II)V"⟩, 11), (⟨"BranchGuess", "isPattern", "(III)Z"⟩, 11), (⟨"BranchGuess", "playRounds", "(IIII)V"⟩, 11), (⟨"BranchGuess", "firstRightRound", "()I"⟩, 11), (⟨"BranchGuess", "rivalGuessesAs", "(I)Z"⟩, 11), (⟨"BranchGuess", "keepActs", "(I)V"⟩, 11), (⟨"BranchGuessModel", "advance", "()V"⟩, 67), (⟨"BranchGuessModel", "see", "(I)I"⟩, 67), (⟨"BranchGuessModel", "good", "()Z"⟩, 67), (⟨"BranchGuessModel", "readText", "()V"⟩, 67), (⟨"BranchGuessModel", "readFirst", "()V"⟩, 67), (⟨"BranchGuessModel", "expects", "(Ljava/lang/String;)V"⟩, 67), (⟨"BranchGuessModel", "is", "(Ljava/lang/String;)Z"⟩, 67), (⟨"BranchGuessModel", "errs", "(I)V"⟩, 67), (⟨"BranchGuessModel", "toldBy", "(Ljava/lang/String;II)I"⟩, 67), (⟨"BranchGuessModel", "takes", "(II)I"⟩, 67)]
theorem lw_r2 : ∀ q ∈ lw_privs_2, lw_okq q := List.forall_mem_cons.mpr ⟨lw_p16, List.forall_mem_cons.mpr ⟨lw_p17, List.forall_mem_cons.mpr ⟨lw_p18, List.forall_mem_cons.mpr ⟨lw_p19, List.forall_mem_cons.mpr ⟨lw_p20, List.forall_mem_cons.mpr ⟨lw_p21, List.forall_mem_cons.mpr ⟨lw_p22, List.forall_mem_cons.mpr ⟨lw_p23, List.forall_mem_cons.mpr ⟨lw_p24, List.forall_mem_cons.mpr ⟨lw_p25, List.forall_mem_cons.mpr ⟨lw_p26, List.forall_mem_cons.mpr ⟨lw_p27, List.forall_mem_cons.mpr ⟨lw_p28, List.forall_mem_cons.mpr ⟨lw_p29, List.forall_mem_cons.mpr ⟨lw_p30, List.forall_mem_cons.mpr ⟨lw_p31, fun _ h => absurd h List.not_mem_nil⟩⟩⟩⟩⟩⟩⟩⟩⟩⟩⟩⟩⟩⟩⟩⟩
theorem lw_p32 : lw_okq (⟨"BranchGuessModel", "readSpan", "()V"⟩, 67) := ⟨⟨by decide +kernel, by decide +kernel⟩, List.mem_of_getElem? (i := 1148) (by decide +kernel), List.mem_of_getElem? (i := 1439) (by decide +kernel), List.mem_of_getElem? (i := 1440) (by decide +kernel)⟩
theorem lw_p33 : lw_okq (⟨"BranchGuessModel", "readOp", "()V"⟩, 67) := ⟨⟨by decide +kernel, by decide +kernel⟩, List.mem_of_getElem? (i := 1148) (by decide +kernel), List.mem_of_getElem? (i := 1443) (by decide +kernel), List.mem_of_getElem? (i := 1444) (by decide +kernel)⟩
theorem lw_p34 : lw_okq (⟨"BranchGuessModel", "kindRead", "()I"⟩, 67) := ⟨⟨by decide +kernel, by decide +kernel⟩, List.mem_of_getElem? (i := 1148) (by decide +kernel), List.mem_of_getElem? (i := 1447) (by decide +kernel), List.mem_of_getElem? (i := 1448) (by decide +kernel)⟩
theorem lw_p35 : lw_okq (⟨"BranchGuessModel", "isOp", "(I)Z"⟩, 67) := ⟨⟨by decide +kernel, by decide +kernel⟩, List.mem_of_getElem? (i := 1148) (by decide +kernel), List.mem_of_getElem? (i := 1475) (by decide +kernel), List.mem_of_getElem? (i := 1476) (by decide +kernel)⟩
theorem lw_p36 : lw_okq (⟨"BranchGuessModel", "kindOf", "(I)I"⟩, 67) := ⟨⟨by decide +kernel, by decide +kernel⟩, List.mem_of_getElem? (i := 1148) (by decide +kernel), List.mem_of_getElem? (i := 1480) (by decide +kernel), List.mem_of_getElem? (i := 1481) (by decide +kernel)⟩
theorem lw_p37 : lw_okq (⟨"BranchGuessModel", "numberOf", "(II)I"⟩, 67) := ⟨⟨by decide +kernel, by decide +kernel⟩, List.mem_of_getElem? (i := 1148) (by decide +kernel), List.mem_of_getElem? (i := 1484) (by decide +kernel), List.mem_of_getElem? (i := 1485) (by decide +kernel)⟩
theorem lw_p38 : lw_okq (⟨"BranchGuessModel", "lays", "()Z"⟩, 67) := ⟨⟨by decide +kernel, by decide +kernel⟩, List.mem_of_getElem? (i := 1148) (by decide +kernel), List.mem_of_getElem? (i := 1492) (by decide +kernel), List.mem_of_getElem? (i := 1493) (by decide +kernel)⟩
theorem lw_p39 : lw_okq (⟨"BranchGuessModel", "layRun", "()V"⟩, 67) := ⟨⟨by decide +kernel, by decide +kernel⟩, List.mem_of_getElem? (i := 1148) (by decide +kernel), List.mem_of_getElem? (i := 1496) (by decide +kernel), List.mem_of_getElem? (i := 1497) (by decide +kernel)⟩
theorem lw_p40 : lw_okq (⟨"BranchGuessModel", "endNow", "()I"⟩, 67) := ⟨⟨by decide +kernel, by decide +kernel⟩, List.mem_of_getElem? (i := 1148) (by decide +kernel), List.mem_of_getElem? (i := 1500) (by decide +kernel), List.mem_of_getElem? (i := 1501) (by decide +kernel)⟩
theorem lw_p41 : lw_okq (⟨"BranchGuessModel", "step", "(I)V"⟩, 67) := ⟨⟨by decide +kernel, by decide +kernel⟩, List.mem_of_getElem? (i := 1148) (by decide +kernel), List.mem_of_getElem? (i := 1504) (by decide +kernel), List.mem_of_getElem? (i := 1505) (by decide +kernel)⟩
theorem lw_p42 : lw_okq (⟨"BranchGuessModel", "isTaken", "(II)Z"⟩, 67) := ⟨⟨by decide +kernel, by decide +kernel⟩, List.mem_of_getElem? (i := 1148) (by decide +kernel), List.mem_of_getElem? (i := 1513) (by decide +kernel), List.mem_of_getElem? (i := 1514) (by decide +kernel)⟩
theorem lw_p43 : lw_okq (⟨"BranchGuessModel", "branches", "(III)V"⟩, 67) := ⟨⟨by decide +kernel, by decide +kernel⟩, List.mem_of_getElem? (i := 1148) (by decide +kernel), List.mem_of_getElem? (i := 1517) (by decide +kernel), List.mem_of_getElem? (i := 1518) (by decide +kernel)⟩
theorem lw_p44 : lw_okq (⟨"BranchGuessModel", "goalOf", "(I)I"⟩, 67) := ⟨⟨by decide +kernel, by decide +kernel⟩, List.mem_of_getElem? (i := 1148) (by decide +kernel), List.mem_of_getElem? (i := 1521) (by decide +kernel), List.mem_of_getElem? (i := 1522) (by decide +kernel)⟩
theorem lw_p45 : lw_okq (⟨"BranchGuessModel", "asTold", "()V"⟩, 67) := ⟨⟨by decide +kernel, by decide +kernel⟩, List.mem_of_getElem? (i := 1148) (by decide +kernel), List.mem_of_getElem? (i := 1531) (by decide +kernel), List.mem_of_getElem? (i := 1532) (by decide +kernel)⟩
theorem lw_p46 : lw_okq (⟨"BranchGuessModel", "tables", "()I"⟩, 67) := ⟨⟨by decide +kernel, by decide +kernel⟩, List.mem_of_getElem? (i := 1148) (by decide +kernel), List.mem_of_getElem? (i := 1535) (by decide +kernel), List.mem_of_getElem? (i := 1536) (by decide +kernel)⟩
theorem lw_p47 : lw_okq (⟨"BranchGuessModel", "isProgram", "()Z"⟩, 67) := ⟨⟨by decide +kernel, by decide +kernel⟩, List.mem_of_getElem? (i := 1148) (by decide +kernel), List.mem_of_getElem? (i := 1539) (by decide +kernel), List.mem_of_getElem? (i := 1540) (by decide +kernel)⟩
def lw_privs_3 : List (MethodName × Nat) := [(⟨"BranchGuessModel", "readSpan", "()V"⟩, 67), (⟨"BranchGuessModel", "readOp", "()V"⟩, 67), (⟨"BranchGuessModel", "kindRead", "()I"⟩, 67), (⟨"BranchGuessModel", "isOp", "(I)Z"⟩, 67), (⟨"BranchGuessModel", "kindOf", "(I)I"⟩, 67), (⟨"BranchGuessModel", "numberOf", "(II)I"⟩, 67), (⟨"BranchGuessModel", "lays", "()Z"⟩, 67), (⟨"BranchGuessModel", "layRun", "()V"⟩, 67), (⟨"BranchGuessModel", "endNow", "()I"⟩, 67), (⟨"BranchGuessModel", "step", "(I)V"⟩, 67), (⟨"BranchGuessModel", "isTaken", "(II)Z"⟩, 67), (⟨"BranchGuessModel", "branches", "(III)V"⟩, 67), (⟨"BranchGuessModel", "goalOf", "(I)I"⟩, 67), (⟨"BranchGuessModel", "asTold", "()V"⟩, 67), (⟨"BranchGuessModel", "tables", "()I"⟩, 67), (⟨"BranchGuessModel", "isProgram", "()Z"⟩, 67)]
theorem lw_r3 : ∀ q ∈ lw_privs_3, lw_okq q := List.forall_mem_cons.mpr ⟨lw_p32, List.forall_mem_cons.mpr ⟨lw_p33, List.forall_mem_cons.mpr ⟨lw_p34, List.forall_mem_cons.mpr ⟨lw_p35, List.forall_mem_cons.mpr ⟨lw_p36, List.forall_mem_cons.mpr ⟨lw_p37, List.forall_mem_cons.mpr ⟨lw_p38, List.forall_mem_cons.mpr ⟨lw_p39, List.forall_mem_cons.mpr ⟨lw_p40, List.forall_mem_cons.mpr ⟨lw_p41, List.forall_mem_cons.mpr ⟨lw_p42, List.forall_mem_cons.mpr ⟨lw_p43, List.forall_mem_cons.mpr ⟨lw_p44, List.forall_mem_cons.mpr ⟨lw_p45, List.forall_mem_cons.mpr ⟨lw_p46, List.forall_mem_cons.mpr ⟨lw_p47, fun _ h => absurd h List.not_mem_nil⟩⟩⟩⟩⟩⟩⟩⟩⟩⟩⟩⟩⟩⟩⟩⟩
theorem lw_p48 : lw_okq (⟨"BranchGuessModel", "asks", "()Z"⟩, 67) := ⟨⟨by decide +kernel, by decide +kernel⟩, List.mem_of_getElem? (i := 1148) (by decide +kernel), List.mem_of_getElem? (i := 1560) (by decide +kernel), List.mem_of_getElem? (i := 1561) (by decide +kernel)⟩
theorem lw_p49 : lw_okq (⟨"BranchGuessModel", "play", "(I)V"⟩, 67) := ⟨⟨by decide +kernel, by decide +kernel⟩, List.mem_of_getElem? (i := 1148) (by decide +kernel), List.mem_of_getElem? (i := 1564) (by decide +kernel), List.mem_of_getElem? (i := 1565) (by decide +kernel)⟩
theorem lw_p50 : lw_okq (⟨"BranchGuessModel", "beginGuesser", "()V"⟩, 67) := ⟨⟨by decide +kernel, by decide +kernel⟩, List.mem_of_getElem? (i := 1148) (by decide +kernel), List.mem_of_getElem? (i := 1568) (by decide +kernel), List.mem_of_getElem? (i := 1569) (by decide +kernel)⟩
theorem lw_p51 : lw_okq (⟨"BranchGuessModel", "empties", "(I)V"⟩, 67) := ⟨⟨by decide +kernel, by decide +kernel⟩, List.mem_of_getElem? (i := 1148) (by decide +kernel), List.mem_of_getElem? (i := 1572) (by decide +kernel), List.mem_of_getElem? (i := 1573) (by decide +kernel)⟩
theorem lw_p52 : lw_okq (⟨"BranchGuessModel", "ask", "(I)V"⟩, 67) := ⟨⟨by decide +kernel, by decide +kernel⟩, List.mem_of_getElem? (i := 1148) (by decide +kernel), List.mem_of_getElem? (i := 1576) (by decide +kernel), List.mem_of_getElem? (i := 1577) (by decide +kernel)⟩
theorem lw_p53 : lw_okq (⟨"BranchGuessModel", "askTables", "()V"⟩, 67) := ⟨⟨by decide +kernel, by decide +kernel⟩, List.mem_of_getElem? (i := 1148) (by decide +kernel), List.mem_of_getElem? (i := 1580) (by decide +kernel), List.mem_of_getElem? (i := 1581) (by decide +kernel)⟩
theorem lw_p54 : lw_okq (⟨"BranchGuessModel", "indexOf", "(II)I"⟩, 67) := ⟨⟨by decide +kernel, by decide +kernel⟩, List.mem_of_getElem? (i := 1148) (by decide +kernel), List.mem_of_getElem? (i := 1584) (by decide +kernel), List.mem_of_getElem? (i := 1585) (by decide +kernel)⟩
theorem lw_p55 : lw_okq (⟨"BranchGuessModel", "foldOf", "(II)I"⟩, 67) := ⟨⟨by decide +kernel, by decide +kernel⟩, List.mem_of_getElem? (i := 1148) (by decide +kernel), List.mem_of_getElem? (i := 1588) (by decide +kernel), List.mem_of_getElem? (i := 1589) (by decide +kernel)⟩
theorem lw_p56 : lw_okq (⟨"BranchGuessModel", "rowsOf", "()I"⟩, 67) := ⟨⟨by decide +kernel, by decide +kernel⟩, List.mem_of_getElem? (i := 1148) (by decide +kernel), List.mem_of_getElem? (i := 1592) (by decide +kernel), List.mem_of_getElem? (i := 1593) (by decide +kernel)⟩
theorem lw_p57 : lw_okq (⟨"BranchGuessModel", "tagOf", "(II)I"⟩, 67) := ⟨⟨by decide +kernel, by decide +kernel⟩, List.mem_of_getElem? (i := 1148) (by decide +kernel), List.mem_of_getElem? (i := 1596) (by decide +kernel), List.mem_of_getElem? (i := 1597) (by decide +kernel)⟩
theorem lw_p58 : lw_okq (⟨"BranchGuessModel", "matching", "(I)I"⟩, 67) := ⟨⟨by decide +kernel, by decide +kernel⟩, List.mem_of_getElem? (i := 1148) (by decide +kernel), List.mem_of_getElem? (i := 1600) (by decide +kernel), List.mem_of_getElem? (i := 1601) (by decide +kernel)⟩
theorem lw_p59 : lw_okq (⟨"BranchGuessModel", "matches", "(I)Z"⟩, 67) := ⟨⟨by decide +kernel, by decide +kernel⟩, List.mem_of_getElem? (i := 1148) (by decide +kernel), List.mem_of_getElem? (i := 1604) (by decide +kernel), List.mem_of_getElem? (i := 1605) (by decide +kernel)⟩
theorem lw_p60 : lw_okq (⟨"BranchGuessModel", "saysOf", "(I)I"⟩, 67) := ⟨⟨by decide +kernel, by decide +kernel⟩, List.mem_of_getElem? (i := 1148) (by decide +kernel), List.mem_of_getElem? (i := 1608) (by decide +kernel), List.mem_of_getElem? (i := 1609) (by decide +kernel)⟩
theorem lw_p61 : lw_okq (⟨"BranchGuessModel", "has", "(I)Z"⟩, 67) := ⟨⟨by decide +kernel, by decide +kernel⟩, List.mem_of_getElem? (i := 1148) (by decide +kernel), List.mem_of_getElem? (i := 1613) (by decide +kernel), List.mem_of_getElem? (i := 1614) (by decide +kernel)⟩
theorem lw_p62 : lw_okq (⟨"BranchGuessModel", "askCorrector", "()V"⟩, 67) := ⟨⟨by decide +kernel, by decide +kernel⟩, List.mem_of_getElem? (i := 1148) (by decide +kernel), List.mem_of_getElem? (i := 1617) (by decide +kernel), List.mem_of_getElem? (i := 1618) (by decide +kernel)⟩
theorem lw_p63 : lw_okq (⟨"BranchGuessModel", "loopSays", "()I"⟩, 67) := ⟨⟨by decide +kernel, by decide +kernel⟩, List.mem_of_getElem? (i := 1148) (by decide +kernel), List.mem_of_getElem? (i := 1623) (by decide +kernel), List.mem_of_getElem? (i := 1624) (by decide +kernel)⟩
def lw_privs_4 : List (MethodName × Nat) := [(⟨"BranchGuessModel", "asks", "()Z"⟩, 67), (⟨"BranchGuessModel", "play", "(I)V"⟩, 67), (⟨"BranchGuessModel", "beginGuesser", "()V"⟩, 67), (⟨"BranchGuessModel", "empties", "(I)V"⟩, 67), (⟨"BranchGuessModel", "ask", "(I)V"⟩, 67), (⟨"BranchGuessModel", "askTables", "()V"⟩, 67), (⟨"BranchGuessModel", "indexOf", "(II)I"⟩, 67), (⟨"BranchGuessModel", "foldOf", "(II)I"⟩, 67), (⟨"BranchGuessModel", "rowsOf", "()I"⟩, 67), (⟨"BranchGuessModel", "tagOf", "(II)I"⟩, 67), (⟨"BranchGuessModel", "matching", "(I)I"⟩, 67), (⟨"BranchGuessModel", "matches", "(I)Z"⟩, 67), (⟨"BranchGuessModel", "saysOf", "(I)I"⟩, 67), (⟨"BranchGuessModel", "has", "(I)Z"⟩, 67), (⟨"BranchGuessModel", "askCorrector", "()V"⟩, 67), (⟨"BranchGuessModel", "loopSays", "()I"⟩, 67)]
theorem lw_r4 : ∀ q ∈ lw_privs_4, lw_okq q := List.forall_mem_cons.mpr ⟨lw_p48, List.forall_mem_cons.mpr ⟨lw_p49, List.forall_mem_cons.mpr ⟨lw_p50, List.forall_mem_cons.mpr ⟨lw_p51, List.forall_mem_cons.mpr ⟨lw_p52, List.forall_mem_cons.mpr ⟨lw_p53, List.forall_mem_cons.mpr ⟨lw_p54, List.forall_mem_cons.mpr ⟨lw_p55, List.forall_mem_cons.mpr ⟨lw_p56, List.forall_mem_cons.mpr ⟨lw_p57, List.forall_mem_cons.mpr ⟨lw_p58, List.forall_mem_cons.mpr ⟨lw_p59, List.forall_mem_cons.mpr ⟨lw_p60, List.forall_mem_cons.mpr ⟨lw_p61, List.forall_mem_cons.mpr ⟨lw_p62, List.forall_mem_cons.mpr ⟨lw_p63, fun _ h => absurd h List.not_mem_nil⟩⟩⟩⟩⟩⟩⟩⟩⟩⟩⟩⟩⟩⟩⟩⟩
theorem lw_p64 : lw_okq (⟨"BranchGuessModel", "learn", "(I)V"⟩, 67) := ⟨⟨by decide +kernel, by decide +kernel⟩, List.mem_of_getElem? (i := 1148) (by decide +kernel), List.mem_of_getElem? (i := 1627) (by decide +kernel), List.mem_of_getElem? (i := 1628) (by decide +kernel)⟩
theorem lw_p65 : lw_okq (⟨"BranchGuessModel", "learnLoop", "(I)V"⟩, 67) := ⟨⟨by decide +kernel, by decide +kernel⟩, List.mem_of_getElem? (i := 1148) (by decide +kernel), List.mem_of_getElem? (i := 1631) (by decide +kernel), List.mem_of_getElem? (i := 1632) (by decide +kernel)⟩
theorem lw_p66 : lw_okq (⟨"BranchGuessModel", "learnCorrector", "(I)V"⟩, 67) := ⟨⟨by decide +kernel, by decide +kernel⟩, List.mem_of_getElem? (i := 1148) (by decide +kernel), List.mem_of_getElem? (i := 1635) (by decide +kernel), List.mem_of_getElem? (i := 1636) (by decide +kernel)⟩
theorem lw_p67 : lw_okq (⟨"BranchGuessModel", "learnCount", "(II)V"⟩, 67) := ⟨⟨by decide +kernel, by decide +kernel⟩, List.mem_of_getElem? (i := 1148) (by decide +kernel), List.mem_of_getElem? (i := 1643) (by decide +kernel), List.mem_of_getElem? (i := 1644) (by decide +kernel)⟩
theorem lw_p68 : lw_okq (⟨"BranchGuessModel", "takeRow", "(I)V"⟩, 67) := ⟨⟨by decide +kernel, by decide +kernel⟩, List.mem_of_getElem? (i := 1148) (by decide +kernel), List.mem_of_getElem? (i := 1647) (by decide +kernel), List.mem_of_getElem? (i := 1648) (by decide +kernel)⟩
theorem lw_p69 : lw_okq (⟨"BranchGuessModel", "halve", "()V"⟩, 67) := ⟨⟨by decide +kernel, by decide +kernel⟩, List.mem_of_getElem? (i := 1148) (by decide +kernel), List.mem_of_getElem? (i := 1651) (by decide +kernel), List.mem_of_getElem? (i := 1652) (by decide +kernel)⟩
theorem lw_p70 : lw_okq (⟨"BranchGuessModel", "wrongBy", "(I)I"⟩, 67) := ⟨⟨by decide +kernel, by decide +kernel⟩, List.mem_of_getElem? (i := 1148) (by decide +kernel), List.mem_of_getElem? (i := 1660) (by decide +kernel), List.mem_of_getElem? (i := 1661) (by decide +kernel)⟩
theorem lw_p71 : lw_okq (⟨"BranchGuessModel", "isWrong", "(I)Z"⟩, 67) := ⟨⟨by decide +kernel, by decide +kernel⟩, List.mem_of_getElem? (i := 1148) (by decide +kernel), List.mem_of_getElem? (i := 1664) (by decide +kernel), List.mem_of_getElem? (i := 1665) (by decide +kernel)⟩
theorem lw_p72 : lw_okq (⟨"BranchGuessModel", "wrongsAt", "(I)I"⟩, 67) := ⟨⟨by decide +kernel, by decide +kernel⟩, List.mem_of_getElem? (i := 1148) (by decide +kernel), List.mem_of_getElem? (i := 1676) (by decide +kernel), List.mem_of_getElem? (i := 1677) (by decide +kernel)⟩
theorem lw_p73 : lw_okq (⟨"BranchGuessModel", "asksAt", "(I)Z"⟩, 67) := ⟨⟨by decide +kernel, by decide +kernel⟩, List.mem_of_getElem? (i := 1148) (by decide +kernel), List.mem_of_getElem? (i := 1704) (by decide +kernel), List.mem_of_getElem? (i := 1705) (by decide +kernel)⟩
theorem lw_p74 : lw_okq (⟨"BranchGuessModel", "isTable", "(I)Z"⟩, 67) := ⟨⟨by decide +kernel, by decide +kernel⟩, List.mem_of_getElem? (i := 1148) (by decide +kernel), List.mem_of_getElem? (i := 1719) (by decide +kernel), List.mem_of_getElem? (i := 1720) (by decide +kernel)⟩
theorem lw_p75 : lw_okq (⟨"BranchGuessModel", "asksOf", "(II)Z"⟩, 67) := ⟨⟨by decide +kernel, by decide +kernel⟩, List.mem_of_getElem? (i := 1148) (by decide +kernel), List.mem_of_getElem? (i := 1731) (by decide +kernel), List.mem_of_getElem? (i := 1732) (by decide +kernel)⟩
theorem lw_p76 : lw_okq (⟨"BranchGuessModel", "isOfRun", "(I)Z"⟩, 67) := ⟨⟨by decide +kernel, by decide +kernel⟩, List.mem_of_getElem? (i := 1148) (by decide +kernel), List.mem_of_getElem? (i := 1779) (by decide +kernel), List.mem_of_getElem? (i := 1780) (by decide +kernel)⟩
theorem lw_p77 : lw_okq (⟨"BranchGuessModel", "goAstray", "(I)I"⟩, 67) := ⟨⟨by decide +kernel, by decide +kernel⟩, List.mem_of_getElem? (i := 1148) (by decide +kernel), List.mem_of_getElem? (i := 1783) (by decide +kernel), List.mem_of_getElem? (i := 1784) (by decide +kernel)⟩
theorem lw_p78 : lw_okq (⟨"BranchGuessModel", "isPlain", "(I)Z"⟩, 67) := ⟨⟨by decide +kernel, by decide +kernel⟩, List.mem_of_getElem? (i := 1148) (by decide +kernel), List.mem_of_getElem? (i := 1787) (by decide +kernel), List.mem_of_getElem? (i := 1788) (by decide +kernel)⟩
theorem lw_p79 : lw_okq (⟨"BranchGuessModel", "costNow", "()I"⟩, 67) := ⟨⟨by decide +kernel, by decide +kernel⟩, List.mem_of_getElem? (i := 1148) (by decide +kernel), List.mem_of_getElem? (i := 1799) (by decide +kernel), List.mem_of_getElem? (i := 1800) (by decide +kernel)⟩
def lw_privs_5 : List (MethodName × Nat) := [(⟨"BranchGuessModel", "learn", "(I)V"⟩, 67), (⟨"BranchGuessModel", "learnLoop", "(I)V"⟩, 67), (⟨"BranchGuessModel", "learnCorrector", "(I)V"⟩, 67), (⟨"BranchGuessModel", "learnCount", "(II)V"⟩, 67), (⟨"BranchGuessModel", "takeRow", "(I)V"⟩, 67), (⟨"BranchGuessModel", "halve", "()V"⟩, 67), (⟨"BranchGuessModel", "wrongBy", "(I)I"⟩, 67), (⟨"BranchGuessModel", "isWrong", "(I)Z"⟩, 67), (⟨"BranchGuessModel", "wrongsAt", "(I)I"⟩, 67), (⟨"BranchGuessModel", "asksAt", "(I)Z"⟩, 67), (⟨"BranchGuessModel", "isTable", "(I)Z"⟩, 67), (⟨"BranchGuessModel", "asksOf", "(II)Z"⟩, 67), (⟨"BranchGuessModel", "isOfRun", "(I)Z"⟩, 67), (⟨"BranchGuessModel", "goAstray", "(I)I"⟩, 67), (⟨"BranchGuessModel", "isPlain", "(I)Z"⟩, 67), (⟨"BranchGuessModel", "costNow", "()I"⟩, 67)]
theorem lw_r5 : ∀ q ∈ lw_privs_5, lw_okq q := List.forall_mem_cons.mpr ⟨lw_p64, List.forall_mem_cons.mpr ⟨lw_p65, List.forall_mem_cons.mpr ⟨lw_p66, List.forall_mem_cons.mpr ⟨lw_p67, List.forall_mem_cons.mpr ⟨lw_p68, List.forall_mem_cons.mpr ⟨lw_p69, List.forall_mem_cons.mpr ⟨lw_p70, List.forall_mem_cons.mpr ⟨lw_p71, List.forall_mem_cons.mpr ⟨lw_p72, List.forall_mem_cons.mpr ⟨lw_p73, List.forall_mem_cons.mpr ⟨lw_p74, List.forall_mem_cons.mpr ⟨lw_p75, List.forall_mem_cons.mpr ⟨lw_p76, List.forall_mem_cons.mpr ⟨lw_p77, List.forall_mem_cons.mpr ⟨lw_p78, List.forall_mem_cons.mpr ⟨lw_p79, fun _ h => absurd h List.not_mem_nil⟩⟩⟩⟩⟩⟩⟩⟩⟩⟩⟩⟩⟩⟩⟩⟩
theorem lw_p80 : lw_okq (⟨"BranchGuessModel", "playBy", "(I)V"⟩, 67) := ⟨⟨by decide +kernel, by decide +kernel⟩, List.mem_of_getElem? (i := 1148) (by decide +kernel), List.mem_of_getElem? (i := 1807) (by decide +kernel), List.mem_of_getElem? (i := 1808) (by decide +kernel)⟩
theorem lw_p81 : lw_okq (⟨"BranchGuessModel", "wrongWith", "(I)I"⟩, 67) := ⟨⟨by decide +kernel, by decide +kernel⟩, List.mem_of_getElem? (i := 1148) (by decide +kernel), List.mem_of_getElem? (i := 1815) (by decide +kernel), List.mem_of_getElem? (i := 1816) (by decide +kernel)⟩
theorem lw_p82 : lw_okq (⟨"BranchGuessModel", "wrongWithout", "(I)I"⟩, 67) := ⟨⟨by decide +kernel, by decide +kernel⟩, List.mem_of_getElem? (i := 1148) (by decide +kernel), List.mem_of_getElem? (i := 1827) (by decide +kernel), List.mem_of_getElem? (i := 1828) (by decide +kernel)⟩
theorem lw_p83 : lw_okq (⟨"BranchGuessModel", "lowOf", "(I)I"⟩, 67) := ⟨⟨by decide +kernel, by decide +kernel⟩, List.mem_of_getElem? (i := 1148) (by decide +kernel), List.mem_of_getElem? (i := 1839) (by decide +kernel), List.mem_of_getElem? (i := 1840) (by decide +kernel)⟩
theorem lw_p84 : lw_okq (⟨"BranchGuessModel", "farOf", "(I)I"⟩, 67) := ⟨⟨by decide +kernel, by decide +kernel⟩, List.mem_of_getElem? (i := 1148) (by decide +kernel), List.mem_of_getElem? (i := 1843) (by decide +kernel), List.mem_of_getElem? (i := 1844) (by decide +kernel)⟩
theorem lw_p85 : lw_okq (⟨"BranchGuessModel", "wrongSpanned", "(II)I"⟩, 67) := ⟨⟨by decide +kernel, by decide +kernel⟩, List.mem_of_getElem? (i := 1148) (by decide +kernel), List.mem_of_getElem? (i := 1847) (by decide +kernel), List.mem_of_getElem? (i := 1848) (by decide +kernel)⟩
theorem lw_p86 : lw_okq (⟨"BranchGuessModel", "asksPattern", "(III)Z"⟩, 67) := ⟨⟨by decide +kernel, by decide +kernel⟩, List.mem_of_getElem? (i := 1148) (by decide +kernel), List.mem_of_getElem? (i := 1860) (by decide +kernel), List.mem_of_getElem? (i := 1861) (by decide +kernel)⟩
theorem lw_p87 : lw_okq (⟨"BranchGuessModel", "playPattern", "(III)V"⟩, 67) := ⟨⟨by decide +kernel, by decide +kernel⟩, List.mem_of_getElem? (i := 1148) (by decide +kernel), List.mem_of_getElem? (i := 1865) (by decide +kernel), List.mem_of_getElem? (i := 1866) (by decide +kernel)⟩
theorem lw_p88 : lw_okq (⟨"BranchGuessModel", "learntNow", "()I"⟩, 67) := ⟨⟨by decide +kernel, by decide +kernel⟩, List.mem_of_getElem? (i := 1148) (by decide +kernel), List.mem_of_getElem? (i := 1873) (by decide +kernel), List.mem_of_getElem? (i := 1874) (by decide +kernel)⟩
theorem lw_p89 : lw_okq (⟨"BranchGuessModel", "areIn", "(II)Z"⟩, 67) := ⟨⟨by decide +kernel, by decide +kernel⟩, List.mem_of_getElem? (i := 1148) (by decide +kernel), List.mem_of_getElem? (i := 1889) (by decide +kernel), List.mem_of_getElem? (i := 1890) (by decide +kernel)⟩
theorem lw_p90 : lw_okq (⟨"BranchGuessModel", "numberIn", "(II)J"⟩, 67) := ⟨⟨by decide +kernel, by decide +kernel⟩, List.mem_of_getElem? (i := 1148) (by decide +kernel), List.mem_of_getElem? (i := 1893) (by decide +kernel), List.mem_of_getElem? (i := 1894) (by decide +kernel)⟩
def lw_privs_6 : List (MethodName × Nat) := [(⟨"BranchGuessModel", "playBy", "(I)V"⟩, 67), (⟨"BranchGuessModel", "wrongWith", "(I)I"⟩, 67), (⟨"BranchGuessModel", "wrongWithout", "(I)I"⟩, 67), (⟨"BranchGuessModel", "lowOf", "(I)I"⟩, 67), (⟨"BranchGuessModel", "farOf", "(I)I"⟩, 67), (⟨"BranchGuessModel", "wrongSpanned", "(II)I"⟩, 67), (⟨"BranchGuessModel", "asksPattern", "(III)Z"⟩, 67), (⟨"BranchGuessModel", "playPattern", "(III)V"⟩, 67), (⟨"BranchGuessModel", "learntNow", "()I"⟩, 67), (⟨"BranchGuessModel", "areIn", "(II)Z"⟩, 67), (⟨"BranchGuessModel", "numberIn", "(II)J"⟩, 67)]
theorem lw_r6 : ∀ q ∈ lw_privs_6, lw_okq q := List.forall_mem_cons.mpr ⟨lw_p80, List.forall_mem_cons.mpr ⟨lw_p81, List.forall_mem_cons.mpr ⟨lw_p82, List.forall_mem_cons.mpr ⟨lw_p83, List.forall_mem_cons.mpr ⟨lw_p84, List.forall_mem_cons.mpr ⟨lw_p85, List.forall_mem_cons.mpr ⟨lw_p86, List.forall_mem_cons.mpr ⟨lw_p87, List.forall_mem_cons.mpr ⟨lw_p88, List.forall_mem_cons.mpr ⟨lw_p89, List.forall_mem_cons.mpr ⟨lw_p90, fun _ h => absurd h List.not_mem_nil⟩⟩⟩⟩⟩⟩⟩⟩⟩⟩⟩
def lw_privs : List (MethodName × Nat) := lw_privs_1 ++ (lw_privs_2 ++ (lw_privs_3 ++ (lw_privs_4 ++ (lw_privs_5 ++ (lw_privs_6)))))
def lw_tbl : List Cond := k2_sels lw_privs ++ tables_1
theorem lw_privs_ok : ∀ q ∈ lw_privs, lw_okq q := by
  show ∀ q ∈ lw_privs_1 ++ (lw_privs_2 ++ (lw_privs_3 ++ (lw_privs_4 ++ (lw_privs_5 ++ (lw_privs_6))))), lw_okq q
  exact List.forall_mem_append.mpr ⟨lw_r1, List.forall_mem_append.mpr ⟨lw_r2, List.forall_mem_append.mpr ⟨lw_r3, List.forall_mem_append.mpr ⟨lw_r4, List.forall_mem_append.mpr ⟨lw_r5, lw_r6⟩⟩⟩⟩⟩
end
section
/-! ===== BEGIN printed: names, fields, word lists, decode rows ===== -/
def RX0 : String := "BranchGuess$Corrector"
def TX0 : u_T := fun k => match k with
  | 0 => ("BranchGuess$Corrector", "counts", "[I", true)
  | 1 => ("BranchGuess$Corrector", "limit", "I", false)
  | 2 => ("BranchGuess$Corrector", "places", "[I", true)
  | 3 => ("BranchGuess$Corrector", "first", "I", false)
  | _ => ("BranchGuess$Corrector", "total", "I", false)
def tyX0 : Nat → FieldType := fun k => match k with
  | 0 => .array .int
  | 1 => .int
  | 2 => .array .int
  | 3 => .int
  | _ => .int
abbrev wsX00 : List Cond := u_ws RX0 TX0 5
theorem nmX0 : ∀ a, a < 5 → ∀ b, b < 5 → a ≠ b → (TX0 a).2.1 ≠ (TX0 b).2.1 := by decide +kernel
theorem tyX0_ok : ∀ k, k < 5 → parseFieldDescriptor (TX0 k).2.2.1 = some (tyX0 k) := by decide +kernel
abbrev cX0_init : ByteArray := prog_2_method_1_code
def yX0_init : MethodName := ⟨RX0, "<init>", "()V"⟩
abbrev cX0_clear : ByteArray := prog_2_method_2_code
def yX0_clear : MethodName := ⟨RX0, "clear", "()V"⟩
abbrev cX0_weigh : ByteArray := prog_2_method_3_code
def yX0_weigh : MethodName := ⟨RX0, "weigh", "(IJI)V"⟩
abbrev cX0_side : ByteArray := prog_2_method_4_code
def yX0_side : MethodName := ⟨RX0, "side", "()I"⟩
abbrev cX0_say : ByteArray := prog_2_method_5_code
def yX0_say : MethodName := ⟨RX0, "say", "()I"⟩
abbrev cX0_learn : ByteArray := prog_2_method_6_code
def yX0_learn : MethodName := ⟨RX0, "learn", "(I)V"⟩
def RX1 : String := "BranchGuess$Guesser"
def TX1 : u_T := fun k => match k with
  | 0 => ("BranchGuess$Guesser", "tables", "LBranchGuess$Tables;", true)
  | 1 => ("BranchGuess$Guesser", "loops", "LBranchGuess$Loops;", true)
  | 2 => ("BranchGuess$Guesser", "corrector", "LBranchGuess$Corrector;", true)
  | 3 => ("BranchGuess$Guesser", "parts", "I", false)
  | 4 => ("BranchGuess$Guesser", "past", "J", false)
  | 5 => ("BranchGuess$Guesser", "moment", "I", false)
  | 6 => ("BranchGuess$Guesser", "address", "I", false)
  | 7 => ("BranchGuess$Guesser", "answer", "I", false)
  | _ => ("BranchGuess$Guesser", "who", "I", false)
def tyX1 : Nat → FieldType := fun k => match k with
  | 0 => .object "BranchGuess$Tables"
  | 1 => .object "BranchGuess$Loops"
  | 2 => .object "BranchGuess$Corrector"
  | 3 => .int
  | 4 => .long
  | 5 => .int
  | 6 => .int
  | 7 => .int
  | _ => .int
abbrev wsX10 : List Cond := u_ws RX1 TX1 9
theorem nmX1 : ∀ a, a < 9 → ∀ b, b < 9 → a ≠ b → (TX1 a).2.1 ≠ (TX1 b).2.1 := by decide +kernel
theorem tyX1_ok : ∀ k, k < 9 → parseFieldDescriptor (TX1 k).2.2.1 = some (tyX1 k) := by decide +kernel
abbrev cX1_init : ByteArray := prog_3_method_1_code
def yX1_init : MethodName := ⟨RX1, "<init>", "()V"⟩
abbrev cX1_setAs : ByteArray := prog_3_method_2_code
def yX1_setAs : MethodName := ⟨RX1, "setAs", "(LBranchGuess$Told;)V"⟩
abbrev cX1_clear : ByteArray := prog_3_method_3_code
def yX1_clear : MethodName := ⟨RX1, "clear", "()V"⟩
abbrev cX1_has : ByteArray := prog_3_method_4_code
def yX1_has : MethodName := ⟨RX1, "has", "(I)Z"⟩
abbrev cX1_ask : ByteArray := prog_3_method_5_code
def yX1_ask : MethodName := ⟨RX1, "ask", "(I)I"⟩
abbrev cX1_learn : ByteArray := prog_3_method_6_code
def yX1_learn : MethodName := ⟨RX1, "learn", "(I)V"⟩
def RX2 : String := "BranchGuess$Loops"
def TX2 : u_T := fun k => match k with
  | 0 => ("BranchGuess$Loops", "owners", "[I", true)
  | 1 => ("BranchGuess$Loops", "lengths", "[I", true)
  | 2 => ("BranchGuess$Loops", "runs", "[I", true)
  | 3 => ("BranchGuess$Loops", "sures", "[I", true)
  | _ => ("BranchGuess$Loops", "ages", "[I", true)
def tyX2 : Nat → FieldType := fun k => match k with
  | 0 => .array .int
  | 1 => .array .int
  | 2 => .array .int
  | 3 => .array .int
  | _ => .array .int
abbrev wsX20 : List Cond := u_ws RX2 TX2 5
theorem nmX2 : ∀ a, a < 5 → ∀ b, b < 5 → a ≠ b → (TX2 a).2.1 ≠ (TX2 b).2.1 := by decide +kernel
theorem tyX2_ok : ∀ k, k < 5 → parseFieldDescriptor (TX2 k).2.2.1 = some (tyX2 k) := by decide +kernel
abbrev cX2_init : ByteArray := prog_4_method_1_code
def yX2_init : MethodName := ⟨RX2, "<init>", "()V"⟩
abbrev cX2_clear : ByteArray := prog_4_method_2_code
def yX2_clear : MethodName := ⟨RX2, "clear", "()V"⟩
abbrev cX2_give : ByteArray := prog_4_method_3_code
def yX2_give : MethodName := ⟨RX2, "give", "(III)V"⟩
abbrev cX2_say : ByteArray := prog_4_method_4_code
def yX2_say : MethodName := ⟨RX2, "say", "(I)I"⟩
abbrev cX2_learn : ByteArray := prog_4_method_5_code
def yX2_learn : MethodName := ⟨RX2, "learn", "(IIZ)V"⟩
abbrev cX2_goOn : ByteArray := prog_4_method_6_code
def yX2_goOn : MethodName := ⟨RX2, "goOn", "(I)V"⟩
abbrev cX2_leave : ByteArray := prog_4_method_7_code
def yX2_leave : MethodName := ⟨RX2, "leave", "(I)V"⟩
def RX3 : String := "BranchGuess$Reader"
def TX3 : u_T := fun k => match k with
  | 0 => ("BranchGuess$Reader", "bytes", "[B", true)
  | 1 => ("BranchGuess$Reader", "length", "I", false)
  | 2 => ("BranchGuess$Reader", "fault", "I", false)
  | 3 => ("BranchGuess$Reader", "faultPlace", "I", false)
  | 4 => ("BranchGuess$Reader", "start", "I", false)
  | 5 => ("BranchGuess$Reader", "behind", "I", false)
  | 6 => ("BranchGuess$Reader", "token", "I", false)
  | _ => ("BranchGuess$Reader", "value", "I", false)
def tyX3 : Nat → FieldType := fun k => match k with
  | 0 => .array .byte
  | 1 => .int
  | 2 => .int
  | 3 => .int
  | 4 => .int
  | 5 => .int
  | 6 => .int
  | _ => .int
abbrev wsX30 : List Cond := u_ws RX3 TX3 8
theorem nmX3 : ∀ a, a < 8 → ∀ b, b < 8 → a ≠ b → (TX3 a).2.1 ≠ (TX3 b).2.1 := by decide +kernel
theorem tyX3_ok : ∀ k, k < 8 → parseFieldDescriptor (TX3 k).2.2.1 = some (tyX3 k) := by decide +kernel
abbrev cX3_init : ByteArray := prog_5_method_1_code
def yX3_init : MethodName := ⟨RX3, "<init>", "()V"⟩
abbrev cX3_append : ByteArray := prog_5_method_2_code
def yX3_append : MethodName := ⟨RX3, "append", "(I)V"⟩
abbrev cX3_readInto : ByteArray := prog_5_method_3_code
def yX3_readInto : MethodName := ⟨RX3, "readInto", "(LBranchGuess$Told;)Z"⟩
abbrev cX3_readLine : ByteArray := prog_5_method_4_code
def yX3_readLine : MethodName := ⟨RX3, "readLine", "(LBranchGuess$Told;)V"⟩
abbrev cX3_readHead : ByteArray := prog_5_method_5_code
def yX3_readHead : MethodName := ⟨RX3, "readHead", "(LBranchGuess$Told;)V"⟩
abbrev cX3_readSpan : ByteArray := prog_5_method_6_code
def yX3_readSpan : MethodName := ⟨RX3, "readSpan", "(LBranchGuess$Told;)V"⟩
abbrev cX3_readOp : ByteArray := prog_5_method_7_code
def yX3_readOp : MethodName := ⟨RX3, "readOp", "(LBranchGuess$Told;)V"⟩
abbrev cX3_takeWord : ByteArray := prog_5_method_8_code
def yX3_takeWord : MethodName := ⟨RX3, "takeWord", "(Ljava/lang/String;)V"⟩
abbrev cX3_takeNumber : ByteArray := prog_5_method_9_code
def yX3_takeNumber : MethodName := ⟨RX3, "takeNumber", "(II)I"⟩
abbrev cX3_fail : ByteArray := prog_5_method_10_code
def yX3_fail : MethodName := ⟨RX3, "fail", "(I)V"⟩
abbrev cX3_advance : ByteArray := prog_5_method_11_code
def yX3_advance : MethodName := ⟨RX3, "advance", "()V"⟩
abbrev cX3_isLetter : ByteArray := prog_5_method_12_code
def yX3_isLetter : MethodName := ⟨RX3, "isLetter", "(B)Z"⟩
abbrev cX3_isDigit : ByteArray := prog_5_method_13_code
def yX3_isDigit : MethodName := ⟨RX3, "isDigit", "(B)Z"⟩
abbrev cX3_isWord : ByteArray := prog_5_method_14_code
def yX3_isWord : MethodName := ⟨RX3, "isWord", "(Ljava/lang/String;)Z"⟩
abbrev cX3_kindOfWord : ByteArray := prog_5_method_15_code
def yX3_kindOfWord : MethodName := ⟨RX3, "kindOfWord", "()I"⟩
abbrev cX3_headWord : ByteArray := prog_5_method_16_code
def yX3_headWord : MethodName := ⟨RX3, "headWord", "(I)Ljava/lang/String;"⟩
abbrev cX3_opWord : ByteArray := prog_5_method_17_code
def yX3_opWord : MethodName := ⟨RX3, "opWord", "(I)Ljava/lang/String;"⟩
abbrev cX3_formOf : ByteArray := prog_5_method_18_code
def yX3_formOf : MethodName := ⟨RX3, "formOf", "(I)Ljava/lang/String;"⟩
abbrev cX3_mostOf : ByteArray := prog_5_method_19_code
def yX3_mostOf : MethodName := ⟨RX3, "mostOf", "(C)I"⟩
def RX4 : String := "BranchGuess$Run"
def TX4 : u_T := fun k => match k with
  | 0 => ("BranchGuess$Run", "nexts", "[I", true)
  | 1 => ("BranchGuess$Run", "registers", "[I", true)
  | 2 => ("BranchGuess$Run", "strayed", "[I", true)
  | 3 => ("BranchGuess$Run", "done", "I", false)
  | _ => ("BranchGuess$Run", "reason", "I", false)
def tyX4 : Nat → FieldType := fun k => match k with
  | 0 => .array .int
  | 1 => .array .int
  | 2 => .array .int
  | 3 => .int
  | _ => .int
abbrev wsX40 : List Cond := u_ws RX4 TX4 5
theorem nmX4 : ∀ a, a < 5 → ∀ b, b < 5 → a ≠ b → (TX4 a).2.1 ≠ (TX4 b).2.1 := by decide +kernel
theorem tyX4_ok : ∀ k, k < 5 → parseFieldDescriptor (TX4 k).2.2.1 = some (tyX4 k) := by decide +kernel
abbrev cX4_init : ByteArray := prog_6_method_1_code
def yX4_init : MethodName := ⟨RX4, "<init>", "()V"⟩
abbrev cX4_follow : ByteArray := prog_6_method_2_code
def yX4_follow : MethodName := ⟨RX4, "follow", "(LBranchGuess$Told;LBranchGuess$Trail;)V"⟩
abbrev cX4_step : ByteArray := prog_6_method_3_code
def yX4_step : MethodName := ⟨RX4, "step", "(LBranchGuess$Told;LBranchGuess$Trail;)V"⟩
abbrev cX4_wander : ByteArray := prog_6_method_4_code
def yX4_wander : MethodName := ⟨RX4, "wander", "(LBranchGuess$Told;II)I"⟩
def RX5 : String := "BranchGuess$Slots"
def TX5 : u_T := fun k => match k with
  | 0 => ("BranchGuess$Slots", "widths", "[I", true)
  | 1 => ("BranchGuess$Slots", "lengths", "[I", true)
  | _ => ("BranchGuess$Slots", "numbers", "[J", true)
def tyX5 : Nat → FieldType := fun k => match k with
  | 0 => .array .int
  | 1 => .array .int
  | _ => .array .long
abbrev wsX50 : List Cond := u_ws RX5 TX5 3
theorem nmX5 : ∀ a, a < 3 → ∀ b, b < 3 → a ≠ b → (TX5 a).2.1 ≠ (TX5 b).2.1 := by decide +kernel
theorem tyX5_ok : ∀ k, k < 3 → parseFieldDescriptor (TX5 k).2.2.1 = some (tyX5 k) := by decide +kernel
abbrev cX5_init : ByteArray := prog_7_method_1_code
def yX5_init : MethodName := ⟨RX5, "<init>", "()V"⟩
abbrev cX5_hasRow : ByteArray := prog_7_method_2_code
def yX5_hasRow : MethodName := ⟨RX5, "hasRow", "(I)Z"⟩
abbrev cX5_used : ByteArray := prog_7_method_3_code
def yX5_used : MethodName := ⟨RX5, "used", "()I"⟩
abbrev cX5_renew : ByteArray := prog_7_method_4_code
def yX5_renew : MethodName := ⟨RX5, "renew", "(III)V"⟩
abbrev cX5_set : ByteArray := prog_7_method_5_code
def yX5_set : MethodName := ⟨RX5, "set", "(IIJ)V"⟩
abbrev cX5_at : ByteArray := prog_7_method_6_code
def yX5_at : MethodName := ⟨RX5, "at", "(II)J"⟩
abbrev cX5_allWithin : ByteArray := prog_7_method_7_code
def yX5_allWithin : MethodName := ⟨RX5, "allWithin", "(II)Z"⟩
def RX6 : String := "BranchGuess$Tables"
def TX6 : u_T := fun k => match k with
  | 0 => ("BranchGuess$Tables", "rowBits", "I", false)
  | 1 => ("BranchGuess$Tables", "tagBits", "I", false)
  | 2 => ("BranchGuess$Tables", "age", "I", false)
  | 3 => ("BranchGuess$Tables", "last", "I", false)
  | 4 => ("BranchGuess$Tables", "leftOut", "I", false)
  | 5 => ("BranchGuess$Tables", "spans", "[I", true)
  | 6 => ("BranchGuess$Tables", "tags", "[I", true)
  | 7 => ("BranchGuess$Tables", "counts", "[I", true)
  | 8 => ("BranchGuess$Tables", "uses", "[I", true)
  | 9 => ("BranchGuess$Tables", "bases", "[I", true)
  | 10 => ("BranchGuess$Tables", "trust", "I", false)
  | 11 => ("BranchGuess$Tables", "strain", "I", false)
  | 12 => ("BranchGuess$Tables", "halvings", "I", false)
  | 13 => ("BranchGuess$Tables", "places", "[I", true)
  | 14 => ("BranchGuess$Tables", "baseAt", "I", false)
  | 15 => ("BranchGuess$Tables", "provider", "I", false)
  | 16 => ("BranchGuess$Tables", "alternate", "I", false)
  | 17 => ("BranchGuess$Tables", "weak", "Z", false)
  | _ => ("BranchGuess$Tables", "first", "I", false)
def tyX6 : Nat → FieldType := fun k => match k with
  | 0 => .int
  | 1 => .int
  | 2 => .int
  | 3 => .int
  | 4 => .int
  | 5 => .array .int
  | 6 => .array .int
  | 7 => .array .int
  | 8 => .array .int
  | 9 => .array .int
  | 10 => .int
  | 11 => .int
  | 12 => .int
  | 13 => .array .int
  | 14 => .int
  | 15 => .int
  | 16 => .int
  | 17 => .boolean
  | _ => .int
abbrev wsX60 : List Cond := u_ws RX6 TX6 19
theorem nmX6 : ∀ a, a < 19 → ∀ b, b < 19 → a ≠ b → (TX6 a).2.1 ≠ (TX6 b).2.1 := by decide +kernel
theorem tyX6_ok : ∀ k, k < 19 → parseFieldDescriptor (TX6 k).2.2.1 = some (tyX6 k) := by decide +kernel
abbrev cX6_init : ByteArray := prog_8_method_1_code
def yX6_init : MethodName := ⟨RX6, "<init>", "()V"⟩
abbrev cX6_setAs : ByteArray := prog_8_method_2_code
def yX6_setAs : MethodName := ⟨RX6, "setAs", "(LBranchGuess$Told;)V"⟩
abbrev cX6_clear : ByteArray := prog_8_method_3_code
def yX6_clear : MethodName := ⟨RX6, "clear", "()V"⟩
abbrev cX6_indexOf : ByteArray := prog_8_method_4_code
def yX6_indexOf : MethodName := ⟨RX6, "indexOf", "(IIJ)I"⟩
abbrev cX6_tagOf : ByteArray := prog_8_method_5_code
def yX6_tagOf : MethodName := ⟨RX6, "tagOf", "(IIJ)I"⟩
abbrev cX6_look : ByteArray := prog_8_method_6_code
def yX6_look : MethodName := ⟨RX6, "look", "(IJZ)V"⟩
abbrev cX6_says : ByteArray := prog_8_method_7_code
def yX6_says : MethodName := ⟨RX6, "says", "(I)I"⟩
abbrev cX6_learn : ByteArray := prog_8_method_8_code
def yX6_learn : MethodName := ⟨RX6, "learn", "(IJIZ)V"⟩
abbrev cX6_move : ByteArray := prog_8_method_9_code
def yX6_move : MethodName := ⟨RX6, "move", "(II)V"⟩
abbrev cX6_takeRow : ByteArray := prog_8_method_10_code
def yX6_takeRow : MethodName := ⟨RX6, "takeRow", "(IJI)V"⟩
abbrev cX6_strainRows : ByteArray := prog_8_method_11_code
def yX6_strainRows : MethodName := ⟨RX6, "strainRows", "()V"⟩
abbrev cX6_heldWithin : ByteArray := prog_8_method_12_code
def yX6_heldWithin : MethodName := ⟨RX6, "heldWithin", "(II)I"⟩
def RX7 : String := "BranchGuess$Told"
def TX7 : u_T := fun k => match k with
  | 0 => ("BranchGuess$Told", "head", "[I", true)
  | 1 => ("BranchGuess$Told", "spans", "[I", true)
  | 2 => ("BranchGuess$Told", "kinds", "[I", true)
  | 3 => ("BranchGuess$Told", "numbers", "[I", true)
  | 4 => ("BranchGuess$Told", "acts", "[I", true)
  | 5 => ("BranchGuess$Told", "lines", "I", false)
  | 6 => ("BranchGuess$Told", "tables", "I", false)
  | 7 => ("BranchGuess$Told", "ops", "I", false)
  | _ => ("BranchGuess$Told", "acted", "I", false)
def tyX7 : Nat → FieldType := fun k => match k with
  | 0 => .array .int
  | 1 => .array .int
  | 2 => .array .int
  | 3 => .array .int
  | 4 => .array .int
  | 5 => .int
  | 6 => .int
  | 7 => .int
  | _ => .int
abbrev wsX70 : List Cond := u_ws RX7 TX7 9
theorem nmX7 : ∀ a, a < 9 → ∀ b, b < 9 → a ≠ b → (TX7 a).2.1 ≠ (TX7 b).2.1 := by decide +kernel
theorem tyX7_ok : ∀ k, k < 9 → parseFieldDescriptor (TX7 k).2.2.1 = some (tyX7 k) := by decide +kernel
abbrev cX7_init : ByteArray := prog_9_method_1_code
def yX7_init : MethodName := ⟨RX7, "<init>", "()V"⟩
abbrev cX7_clear : ByteArray := prog_9_method_2_code
def yX7_clear : MethodName := ⟨RX7, "clear", "()V"⟩
abbrev cX7_copyFrom : ByteArray := prog_9_method_3_code
def yX7_copyFrom : MethodName := ⟨RX7, "copyFrom", "(LBranchGuess$Told;)V"⟩
abbrev cX7_hasOp : ByteArray := prog_9_method_4_code
def yX7_hasOp : MethodName := ⟨RX7, "hasOp", "(I)Z"⟩
abbrev cX7_canDo : ByteArray := prog_9_method_5_code
def yX7_canDo : MethodName := ⟨RX7, "canDo", "(I)Z"⟩
abbrev cX7_branches : ByteArray := prog_9_method_6_code
def yX7_branches : MethodName := ⟨RX7, "branches", "(I)Z"⟩
abbrev cX7_target : ByteArray := prog_9_method_7_code
def yX7_target : MethodName := ⟨RX7, "target", "(I)I"⟩
abbrev cX7_takes : ByteArray := prog_9_method_8_code
def yX7_takes : MethodName := ⟨RX7, "takes", "(I[II)Z"⟩
abbrev cX7_perform : ByteArray := prog_9_method_9_code
def yX7_perform : MethodName := ⟨RX7, "perform", "(I[II)I"⟩
def RX8 : String := "BranchGuess$Trail"
def TX8 : u_T := fun k => match k with
  | 0 => ("BranchGuess$Trail", "facts", "[I", true)
  | 1 => ("BranchGuess$Trail", "size", "I", false)
  | _ => ("BranchGuess$Trail", "ofRun", "I", false)
def tyX8 : Nat → FieldType := fun k => match k with
  | 0 => .array .int
  | 1 => .int
  | _ => .int
abbrev wsX80 : List Cond := u_ws RX8 TX8 3
theorem nmX8 : ∀ a, a < 3 → ∀ b, b < 3 → a ≠ b → (TX8 a).2.1 ≠ (TX8 b).2.1 := by decide +kernel
theorem tyX8_ok : ∀ k, k < 3 → parseFieldDescriptor (TX8 k).2.2.1 = some (tyX8 k) := by decide +kernel
abbrev cX8_init : ByteArray := prog_10_method_1_code
def yX8_init : MethodName := ⟨RX8, "<init>", "()V"⟩
abbrev cX8_clear : ByteArray := prog_10_method_2_code
def yX8_clear : MethodName := ⟨RX8, "clear", "()V"⟩
abbrev cX8_add : ByteArray := prog_10_method_3_code
def yX8_add : MethodName := ⟨RX8, "add", "(III)V"⟩
abbrev cX8_note : ByteArray := prog_10_method_4_code
def yX8_note : MethodName := ⟨RX8, "note", "(ILBranchGuess$Guesser;)V"⟩
abbrev cX8_fact : ByteArray := prog_10_method_5_code
def yX8_fact : MethodName := ⟨RX8, "fact", "(II)I"⟩
abbrev cX8_set : ByteArray := prog_10_method_6_code
def yX8_set : MethodName := ⟨RX8, "set", "(III)V"⟩
abbrev cX8_isWrong : ByteArray := prog_10_method_7_code
def yX8_isWrong : MethodName := ⟨RX8, "isWrong", "(I)Z"⟩
abbrev cX8_wrongsAt : ByteArray := prog_10_method_8_code
def yX8_wrongsAt : MethodName := ⟨RX8, "wrongsAt", "(I)I"⟩
abbrev cX8_countOf : ByteArray := prog_10_method_9_code
def yX8_countOf : MethodName := ⟨RX8, "countOf", "(II)I"⟩
def RX9 : String := "BranchGuess"
def TX9 : u_T := fun k => match k with
  | 0 => ("BranchGuess", "reader", "LBranchGuess$Reader;", true)
  | 1 => ("BranchGuess", "draft", "LBranchGuess$Told;", true)
  | 2 => ("BranchGuess", "told", "LBranchGuess$Told;", true)
  | 3 => ("BranchGuess", "images", "[LBranchGuess$Told;", true)
  | 4 => ("BranchGuess", "kept", "[Z", true)
  | 5 => ("BranchGuess", "run", "LBranchGuess$Run;", true)
  | 6 => ("BranchGuess", "trail", "LBranchGuess$Trail;", true)
  | 7 => ("BranchGuess", "own", "LBranchGuess$Guesser;", true)
  | 8 => ("BranchGuess", "rival", "LBranchGuess$Guesser;", true)
  | 9 => ("BranchGuess", "roundWrongs", "[I", true)
  | _ => ("BranchGuess", "slots", "LBranchGuess$Slots;", true)
def tyX9 : Nat → FieldType := fun k => match k with
  | 0 => .object "BranchGuess$Reader"
  | 1 => .object "BranchGuess$Told"
  | 2 => .object "BranchGuess$Told"
  | 3 => .array (.object "BranchGuess$Told")
  | 4 => .array .boolean
  | 5 => .object "BranchGuess$Run"
  | 6 => .object "BranchGuess$Trail"
  | 7 => .object "BranchGuess$Guesser"
  | 8 => .object "BranchGuess$Guesser"
  | 9 => .array .int
  | _ => .object "BranchGuess$Slots"
abbrev wsX90 : List Cond := u_ws RX9 TX9 11
theorem nmX9 : ∀ a, a < 11 → ∀ b, b < 11 → a ≠ b → (TX9 a).2.1 ≠ (TX9 b).2.1 := by decide +kernel
theorem tyX9_ok : ∀ k, k < 11 → parseFieldDescriptor (TX9 k).2.2.1 = some (tyX9 k) := by decide +kernel
abbrev cX9_init : ByteArray := prog_1_method_1_code
def yX9_init : MethodName := ⟨RX9, "<init>", "()V"⟩
abbrev cX9_feed : ByteArray := prog_1_method_2_code
def yX9_feed : MethodName := ⟨RX9, "feed", "(IIIII)I"⟩
abbrev cX9_end : ByteArray := prog_1_method_3_code
def yX9_end : MethodName := ⟨RX9, "end", "(I)I"⟩
abbrev cX9_program : ByteArray := prog_1_method_4_code
def yX9_program : MethodName := ⟨RX9, "program", "()I"⟩
abbrev cX9_fault : ByteArray := prog_1_method_5_code
def yX9_fault : MethodName := ⟨RX9, "fault", "(I)I"⟩
abbrev cX9_op : ByteArray := prog_1_method_6_code
def yX9_op : MethodName := ⟨RX9, "op", "(II)I"⟩
abbrev cX9_steps : ByteArray := prog_1_method_7_code
def yX9_steps : MethodName := ⟨RX9, "steps", "()I"⟩
abbrev cX9_why : ByteArray := prog_1_method_8_code
def yX9_why : MethodName := ⟨RX9, "why", "()I"⟩
abbrev cX9_next : ByteArray := prog_1_method_9_code
def yX9_next : MethodName := ⟨RX9, "next", "(I)I"⟩
abbrev cX9_register : ByteArray := prog_1_method_10_code
def yX9_register : MethodName := ⟨RX9, "register", "(II)I"⟩
abbrev cX9_branch : ByteArray := prog_1_method_11_code
def yX9_branch : MethodName := ⟨RX9, "branch", "(II)I"⟩
abbrev cX9_wrong : ByteArray := prog_1_method_12_code
def yX9_wrong : MethodName := ⟨RX9, "wrong", "(I)I"⟩
abbrev cX9_wrongs : ByteArray := prog_1_method_13_code
def yX9_wrongs : MethodName := ⟨RX9, "wrongs", "(I)I"⟩
abbrev cX9_worst : ByteArray := prog_1_method_14_code
def yX9_worst : MethodName := ⟨RX9, "worst", "()I"⟩
abbrev cX9_streak : ByteArray := prog_1_method_15_code
def yX9_streak : MethodName := ⟨RX9, "streak", "()I"⟩
abbrev cX9_said : ByteArray := prog_1_method_16_code
def yX9_said : MethodName := ⟨RX9, "said", "(I)I"⟩
abbrev cX9_gained : ByteArray := prog_1_method_17_code
def yX9_gained : MethodName := ⟨RX9, "gained", "(I)I"⟩
abbrev cX9_provided : ByteArray := prog_1_method_18_code
def yX9_provided : MethodName := ⟨RX9, "provided", "(I)I"⟩
abbrev cX9_history : ByteArray := prog_1_method_19_code
def yX9_history : MethodName := ⟨RX9, "history", "(II)I"⟩
abbrev cX9_fold : ByteArray := prog_1_method_20_code
def yX9_fold : MethodName := ⟨RX9, "fold", "(III)I"⟩
abbrev cX9_index : ByteArray := prog_1_method_21_code
def yX9_index : MethodName := ⟨RX9, "index", "(III)I"⟩
abbrev cX9_tag : ByteArray := prog_1_method_22_code
def yX9_tag : MethodName := ⟨RX9, "tag", "(III)I"⟩
abbrev cX9_provider : ByteArray := prog_1_method_23_code
def yX9_provider : MethodName := ⟨RX9, "provider", "(II)I"⟩
abbrev cX9_alternate : ByteArray := prog_1_method_24_code
def yX9_alternate : MethodName := ⟨RX9, "alternate", "(II)I"⟩
abbrev cX9_guess : ByteArray := prog_1_method_25_code
def yX9_guess : MethodName := ⟨RX9, "guess", "(II)I"⟩
abbrev cX9_adds : ByteArray := prog_1_method_26_code
def yX9_adds : MethodName := ⟨RX9, "adds", "(II)I"⟩
abbrev cX9_entry : ByteArray := prog_1_method_27_code
def yX9_entry : MethodName := ⟨RX9, "entry", "(IIII)I"⟩
abbrev cX9_held : ByteArray := prog_1_method_28_code
def yX9_held : MethodName := ⟨RX9, "held", "(II)I"⟩
abbrev cX9_base : ByteArray := prog_1_method_29_code
def yX9_base : MethodName := ⟨RX9, "base", "(II)I"⟩
abbrev cX9_gauge : ByteArray := prog_1_method_30_code
def yX9_gauge : MethodName := ⟨RX9, "gauge", "(II)I"⟩
abbrev cX9_loop : ByteArray := prog_1_method_31_code
def yX9_loop : MethodName := ⟨RX9, "loop", "(III)I"⟩
abbrev cX9_corrector : ByteArray := prog_1_method_32_code
def yX9_corrector : MethodName := ⟨RX9, "corrector", "(III)I"⟩
abbrev cX9_clash : ByteArray := prog_1_method_33_code
def yX9_clash : MethodName := ⟨RX9, "clash", "(III)I"⟩
abbrev cX9_strays : ByteArray := prog_1_method_34_code
def yX9_strays : MethodName := ⟨RX9, "strays", "(I)I"⟩
abbrev cX9_stray : ByteArray := prog_1_method_35_code
def yX9_stray : MethodName := ⟨RX9, "stray", "(II)I"⟩
abbrev cX9_cycles : ByteArray := prog_1_method_36_code
def yX9_cycles : MethodName := ⟨RX9, "cycles", "()I"⟩
abbrev cX9_cheapest : ByteArray := prog_1_method_37_code
def yX9_cheapest : MethodName := ⟨RX9, "cheapest", "()I"⟩
abbrev cX9_by : ByteArray := prog_1_method_38_code
def yX9_by : MethodName := ⟨RX9, "by", "(I)I"⟩
abbrev cX9_ideal : ByteArray := prog_1_method_39_code
def yX9_ideal : MethodName := ⟨RX9, "ideal", "()I"⟩
abbrev cX9_without : ByteArray := prog_1_method_40_code
def yX9_without : MethodName := ⟨RX9, "without", "(I)I"⟩
abbrev cX9_spare : ByteArray := prog_1_method_41_code
def yX9_spare : MethodName := ⟨RX9, "spare", "()I"⟩
abbrev cX9_spanned : ByteArray := prog_1_method_42_code
def yX9_spanned : MethodName := ⟨RX9, "spanned", "(II)I"⟩
abbrev cX9_span : ByteArray := prog_1_method_43_code
def yX9_span : MethodName := ⟨RX9, "span", "(I)I"⟩
abbrev cX9_round : ByteArray := prog_1_method_44_code
def yX9_round : MethodName := ⟨RX9, "round", "(IIII)I"⟩
abbrev cX9_learnt : ByteArray := prog_1_method_45_code
def yX9_learnt : MethodName := ⟨RX9, "learnt", "(III)I"⟩
abbrev cX9_learns : ByteArray := prog_1_method_46_code
def yX9_learns : MethodName := ⟨RX9, "learns", "(II)I"⟩
abbrev cX9_trace : ByteArray := prog_1_method_47_code
def yX9_trace : MethodName := ⟨RX9, "trace", "(I)I"⟩
abbrev cX9_like : ByteArray := prog_1_method_48_code
def yX9_like : MethodName := ⟨RX9, "like", "(I)I"⟩
abbrev cX9_meets : ByteArray := prog_1_method_49_code
def yX9_meets : MethodName := ⟨RX9, "meets", "(II)I"⟩
abbrev cX9_undo : ByteArray := prog_1_method_50_code
def yX9_undo : MethodName := ⟨RX9, "undo", "()I"⟩
abbrev cX9_anew : ByteArray := prog_1_method_51_code
def yX9_anew : MethodName := ⟨RX9, "anew", "()I"⟩
abbrev cX9_count : ByteArray := prog_1_method_52_code
def yX9_count : MethodName := ⟨RX9, "count", "(I)I"⟩
abbrev cX9_image : ByteArray := prog_1_method_53_code
def yX9_image : MethodName := ⟨RX9, "image", "(I)I"⟩
abbrev cX9_back : ByteArray := prog_1_method_54_code
def yX9_back : MethodName := ⟨RX9, "back", "(I)I"⟩
abbrev cX9_row : ByteArray := prog_1_method_55_code
def yX9_row : MethodName := ⟨RX9, "row", "(III)I"⟩
abbrev cX9_write : ByteArray := prog_1_method_56_code
def yX9_write : MethodName := ⟨RX9, "write", "(IIJ)I"⟩
abbrev cX9_number : ByteArray := prog_1_method_57_code
def yX9_number : MethodName := ⟨RX9, "number", "(II)J"⟩
abbrev cX9_isTold : ByteArray := prog_1_method_58_code
def yX9_isTold : MethodName := ⟨RX9, "isTold", "()Z"⟩
abbrev cX9_isStep : ByteArray := prog_1_method_59_code
def yX9_isStep : MethodName := ⟨RX9, "isStep", "(I)Z"⟩
abbrev cX9_isBranch : ByteArray := prog_1_method_60_code
def yX9_isBranch : MethodName := ⟨RX9, "isBranch", "(I)Z"⟩
abbrev cX9_isMoment : ByteArray := prog_1_method_61_code
def yX9_isMoment : MethodName := ⟨RX9, "isMoment", "(I)Z"⟩
abbrev cX9_isTable : ByteArray := prog_1_method_62_code
def yX9_isTable : MethodName := ⟨RX9, "isTable", "(I)Z"⟩
abbrev cX9_isPattern : ByteArray := prog_1_method_63_code
def yX9_isPattern : MethodName := ⟨RX9, "isPattern", "(III)Z"⟩
abbrev cX9_isRegister : ByteArray := prog_1_method_64_code
def yX9_isRegister : MethodName := ⟨RX9, "isRegister", "(I)Z"⟩
abbrev cX9_isAddress : ByteArray := prog_1_method_65_code
def yX9_isAddress : MethodName := ⟨RX9, "isAddress", "(I)Z"⟩
abbrev cX9_isWho : ByteArray := prog_1_method_66_code
def yX9_isWho : MethodName := ⟨RX9, "isWho", "(I)Z"⟩
abbrev cX9_isSlot : ByteArray := prog_1_method_67_code
def yX9_isSlot : MethodName := ⟨RX9, "isSlot", "(I)Z"⟩
abbrev cX9_within : ByteArray := prog_1_method_68_code
def yX9_within : MethodName := ⟨RX9, "within", "(JJJ)Z"⟩
abbrev cX9_lowest : ByteArray := prog_1_method_69_code
def yX9_lowest : MethodName := ⟨RX9, "lowest", "(I)I"⟩
abbrev cX9_bounded : ByteArray := prog_1_method_70_code
def yX9_bounded : MethodName := ⟨RX9, "bounded", "(III)I"⟩
abbrev cX9_folded : ByteArray := prog_1_method_71_code
def yX9_folded : MethodName := ⟨RX9, "folded", "(JII)I"⟩
abbrev cX9_rebuild : ByteArray := prog_1_method_72_code
def yX9_rebuild : MethodName := ⟨RX9, "rebuild", "()V"⟩
abbrev cX9_record : ByteArray := prog_1_method_73_code
def yX9_record : MethodName := ⟨RX9, "record", "(I)V"⟩
abbrev cX9_keepActs : ByteArray := prog_1_method_74_code
def yX9_keepActs : MethodName := ⟨RX9, "keepActs", "(I)V"⟩
abbrev cX9_goTo : ByteArray := prog_1_method_75_code
def yX9_goTo : MethodName := ⟨RX9, "goTo", "(I)V"⟩
abbrev cX9_askedAt : ByteArray := prog_1_method_76_code
def yX9_askedAt : MethodName := ⟨RX9, "askedAt", "(II)Z"⟩
abbrev cX9_wander : ByteArray := prog_1_method_77_code
def yX9_wander : MethodName := ⟨RX9, "wander", "(I)I"⟩
abbrev cX9_setRivalBy : ByteArray := prog_1_method_78_code
def yX9_setRivalBy : MethodName := ⟨RX9, "setRivalBy", "(I)V"⟩
abbrev cX9_setRivalWithout : ByteArray := prog_1_method_79_code
def yX9_setRivalWithout : MethodName := ⟨RX9, "setRivalWithout", "(I)V"⟩
abbrev cX9_setRivalSpanned : ByteArray := prog_1_method_80_code
def yX9_setRivalSpanned : MethodName := ⟨RX9, "setRivalSpanned", "(II)V"⟩
abbrev cX9_rivalWrongs : ByteArray := prog_1_method_81_code
def yX9_rivalWrongs : MethodName := ⟨RX9, "rivalWrongs", "()I"⟩
abbrev cX9_costBy : ByteArray := prog_1_method_82_code
def yX9_costBy : MethodName := ⟨RX9, "costBy", "(I)I"⟩
abbrev cX9_rivalGuessesAs : ByteArray := prog_1_method_83_code
def yX9_rivalGuessesAs : MethodName := ⟨RX9, "rivalGuessesAs", "(I)Z"⟩
abbrev cX9_leastSpan : ByteArray := prog_1_method_84_code
def yX9_leastSpan : MethodName := ⟨RX9, "leastSpan", "(I)I"⟩
abbrev cX9_mostSpan : ByteArray := prog_1_method_85_code
def yX9_mostSpan : MethodName := ⟨RX9, "mostSpan", "(I)I"⟩
abbrev cX9_playRounds : ByteArray := prog_1_method_86_code
def yX9_playRounds : MethodName := ⟨RX9, "playRounds", "(IIII)V"⟩
abbrev cX9_firstRightRound : ByteArray := prog_1_method_87_code
def yX9_firstRightRound : MethodName := ⟨RX9, "firstRightRound", "()I"⟩
def RX10 : String := "BranchGuessModel"
def TX10 : u_T := fun k => match k with
  | 0 => ("BranchGuessModel", "thrown", "I", false)
  | 1 => ("BranchGuessModel", "world", "[I", true)
  | 2 => ("BranchGuessModel", "images", "[I", true)
  | 3 => ("BranchGuessModel", "hasImage", "[Z", true)
  | 4 => ("BranchGuessModel", "tape", "[B", true)
  | 5 => ("BranchGuessModel", "taped", "I", false)
  | 6 => ("BranchGuessModel", "five", "[I", true)
  | 7 => ("BranchGuessModel", "size", "I", false)
  | 8 => ("BranchGuessModel", "at", "I", false)
  | 9 => ("BranchGuessModel", "from", "I", false)
  | 10 => ("BranchGuessModel", "token", "I", false)
  | 11 => ("BranchGuessModel", "value", "I", false)
  | 12 => ("BranchGuessModel", "faultKind", "I", false)
  | 13 => ("BranchGuessModel", "faultPlace", "I", false)
  | 14 => ("BranchGuessModel", "fresh", "[I", true)
  | 15 => ("BranchGuessModel", "registers", "[I", true)
  | 16 => ("BranchGuessModel", "nexts", "[I", true)
  | 17 => ("BranchGuessModel", "addressOf", "[I", true)
  | 18 => ("BranchGuessModel", "takenOf", "[I", true)
  | 19 => ("BranchGuessModel", "stepOf", "[I", true)
  | 20 => ("BranchGuessModel", "stepMany", "I", false)
  | 21 => ("BranchGuessModel", "ending", "I", false)
  | 22 => ("BranchGuessModel", "runMany", "I", false)
  | 23 => ("BranchGuessModel", "branchMany", "I", false)
  | 24 => ("BranchGuessModel", "spanNow", "[I", true)
  | 25 => ("BranchGuessModel", "partsNow", "I", false)
  | 26 => ("BranchGuessModel", "outNow", "I", false)
  | 27 => ("BranchGuessModel", "tagAt", "[I", true)
  | 28 => ("BranchGuessModel", "countAt", "[I", true)
  | 29 => ("BranchGuessModel", "useAt", "[I", true)
  | 30 => ("BranchGuessModel", "baseAt", "[I", true)
  | 31 => ("BranchGuessModel", "whose", "[I", true)
  | 32 => ("BranchGuessModel", "lengthAt", "[I", true)
  | 33 => ("BranchGuessModel", "runAt", "[I", true)
  | 34 => ("BranchGuessModel", "sureAt", "[I", true)
  | 35 => ("BranchGuessModel", "ageAt", "[I", true)
  | 36 => ("BranchGuessModel", "correctAt", "[I", true)
  | 37 => ("BranchGuessModel", "trust", "I", false)
  | 38 => ("BranchGuessModel", "strain", "I", false)
  | 39 => ("BranchGuessModel", "limit", "I", false)
  | 40 => ("BranchGuessModel", "halved", "I", false)
  | 41 => ("BranchGuessModel", "past", "J", false)
  | 42 => ("BranchGuessModel", "placeOf", "[I", true)
  | 43 => ("BranchGuessModel", "markOf", "[I", true)
  | 44 => ("BranchGuessModel", "addressNow", "I", false)
  | 45 => ("BranchGuessModel", "providerNow", "I", false)
  | 46 => ("BranchGuessModel", "alternateNow", "I", false)
  | 47 => ("BranchGuessModel", "providerSays", "I", false)
  | 48 => ("BranchGuessModel", "alternateSays", "I", false)
  | 49 => ("BranchGuessModel", "weak", "Z", false)
  | 50 => ("BranchGuessModel", "first", "I", false)
  | 51 => ("BranchGuessModel", "correctPlace", "[I", true)
  | 52 => ("BranchGuessModel", "sumNow", "I", false)
  | 53 => ("BranchGuessModel", "side", "I", false)
  | 54 => ("BranchGuessModel", "guessNow", "I", false)
  | 55 => ("BranchGuessModel", "whoNow", "I", false)
  | 56 => ("BranchGuessModel", "guessOf", "[I", true)
  | 57 => ("BranchGuessModel", "providerOf", "[I", true)
  | 58 => ("BranchGuessModel", "alternateOf", "[I", true)
  | 59 => ("BranchGuessModel", "weakOf", "[I", true)
  | 60 => ("BranchGuessModel", "firstOf", "[I", true)
  | 61 => ("BranchGuessModel", "whoOf", "[I", true)
  | 62 => ("BranchGuessModel", "strayNow", "[I", true)
  | 63 => ("BranchGuessModel", "wrongIn", "[I", true)
  | 64 => ("BranchGuessModel", "many", "[I", true)
  | 65 => ("BranchGuessModel", "width", "[I", true)
  | _ => ("BranchGuessModel", "numbers", "[J", true)
def tyX10 : Nat → FieldType := fun k => match k with
  | 0 => .int
  | 1 => .array .int
  | 2 => .array .int
  | 3 => .array .boolean
  | 4 => .array .byte
  | 5 => .int
  | 6 => .array .int
  | 7 => .int
  | 8 => .int
  | 9 => .int
  | 10 => .int
  | 11 => .int
  | 12 => .int
  | 13 => .int
  | 14 => .array .int
  | 15 => .array .int
  | 16 => .array .int
  | 17 => .array .int
  | 18 => .array .int
  | 19 => .array .int
  | 20 => .int
  | 21 => .int
  | 22 => .int
  | 23 => .int
  | 24 => .array .int
  | 25 => .int
  | 26 => .int
  | 27 => .array .int
  | 28 => .array .int
  | 29 => .array .int
  | 30 => .array .int
  | 31 => .array .int
  | 32 => .array .int
  | 33 => .array .int
  | 34 => .array .int
  | 35 => .array .int
  | 36 => .array .int
  | 37 => .int
  | 38 => .int
  | 39 => .int
  | 40 => .int
  | 41 => .long
  | 42 => .array .int
  | 43 => .array .int
  | 44 => .int
  | 45 => .int
  | 46 => .int
  | 47 => .int
  | 48 => .int
  | 49 => .boolean
  | 50 => .int
  | 51 => .array .int
  | 52 => .int
  | 53 => .int
  | 54 => .int
  | 55 => .int
  | 56 => .array .int
  | 57 => .array .int
  | 58 => .array .int
  | 59 => .array .int
  | 60 => .array .int
  | 61 => .array .int
  | 62 => .array .int
  | 63 => .array .int
  | 64 => .array .int
  | 65 => .array .int
  | _ => .array .long
abbrev wsX100 : List Cond := u_ws RX10 TX10 67
theorem nmX10 : ∀ a, a < 67 → ∀ b, b < 67 → a ≠ b → (TX10 a).2.1 ≠ (TX10 b).2.1 := by decide +kernel
theorem tyX10_ok : ∀ k, k < 67 → parseFieldDescriptor (TX10 k).2.2.1 = some (tyX10 k) := by decide +kernel
abbrev cX10_init : ByteArray := prog_12_method_1_code
def yX10_init : MethodName := ⟨RX10, "<init>", "()V"⟩
abbrev cX10_in : ByteArray := prog_12_method_3_code
def yX10_in : MethodName := ⟨RX10, "in", "(JJJ)Z"⟩
abbrev cX10_between : ByteArray := prog_12_method_4_code
def yX10_between : MethodName := ⟨RX10, "between", "(III)I"⟩
abbrev cX10_image : ByteArray := prog_12_method_5_code
def yX10_image : MethodName := ⟨RX10, "image", "(I)I"⟩
abbrev cX10_back : ByteArray := prog_12_method_6_code
def yX10_back : MethodName := ⟨RX10, "back", "(I)I"⟩
abbrev cX10_isProgram : ByteArray := prog_12_method_7_code
def yX10_isProgram : MethodName := ⟨RX10, "isProgram", "()Z"⟩
abbrev cX10_isOp : ByteArray := prog_12_method_8_code
def yX10_isOp : MethodName := ⟨RX10, "isOp", "(I)Z"⟩
abbrev cX10_kindOf : ByteArray := prog_12_method_9_code
def yX10_kindOf : MethodName := ⟨RX10, "kindOf", "(I)I"⟩
abbrev cX10_numberOf : ByteArray := prog_12_method_10_code
def yX10_numberOf : MethodName := ⟨RX10, "numberOf", "(II)I"⟩
abbrev cX10_numbersOf : ByteArray := prog_12_method_11_code
def yX10_numbersOf : MethodName := ⟨RX10, "numbersOf", "(I)I"⟩
abbrev cX10_highOf : ByteArray := prog_12_method_12_code
def yX10_highOf : MethodName := ⟨RX10, "highOf", "(II)I"⟩
abbrev cX10_wordOf : ByteArray := prog_12_method_13_code
def yX10_wordOf : MethodName := ⟨RX10, "wordOf", "(I)Ljava/lang/String;"⟩
abbrev cX10_feed : ByteArray := prog_12_method_14_code
def yX10_feed : MethodName := ⟨RX10, "feed", "(IIIII)I"⟩
abbrev cX10_end : ByteArray := prog_12_method_15_code
def yX10_end : MethodName := ⟨RX10, "end", "(I)I"⟩
abbrev cX10_see : ByteArray := prog_12_method_16_code
def yX10_see : MethodName := ⟨RX10, "see", "(I)I"⟩
abbrev cX10_advance : ByteArray := prog_12_method_17_code
def yX10_advance : MethodName := ⟨RX10, "advance", "()V"⟩
abbrev cX10_good : ByteArray := prog_12_method_18_code
def yX10_good : MethodName := ⟨RX10, "good", "()Z"⟩
abbrev cX10_errs : ByteArray := prog_12_method_19_code
def yX10_errs : MethodName := ⟨RX10, "errs", "(I)V"⟩
abbrev cX10_is : ByteArray := prog_12_method_20_code
def yX10_is : MethodName := ⟨RX10, "is", "(Ljava/lang/String;)Z"⟩
abbrev cX10_expects : ByteArray := prog_12_method_21_code
def yX10_expects : MethodName := ⟨RX10, "expects", "(Ljava/lang/String;)V"⟩
abbrev cX10_takes : ByteArray := prog_12_method_22_code
def yX10_takes : MethodName := ⟨RX10, "takes", "(II)I"⟩
abbrev cX10_toldBy : ByteArray := prog_12_method_23_code
def yX10_toldBy : MethodName := ⟨RX10, "toldBy", "(Ljava/lang/String;II)I"⟩
abbrev cX10_fault : ByteArray := prog_12_method_24_code
def yX10_fault : MethodName := ⟨RX10, "fault", "(I)I"⟩
abbrev cX10_readFirst : ByteArray := prog_12_method_25_code
def yX10_readFirst : MethodName := ⟨RX10, "readFirst", "()V"⟩
abbrev cX10_readSpan : ByteArray := prog_12_method_26_code
def yX10_readSpan : MethodName := ⟨RX10, "readSpan", "()V"⟩
abbrev cX10_kindRead : ByteArray := prog_12_method_27_code
def yX10_kindRead : MethodName := ⟨RX10, "kindRead", "()I"⟩
abbrev cX10_readOp : ByteArray := prog_12_method_28_code
def yX10_readOp : MethodName := ⟨RX10, "readOp", "()V"⟩
abbrev cX10_readText : ByteArray := prog_12_method_29_code
def yX10_readText : MethodName := ⟨RX10, "readText", "()V"⟩
abbrev cX10_program : ByteArray := prog_12_method_30_code
def yX10_program : MethodName := ⟨RX10, "program", "()I"⟩
abbrev cX10_modulo : ByteArray := prog_12_method_31_code
def yX10_modulo : MethodName := ⟨RX10, "modulo", "(I)I"⟩
abbrev cX10_obey : ByteArray := prog_12_method_32_code
def yX10_obey : MethodName := ⟨RX10, "obey", "(III[II)V"⟩
abbrev cX10_isBranch : ByteArray := prog_12_method_33_code
def yX10_isBranch : MethodName := ⟨RX10, "isBranch", "(I)Z"⟩
abbrev cX10_goalOf : ByteArray := prog_12_method_34_code
def yX10_goalOf : MethodName := ⟨RX10, "goalOf", "(I)I"⟩
abbrev cX10_isTaken : ByteArray := prog_12_method_35_code
def yX10_isTaken : MethodName := ⟨RX10, "isTaken", "(II)Z"⟩
abbrev cX10_branches : ByteArray := prog_12_method_36_code
def yX10_branches : MethodName := ⟨RX10, "branches", "(III)V"⟩
abbrev cX10_step : ByteArray := prog_12_method_37_code
def yX10_step : MethodName := ⟨RX10, "step", "(I)V"⟩
abbrev cX10_endNow : ByteArray := prog_12_method_38_code
def yX10_endNow : MethodName := ⟨RX10, "endNow", "()I"⟩
abbrev cX10_layRun : ByteArray := prog_12_method_39_code
def yX10_layRun : MethodName := ⟨RX10, "layRun", "()V"⟩
abbrev cX10_has : ByteArray := prog_12_method_40_code
def yX10_has : MethodName := ⟨RX10, "has", "(I)Z"⟩
abbrev cX10_tables : ByteArray := prog_12_method_41_code
def yX10_tables : MethodName := ⟨RX10, "tables", "()I"⟩
abbrev cX10_rowsOf : ByteArray := prog_12_method_42_code
def yX10_rowsOf : MethodName := ⟨RX10, "rowsOf", "()I"⟩
abbrev cX10_asTold : ByteArray := prog_12_method_43_code
def yX10_asTold : MethodName := ⟨RX10, "asTold", "()V"⟩
abbrev cX10_beginGuesser : ByteArray := prog_12_method_44_code
def yX10_beginGuesser : MethodName := ⟨RX10, "beginGuesser", "()V"⟩
abbrev cX10_empties : ByteArray := prog_12_method_45_code
def yX10_empties : MethodName := ⟨RX10, "empties", "(I)V"⟩
abbrev cX10_foldOf : ByteArray := prog_12_method_46_code
def yX10_foldOf : MethodName := ⟨RX10, "foldOf", "(II)I"⟩
abbrev cX10_indexOf : ByteArray := prog_12_method_47_code
def yX10_indexOf : MethodName := ⟨RX10, "indexOf", "(II)I"⟩
abbrev cX10_tagOf : ByteArray := prog_12_method_48_code
def yX10_tagOf : MethodName := ⟨RX10, "tagOf", "(II)I"⟩
abbrev cX10_saysOf : ByteArray := prog_12_method_49_code
def yX10_saysOf : MethodName := ⟨RX10, "saysOf", "(I)I"⟩
abbrev cX10_matches : ByteArray := prog_12_method_50_code
def yX10_matches : MethodName := ⟨RX10, "matches", "(I)Z"⟩
abbrev cX10_matching : ByteArray := prog_12_method_51_code
def yX10_matching : MethodName := ⟨RX10, "matching", "(I)I"⟩
abbrev cX10_askTables : ByteArray := prog_12_method_52_code
def yX10_askTables : MethodName := ⟨RX10, "askTables", "()V"⟩
abbrev cX10_loopSays : ByteArray := prog_12_method_53_code
def yX10_loopSays : MethodName := ⟨RX10, "loopSays", "()I"⟩
abbrev cX10_askCorrector : ByteArray := prog_12_method_54_code
def yX10_askCorrector : MethodName := ⟨RX10, "askCorrector", "()V"⟩
abbrev cX10_ask : ByteArray := prog_12_method_55_code
def yX10_ask : MethodName := ⟨RX10, "ask", "(I)V"⟩
abbrev cX10_learnLoop : ByteArray := prog_12_method_56_code
def yX10_learnLoop : MethodName := ⟨RX10, "learnLoop", "(I)V"⟩
abbrev cX10_learnCorrector : ByteArray := prog_12_method_57_code
def yX10_learnCorrector : MethodName := ⟨RX10, "learnCorrector", "(I)V"⟩
abbrev cX10_learnCount : ByteArray := prog_12_method_58_code
def yX10_learnCount : MethodName := ⟨RX10, "learnCount", "(II)V"⟩
abbrev cX10_halve : ByteArray := prog_12_method_59_code
def yX10_halve : MethodName := ⟨RX10, "halve", "()V"⟩
abbrev cX10_takeRow : ByteArray := prog_12_method_60_code
def yX10_takeRow : MethodName := ⟨RX10, "takeRow", "(I)V"⟩
abbrev cX10_learn : ByteArray := prog_12_method_61_code
def yX10_learn : MethodName := ⟨RX10, "learn", "(I)V"⟩
abbrev cX10_play : ByteArray := prog_12_method_62_code
def yX10_play : MethodName := ⟨RX10, "play", "(I)V"⟩
abbrev cX10_lays : ByteArray := prog_12_method_63_code
def yX10_lays : MethodName := ⟨RX10, "lays", "()Z"⟩
abbrev cX10_asks : ByteArray := prog_12_method_64_code
def yX10_asks : MethodName := ⟨RX10, "asks", "()Z"⟩
abbrev cX10_asksAt : ByteArray := prog_12_method_65_code
def yX10_asksAt : MethodName := ⟨RX10, "asksAt", "(I)Z"⟩
abbrev cX10_isWrong : ByteArray := prog_12_method_66_code
def yX10_isWrong : MethodName := ⟨RX10, "isWrong", "(I)Z"⟩
abbrev cX10_wrongBy : ByteArray := prog_12_method_67_code
def yX10_wrongBy : MethodName := ⟨RX10, "wrongBy", "(I)I"⟩
abbrev cX10_op : ByteArray := prog_12_method_68_code
def yX10_op : MethodName := ⟨RX10, "op", "(II)I"⟩
abbrev cX10_steps : ByteArray := prog_12_method_69_code
def yX10_steps : MethodName := ⟨RX10, "steps", "()I"⟩
abbrev cX10_why : ByteArray := prog_12_method_70_code
def yX10_why : MethodName := ⟨RX10, "why", "()I"⟩
abbrev cX10_next : ByteArray := prog_12_method_71_code
def yX10_next : MethodName := ⟨RX10, "next", "(I)I"⟩
abbrev cX10_register : ByteArray := prog_12_method_72_code
def yX10_register : MethodName := ⟨RX10, "register", "(II)I"⟩
abbrev cX10_branch : ByteArray := prog_12_method_73_code
def yX10_branch : MethodName := ⟨RX10, "branch", "(II)I"⟩
abbrev cX10_wrong : ByteArray := prog_12_method_74_code
def yX10_wrong : MethodName := ⟨RX10, "wrong", "(I)I"⟩
abbrev cX10_isAddress : ByteArray := prog_12_method_75_code
def yX10_isAddress : MethodName := ⟨RX10, "isAddress", "(J)Z"⟩
abbrev cX10_wrongsAt : ByteArray := prog_12_method_76_code
def yX10_wrongsAt : MethodName := ⟨RX10, "wrongsAt", "(I)I"⟩
abbrev cX10_wrongs : ByteArray := prog_12_method_77_code
def yX10_wrongs : MethodName := ⟨RX10, "wrongs", "(I)I"⟩
abbrev cX10_worst : ByteArray := prog_12_method_78_code
def yX10_worst : MethodName := ⟨RX10, "worst", "()I"⟩
abbrev cX10_streak : ByteArray := prog_12_method_79_code
def yX10_streak : MethodName := ⟨RX10, "streak", "()I"⟩
abbrev cX10_said : ByteArray := prog_12_method_80_code
def yX10_said : MethodName := ⟨RX10, "said", "(I)I"⟩
abbrev cX10_gained : ByteArray := prog_12_method_81_code
def yX10_gained : MethodName := ⟨RX10, "gained", "(I)I"⟩
abbrev cX10_provided : ByteArray := prog_12_method_82_code
def yX10_provided : MethodName := ⟨RX10, "provided", "(I)I"⟩
abbrev cX10_history : ByteArray := prog_12_method_83_code
def yX10_history : MethodName := ⟨RX10, "history", "(II)I"⟩
abbrev cX10_fold : ByteArray := prog_12_method_84_code
def yX10_fold : MethodName := ⟨RX10, "fold", "(III)I"⟩
abbrev cX10_isTable : ByteArray := prog_12_method_85_code
def yX10_isTable : MethodName := ⟨RX10, "isTable", "(I)Z"⟩
abbrev cX10_index : ByteArray := prog_12_method_86_code
def yX10_index : MethodName := ⟨RX10, "index", "(III)I"⟩
abbrev cX10_tag : ByteArray := prog_12_method_87_code
def yX10_tag : MethodName := ⟨RX10, "tag", "(III)I"⟩
abbrev cX10_asksOf : ByteArray := prog_12_method_88_code
def yX10_asksOf : MethodName := ⟨RX10, "asksOf", "(II)Z"⟩
abbrev cX10_provider : ByteArray := prog_12_method_89_code
def yX10_provider : MethodName := ⟨RX10, "provider", "(II)I"⟩
abbrev cX10_alternate : ByteArray := prog_12_method_90_code
def yX10_alternate : MethodName := ⟨RX10, "alternate", "(II)I"⟩
abbrev cX10_guess : ByteArray := prog_12_method_91_code
def yX10_guess : MethodName := ⟨RX10, "guess", "(II)I"⟩
abbrev cX10_adds : ByteArray := prog_12_method_92_code
def yX10_adds : MethodName := ⟨RX10, "adds", "(II)I"⟩
abbrev cX10_entry : ByteArray := prog_12_method_93_code
def yX10_entry : MethodName := ⟨RX10, "entry", "(IIII)I"⟩
abbrev cX10_held : ByteArray := prog_12_method_94_code
def yX10_held : MethodName := ⟨RX10, "held", "(II)I"⟩
abbrev cX10_base : ByteArray := prog_12_method_95_code
def yX10_base : MethodName := ⟨RX10, "base", "(II)I"⟩
abbrev cX10_gauge : ByteArray := prog_12_method_96_code
def yX10_gauge : MethodName := ⟨RX10, "gauge", "(II)I"⟩
abbrev cX10_loop : ByteArray := prog_12_method_97_code
def yX10_loop : MethodName := ⟨RX10, "loop", "(III)I"⟩
abbrev cX10_corrector : ByteArray := prog_12_method_98_code
def yX10_corrector : MethodName := ⟨RX10, "corrector", "(III)I"⟩
abbrev cX10_clash : ByteArray := prog_12_method_99_code
def yX10_clash : MethodName := ⟨RX10, "clash", "(III)I"⟩
abbrev cX10_isPlain : ByteArray := prog_12_method_100_code
def yX10_isPlain : MethodName := ⟨RX10, "isPlain", "(I)Z"⟩
abbrev cX10_goAstray : ByteArray := prog_12_method_101_code
def yX10_goAstray : MethodName := ⟨RX10, "goAstray", "(I)I"⟩
abbrev cX10_isOfRun : ByteArray := prog_12_method_102_code
def yX10_isOfRun : MethodName := ⟨RX10, "isOfRun", "(I)Z"⟩
abbrev cX10_strays : ByteArray := prog_12_method_103_code
def yX10_strays : MethodName := ⟨RX10, "strays", "(I)I"⟩
abbrev cX10_stray : ByteArray := prog_12_method_104_code
def yX10_stray : MethodName := ⟨RX10, "stray", "(II)I"⟩
abbrev cX10_costNow : ByteArray := prog_12_method_105_code
def yX10_costNow : MethodName := ⟨RX10, "costNow", "()I"⟩
abbrev cX10_cycles : ByteArray := prog_12_method_106_code
def yX10_cycles : MethodName := ⟨RX10, "cycles", "()I"⟩
abbrev cX10_playBy : ByteArray := prog_12_method_107_code
def yX10_playBy : MethodName := ⟨RX10, "playBy", "(I)V"⟩
abbrev cX10_cheapest : ByteArray := prog_12_method_108_code
def yX10_cheapest : MethodName := ⟨RX10, "cheapest", "()I"⟩
abbrev cX10_wrongWith : ByteArray := prog_12_method_109_code
def yX10_wrongWith : MethodName := ⟨RX10, "wrongWith", "(I)I"⟩
abbrev cX10_by : ByteArray := prog_12_method_110_code
def yX10_by : MethodName := ⟨RX10, "by", "(I)I"⟩
abbrev cX10_ideal : ByteArray := prog_12_method_111_code
def yX10_ideal : MethodName := ⟨RX10, "ideal", "()I"⟩
abbrev cX10_wrongWithout : ByteArray := prog_12_method_112_code
def yX10_wrongWithout : MethodName := ⟨RX10, "wrongWithout", "(I)I"⟩
abbrev cX10_without : ByteArray := prog_12_method_113_code
def yX10_without : MethodName := ⟨RX10, "without", "(I)I"⟩
abbrev cX10_spare : ByteArray := prog_12_method_114_code
def yX10_spare : MethodName := ⟨RX10, "spare", "()I"⟩
abbrev cX10_lowOf : ByteArray := prog_12_method_115_code
def yX10_lowOf : MethodName := ⟨RX10, "lowOf", "(I)I"⟩
abbrev cX10_farOf : ByteArray := prog_12_method_116_code
def yX10_farOf : MethodName := ⟨RX10, "farOf", "(I)I"⟩
abbrev cX10_wrongSpanned : ByteArray := prog_12_method_117_code
def yX10_wrongSpanned : MethodName := ⟨RX10, "wrongSpanned", "(II)I"⟩
abbrev cX10_spanned : ByteArray := prog_12_method_118_code
def yX10_spanned : MethodName := ⟨RX10, "spanned", "(II)I"⟩
abbrev cX10_span : ByteArray := prog_12_method_119_code
def yX10_span : MethodName := ⟨RX10, "span", "(I)I"⟩
abbrev cX10_playPattern : ByteArray := prog_12_method_120_code
def yX10_playPattern : MethodName := ⟨RX10, "playPattern", "(III)V"⟩
abbrev cX10_asksPattern : ByteArray := prog_12_method_121_code
def yX10_asksPattern : MethodName := ⟨RX10, "asksPattern", "(III)Z"⟩
abbrev cX10_learntNow : ByteArray := prog_12_method_122_code
def yX10_learntNow : MethodName := ⟨RX10, "learntNow", "()I"⟩
abbrev cX10_round : ByteArray := prog_12_method_123_code
def yX10_round : MethodName := ⟨RX10, "round", "(IIII)I"⟩
abbrev cX10_learnt : ByteArray := prog_12_method_124_code
def yX10_learnt : MethodName := ⟨RX10, "learnt", "(III)I"⟩
abbrev cX10_learns : ByteArray := prog_12_method_125_code
def yX10_learns : MethodName := ⟨RX10, "learns", "(II)I"⟩
abbrev cX10_numberIn : ByteArray := prog_12_method_126_code
def yX10_numberIn : MethodName := ⟨RX10, "numberIn", "(II)J"⟩
abbrev cX10_areIn : ByteArray := prog_12_method_127_code
def yX10_areIn : MethodName := ⟨RX10, "areIn", "(II)Z"⟩
abbrev cX10_trace : ByteArray := prog_12_method_128_code
def yX10_trace : MethodName := ⟨RX10, "trace", "(I)I"⟩
abbrev cX10_like : ByteArray := prog_12_method_129_code
def yX10_like : MethodName := ⟨RX10, "like", "(I)I"⟩
abbrev cX10_meets : ByteArray := prog_12_method_130_code
def yX10_meets : MethodName := ⟨RX10, "meets", "(II)I"⟩
abbrev cX10_undo : ByteArray := prog_12_method_131_code
def yX10_undo : MethodName := ⟨RX10, "undo", "()I"⟩
abbrev cX10_anew : ByteArray := prog_12_method_132_code
def yX10_anew : MethodName := ⟨RX10, "anew", "()I"⟩
abbrev cX10_count : ByteArray := prog_12_method_133_code
def yX10_count : MethodName := ⟨RX10, "count", "(I)I"⟩
abbrev cX10_isSlot : ByteArray := prog_12_method_134_code
def yX10_isSlot : MethodName := ⟨RX10, "isSlot", "(I)Z"⟩
abbrev cX10_row : ByteArray := prog_12_method_135_code
def yX10_row : MethodName := ⟨RX10, "row", "(III)I"⟩
abbrev cX10_write : ByteArray := prog_12_method_136_code
def yX10_write : MethodName := ⟨RX10, "write", "(IIJ)I"⟩
abbrev cX10_number : ByteArray := prog_12_method_137_code
def yX10_number : MethodName := ⟨RX10, "number", "(II)J"⟩
def RJx145de : String := "java/io/Serializable"
def TJx145de : u_T := fun k => match k with
  | _ => ("", "", "", false)
def tyJx145de : Nat → FieldType := fun k => match k with
  | _ => .int
abbrev wsJx145de0 : List Cond := u_ws RJx145de TJx145de 0
theorem nmJx145de : ∀ a, a < 0 → ∀ b, b < 0 → a ≠ b → (TJx145de a).2.1 ≠ (TJx145de b).2.1 := by decide +kernel
theorem tyJx145de_ok : ∀ k, k < 0 → parseFieldDescriptor (TJx145de k).2.2.1 = some (tyJx145de k) := by decide +kernel
def RJx9f9b0 : String := "java/lang/CharSequence"
def TJx9f9b0 : u_T := fun k => match k with
  | _ => ("", "", "", false)
def tyJx9f9b0 : Nat → FieldType := fun k => match k with
  | _ => .int
abbrev wsJx9f9b00 : List Cond := u_ws RJx9f9b0 TJx9f9b0 0
theorem nmJx9f9b0 : ∀ a, a < 0 → ∀ b, b < 0 → a ≠ b → (TJx9f9b0 a).2.1 ≠ (TJx9f9b0 b).2.1 := by decide +kernel
theorem tyJx9f9b0_ok : ∀ k, k < 0 → parseFieldDescriptor (TJx9f9b0 k).2.2.1 = some (tyJx9f9b0 k) := by decide +kernel
def RJxb160c : String := "java/lang/Comparable"
def TJxb160c : u_T := fun k => match k with
  | _ => ("", "", "", false)
def tyJxb160c : Nat → FieldType := fun k => match k with
  | _ => .int
abbrev wsJxb160c0 : List Cond := u_ws RJxb160c TJxb160c 0
theorem nmJxb160c : ∀ a, a < 0 → ∀ b, b < 0 → a ≠ b → (TJxb160c a).2.1 ≠ (TJxb160c b).2.1 := by decide +kernel
theorem tyJxb160c_ok : ∀ k, k < 0 → parseFieldDescriptor (TJxb160c k).2.2.1 = some (tyJxb160c k) := by decide +kernel
def RJ9 : String := "java/lang/Math"
def TJ9 : u_T := fun k => match k with
  | _ => ("", "", "", false)
def tyJ9 : Nat → FieldType := fun k => match k with
  | _ => .int
abbrev wsJ90 : List Cond := u_ws RJ9 TJ9 0
theorem nmJ9 : ∀ a, a < 0 → ∀ b, b < 0 → a ≠ b → (TJ9 a).2.1 ≠ (TJ9 b).2.1 := by decide +kernel
theorem tyJ9_ok : ∀ k, k < 0 → parseFieldDescriptor (TJ9 k).2.2.1 = some (tyJ9 k) := by decide +kernel
abbrev cJ9_abs_0f7a4 : ByteArray := prog_13_method_59_code
def yJ9_abs_0f7a4 : MethodName := ⟨RJ9, "abs", "(I)I"⟩
abbrev cJ9_max_7cf53 : ByteArray := prog_13_method_65_code
def yJ9_max_7cf53 : MethodName := ⟨RJ9, "max", "(II)I"⟩
abbrev cJ9_min_7cf53 : ByteArray := prog_13_method_69_code
def yJ9_min_7cf53 : MethodName := ⟨RJ9, "min", "(II)I"⟩
def RJ0 : String := "java/lang/String"
def TJ0 : u_T := fun k => match k with
  | _ => ("", "", "", false)
def tyJ0 : Nat → FieldType := fun k => match k with
  | _ => .int
abbrev wsJ00 : List Cond := u_ws RJ0 TJ0 0
theorem nmJ0 : ∀ a, a < 0 → ∀ b, b < 0 → a ≠ b → (TJ0 a).2.1 ≠ (TJ0 b).2.1 := by decide +kernel
theorem tyJ0_ok : ∀ k, k < 0 → parseFieldDescriptor (TJ0 k).2.2.1 = some (tyJ0 k) := by decide +kernel
abbrev cJ0_length_8abf5 : ByteArray := prog_14_method_54_code
def yJ0_length_8abf5 : MethodName := ⟨RJ0, "length", "()I"⟩
abbrev cJ0_charAt_5068e : ByteArray := prog_14_method_56_code
def yJ0_charAt_5068e : MethodName := ⟨RJ0, "charAt", "(I)C"⟩
abbrev cJ0_coder_7d493 : ByteArray := prog_14_method_152_code
def yJ0_coder_7d493 : MethodName := ⟨RJ0, "coder", "()B"⟩
abbrev cJ0_isLatin1_aae02 : ByteArray := prog_14_method_154_code
def yJ0_isLatin1_aae02 : MethodName := ⟨RJ0, "isLatin1", "()Z"⟩
abbrev cJ0_checkIndex_df160 : ByteArray := prog_14_method_155_code
def yJ0_checkIndex_df160 : MethodName := ⟨RJ0, "checkIndex", "(II)V"⟩
def RJ1 : String := "java/lang/StringLatin1"
def TJ1 : u_T := fun k => match k with
  | _ => ("", "", "", false)
def tyJ1 : Nat → FieldType := fun k => match k with
  | _ => .int
abbrev wsJ10 : List Cond := u_ws RJ1 TJ1 0
theorem nmJ1 : ∀ a, a < 0 → ∀ b, b < 0 → a ≠ b → (TJ1 a).2.1 ≠ (TJ1 b).2.1 := by decide +kernel
theorem tyJ1_ok : ∀ k, k < 0 → parseFieldDescriptor (TJ1 k).2.2.1 = some (tyJ1 k) := by decide +kernel
abbrev cJ1_charAt_3b067 : ByteArray := prog_15_method_2_code
def yJ1_charAt_3b067 : MethodName := ⟨RJ1, "charAt", "([BI)C"⟩
def RJ2 : String := "java/lang/StringUTF16"
def TJ2 : u_T := fun k => match k with
  | _ => ("", "", "", false)
def tyJ2 : Nat → FieldType := fun k => match k with
  | _ => .int
abbrev wsJ20 : List Cond := u_ws RJ2 TJ2 0
theorem nmJ2 : ∀ a, a < 0 → ∀ b, b < 0 → a ≠ b → (TJ2 a).2.1 ≠ (TJ2 b).2.1 := by decide +kernel
theorem tyJ2_ok : ∀ k, k < 0 → parseFieldDescriptor (TJ2 k).2.2.1 = some (tyJ2 k) := by decide +kernel
abbrev cJ2_getChar_3b067 : ByteArray := prog_16_method_5_code
def yJ2_getChar_3b067 : MethodName := ⟨RJ2, "getChar", "([BI)C"⟩
abbrev cJ2_length_9d52b : ByteArray := prog_16_method_6_code
def yJ2_length_9d52b : MethodName := ⟨RJ2, "length", "([B)I"⟩
abbrev cJ2_charAt_3b067 : ByteArray := prog_16_method_83_code
def yJ2_charAt_3b067 : MethodName := ⟨RJ2, "charAt", "([BI)C"⟩
abbrev cJ2_checkIndex_2214a : ByteArray := prog_16_method_91_code
def yJ2_checkIndex_2214a : MethodName := ⟨RJ2, "checkIndex", "(I[B)V"⟩
def RJ10 : String := "java/lang/System"
def TJ10 : u_T := fun k => match k with
  | _ => ("", "", "", false)
def tyJ10 : Nat → FieldType := fun k => match k with
  | _ => .int
abbrev wsJ100 : List Cond := u_ws RJ10 TJ10 0
theorem nmJ10 : ∀ a, a < 0 → ∀ b, b < 0 → a ≠ b → (TJ10 a).2.1 ≠ (TJ10 b).2.1 := by decide +kernel
theorem tyJ10_ok : ∀ k, k < 0 → parseFieldDescriptor (TJ10 k).2.2.1 = some (tyJ10 k) := by decide +kernel
def RJxfd54e : String := "java/lang/constant/Constable"
def TJxfd54e : u_T := fun k => match k with
  | _ => ("", "", "", false)
def tyJxfd54e : Nat → FieldType := fun k => match k with
  | _ => .int
abbrev wsJxfd54e0 : List Cond := u_ws RJxfd54e TJxfd54e 0
theorem nmJxfd54e : ∀ a, a < 0 → ∀ b, b < 0 → a ≠ b → (TJxfd54e a).2.1 ≠ (TJxfd54e b).2.1 := by decide +kernel
theorem tyJxfd54e_ok : ∀ k, k < 0 → parseFieldDescriptor (TJxfd54e k).2.2.1 = some (tyJxfd54e k) := by decide +kernel
def RJx3cf43 : String := "java/lang/constant/ConstantDesc"
def TJx3cf43 : u_T := fun k => match k with
  | _ => ("", "", "", false)
def tyJx3cf43 : Nat → FieldType := fun k => match k with
  | _ => .int
abbrev wsJx3cf430 : List Cond := u_ws RJx3cf43 TJx3cf43 0
theorem nmJx3cf43 : ∀ a, a < 0 → ∀ b, b < 0 → a ≠ b → (TJx3cf43 a).2.1 ≠ (TJx3cf43 b).2.1 := by decide +kernel
theorem tyJx3cf43_ok : ∀ k, k < 0 → parseFieldDescriptor (TJx3cf43 k).2.2.1 = some (tyJx3cf43 k) := by decide +kernel
def RJ7 : String := "java/util/Arrays"
def TJ7 : u_T := fun k => match k with
  | _ => ("", "", "", false)
def tyJ7 : Nat → FieldType := fun k => match k with
  | _ => .int
abbrev wsJ70 : List Cond := u_ws RJ7 TJ7 0
theorem nmJ7 : ∀ a, a < 0 → ∀ b, b < 0 → a ≠ b → (TJ7 a).2.1 ≠ (TJ7 b).2.1 := by decide +kernel
theorem tyJ7_ok : ∀ k, k < 0 → parseFieldDescriptor (TJ7 k).2.2.1 = some (tyJ7 k) := by decide +kernel
abbrev cJ7_rangeCheck_23922 : ByteArray := prog_18_method_30_code
def yJ7_rangeCheck_23922 : MethodName := ⟨RJ7, "rangeCheck", "(III)V"⟩
abbrev cJ7_fill_bad5a : ByteArray := prog_18_method_102_code
def yJ7_fill_bad5a : MethodName := ⟨RJ7, "fill", "([JIIJ)V"⟩
abbrev cJ7_fill_53178 : ByteArray := prog_18_method_103_code
def yJ7_fill_53178 : MethodName := ⟨RJ7, "fill", "([II)V"⟩
def RJ3 : String := "jdk/internal/util/Preconditions"
def TJ3 : u_T := fun k => match k with
  | _ => ("", "", "", false)
def tyJ3 : Nat → FieldType := fun k => match k with
  | _ => .int
abbrev wsJ30 : List Cond := u_ws RJ3 TJ3 0
theorem nmJ3 : ∀ a, a < 0 → ∀ b, b < 0 → a ≠ b → (TJ3 a).2.1 ≠ (TJ3 b).2.1 := by decide +kernel
theorem tyJ3_ok : ∀ k, k < 0 → parseFieldDescriptor (TJ3 k).2.2.1 = some (tyJ3 k) := by decide +kernel
abbrev cJ3_checkIndex_8e157 : ByteArray := prog_19_method_11_code
def yJ3_checkIndex_8e157 : MethodName := ⟨RJ3, "checkIndex", "(IILjava/util/function/BiFunction;)I"⟩
def RL : String := "BranchGuessLaw"
abbrev cL_law : ByteArray := code
def yL_law : MethodName := ⟨RL, "law", "([I)Z"⟩
abbrev vwCl : List vw_C := [(RX0, TX0, 5), (RX1, TX1, 9), (RX2, TX2, 5), (RX3, TX3, 8), (RX4, TX4, 5), (RX5, TX5, 3), (RX6, TX6, 19), (RX7, TX7, 9), (RX8, TX8, 3), (RX9, TX9, 11), (RX10, TX10, 67)]
end
section
/-! The pure memory, the cells of the two systems, the judgement At over the kit's W, and a row an instruction. Written by wip/whole/mk03.py. -/
abbrev Mem : Type := (Nat → Nat → Int32) × (Nat → Nat → Int64)
abbrev tn (i : Int32) : Nat := i.toNatClampNeg
def pI (M : Mem) (c k : Nat) (v : Int32) : Mem := (fun a => if a = c then upd (M.1 a) k v else M.1 a, M.2)
def pL (M : Mem) (c k : Nat) (v : Int64) : Mem := (M.1, fun a => if a = c then vp_updL (M.2 a) k v else M.2 a)
def pC (M : Mem) (c0 c1 sp dp n : Nat) : Mem := (fun a => if a = c1 then va_cpy (M.1 c0) (M.1 c1) sp dp n else M.1 a, M.2)
def ib (i : Int32) (n : Nat) : Bool := !decide (i < 0) && decide (i.toNatClampNeg < n)
def isB (x : Int32) : Bool := decide (x = 0) || decide (x = 1)
def irm (x y : Int32) : Int32 := x - x / y * y
def ck {α : Type} (b : Bool) (x : Option α) : Option α := match b with
  | true => x
  | false => none
def bV {β : Type} (x : Option Mem) (f : Mem → Option β) : Option β := match x with
  | some M => f M
  | none => none
def bI {β : Type} (x : Option (Int32 × Mem)) (f : Int32 → Mem → Option β) : Option β := match x with
  | some r => f r.1 r.2
  | none => none
def bL {β : Type} (x : Option (Int64 × Mem)) (f : Int64 → Mem → Option β) : Option β := match x with
  | some r => f r.1 r.2
  | none => none
def bS {β : Type} (x : Option (Nat × Mem)) (f : Nat → Mem → Option β) : Option β := match x with
  | some r => f r.1 r.2
  | none => none
def LF : Nat := 100000
theorem ck_e {α : Type} {b : Bool} {x : Option α} {r : α} (h : ck b x = some r) : b = true ∧ x = some r := by
  cases b with
  | true => exact ⟨rfl, h⟩
  | false => cases h
theorem bV_e {β : Type} {x : Option Mem} {f : Mem → Option β} {r : β} (h : bV x f = some r) : ∃ M, x = some M ∧ f M = some r := by
  cases x with
  | some M => exact ⟨M, rfl, h⟩
  | none => cases h
theorem bI_e {β : Type} {x : Option (Int32 × Mem)} {f : Int32 → Mem → Option β} {r : β} (h : bI x f = some r) : ∃ v M, x = some (v, M) ∧ f v M = some r := by
  cases x with
  | some q => exact ⟨q.1, q.2, rfl, h⟩
  | none => cases h
theorem bL_e {β : Type} {x : Option (Int64 × Mem)} {f : Int64 → Mem → Option β} {r : β} (h : bL x f = some r) : ∃ v M, x = some (v, M) ∧ f v M = some r := by
  cases x with
  | some q => exact ⟨q.1, q.2, rfl, h⟩
  | none => cases h
theorem bS_e {β : Type} {x : Option (Nat × Mem)} {f : Nat → Mem → Option β} {r : β} (h : bS x f = some r) : ∃ v M, x = some (v, M) ∧ f v M = some r := by
  cases x with
  | some q => exact ⟨q.1, q.2, rfl, h⟩
  | none => cases h
theorem ib_in {i : Int32} {n : Nat} (h : ib i n = true) : vp_in i n := by
  simp only [ib, Bool.and_eq_true, Bool.not_eq_true', decide_eq_false_iff_not, decide_eq_true_eq] at h
  intro q
  rcases q with q | q
  · exact h.1 q
  · omega
theorem if_e {α : Type} {c : Prop} [Decidable c] {a b : Option α} {r : α} (h : (if c then a else b) = some r) : (c ∧ a = some r) ∨ (¬ c ∧ b = some r) := by
  by_cases hc : c
  · exact Or.inl ⟨hc, by rw [if_pos hc] at h; exact h⟩
  · exact Or.inr ⟨hc, by rw [if_neg hc] at h; exact h⟩

def kds : List (Nat × Nat) := [(9, 0), (3, 0), (21, 800), (7, 0), (20, 6), (20, 6), (20, 40), (20, 120), (20, 40), (7, 0), (20, 6), (20, 6), (20, 40), (20, 120), (20, 40), (24, 3), (7, 0), (20, 6), (20, 6), (20, 40), (20, 120), (20, 40), (7, 0), (20, 6), (20, 6), (20, 40), (20, 120), (20, 40), (7, 0), (20, 6), (20, 6), (20, 40), (20, 120), (20, 40), (22, 3), (4, 0), (20, 201), (20, 1608), (20, 8), (8, 0), (20, 2160), (1, 0), (6, 0), (20, 6), (20, 80), (20, 80), (20, 80), (20, 16), (20, 6), (2, 0), (20, 8), (20, 8), (20, 8), (20, 8), (20, 8), (0, 0), (20, 48), (20, 3), (1, 0), (6, 0), (20, 6), (20, 80), (20, 80), (20, 80), (20, 16), (20, 6), (2, 0), (20, 8), (20, 8), (20, 8), (20, 8), (20, 8), (0, 0), (20, 48), (20, 3), (20, 30), (5, 0), (20, 4), (20, 4), (23, 240), (10, 0), (20, 215), (20, 645), (22, 3), (21, 800), (20, 5), (20, 215), (20, 1608), (20, 201), (20, 240), (20, 240), (20, 240), (20, 6), (20, 80), (20, 80), (20, 80), (20, 16), (20, 8), (20, 8), (20, 8), (20, 8), (20, 8), (20, 48), (20, 6), (20, 6), (20, 3), (20, 240), (20, 240), (20, 240), (20, 240), (20, 240), (20, 240), (20, 8), (20, 30), (20, 4), (20, 4), (23, 240)]
def kd (c : Nat) : Nat × Nat := kds.getD c (99, 0)
def NC : Nat := 117
def fds (ci : Nat) : List Nat := match ci with
  | 0 => [3, 0, 4, 0, 0]
  | 1 => [3, 10, 16, 0, 1, 0, 0, 0, 0]
  | 2 => [3, 4, 5, 6, 7]
  | 3 => [3, 0, 0, 0, 0, 0, 0, 0]
  | 4 => [3, 4, 5, 0, 0]
  | 5 => [3, 4, 5]
  | 6 => [0, 0, 0, 0, 0, 3, 4, 5, 6, 7, 0, 0, 0, 8, 0, 0, 0, 0, 0]
  | 7 => [3, 4, 5, 6, 7, 0, 0, 0, 0]
  | 8 => [3, 0, 0]
  | 9 => [3, 5, 11, 17, 36, 37, 41, 43, 60, 77, 78]
  | _ => [0, 3, 4, 5, 6, 0, 7, 0, 0, 0, 0, 0, 0, 0, 8, 9, 10, 11, 12, 13, 0, 0, 0, 0, 14, 0, 0, 15, 16, 17, 18, 19, 20, 21, 22, 23, 24, 0, 0, 0, 0, 1, 25, 26, 0, 0, 0, 0, 0, 0, 0, 27, 0, 0, 0, 0, 28, 29, 30, 31, 32, 33, 34, 35, 36, 37, 38]
abbrev En : Type := va_G × (Nat → Nat) × (Nat → ClassId) × (Nat → Nat) × (Nat → Nat) × (Nat → Nat)
abbrev eG (E : En) : va_G := E.1
abbrev ad (E : En) : Nat → Nat := E.2.1
abbrev cA (E : En) : Nat → ClassId := E.2.2.1
abbrev aK (E : En) : Nat → Nat := E.2.2.2.1
abbrev aV (E : En) : Nat → Nat := E.2.2.2.2.1
abbrev aS (E : En) : Nat → Nat := E.2.2.2.2.2
def fv (E : En) (M : Mem) (c t k : Nat) : Value := match t with
  | 0 => .int (M.1 c k)
  | 1 => .long (M.2 c k)
  | n + 2 => .ref (ad E (c + n))
def fl (E : En) (M : Mem) (c ci : Nat) : List Value := (List.range (fds ci).length).map (fun k => fv E M c ((fds ci).getD k 0) k)
def ce (E : En) (M : Mem) (c : Nat) : va_E :=
  if (kd c).1 = 20 then .inl (cA E 20, (kd c).2, .inl (M.1 c)) else
  if (kd c).1 = 21 then .inl (cA E 21, (kd c).2, .inl (M.1 c)) else
  if (kd c).1 = 22 then .inl (cA E 22, (kd c).2, .inl (M.1 c)) else
  if (kd c).1 = 23 then .inl (cA E 23, (kd c).2, .inr (.inl (M.2 c))) else
  if (kd c).1 = 24 then .inl (cA E 24, (kd c).2, .inr (.inr (.inr (.inr (fun i => some (ad E (c + 1 + 6 * i))))))) else
  .inr ((kd c).1, fl E M c (kd c).1)
def wl (E : En) (M : Mem) : va_W := (List.range NC).map (fun c => (ad E c, ce E M c))
theorem ce_20 {E : En} {M : Mem} {c n : Nat} (h : kd c = (20, n)) : ce E M c = .inl (cA E 20, n, .inl (M.1 c)) := by simp [ce, h]
theorem ce_21 {E : En} {M : Mem} {c n : Nat} (h : kd c = (21, n)) : ce E M c = .inl (cA E 21, n, .inl (M.1 c)) := by simp [ce, h]
theorem ce_22 {E : En} {M : Mem} {c n : Nat} (h : kd c = (22, n)) : ce E M c = .inl (cA E 22, n, .inl (M.1 c)) := by simp [ce, h]
theorem ce_23 {E : En} {M : Mem} {c n : Nat} (h : kd c = (23, n)) : ce E M c = .inl (cA E 23, n, .inr (.inl (M.2 c))) := by simp [ce, h]
theorem ce_24 {E : En} {M : Mem} {c n : Nat} (h : kd c = (24, n)) : ce E M c = .inl (cA E 24, n, .inr (.inr (.inr (.inr (fun i => some (ad E (c + 1 + 6 * i))))))) := by simp [ce, h]
theorem ce_ob {E : En} {M : Mem} {c ci : Nat} (h : kd c = (ci, 0)) (hl : ci < 11) : ce E M c = .inr (ci, fl E M c ci) := by
  simp only [ce, h]
  rw [if_neg (by omega), if_neg (by omega), if_neg (by omega), if_neg (by omega), if_neg (by omega)]
theorem kd_lt {c a b : Nat} (h : kd c = (a, b)) (ha : a ≠ 99) : c < NC := by
  by_cases hc : c < NC
  · exact hc
  · exfalso
    apply ha
    have : kds.length ≤ c := by
      have h1 : kds.length = NC := by decide +kernel
      omega
    simp only [kd, List.getD_eq_getElem?_getD, List.getElem?_eq_none this] at h
    simp at h
    exact h.1.symm
theorem wl_at {E : En} {M : Mem} {c : Nat} (h : c < NC) : (wl E M)[c]? = some (ad E c, ce E M c) := by
  simp [wl, List.getElem?_map, List.getElem?_range h]
theorem ce_cg {E : En} {M M' : Mem} {a : Nat} (h1 : M'.1 a = M.1 a) (h2 : M'.2 a = M.2 a) : ce E M' a = ce E M a := by
  have hf : ∀ ci, fl E M' a ci = fl E M a ci := by
    intro ci
    simp only [fl]
    apply List.map_congr_left
    intro k _
    unfold fv
    split
    · rw [h1]
    · rw [h2]
    · rfl
  simp only [ce, h1, h2, hf]
theorem wl_set {E : En} {M M' : Mem} {c : Nat} {x : va_E} (hc : c < NC) (ho : ∀ a, a ≠ c → M'.1 a = M.1 a ∧ M'.2 a = M.2 a) (hx : ce E M' c = x) : (wl E M).set c (ad E c, x) = wl E M' := by
  apply List.ext_getElem?
  intro i
  rw [List.getElem?_set]
  by_cases hi : c = i
  · subst hi
    rw [if_pos rfl, if_pos (by simp [wl]; exact hc), wl_at hc, hx]
  · rw [if_neg hi]
    by_cases h : i < NC
    · rw [wl_at h, wl_at h, ce_cg (ho i (fun e => hi e.symm)).1 (ho i (fun e => hi e.symm)).2]
    · rw [List.getElem?_eq_none (by simp [wl]; omega), List.getElem?_eq_none (by simp [wl]; omega)]
theorem pI_o {M : Mem} {c k : Nat} {v : Int32} : ∀ a, a ≠ c → (pI M c k v).1 a = M.1 a ∧ (pI M c k v).2 a = M.2 a := fun a h => ⟨by simp [pI, h], rfl⟩
theorem pL_o {M : Mem} {c k : Nat} {v : Int64} : ∀ a, a ≠ c → (pL M c k v).1 a = M.1 a ∧ (pL M c k v).2 a = M.2 a := fun a h => ⟨rfl, by simp [pL, h]⟩
theorem pC_o {M : Mem} {c0 c1 x y z : Nat} : ∀ a, a ≠ c1 → (pC M c0 c1 x y z).1 a = M.1 a ∧ (pC M c0 c1 x y z).2 a = M.2 a := fun a h => ⟨by simp [pC, h], rfl⟩
theorem pI_s {M : Mem} {c k : Nat} {v : Int32} : (pI M c k v).1 c = upd (M.1 c) k v := by simp [pI]
theorem pL_s {M : Mem} {c k : Nat} {v : Int64} : (pL M c k v).2 c = vp_updL (M.2 c) k v := by simp [pL]
theorem pC_s {M : Mem} {c0 c1 x y z : Nat} : (pC M c0 c1 x y z).1 c1 = va_cpy (M.1 c0) (M.1 c1) x y z := by simp [pC]
theorem fl_at {E : En} {M : Mem} {c ci k t : Nat} (hk : (fds ci)[k]? = some t) : (fl E M c ci)[k]? = some (fv E M c t k) := by
  have h := (List.getElem?_eq_some_iff.mp hk).1
  simp [fl, List.getElem?_map, List.getElem?_range h, hk]
theorem fl_len {E : En} {M : Mem} {c ci : Nat} : (fl E M c ci).length = (fds ci).length := by simp [fl]
theorem fl_setI {E : En} {M : Mem} {c ci k : Nat} {v : Int32} (hk : (fds ci)[k]? = some 0) : (fl E M c ci).set k (.int v) = fl E (pI M c k v) c ci := by
  have hkl := (List.getElem?_eq_some_iff.mp hk).1
  apply List.ext_getElem?
  intro i
  rw [List.getElem?_set]
  by_cases hi : k = i
  · subst hi
    rw [if_pos rfl, if_pos (by rw [fl_len]; exact hkl), fl_at hk]
    simp [fv, pI, upd]
  · rw [if_neg hi]
    cases h : (fds ci)[i]? with
    | some t =>
      rw [fl_at h, fl_at h]
      unfold fv
      split
      · simp [pI, upd]; intro e; exact absurd e.symm hi
      · rfl
      · rfl
    | none =>
      have := List.getElem?_eq_none_iff.mp h
      rw [List.getElem?_eq_none (by rw [fl_len]; exact this), List.getElem?_eq_none (by rw [fl_len]; exact this)]
theorem fl_setL {E : En} {M : Mem} {c ci k : Nat} {v : Int64} (hk : (fds ci)[k]? = some 1) : (fl E M c ci).set k (.long v) = fl E (pL M c k v) c ci := by
  have hkl := (List.getElem?_eq_some_iff.mp hk).1
  apply List.ext_getElem?
  intro i
  rw [List.getElem?_set]
  by_cases hi : k = i
  · subst hi
    rw [if_pos rfl, if_pos (by rw [fl_len]; exact hkl), fl_at hk]
    simp [fv, pL, vp_updL]
  · rw [if_neg hi]
    cases h : (fds ci)[i]? with
    | some t =>
      rw [fl_at h, fl_at h]
      unfold fv
      split
      · rfl
      · simp [pL, vp_updL]; intro e; exact absurd e.symm hi
      · rfl
    | none =>
      have := List.getElem?_eq_none_iff.mp h
      rw [List.getElem?_eq_none (by rw [fl_len]; exact this), List.getElem?_eq_none (by rw [fl_len]; exact this)]
def Okk (E : En) (A : Nat → Prop) : Prop := (∀ i j : Nat, i < NC → j < NC → ad E i = ad E j → i = j) ∧ ∀ c : Nat, c < NC → A (ad E c)
theorem Okk.D {E : En} {A : Nat → Prop} (h : Okk E A) (M : Mem) : va_D A (wl E M) := by
  have hh : ∀ (i : Nat) (q : Nat × va_E), (wl E M)[i]? = some q → i < NC ∧ q.1 = ad E i := by
    intro i q hq
    have hi : i < NC := by
      have := (List.getElem?_eq_some_iff.mp hq).1
      simpa [wl] using this
    rw [wl_at hi] at hq
    exact ⟨hi, by rw [← Option.some.inj hq]⟩
  refine ⟨fun i j p q hp hq e => ?_, fun k q hq => ?_⟩
  · obtain ⟨a1, a2⟩ := hh i p hp
    obtain ⟨b1, b2⟩ := hh j q hq
    exact h.1 i j a1 b1 (by rw [← a2, ← b2]; exact e)
  · obtain ⟨a1, a2⟩ := hh k q hq
    rw [a2]; exact h.2 k a1
end
section
/-! The judgement At (a place in a method, over the pure memory), contracts Ct, and a row an instruction. Written by wip/whole/mk04.py. -/
def tb : List Cond := lw_tbl.filter goodWord
theorem tb_in {w : Cond} (h : w ∈ lw_tbl) (g : goodWord w = true) : w ∈ tb := List.mem_filter.mpr ⟨h, g⟩
theorem tb_good : GoodIn tb tb := fun w h => ⟨h, good_of_word (List.mem_filter.mp h).2⟩
def nestW : List Cond := [.methodLinkNest RX9 11 yX3_init RX9, .methodLinkNest RX9 18 yX7_init RX9, .methodLinkNest RX9 36 yX4_init RX9, .methodLinkNest RX9 43 yX8_init RX9, .methodLinkNest RX9 50 yX1_init RX9, .methodLinkNest RX1 11 yX6_init RX9, .methodLinkNest RX1 20 yX2_init RX9, .methodLinkNest RX1 27 yX0_init RX9, .fieldLinkNest RX3 79 "BranchGuess" "HEAD_LEAST" "[I" RX9, .fieldLinkNest RX3 82 "BranchGuess" "HEAD_MOST" "[I" RX9, .methodLinkNest RX3 126 yX9_within RX9, .methodLinkNest RX7 52 yX9_within RX9, .methodLinkNest RX6 76 yX9_folded RX9, .methodLinkNest RX6 80 yX9_lowest RX9, .methodLinkNest RX6 102 yX9_within RX9, .methodLinkNest RX0 31 yX9_folded RX9, .methodLinkNest RX0 48 yX9_bounded RX9, .methodLinkNest RX6 116 yX9_bounded RX9, .methodLinkNest RX5 39 yX9_within RX9]
def strs : List (List Int32) := [[115, 112, 97, 110], [103, 117, 101, 115, 115, 101, 114], [114, 111, 119, 115], [116, 97, 103], [97, 103, 101], [99, 111, 115, 116], [100, 101, 101, 112], [112, 97, 114, 116, 115], [112, 117, 116], [97, 100, 100], [116, 97, 107, 101], [99, 111, 112, 121], [115, 117, 109], [108, 101, 115, 115], [98, 101, 108, 111, 119], [115, 97, 109, 101], [111, 100, 100], [103, 111], [115, 116, 111, 112], [82, 78], [82, 82], [82, 82, 76], [82, 76], [76], [], [112, 117, 116], [97, 100, 100], [116, 97, 107, 101], [99, 111, 112, 121], [115, 117, 109], [108, 101, 115, 115], [98, 101, 108, 111, 119], [115, 97, 109, 101], [111, 100, 100], [103, 111], [115, 116, 111, 112], [103, 117, 101, 115, 115, 101, 114], [114, 111, 119, 115], [116, 97, 103], [97, 103, 101], [99, 111, 115, 116], [100, 101, 101, 112], [112, 97, 114, 116, 115], [115, 112, 97, 110]]
def sl (j : Nat) : Nat := (strs.getD j []).length
def sc (j k : Nat) : Int32 := (strs.getD j []).getD k 0
def NS : Nat := 44
def strR : List (String × Nat × String) := [(RX3, 49, "span"), (RX3, 65, "guesser"), (RX3, 149, "rows"), (RX3, 151, "tag"), (RX3, 153, "age"), (RX3, 155, "cost"), (RX3, 157, "deep"), (RX3, 159, "parts"), (RX3, 161, "put"), (RX3, 163, "add"), (RX3, 165, "take"), (RX3, 167, "copy"), (RX3, 169, "sum"), (RX3, 171, "less"), (RX3, 173, "below"), (RX3, 175, "same"), (RX3, 177, "odd"), (RX3, 179, "go"), (RX3, 181, "stop"), (RX3, 183, "RN"), (RX3, 185, "RR"), (RX3, 187, "RRL"), (RX3, 189, "RL"), (RX3, 191, "L"), (RX3, 193, ""), (RX10, 147, "put"), (RX10, 149, "add"), (RX10, 151, "take"), (RX10, 153, "copy"), (RX10, 155, "sum"), (RX10, 157, "less"), (RX10, 159, "below"), (RX10, 161, "same"), (RX10, 163, "odd"), (RX10, 165, "go"), (RX10, 167, "stop"), (RX10, 234, "guesser"), (RX10, 236, "rows"), (RX10, 242, "tag"), (RX10, 244, "age"), (RX10, 246, "cost"), (RX10, 248, "deep"), (RX10, 250, "parts"), (RX10, 265, "span")]
def hdL : List Int32 := [1, 2, 1, 0, 0, 0]
def hdM : List Int32 := [4, 6, 9, 20, 9, 7]
def tysE (E : En) : List (ClassId × FieldType) := [(cA E 20, .int), (cA E 21, .byte), (cA E 22, .boolean), (cA E 23, .long), (cA E 24, .object RX7)]
def SgS (E : En) (A : Nat → Prop) (U : State) : Prop := ∀ i : Nat, i < NS → va_O "java/lang/String" (aK E i) A U U.heap ∧ va_OF "java/lang/String" "coder" "B" (.int 0) (aK E i) A U U.heap ∧ va_OF "java/lang/String" "value" "[B" (.ref (aV E i)) (aK E i) A U U.heap ∧ va_T .byte (aV E i) (sl i) (fun j => .int (sc i j)) A U U.heap
def SgR (E : En) (U : State) : Prop := ∀ (i : Nat) (q : String × Nat × String), strR[i]? = some q → vk_R q.1 q.2.1 q.2.2 (aK E i) U
def SgN (U : State) : Prop := ∀ w ∈ nestW, va_Nw w U
def SgZ (E : En) (A : Nat → Prop) (U : State) : Prop := va_Z "java/lang/String" "COMPACT_STRINGS" "Z" (.int 1) A U U.heap ∧ va_Zq "jdk/internal/util/Preconditions" "SIOOBE_FORMATTER" "Ljava/util/function/BiFunction;" A U U.heap ∧
  va_Z "BranchGuess" "HEAD_LEAST" "[I" (.ref (aS E 0)) A U U.heap ∧ va_T .int (aS E 0) 6 (fun j => .int (hdL.getD j 0)) A U U.heap ∧
  va_Z "BranchGuess" "HEAD_MOST" "[I" (.ref (aS E 1)) A U U.heap ∧ va_T .int (aS E 1) 6 (fun j => .int (hdM.getD j 0)) A U U.heap
def Sg (E : En) (A : Nat → Prop) (U : State) : Prop := va_K (eG E) vwCl (tysE E) U ∧ SgS E A U ∧ SgR E U ∧ SgN U ∧ SgZ E A U
theorem nest_warm : ∀ w ∈ nestW, ∀ {s U : State}, s.WarmedH U.vm → va_Nw w s → va_Nw w U := by
  intro w hw s U hW h
  simp only [nestW, List.mem_cons, List.not_mem_nil, or_false] at hw
  rcases hw with rfl | rfl | rfl | rfl | rfl | rfl | rfl | rfl | rfl | rfl | rfl | rfl | rfl | rfl | rfl | rfl | rfl | rfl | rfl <;> first | exact va_Nw.warmM hW h | exact va_Nw.warmF hW h
theorem nest_same : ∀ w ∈ nestW, w.onTables = true := by decide +kernel
theorem Sg.warm {E : En} {A : Nat → Prop} {s U : State} (h : Sg E A s) (hW : s.WarmedH U.vm) (hq : ∀ a : Nat, a < s.heap.size → ¬ A a → U.heap[a]? = s.heap[a]?) : Sg E A U := by
  obtain ⟨hK, hS, hR, hN, z1, z2, z3, z4, z5, z6⟩ := h
  have ha := hW.alike
  refine ⟨va_K.moved ha hK, fun i hi => ?_, fun i q hi => vk_R.warm hW (hR i q hi), fun w hw => nest_warm w hw hW (hN w hw), (z1.moved ha).kept hq, (z2.moved ha).kept hq, (z3.moved ha).kept hq, (z4.moved ha).kept hq, (z5.moved ha).kept hq, (z6.moved ha).kept hq⟩
  obtain ⟨a1, a2, a3, a4⟩ := hS i hi
  exact ⟨(a1.moved ha).kept hq, (a2.moved ha).kept hq, (a3.moved ha).kept hq, (a4.moved ha).kept hq⟩
theorem Sg.call {E : En} {A : Nat → Prop} {U : State} {g : JFrame} {mk : MethodId} {a : Array Value} (h : Sg E A U) : Sg E A (U.calling g mk a) := by
  obtain ⟨hK, hS, hR, hN, z1, z2, z3, z4, z5, z6⟩ := h
  have ha : U.vm.Alike (U.calling g mk a).vm := Vm.Alike.refl U.vm
  have hq : ∀ b : Nat, b < U.heap.size → ¬ A b → (U.calling g mk a).heap[b]? = U.heap[b]? := fun _ _ _ => rfl
  refine ⟨va_K.moved ha hK, fun i hi => ?_, fun i q hi => vk_R.same (u := U) (U := U.calling g mk a) rfl (hR i q hi), fun w hw => va_Nw.same (u := U) (U := U.calling g mk a) (nest_same w hw) rfl (hN w hw), (z1.moved ha).kept hq, (z2.moved ha).kept hq, (z3.moved ha).kept hq, (z4.moved ha).kept hq, (z5.moved ha).kept hq, (z6.moved ha).kept hq⟩
  obtain ⟨a1, a2, a3, a4⟩ := hS i hi
  exact ⟨(a1.moved ha).kept hq, (a2.moved ha).kept hq, (a3.moved ha).kept hq, (a4.moved ha).kept hq⟩
abbrev Xc : Type := Program × Launch × Env × Room × State × MethodId × Array Value × List Frame × Method × Code × (State → Prop) × (Nat → Prop) × Nat × Nat
abbrev xp (X : Xc) : Program := X.1
abbrev xl (X : Xc) : Launch := X.2.1
abbrev xe (X : Xc) : Env := X.2.2.1
abbrev xR (X : Xc) : Room := X.2.2.2.1
abbrev xs (X : Xc) : State := X.2.2.2.2.1
abbrev xm (X : Xc) : MethodId := X.2.2.2.2.2.1
abbrev xa (X : Xc) : Array Value := X.2.2.2.2.2.2.1
abbrev xb (X : Xc) : List Frame := X.2.2.2.2.2.2.2.1
abbrev xh (X : Xc) : Method := X.2.2.2.2.2.2.2.2.1
abbrev xc (X : Xc) : Code := X.2.2.2.2.2.2.2.2.2.1
abbrev xQ (X : Xc) : State → Prop := X.2.2.2.2.2.2.2.2.2.2.1
abbrev xA (X : Xc) : Nat → Prop := X.2.2.2.2.2.2.2.2.2.2.2.1
abbrev xn (X : Xc) : Nat := X.2.2.2.2.2.2.2.2.2.2.2.2.1
abbrev xo (X : Xc) : Nat := X.2.2.2.2.2.2.2.2.2.2.2.2.2
abbrev xW (X : Xc) (H : Heap) (locs : List Loc) (g : JFrame) : Prop := W (xp X) (xl X) (xe X) (xR X) (xs X) (xm X) (xa X) (xb X) (xh X) (xc X) H locs (xn X) (xo X) (xQ X) g
def hasL (la : Array Slot) (ls : List (Option Value)) : Prop := la.size = ls.length ∧ lv_wf la ∧ ∀ (i : Nat) (v : Value), ls[i]? = some (some v) → la[i]? = some (.val v)
def At (E : En) (X : Xc) (pc : Nat) (ls : List (Option Value)) (st : List Value) (M : Mem) : Prop :=
  ∀ (H : Heap) (locs : List Loc) (la : Array Slot), va_P (eG E) vwCl (wl E M) H → va_S (xA X) (xs X).heap H locs → hasL la ls → xW X H locs (F0 (xm X) pc la st)
def Cx (E : En) (X : Xc) (d : Nat) (cc : ByteArray) (own : String) (nL : Nat) : Prop :=
  (xp X).tables.exec = Jvm.exec ∧ (xc X).code = cc ∧ (xc X).maxLocals = nL ∧ (xs X).vm.findClass own = some (xm X).cls ∧ (∀ w ∈ tb, w.before (xa X) (xs X) = true) ∧ Sg E (xA X) (xs X) ∧ Okk E (xA X) ∧ d ≤ (xR X).frames ∧ 36 * d ≤ (xR X).locals ∧ xn X ≤ (xR X).cells ∧ xo X ≤ (xR X).slots
def Qc (E : En) (A : Nat → Prop) (v : Option Value) (M' : Mem) : Array Value → State → Outcome → State → Prop := fun _ st o t => o = .returned v ∧ va_P (eG E) vwCl (wl E M') t.heap ∧ va_F A st t
def Pc (E : En) (A : Nat → Prop) (av : List Value) (M : Mem) : Array Value → State → Prop := va_Pc av (fun U => Sg E A U ∧ va_P (eG E) vwCl (wl E M) U.heap)
def rmd (d : Nat) : Room := { frames := d, cells := 0, slots := 0, locals := 36 * d }
def Ct (l : Launch) (E : En) (A : Nat → Prop) (d : Nat) (y : MethodName) (cc : ByteArray) (maxL : Nat) (ret : Option FieldType) (av : List Value) (M : Mem) (v : Option Value) (M' : Mem) : Prop :=
  Met l y (Cond.code y cc maxL ret :: tb) (rmd d) (Pc E A av M) (Qc E A v M') 0 0 A
def Rt (E : En) (X : Xc) (ret : Option FieldType) (v : Option Value) (M' : Mem) : Prop := (xh X).sig.returnType = ret ∧ (xh X).locks = false ∧ xQ X = MQ (xb X) (Qc E (xA X) v M') (xa X) (xs X) (xn X) (xo X) (xA X)
theorem Pc.blind {E : En} {A : Nat → Prop} {av : List Value} {M : Mem} : FrameBlind (Pc E A av M) := fun _ _ _ _ h => ⟨h.1, h.2.1.call, h.2.2⟩
-- locals
def ents : List Value → List (Option Value)
  | [] => []
  | v :: vs => if v.category = 2 then some v :: none :: ents vs else some v :: ents vs
def ent (av : List Value) (n : Nat) : List (Option Value) := ents av ++ List.replicate (n - (ents av).length) none
theorem ents_len (av : List Value) : (ents av).length = (lg_sl av).length := by
  induction av with
  | nil => rfl
  | cons v vs ih =>
    simp only [ents, lg_sl, List.flatMap_cons] at ih ⊢
    by_cases h : v.category = 2
    · simp [h, ih]
    · simp [h, ih]
theorem ents_at (av : List Value) : ∀ (j i : Nat) (v : Value), (ents av)[i]? = some (some v) → (j + i, v) ∈ lv_args j av := by
  induction av with
  | nil => intro j i v h; simp [ents] at h
  | cons w vs ih =>
    intro j i v h
    simp only [ents] at h
    by_cases hc : w.category = 2
    · rw [if_pos hc] at h
      match i, h with
      | 0, h => simp at h; subst h; simp [lv_args]
      | 1, h => simp at h
      | i + 2, h =>
        simp at h
        have := ih (j + 2) i v h
        simp only [lv_args, if_pos hc]
        rw [show j + (i + 2) = j + 2 + i by omega]
        exact List.mem_cons_of_mem _ this
    · rw [if_neg hc] at h
      match i, h with
      | 0, h => simp at h; subst h; simp [lv_args]
      | i + 1, h =>
        simp at h
        have := ih (j + 1) i v h
        simp only [lv_args, if_neg hc]
        rw [show j + (i + 1) = j + 1 + i by omega]
        exact List.mem_cons_of_mem _ this
theorem has_ent (av : List Value) {n : Nat} (h : (ents av).length ≤ n) : hasL ((lg_sl av ++ List.replicate (n - (lg_sl av).length) Slot.unset).toArray) (ent av n) := by
  have hl := lv_entry av (n := n) (by rw [← ents_len]; exact h)
  refine ⟨?_, hl.2.1, fun i v hv => ?_⟩
  · rw [hl.1]; simp [ent]; omega
  · have : (ents av)[i]? = some (some v) := by
      unfold ent at hv
      rw [List.getElem?_append] at hv
      split at hv
      · exact hv
      · rw [List.getElem?_replicate] at hv
        split at hv <;> simp at hv
    have h2 := ents_at av 0 i v this
    rw [Nat.zero_add] at h2
    exact hl.2.2 (i, v) h2
def prs (ls : List (Option Value)) : List (Nat × Value) := ls.zipIdx.filterMap (fun q => q.1.map (fun v => (q.2, v)))
theorem prs_mem {ls : List (Option Value)} {i : Nat} {v : Value} : (i, v) ∈ prs ls ↔ ls[i]? = some (some v) := by
  simp only [prs, List.mem_filterMap]
  constructor
  · rintro ⟨⟨a, b⟩, h1, h2⟩
    cases a with
    | none => simp at h2
    | some w =>
      simp at h2
      obtain ⟨e1, e2⟩ := h2
      subst e1; subst e2
      have := List.mem_zipIdx_iff_getElem?.mp h1
      exact this
  · intro h
    exact ⟨(some v, i), List.mem_zipIdx_iff_getElem?.mpr h, by simp⟩
theorem has_lv {la : Array Slot} {ls : List (Option Value)} (h : hasL la ls) : lv_has la ls.length (prs ls) := ⟨h.1, h.2.1, fun q hq => h.2.2 q.1 q.2 (prs_mem.mp hq)⟩
def nl : Option Value → Bool
  | some v => !(v.category == 2)
  | none => true
theorem has_st {la la' : Array Slot} {ls : List (Option Value)} {i : Nat} {v : Value} (_h : hasL la ls) (hi : i < ls.length) (hp : ∀ j, j + 1 = i → ∀ w, ls[j]? = some (some w) → ¬ w.category = 2)
    (h' : lv_has la' ls.length ((i, v) :: (prs ls).filter (fun q => !(q.1 == i) && !(q.1 + 1 == i && q.2.category == 2)))) : hasL la' (ls.set i (some v)) := by
  refine ⟨by rw [h'.1]; simp, h'.2.1, fun j w hj => ?_⟩
  rw [List.getElem?_set] at hj
  by_cases e : i = j
  · subst e
    rw [if_pos rfl, if_pos hi] at hj
    simp at hj; subst hj
    exact h'.2.2 (i, v) List.mem_cons_self
  · rw [if_neg e] at hj
    refine h'.2.2 (j, w) (List.mem_cons_of_mem _ (List.mem_filter.mpr ⟨prs_mem.mpr hj, ?_⟩))
    have e' : ¬ j = i := fun x => e x.symm
    simp [e']
    by_cases hji : j + 1 = i
    · exact Or.inr (hp j hji w hj)
    · exact Or.inl hji
theorem has_stL {la la' : Array Slot} {ls : List (Option Value)} {i : Nat} {v : Value} (_h : hasL la ls) (hi : i + 1 < ls.length) (hp : ∀ j, j + 1 = i → ∀ w, ls[j]? = some (some w) → ¬ w.category = 2)
    (h' : lv_has la' ls.length ((i, v) :: (prs ls).filter (fun q => !(q.1 == i) && (!(q.1 == i + 1) && !(q.1 + 1 == i && q.2.category == 2))))) : hasL la' ((ls.set i (some v)).set (i + 1) none) := by
  refine ⟨by rw [h'.1]; simp, h'.2.1, fun j w hj => ?_⟩
  rw [List.getElem?_set] at hj
  by_cases e1 : i + 1 = j
  · rw [if_pos e1] at hj
    split at hj <;> simp at hj
  rw [if_neg e1, List.getElem?_set] at hj
  by_cases e : i = j
  · subst e
    rw [if_pos rfl, if_pos (by omega)] at hj
    simp at hj; subst hj
    exact h'.2.2 (i, v) List.mem_cons_self
  · rw [if_neg e] at hj
    refine h'.2.2 (j, w) (List.mem_cons_of_mem _ (List.mem_filter.mpr ⟨prs_mem.mpr hj, ?_⟩))
    have e' : ¬ j = i := fun x => e x.symm
    have e2 : ¬ j = i + 1 := fun x => e1 x.symm
    simp [e', e2]
    by_cases hji : j + 1 = i
    · exact Or.inr (hp j hji w hj)
    · exact Or.inl hji
theorem has_fg {la : Array Slot} {ls : List (Option Value)} {i : Nat} (h : hasL la ls) : hasL la (ls.set i none) := by
  refine ⟨by rw [h.1]; simp, h.2.1, fun j w hj => ?_⟩
  rw [List.getElem?_set] at hj
  split at hj
  · split at hj <;> simp at hj
  · exact h.2.2 j w hj
end
section
/-! A row an instruction, over At. Written by wip/whole/mk05.py. -/
section Rows
variable {E : En} {X : Xc} {d : Nat} {cc : ByteArray} {own : String} {nL pc : Nat} {ls : List (Option Value)} {st : List Value} {M : Mem}
theorem s_iadd (C : Cx E X d cc own nL) {x y : Int32} (hdg : decode cc pc = .ok (.iadd, 1)) (k : At E X (pc + 1) ls (.int (x + y) :: st) M) : At E X pc ls (.int y :: .int x :: st) M :=
  fun H locs la hP hS hl => lv_iadd C.1 C.2.1 hdg (k H locs la hP hS hl)
theorem s_isub (C : Cx E X d cc own nL) {x y : Int32} (hdg : decode cc pc = .ok (.isub, 1)) (k : At E X (pc + 1) ls (.int (x - y) :: st) M) : At E X pc ls (.int y :: .int x :: st) M :=
  fun H locs la hP hS hl => lv_isub C.1 C.2.1 hdg (k H locs la hP hS hl)
theorem s_imul (C : Cx E X d cc own nL) {x y : Int32} (hdg : decode cc pc = .ok (.imul, 1)) (k : At E X (pc + 1) ls (.int (x * y) :: st) M) : At E X pc ls (.int y :: .int x :: st) M :=
  fun H locs la hP hS hl => lv_imul C.1 C.2.1 hdg (k H locs la hP hS hl)
theorem s_iand (C : Cx E X d cc own nL) {x y : Int32} (hdg : decode cc pc = .ok (.iand, 1)) (k : At E X (pc + 1) ls (.int (x &&& y) :: st) M) : At E X pc ls (.int y :: .int x :: st) M :=
  fun H locs la hP hS hl => lv_iand C.1 C.2.1 hdg (k H locs la hP hS hl)
theorem s_ior (C : Cx E X d cc own nL) {x y : Int32} (hdg : decode cc pc = .ok (.ior, 1)) (k : At E X (pc + 1) ls (.int (x ||| y) :: st) M) : At E X pc ls (.int y :: .int x :: st) M :=
  fun H locs la hP hS hl => lv_ior C.1 C.2.1 hdg (k H locs la hP hS hl)
theorem s_ixor (C : Cx E X d cc own nL) {x y : Int32} (hdg : decode cc pc = .ok (.ixor, 1)) (k : At E X (pc + 1) ls (.int (x ^^^ y) :: st) M) : At E X pc ls (.int y :: .int x :: st) M :=
  fun H locs la hP hS hl => lv_ixor C.1 C.2.1 hdg (k H locs la hP hS hl)
theorem s_ishl (C : Cx E X d cc own nL) {x y : Int32} (hdg : decode cc pc = .ok (.ishl, 1)) (k : At E X (pc + 1) ls (.int (x <<< (y &&& 31)) :: st) M) : At E X pc ls (.int y :: .int x :: st) M :=
  fun H locs la hP hS hl => lv_ishl C.1 C.2.1 hdg (k H locs la hP hS hl)
theorem s_ishr (C : Cx E X d cc own nL) {x y : Int32} (hdg : decode cc pc = .ok (.ishr, 1)) (k : At E X (pc + 1) ls (.int (x >>> (y &&& 31)) :: st) M) : At E X pc ls (.int y :: .int x :: st) M :=
  fun H locs la hP hS hl => lv_ishr C.1 C.2.1 hdg (k H locs la hP hS hl)
theorem s_ladd (C : Cx E X d cc own nL) {x y : Int64} (hdg : decode cc pc = .ok (.ladd, 1)) (k : At E X (pc + 1) ls (.long (x + y) :: st) M) : At E X pc ls (.long y :: .long x :: st) M :=
  fun H locs la hP hS hl => lv_ladd C.1 C.2.1 hdg (k H locs la hP hS hl)
theorem s_lsub (C : Cx E X d cc own nL) {x y : Int64} (hdg : decode cc pc = .ok (.lsub, 1)) (k : At E X (pc + 1) ls (.long (x - y) :: st) M) : At E X pc ls (.long y :: .long x :: st) M :=
  fun H locs la hP hS hl => lv_lsub C.1 C.2.1 hdg (k H locs la hP hS hl)
theorem s_land (C : Cx E X d cc own nL) {x y : Int64} (hdg : decode cc pc = .ok (.land, 1)) (k : At E X (pc + 1) ls (.long (x &&& y) :: st) M) : At E X pc ls (.long y :: .long x :: st) M :=
  fun H locs la hP hS hl => lv_land C.1 C.2.1 hdg (k H locs la hP hS hl)
theorem s_lor (C : Cx E X d cc own nL) {x y : Int64} (hdg : decode cc pc = .ok (.lor, 1)) (k : At E X (pc + 1) ls (.long (x ||| y) :: st) M) : At E X pc ls (.long y :: .long x :: st) M :=
  fun H locs la hP hS hl => lv_lor C.1 C.2.1 hdg (k H locs la hP hS hl)
theorem s_lxor (C : Cx E X d cc own nL) {x y : Int64} (hdg : decode cc pc = .ok (.lxor, 1)) (k : At E X (pc + 1) ls (.long (x ^^^ y) :: st) M) : At E X pc ls (.long y :: .long x :: st) M :=
  fun H locs la hP hS hl => lv_lxor C.1 C.2.1 hdg (k H locs la hP hS hl)
theorem s_lshl (C : Cx E X d cc own nL) {x : Int64} {y : Int32} (hdg : decode cc pc = .ok (.lshl, 1)) (k : At E X (pc + 1) ls (.long (x <<< (y.toInt64 &&& 63)) :: st) M) : At E X pc ls (.int y :: .long x :: st) M :=
  fun H locs la hP hS hl => lv_lshl C.1 C.2.1 hdg rfl (k H locs la hP hS hl)
theorem s_lshr (C : Cx E X d cc own nL) {x : Int64} {y : Int32} (hdg : decode cc pc = .ok (.lshr, 1)) (k : At E X (pc + 1) ls (.long (x >>> (y.toInt64 &&& 63)) :: st) M) : At E X pc ls (.int y :: .long x :: st) M :=
  fun H locs la hP hS hl => lv_lshr C.1 C.2.1 hdg rfl (k H locs la hP hS hl)
theorem s_lushr (C : Cx E X d cc own nL) {x : Int64} {y : Int32} (hdg : decode cc pc = .ok (.lushr, 1)) (k : At E X (pc + 1) ls (.long ((x.toUInt64 >>> (y.toInt64.toUInt64 &&& Int64.toUInt64 63)).toInt64) :: st) M) : At E X pc ls (.int y :: .long x :: st) M :=
  fun H locs la hP hS hl => lv_lushr C.1 C.2.1 hdg rfl (k H locs la hP hS hl)
theorem s_i2l (C : Cx E X d cc own nL) {x : Int32} (hdg : decode cc pc = .ok (.i2l, 1)) (k : At E X (pc + 1) ls (.long x.toInt64 :: st) M) : At E X pc ls (.int x :: st) M :=
  fun H locs la hP hS hl => lv_i2l C.1 C.2.1 hdg rfl (k H locs la hP hS hl)
theorem s_l2i (C : Cx E X d cc own nL) {x : Int64} (hdg : decode cc pc = .ok (.l2i, 1)) (k : At E X (pc + 1) ls (.int x.toInt32 :: st) M) : At E X pc ls (.long x :: st) M :=
  fun H locs la hP hS hl => lv_l2i C.1 C.2.1 hdg rfl (k H locs la hP hS hl)
theorem s_i2b (C : Cx E X d cc own nL) {x : Int32} (hdg : decode cc pc = .ok (.i2b, 1)) (k : At E X (pc + 1) ls (.int x.toInt8.toInt32 :: st) M) : At E X pc ls (.int x :: st) M :=
  fun H locs la hP hS hl => lv_i2b C.1 C.2.1 hdg rfl (k H locs la hP hS hl)
theorem s_lcmp (C : Cx E X d cc own nL) {x y : Int64} (hdg : decode cc pc = .ok (.lcmp, 1)) (k : At E X (pc + 1) ls (.int (lg_cmp x y) :: st) M) : At E X pc ls (.long y :: .long x :: st) M :=
  fun H locs la hP hS hl => W.lcmp C.1 C.2.1 hdg (k H locs la hP hS hl)
theorem s_iconst (C : Cx E X d cc own nL) {n : Int} {v : Int32} (hv : Int32.ofInt n = v) (hdg : decode cc pc = .ok (.iconst n, 1)) (k : At E X (pc + 1) ls (.int v :: st) M) : At E X pc ls (st) M :=
  fun H locs la hP hS hl => lv_iconst C.1 C.2.1 hdg hv (k H locs la hP hS hl)
theorem s_bipush (C : Cx E X d cc own nL) {n : Int} {v : Int32} (hv : (Int8.ofInt n).toInt32 = v) (hdg : decode cc pc = .ok (.bipush n, 2)) (k : At E X (pc + 2) ls (.int v :: st) M) : At E X pc ls (st) M :=
  fun H locs la hP hS hl => lv_bipush C.1 C.2.1 hdg hv (k H locs la hP hS hl)
theorem s_sipush (C : Cx E X d cc own nL) {n : Int} {v : Int32} (hv : (Int16.ofInt n).toInt32 = v) (hdg : decode cc pc = .ok (.sipush n, 3)) (k : At E X (pc + 3) ls (.int v :: st) M) : At E X pc ls (st) M :=
  fun H locs la hP hS hl => lv_sipush C.1 C.2.1 hdg hv (k H locs la hP hS hl)
theorem s_lconst (C : Cx E X d cc own nL) {n : Fin 2} {v : Int64} (hv : Int64.ofNat (n : Nat) = v) (hdg : decode cc pc = .ok (.lconst n, 1)) (k : At E X (pc + 1) ls (.long v :: st) M) : At E X pc ls (st) M :=
  fun H locs la hP hS hl => lv_lconst C.1 C.2.1 hdg hv (k H locs la hP hS hl)
theorem s_ldc (C : Cx E X d cc own nL) {n : Nat} {v : Int32} (hw : Cond.constant own n v ∈ tb) (hdg : decode cc pc = .ok (.ldc n, 2)) (k : At E X (pc + 2) ls (.int v :: st) M) : At E X pc ls (st) M :=
  fun H locs la hP hS hl => lv_ldc C.1 C.2.1 C.2.2.2.1 (C.2.2.2.2.1 _ hw) hdg (k H locs la hP hS hl)
theorem s_ldc2 (C : Cx E X d cc own nL) {n : Nat} {v : Int64} (hw : Cond.constantLong own n v ∈ tb) (hdg : decode cc pc = .ok (.ldc2_w n, 3)) (k : At E X (pc + 3) ls (.long v :: st) M) : At E X pc ls (st) M :=
  fun H locs la hP hS hl => lv_ldc2 C.1 C.2.1 C.2.2.2.1 (C.2.2.2.2.1 _ hw) hdg (k H locs la hP hS hl)
theorem s_dup (C : Cx E X d cc own nL) {va : Value} (h1 : va.category = 1) (hdg : decode cc pc = .ok (.dup, 1)) (k : At E X (pc + 1) ls (va :: va :: st) M) : At E X pc ls (va :: st) M :=
  fun H locs la hP hS hl => lv_dup C.1 C.2.1 hdg h1 (k H locs la hP hS hl)
theorem s_pop (C : Cx E X d cc own nL) {va : Value} (h1 : va.category = 1) (hdg : decode cc pc = .ok (.pop, 1)) (k : At E X (pc + 1) ls (st) M) : At E X pc ls (va :: st) M :=
  fun H locs la hP hS hl => lv_pop C.1 C.2.1 hdg h1 (k H locs la hP hS hl)
theorem s_dup2 (C : Cx E X d cc own nL) {va vb : Value} (h1 : va.category = 1) (h2 : vb.category = 1) (hdg : decode cc pc = .ok (.dup2, 1)) (k : At E X (pc + 1) ls (va :: vb :: va :: vb :: st) M) : At E X pc ls (va :: vb :: st) M :=
  fun H locs la hP hS hl => lv_dup2_11 C.1 C.2.1 hdg h1 h2 (k H locs la hP hS hl)
theorem s_dup_x1 (C : Cx E X d cc own nL) {va vb : Value} (h1 : va.category = 1) (h2 : vb.category = 1) (hdg : decode cc pc = .ok (.dup_x1, 1)) (k : At E X (pc + 1) ls (va :: vb :: va :: st) M) : At E X pc ls (va :: vb :: st) M :=
  fun H locs la hP hS hl => lv_dup_x1 C.1 C.2.1 hdg h1 h2 (k H locs la hP hS hl)
theorem s_idiv (C : Cx E X d cc own nL) {x y : Int32} {α : Type} {b : Option α} {r : α} (h : ck (!decide (y = 0)) b = some r) (hdg : decode cc pc = .ok (.idiv, 1)) (k : b = some r → At E X (pc + 1) ls (.int (x / y) :: st) M) : At E X pc ls (.int y :: .int x :: st) M :=
  fun H locs la hP hS hl => lv_idiv C.1 C.2.1 hdg (by have := (ck_e h).1; simpa using this) (k (ck_e h).2 H locs la hP hS hl)
theorem s_irem (C : Cx E X d cc own nL) {x y : Int32} {α : Type} {b : Option α} {r : α} (h : ck (!decide (y = 0)) b = some r) (hdg : decode cc pc = .ok (.irem, 1)) (k : b = some r → At E X (pc + 1) ls (.int (irm x y) :: st) M) : At E X pc ls (.int y :: .int x :: st) M :=
  fun H locs la hP hS hl => lv_irem C.1 C.2.1 hdg (by have := (ck_e h).1; simpa using this) (k (ck_e h).2 H locs la hP hS hl)
theorem s_idivc (C : Cx E X d cc own nL) {x y : Int32} (h : ¬ y = 0) (hdg : decode cc pc = .ok (.idiv, 1)) (k : At E X (pc + 1) ls (.int (x / y) :: st) M) : At E X pc ls (.int y :: .int x :: st) M :=
  fun H locs la hP hS hl => lv_idiv C.1 C.2.1 hdg h (k H locs la hP hS hl)
theorem s_iremc (C : Cx E X d cc own nL) {x y : Int32} (h : ¬ y = 0) (hdg : decode cc pc = .ok (.irem, 1)) (k : At E X (pc + 1) ls (.int (irm x y) :: st) M) : At E X pc ls (.int y :: .int x :: st) M :=
  fun H locs la hP hS hl => lv_irem C.1 C.2.1 hdg h (k H locs la hP hS hl)
theorem s_goto (C : Cx E X d cc own nL) {off : Int} {tgt : Nat} (hdg : decode cc pc = .ok (.goto off, 3)) (ht : (pc : Int) + off = (tgt : Int)) (k : At E X tgt ls st M) : At E X pc ls st M :=
  fun H locs la hP hS hl => lv_goto C.1 C.2.1 hdg ht (k H locs la hP hS hl)
theorem s_if_eq (C : Cx E X d cc own nL) {x : Int32} {off : Int} {tgt : Nat} {α : Type} {a b : Option α} {r : α} (h : (if x = 0 then a else b) = some r) (hdg : decode cc pc = .ok (.ifCond .eq off, 3)) (ht : (pc : Int) + off = (tgt : Int)) (k : (a = some r → At E X tgt ls st M) ∧ (b = some r → At E X (pc + 3) ls st M)) : At E X pc ls (.int x :: st) M :=
  fun H locs la hP hS hl => lv_if_eq C.1 C.2.1 hdg ht (fun hc => k.1 (by rw [if_pos hc] at h; exact h) H locs la hP hS hl) (fun hc => k.2 (by rw [if_neg hc] at h; exact h) H locs la hP hS hl)
theorem s_ic_eq (C : Cx E X d cc own nL) {x y : Int32} {off : Int} {tgt : Nat} {α : Type} {a b : Option α} {r : α} (h : (if x = y then a else b) = some r) (hdg : decode cc pc = .ok (.if_icmp .eq off, 3)) (ht : (pc : Int) + off = (tgt : Int)) (k : (a = some r → At E X tgt ls st M) ∧ (b = some r → At E X (pc + 3) ls st M)) : At E X pc ls (.int y :: .int x :: st) M :=
  fun H locs la hP hS hl => lv_icmp_eq C.1 C.2.1 hdg ht (fun hc => k.1 (by rw [if_pos hc] at h; exact h) H locs la hP hS hl) (fun hc => k.2 (by rw [if_neg hc] at h; exact h) H locs la hP hS hl)
theorem s_if_ne (C : Cx E X d cc own nL) {x : Int32} {off : Int} {tgt : Nat} {α : Type} {a b : Option α} {r : α} (h : (if x = 0 then b else a) = some r) (hdg : decode cc pc = .ok (.ifCond .ne off, 3)) (ht : (pc : Int) + off = (tgt : Int)) (k : (a = some r → At E X tgt ls st M) ∧ (b = some r → At E X (pc + 3) ls st M)) : At E X pc ls (.int x :: st) M :=
  fun H locs la hP hS hl => lv_if_ne C.1 C.2.1 hdg ht (fun hc => k.1 (by rw [if_neg hc] at h; exact h) H locs la hP hS hl) (fun hc => k.2 (by rw [if_pos hc] at h; exact h) H locs la hP hS hl)
theorem s_ic_ne (C : Cx E X d cc own nL) {x y : Int32} {off : Int} {tgt : Nat} {α : Type} {a b : Option α} {r : α} (h : (if x = y then b else a) = some r) (hdg : decode cc pc = .ok (.if_icmp .ne off, 3)) (ht : (pc : Int) + off = (tgt : Int)) (k : (a = some r → At E X tgt ls st M) ∧ (b = some r → At E X (pc + 3) ls st M)) : At E X pc ls (.int y :: .int x :: st) M :=
  fun H locs la hP hS hl => lv_icmp_ne C.1 C.2.1 hdg ht (fun hc => k.1 (by rw [if_neg hc] at h; exact h) H locs la hP hS hl) (fun hc => k.2 (by rw [if_pos hc] at h; exact h) H locs la hP hS hl)
theorem s_if_lt (C : Cx E X d cc own nL) {x : Int32} {off : Int} {tgt : Nat} {α : Type} {a b : Option α} {r : α} (h : (if x < 0 then a else b) = some r) (hdg : decode cc pc = .ok (.ifCond .lt off, 3)) (ht : (pc : Int) + off = (tgt : Int)) (k : (a = some r → At E X tgt ls st M) ∧ (b = some r → At E X (pc + 3) ls st M)) : At E X pc ls (.int x :: st) M :=
  fun H locs la hP hS hl => lv_if_lt C.1 C.2.1 hdg ht (fun hc => k.1 (by rw [if_pos hc] at h; exact h) H locs la hP hS hl) (fun hc => k.2 (by rw [if_neg hc] at h; exact h) H locs la hP hS hl)
theorem s_ic_lt (C : Cx E X d cc own nL) {x y : Int32} {off : Int} {tgt : Nat} {α : Type} {a b : Option α} {r : α} (h : (if x < y then a else b) = some r) (hdg : decode cc pc = .ok (.if_icmp .lt off, 3)) (ht : (pc : Int) + off = (tgt : Int)) (k : (a = some r → At E X tgt ls st M) ∧ (b = some r → At E X (pc + 3) ls st M)) : At E X pc ls (.int y :: .int x :: st) M :=
  fun H locs la hP hS hl => lv_icmp_lt C.1 C.2.1 hdg ht (fun hc => k.1 (by rw [if_pos hc] at h; exact h) H locs la hP hS hl) (fun hc => k.2 (by rw [if_neg hc] at h; exact h) H locs la hP hS hl)
theorem s_if_ge (C : Cx E X d cc own nL) {x : Int32} {off : Int} {tgt : Nat} {α : Type} {a b : Option α} {r : α} (h : (if 0 ≤ x then a else b) = some r) (hdg : decode cc pc = .ok (.ifCond .ge off, 3)) (ht : (pc : Int) + off = (tgt : Int)) (k : (a = some r → At E X tgt ls st M) ∧ (b = some r → At E X (pc + 3) ls st M)) : At E X pc ls (.int x :: st) M :=
  fun H locs la hP hS hl => lv_if_ge C.1 C.2.1 hdg ht (fun hc => k.1 (by rw [if_pos hc] at h; exact h) H locs la hP hS hl) (fun hc => k.2 (by rw [if_neg hc] at h; exact h) H locs la hP hS hl)
theorem s_ic_ge (C : Cx E X d cc own nL) {x y : Int32} {off : Int} {tgt : Nat} {α : Type} {a b : Option α} {r : α} (h : (if y ≤ x then a else b) = some r) (hdg : decode cc pc = .ok (.if_icmp .ge off, 3)) (ht : (pc : Int) + off = (tgt : Int)) (k : (a = some r → At E X tgt ls st M) ∧ (b = some r → At E X (pc + 3) ls st M)) : At E X pc ls (.int y :: .int x :: st) M :=
  fun H locs la hP hS hl => lv_icmp_ge C.1 C.2.1 hdg ht (fun hc => k.1 (by rw [if_pos hc] at h; exact h) H locs la hP hS hl) (fun hc => k.2 (by rw [if_neg hc] at h; exact h) H locs la hP hS hl)
theorem s_if_gt (C : Cx E X d cc own nL) {x : Int32} {off : Int} {tgt : Nat} {α : Type} {a b : Option α} {r : α} (h : (if 0 < x then a else b) = some r) (hdg : decode cc pc = .ok (.ifCond .gt off, 3)) (ht : (pc : Int) + off = (tgt : Int)) (k : (a = some r → At E X tgt ls st M) ∧ (b = some r → At E X (pc + 3) ls st M)) : At E X pc ls (.int x :: st) M :=
  fun H locs la hP hS hl => lv_if_gt C.1 C.2.1 hdg ht (fun hc => k.1 (by rw [if_pos hc] at h; exact h) H locs la hP hS hl) (fun hc => k.2 (by rw [if_neg hc] at h; exact h) H locs la hP hS hl)
theorem s_ic_gt (C : Cx E X d cc own nL) {x y : Int32} {off : Int} {tgt : Nat} {α : Type} {a b : Option α} {r : α} (h : (if y < x then a else b) = some r) (hdg : decode cc pc = .ok (.if_icmp .gt off, 3)) (ht : (pc : Int) + off = (tgt : Int)) (k : (a = some r → At E X tgt ls st M) ∧ (b = some r → At E X (pc + 3) ls st M)) : At E X pc ls (.int y :: .int x :: st) M :=
  fun H locs la hP hS hl => lv_icmp_gt C.1 C.2.1 hdg ht (fun hc => k.1 (by rw [if_pos hc] at h; exact h) H locs la hP hS hl) (fun hc => k.2 (by rw [if_neg hc] at h; exact h) H locs la hP hS hl)
theorem s_if_le (C : Cx E X d cc own nL) {x : Int32} {off : Int} {tgt : Nat} {α : Type} {a b : Option α} {r : α} (h : (if x ≤ 0 then a else b) = some r) (hdg : decode cc pc = .ok (.ifCond .le off, 3)) (ht : (pc : Int) + off = (tgt : Int)) (k : (a = some r → At E X tgt ls st M) ∧ (b = some r → At E X (pc + 3) ls st M)) : At E X pc ls (.int x :: st) M :=
  fun H locs la hP hS hl => lv_if_le C.1 C.2.1 hdg ht (fun hc => k.1 (by rw [if_pos hc] at h; exact h) H locs la hP hS hl) (fun hc => k.2 (by rw [if_neg hc] at h; exact h) H locs la hP hS hl)
theorem s_ic_le (C : Cx E X d cc own nL) {x y : Int32} {off : Int} {tgt : Nat} {α : Type} {a b : Option α} {r : α} (h : (if x ≤ y then a else b) = some r) (hdg : decode cc pc = .ok (.if_icmp .le off, 3)) (ht : (pc : Int) + off = (tgt : Int)) (k : (a = some r → At E X tgt ls st M) ∧ (b = some r → At E X (pc + 3) ls st M)) : At E X pc ls (.int y :: .int x :: st) M :=
  fun H locs la hP hS hl => lv_icmp_le C.1 C.2.1 hdg ht (fun hc => k.1 (by rw [if_pos hc] at h; exact h) H locs la hP hS hl) (fun hc => k.2 (by rw [if_neg hc] at h; exact h) H locs la hP hS hl)
end Rows
theorem s_fg {E : En} {X : Xc} {pc : Nat} {ls : List (Option Value)} {st : List Value} {M : Mem} (i : Nat) (k : At E X pc (ls.set i none) st M) : At E X pc ls st M := fun H locs la hP hS hl => k H locs la hP hS (has_fg hl)
section Loc
variable {E : En} {X : Xc} {d : Nat} {cc : ByteArray} {own : String} {nL pc : Nat} {st : List Value} {M : Mem}
theorem g_il {ls : List (Option Value)} {i ln : Nat} {x : Int32} (C : Cx E X d cc own nL) (hv : ls[i]? = some (some (.int x))) (hdg : (∃ k : Fin 4, (k : Nat) = i ∧ decode cc pc = .ok (.iload_n k, 1) ∧ ln = 1) ∨ (decode cc pc = .ok (.iload i, 2) ∧ ln = 2)) (k : At E X (pc + ln) ls (.int x :: st) M) : At E X pc ls st M := by
  intro H locs la hP hS hl
  rcases hdg with ⟨q, e, h, rfl⟩ | ⟨h, rfl⟩
  · exact lv_iload_n C.1 C.2.1 h e (hl.2.2 i _ hv) (k H locs la hP hS hl)
  · exact lv_iload C.1 C.2.1 h (hl.2.2 i _ hv) (k H locs la hP hS hl)
theorem g_ll {ls : List (Option Value)} {i ln : Nat} {x : Int64} (C : Cx E X d cc own nL) (hv : ls[i]? = some (some (.long x))) (hdg : (∃ k : Fin 4, (k : Nat) = i ∧ decode cc pc = .ok (.lload_n k, 1) ∧ ln = 1) ∨ (decode cc pc = .ok (.lload i, 2) ∧ ln = 2)) (k : At E X (pc + ln) ls (.long x :: st) M) : At E X pc ls st M := by
  intro H locs la hP hS hl
  rcases hdg with ⟨q, e, h, rfl⟩ | ⟨h, rfl⟩
  · exact lv_lload_n C.1 C.2.1 h e (hl.2.2 i _ hv) (k H locs la hP hS hl)
  · exact lv_lload C.1 C.2.1 h (hl.2.2 i _ hv) (k H locs la hP hS hl)
theorem g_al {ls : List (Option Value)} {i ln : Nat} {x : Nat} (C : Cx E X d cc own nL) (hv : ls[i]? = some (some (.ref x))) (hdg : (∃ k : Fin 4, (k : Nat) = i ∧ decode cc pc = .ok (.aload_n k, 1) ∧ ln = 1) ∨ (decode cc pc = .ok (.aload i, 2) ∧ ln = 2)) (k : At E X (pc + ln) ls (.ref x :: st) M) : At E X pc ls st M := by
  intro H locs la hP hS hl
  rcases hdg with ⟨q, e, h, rfl⟩ | ⟨h, rfl⟩
  · exact lv_aload_n C.1 C.2.1 h e (hl.2.2 i _ hv) (k H locs la hP hS hl)
  · exact lv_aload C.1 C.2.1 h (hl.2.2 i _ hv) (k H locs la hP hS hl)
theorem g_is {ls : List (Option Value)} {i ln : Nat} {x : Int32} (C : Cx E X d cc own nL) (hi : i < ls.length) (hp : ∀ j, j + 1 = i → ∀ w, ls[j]? = some (some w) → ¬ w.category = 2) (hdg : (∃ k : Fin 4, (k : Nat) = i ∧ decode cc pc = .ok (.istore_n k, 1) ∧ ln = 1) ∨ (decode cc pc = .ok (.istore i, 2) ∧ ln = 2)) (k : At E X (pc + ln) (ls.set i (some (.int x))) st M) : At E X pc ls (.int x :: st) M := by
  intro H locs la hP hS hl
  rcases hdg with ⟨q, e, h, rfl⟩ | ⟨h, rfl⟩
  · exact lv_istore_n C.1 C.2.1 h e (has_lv hl) hi rfl (fun la' h' => k H locs la' hP hS (has_st hl hi hp h'))
  · exact lv_istore C.1 C.2.1 h (has_lv hl) hi rfl (fun la' h' => k H locs la' hP hS (has_st hl hi hp h'))
theorem g_as {ls : List (Option Value)} {i ln : Nat} {x : Nat} (C : Cx E X d cc own nL) (hi : i < ls.length) (hp : ∀ j, j + 1 = i → ∀ w, ls[j]? = some (some w) → ¬ w.category = 2) (hdg : (∃ k : Fin 4, (k : Nat) = i ∧ decode cc pc = .ok (.astore_n k, 1) ∧ ln = 1) ∨ (decode cc pc = .ok (.astore i, 2) ∧ ln = 2)) (k : At E X (pc + ln) (ls.set i (some (.ref x))) st M) : At E X pc ls (.ref x :: st) M := by
  intro H locs la hP hS hl
  rcases hdg with ⟨q, e, h, rfl⟩ | ⟨h, rfl⟩
  · exact lv_astore_n C.1 C.2.1 h e (has_lv hl) hi rfl (fun la' h' => k H locs la' hP hS (has_st hl hi hp h'))
  · exact lv_astore C.1 C.2.1 h (has_lv hl) hi rfl (fun la' h' => k H locs la' hP hS (has_st hl hi hp h'))
theorem g_ls {ls : List (Option Value)} {i ln : Nat} {x : Int64} (C : Cx E X d cc own nL) (hi : i + 1 < ls.length) (hp : ∀ j, j + 1 = i → ∀ w, ls[j]? = some (some w) → ¬ w.category = 2) (hdg : (∃ k : Fin 4, (k : Nat) = i ∧ decode cc pc = .ok (.lstore_n k, 1) ∧ ln = 1) ∨ (decode cc pc = .ok (.lstore i, 2) ∧ ln = 2)) (k : At E X (pc + ln) ((ls.set i (some (.long x))).set (i + 1) none) st M) : At E X pc ls (.long x :: st) M := by
  intro H locs la hP hS hl
  rcases hdg with ⟨q, e, h, rfl⟩ | ⟨h, rfl⟩
  · exact lv_lstore_n C.1 C.2.1 h e (has_lv hl) hi rfl (fun la' h' => k H locs la' hP hS (has_stL hl hi hp h'))
  · exact lv_lstore C.1 C.2.1 h (has_lv hl) hi rfl (fun la' h' => k H locs la' hP hS (has_stL hl hi hp h'))
theorem g_ii {ls : List (Option Value)} {i : Nat} {n : Int} {x : Int32} (C : Cx E X d cc own nL) (hv : ls[i]? = some (some (.int x))) (hp : ∀ j, j + 1 = i → ∀ w, ls[j]? = some (some w) → ¬ w.category = 2) (hdg : decode cc pc = .ok (.iinc i n, 3)) (k : At E X (pc + 3) (ls.set i (some (.int (x + Int32.ofInt n)))) st M) : At E X pc ls st M := by
  intro H locs la hP hS hl
  have hi : i < ls.length := (List.getElem?_eq_some_iff.mp hv).1
  obtain ⟨q, hq⟩ := List.getElem?_of_mem (prs_mem.mpr hv)
  exact lv_iinc C.1 C.2.1 hdg (has_lv hl) hq rfl hi rfl (fun la' h' => k H locs la' hP hS (has_st hl hi hp h'))
theorem s_iload0 {ls : List (Option Value)} {x : Int32} (C : Cx E X d cc own nL) (hdg : decode cc pc = .ok (.iload_n 0, 1)) (k : At E X (pc + 1) (some (.int x) :: ls) (.int x :: st) M) : At E X pc (some (.int x) :: ls) st M := g_il (i := 0) C rfl (Or.inl ⟨0, rfl, hdg, rfl⟩) k
theorem s_lload0 {ls : List (Option Value)} {x : Int64} (C : Cx E X d cc own nL) (hdg : decode cc pc = .ok (.lload_n 0, 1)) (k : At E X (pc + 1) (some (.long x) :: ls) (.long x :: st) M) : At E X pc (some (.long x) :: ls) st M := g_ll (i := 0) C rfl (Or.inl ⟨0, rfl, hdg, rfl⟩) k
theorem s_aload0 {ls : List (Option Value)} {x : Nat} (C : Cx E X d cc own nL) (hdg : decode cc pc = .ok (.aload_n 0, 1)) (k : At E X (pc + 1) (some (.ref x) :: ls) (.ref x :: st) M) : At E X pc (some (.ref x) :: ls) st M := g_al (i := 0) C rfl (Or.inl ⟨0, rfl, hdg, rfl⟩) k
theorem s_istore0 {z : Option Value} {ls : List (Option Value)} {x : Int32} (C : Cx E X d cc own nL) (hdg : decode cc pc = .ok (.istore_n 0, 1)) (k : At E X (pc + 1) (some (.int x) :: ls) st M) : At E X pc (z :: ls) (.int x :: st) M := g_is (i := 0) C (by simp only [List.length_cons]; omega) (fun j hj => absurd hj (by omega)) (Or.inl ⟨0, rfl, hdg, rfl⟩) k
theorem s_astore0 {z : Option Value} {ls : List (Option Value)} {x : Nat} (C : Cx E X d cc own nL) (hdg : decode cc pc = .ok (.astore_n 0, 1)) (k : At E X (pc + 1) (some (.ref x) :: ls) st M) : At E X pc (z :: ls) (.ref x :: st) M := g_as (i := 0) C (by simp only [List.length_cons]; omega) (fun j hj => absurd hj (by omega)) (Or.inl ⟨0, rfl, hdg, rfl⟩) k
theorem s_lstore0 {z z2 : Option Value} {ls : List (Option Value)} {x : Int64} (C : Cx E X d cc own nL) (hdg : decode cc pc = .ok (.lstore_n 0, 1)) (k : At E X (pc + 1) (some (.long x) :: none :: ls) st M) : At E X pc (z :: z2 :: ls) (.long x :: st) M := g_ls (i := 0) C (by simp only [List.length_cons]; omega) (fun j hj => absurd hj (by omega)) (Or.inl ⟨0, rfl, hdg, rfl⟩) k
theorem s_iinc0 {ls : List (Option Value)} {x : Int32} {n : Int} {v : Int32} (C : Cx E X d cc own nL) (hdg : decode cc pc = .ok (.iinc 0 n, 3)) (hv : Int32.ofInt n = v) (k : At E X (pc + 3) (some (.int (x + v)) :: ls) st M) : At E X pc (some (.int x) :: ls) st M := by subst hv; exact g_ii (i := 0) C rfl (fun j hj => absurd hj (by omega)) hdg k
theorem s_iload1 {a0 : Option Value} {ls : List (Option Value)} {x : Int32} (C : Cx E X d cc own nL) (hdg : decode cc pc = .ok (.iload_n 1, 1)) (k : At E X (pc + 1) (a0 :: some (.int x) :: ls) (.int x :: st) M) : At E X pc (a0 :: some (.int x) :: ls) st M := g_il (i := 1) C rfl (Or.inl ⟨1, rfl, hdg, rfl⟩) k
theorem s_lload1 {a0 : Option Value} {ls : List (Option Value)} {x : Int64} (C : Cx E X d cc own nL) (hdg : decode cc pc = .ok (.lload_n 1, 1)) (k : At E X (pc + 1) (a0 :: some (.long x) :: ls) (.long x :: st) M) : At E X pc (a0 :: some (.long x) :: ls) st M := g_ll (i := 1) C rfl (Or.inl ⟨1, rfl, hdg, rfl⟩) k
theorem s_aload1 {a0 : Option Value} {ls : List (Option Value)} {x : Nat} (C : Cx E X d cc own nL) (hdg : decode cc pc = .ok (.aload_n 1, 1)) (k : At E X (pc + 1) (a0 :: some (.ref x) :: ls) (.ref x :: st) M) : At E X pc (a0 :: some (.ref x) :: ls) st M := g_al (i := 1) C rfl (Or.inl ⟨1, rfl, hdg, rfl⟩) k
theorem s_istore1 {a0 : Option Value} {z : Option Value} {ls : List (Option Value)} {x : Int32} (C : Cx E X d cc own nL) (hn : nl a0 = true) (hdg : decode cc pc = .ok (.istore_n 1, 1)) (k : At E X (pc + 1) (a0 :: some (.int x) :: ls) st M) : At E X pc (a0 :: z :: ls) (.int x :: st) M := g_is (i := 1) C (by simp only [List.length_cons]; omega) (fun j hj w hw => by cases hj; simp at hw; subst hw; simpa [nl] using hn) (Or.inl ⟨1, rfl, hdg, rfl⟩) k
theorem s_astore1 {a0 : Option Value} {z : Option Value} {ls : List (Option Value)} {x : Nat} (C : Cx E X d cc own nL) (hn : nl a0 = true) (hdg : decode cc pc = .ok (.astore_n 1, 1)) (k : At E X (pc + 1) (a0 :: some (.ref x) :: ls) st M) : At E X pc (a0 :: z :: ls) (.ref x :: st) M := g_as (i := 1) C (by simp only [List.length_cons]; omega) (fun j hj w hw => by cases hj; simp at hw; subst hw; simpa [nl] using hn) (Or.inl ⟨1, rfl, hdg, rfl⟩) k
theorem s_lstore1 {a0 : Option Value} {z z2 : Option Value} {ls : List (Option Value)} {x : Int64} (C : Cx E X d cc own nL) (hn : nl a0 = true) (hdg : decode cc pc = .ok (.lstore_n 1, 1)) (k : At E X (pc + 1) (a0 :: some (.long x) :: none :: ls) st M) : At E X pc (a0 :: z :: z2 :: ls) (.long x :: st) M := g_ls (i := 1) C (by simp only [List.length_cons]; omega) (fun j hj w hw => by cases hj; simp at hw; subst hw; simpa [nl] using hn) (Or.inl ⟨1, rfl, hdg, rfl⟩) k
theorem s_iinc1 {a0 : Option Value} {ls : List (Option Value)} {x : Int32} {n : Int} {v : Int32} (C : Cx E X d cc own nL) (hn : nl a0 = true) (hdg : decode cc pc = .ok (.iinc 1 n, 3)) (hv : Int32.ofInt n = v) (k : At E X (pc + 3) (a0 :: some (.int (x + v)) :: ls) st M) : At E X pc (a0 :: some (.int x) :: ls) st M := by subst hv; exact g_ii (i := 1) C rfl (fun j hj w hw => by cases hj; simp at hw; subst hw; simpa [nl] using hn) hdg k
theorem s_iload2 {a0 a1 : Option Value} {ls : List (Option Value)} {x : Int32} (C : Cx E X d cc own nL) (hdg : decode cc pc = .ok (.iload_n 2, 1)) (k : At E X (pc + 1) (a0 :: a1 :: some (.int x) :: ls) (.int x :: st) M) : At E X pc (a0 :: a1 :: some (.int x) :: ls) st M := g_il (i := 2) C rfl (Or.inl ⟨2, rfl, hdg, rfl⟩) k
theorem s_lload2 {a0 a1 : Option Value} {ls : List (Option Value)} {x : Int64} (C : Cx E X d cc own nL) (hdg : decode cc pc = .ok (.lload_n 2, 1)) (k : At E X (pc + 1) (a0 :: a1 :: some (.long x) :: ls) (.long x :: st) M) : At E X pc (a0 :: a1 :: some (.long x) :: ls) st M := g_ll (i := 2) C rfl (Or.inl ⟨2, rfl, hdg, rfl⟩) k
theorem s_aload2 {a0 a1 : Option Value} {ls : List (Option Value)} {x : Nat} (C : Cx E X d cc own nL) (hdg : decode cc pc = .ok (.aload_n 2, 1)) (k : At E X (pc + 1) (a0 :: a1 :: some (.ref x) :: ls) (.ref x :: st) M) : At E X pc (a0 :: a1 :: some (.ref x) :: ls) st M := g_al (i := 2) C rfl (Or.inl ⟨2, rfl, hdg, rfl⟩) k
theorem s_istore2 {a0 a1 : Option Value} {z : Option Value} {ls : List (Option Value)} {x : Int32} (C : Cx E X d cc own nL) (hn : nl a1 = true) (hdg : decode cc pc = .ok (.istore_n 2, 1)) (k : At E X (pc + 1) (a0 :: a1 :: some (.int x) :: ls) st M) : At E X pc (a0 :: a1 :: z :: ls) (.int x :: st) M := g_is (i := 2) C (by simp only [List.length_cons]; omega) (fun j hj w hw => by cases hj; simp at hw; subst hw; simpa [nl] using hn) (Or.inl ⟨2, rfl, hdg, rfl⟩) k
theorem s_astore2 {a0 a1 : Option Value} {z : Option Value} {ls : List (Option Value)} {x : Nat} (C : Cx E X d cc own nL) (hn : nl a1 = true) (hdg : decode cc pc = .ok (.astore_n 2, 1)) (k : At E X (pc + 1) (a0 :: a1 :: some (.ref x) :: ls) st M) : At E X pc (a0 :: a1 :: z :: ls) (.ref x :: st) M := g_as (i := 2) C (by simp only [List.length_cons]; omega) (fun j hj w hw => by cases hj; simp at hw; subst hw; simpa [nl] using hn) (Or.inl ⟨2, rfl, hdg, rfl⟩) k
theorem s_lstore2 {a0 a1 : Option Value} {z z2 : Option Value} {ls : List (Option Value)} {x : Int64} (C : Cx E X d cc own nL) (hn : nl a1 = true) (hdg : decode cc pc = .ok (.lstore_n 2, 1)) (k : At E X (pc + 1) (a0 :: a1 :: some (.long x) :: none :: ls) st M) : At E X pc (a0 :: a1 :: z :: z2 :: ls) (.long x :: st) M := g_ls (i := 2) C (by simp only [List.length_cons]; omega) (fun j hj w hw => by cases hj; simp at hw; subst hw; simpa [nl] using hn) (Or.inl ⟨2, rfl, hdg, rfl⟩) k
theorem s_iinc2 {a0 a1 : Option Value} {ls : List (Option Value)} {x : Int32} {n : Int} {v : Int32} (C : Cx E X d cc own nL) (hn : nl a1 = true) (hdg : decode cc pc = .ok (.iinc 2 n, 3)) (hv : Int32.ofInt n = v) (k : At E X (pc + 3) (a0 :: a1 :: some (.int (x + v)) :: ls) st M) : At E X pc (a0 :: a1 :: some (.int x) :: ls) st M := by subst hv; exact g_ii (i := 2) C rfl (fun j hj w hw => by cases hj; simp at hw; subst hw; simpa [nl] using hn) hdg k
theorem s_iload3 {a0 a1 a2 : Option Value} {ls : List (Option Value)} {x : Int32} (C : Cx E X d cc own nL) (hdg : decode cc pc = .ok (.iload_n 3, 1)) (k : At E X (pc + 1) (a0 :: a1 :: a2 :: some (.int x) :: ls) (.int x :: st) M) : At E X pc (a0 :: a1 :: a2 :: some (.int x) :: ls) st M := g_il (i := 3) C rfl (Or.inl ⟨3, rfl, hdg, rfl⟩) k
theorem s_lload3 {a0 a1 a2 : Option Value} {ls : List (Option Value)} {x : Int64} (C : Cx E X d cc own nL) (hdg : decode cc pc = .ok (.lload_n 3, 1)) (k : At E X (pc + 1) (a0 :: a1 :: a2 :: some (.long x) :: ls) (.long x :: st) M) : At E X pc (a0 :: a1 :: a2 :: some (.long x) :: ls) st M := g_ll (i := 3) C rfl (Or.inl ⟨3, rfl, hdg, rfl⟩) k
theorem s_aload3 {a0 a1 a2 : Option Value} {ls : List (Option Value)} {x : Nat} (C : Cx E X d cc own nL) (hdg : decode cc pc = .ok (.aload_n 3, 1)) (k : At E X (pc + 1) (a0 :: a1 :: a2 :: some (.ref x) :: ls) (.ref x :: st) M) : At E X pc (a0 :: a1 :: a2 :: some (.ref x) :: ls) st M := g_al (i := 3) C rfl (Or.inl ⟨3, rfl, hdg, rfl⟩) k
theorem s_istore3 {a0 a1 a2 : Option Value} {z : Option Value} {ls : List (Option Value)} {x : Int32} (C : Cx E X d cc own nL) (hn : nl a2 = true) (hdg : decode cc pc = .ok (.istore_n 3, 1)) (k : At E X (pc + 1) (a0 :: a1 :: a2 :: some (.int x) :: ls) st M) : At E X pc (a0 :: a1 :: a2 :: z :: ls) (.int x :: st) M := g_is (i := 3) C (by simp only [List.length_cons]; omega) (fun j hj w hw => by cases hj; simp at hw; subst hw; simpa [nl] using hn) (Or.inl ⟨3, rfl, hdg, rfl⟩) k
theorem s_astore3 {a0 a1 a2 : Option Value} {z : Option Value} {ls : List (Option Value)} {x : Nat} (C : Cx E X d cc own nL) (hn : nl a2 = true) (hdg : decode cc pc = .ok (.astore_n 3, 1)) (k : At E X (pc + 1) (a0 :: a1 :: a2 :: some (.ref x) :: ls) st M) : At E X pc (a0 :: a1 :: a2 :: z :: ls) (.ref x :: st) M := g_as (i := 3) C (by simp only [List.length_cons]; omega) (fun j hj w hw => by cases hj; simp at hw; subst hw; simpa [nl] using hn) (Or.inl ⟨3, rfl, hdg, rfl⟩) k
theorem s_lstore3 {a0 a1 a2 : Option Value} {z z2 : Option Value} {ls : List (Option Value)} {x : Int64} (C : Cx E X d cc own nL) (hn : nl a2 = true) (hdg : decode cc pc = .ok (.lstore_n 3, 1)) (k : At E X (pc + 1) (a0 :: a1 :: a2 :: some (.long x) :: none :: ls) st M) : At E X pc (a0 :: a1 :: a2 :: z :: z2 :: ls) (.long x :: st) M := g_ls (i := 3) C (by simp only [List.length_cons]; omega) (fun j hj w hw => by cases hj; simp at hw; subst hw; simpa [nl] using hn) (Or.inl ⟨3, rfl, hdg, rfl⟩) k
theorem s_iinc3 {a0 a1 a2 : Option Value} {ls : List (Option Value)} {x : Int32} {n : Int} {v : Int32} (C : Cx E X d cc own nL) (hn : nl a2 = true) (hdg : decode cc pc = .ok (.iinc 3 n, 3)) (hv : Int32.ofInt n = v) (k : At E X (pc + 3) (a0 :: a1 :: a2 :: some (.int (x + v)) :: ls) st M) : At E X pc (a0 :: a1 :: a2 :: some (.int x) :: ls) st M := by subst hv; exact g_ii (i := 3) C rfl (fun j hj w hw => by cases hj; simp at hw; subst hw; simpa [nl] using hn) hdg k
theorem s_iload4 {a0 a1 a2 a3 : Option Value} {ls : List (Option Value)} {x : Int32} (C : Cx E X d cc own nL) (hdg : decode cc pc = .ok (.iload 4, 2)) (k : At E X (pc + 2) (a0 :: a1 :: a2 :: a3 :: some (.int x) :: ls) (.int x :: st) M) : At E X pc (a0 :: a1 :: a2 :: a3 :: some (.int x) :: ls) st M := g_il (i := 4) C rfl (Or.inr ⟨hdg, rfl⟩) k
theorem s_lload4 {a0 a1 a2 a3 : Option Value} {ls : List (Option Value)} {x : Int64} (C : Cx E X d cc own nL) (hdg : decode cc pc = .ok (.lload 4, 2)) (k : At E X (pc + 2) (a0 :: a1 :: a2 :: a3 :: some (.long x) :: ls) (.long x :: st) M) : At E X pc (a0 :: a1 :: a2 :: a3 :: some (.long x) :: ls) st M := g_ll (i := 4) C rfl (Or.inr ⟨hdg, rfl⟩) k
theorem s_aload4 {a0 a1 a2 a3 : Option Value} {ls : List (Option Value)} {x : Nat} (C : Cx E X d cc own nL) (hdg : decode cc pc = .ok (.aload 4, 2)) (k : At E X (pc + 2) (a0 :: a1 :: a2 :: a3 :: some (.ref x) :: ls) (.ref x :: st) M) : At E X pc (a0 :: a1 :: a2 :: a3 :: some (.ref x) :: ls) st M := g_al (i := 4) C rfl (Or.inr ⟨hdg, rfl⟩) k
theorem s_istore4 {a0 a1 a2 a3 : Option Value} {z : Option Value} {ls : List (Option Value)} {x : Int32} (C : Cx E X d cc own nL) (hn : nl a3 = true) (hdg : decode cc pc = .ok (.istore 4, 2)) (k : At E X (pc + 2) (a0 :: a1 :: a2 :: a3 :: some (.int x) :: ls) st M) : At E X pc (a0 :: a1 :: a2 :: a3 :: z :: ls) (.int x :: st) M := g_is (i := 4) C (by simp only [List.length_cons]; omega) (fun j hj w hw => by cases hj; simp at hw; subst hw; simpa [nl] using hn) (Or.inr ⟨hdg, rfl⟩) k
theorem s_astore4 {a0 a1 a2 a3 : Option Value} {z : Option Value} {ls : List (Option Value)} {x : Nat} (C : Cx E X d cc own nL) (hn : nl a3 = true) (hdg : decode cc pc = .ok (.astore 4, 2)) (k : At E X (pc + 2) (a0 :: a1 :: a2 :: a3 :: some (.ref x) :: ls) st M) : At E X pc (a0 :: a1 :: a2 :: a3 :: z :: ls) (.ref x :: st) M := g_as (i := 4) C (by simp only [List.length_cons]; omega) (fun j hj w hw => by cases hj; simp at hw; subst hw; simpa [nl] using hn) (Or.inr ⟨hdg, rfl⟩) k
theorem s_lstore4 {a0 a1 a2 a3 : Option Value} {z z2 : Option Value} {ls : List (Option Value)} {x : Int64} (C : Cx E X d cc own nL) (hn : nl a3 = true) (hdg : decode cc pc = .ok (.lstore 4, 2)) (k : At E X (pc + 2) (a0 :: a1 :: a2 :: a3 :: some (.long x) :: none :: ls) st M) : At E X pc (a0 :: a1 :: a2 :: a3 :: z :: z2 :: ls) (.long x :: st) M := g_ls (i := 4) C (by simp only [List.length_cons]; omega) (fun j hj w hw => by cases hj; simp at hw; subst hw; simpa [nl] using hn) (Or.inr ⟨hdg, rfl⟩) k
theorem s_iinc4 {a0 a1 a2 a3 : Option Value} {ls : List (Option Value)} {x : Int32} {n : Int} {v : Int32} (C : Cx E X d cc own nL) (hn : nl a3 = true) (hdg : decode cc pc = .ok (.iinc 4 n, 3)) (hv : Int32.ofInt n = v) (k : At E X (pc + 3) (a0 :: a1 :: a2 :: a3 :: some (.int (x + v)) :: ls) st M) : At E X pc (a0 :: a1 :: a2 :: a3 :: some (.int x) :: ls) st M := by subst hv; exact g_ii (i := 4) C rfl (fun j hj w hw => by cases hj; simp at hw; subst hw; simpa [nl] using hn) hdg k
theorem s_iload5 {a0 a1 a2 a3 a4 : Option Value} {ls : List (Option Value)} {x : Int32} (C : Cx E X d cc own nL) (hdg : decode cc pc = .ok (.iload 5, 2)) (k : At E X (pc + 2) (a0 :: a1 :: a2 :: a3 :: a4 :: some (.int x) :: ls) (.int x :: st) M) : At E X pc (a0 :: a1 :: a2 :: a3 :: a4 :: some (.int x) :: ls) st M := g_il (i := 5) C rfl (Or.inr ⟨hdg, rfl⟩) k
theorem s_lload5 {a0 a1 a2 a3 a4 : Option Value} {ls : List (Option Value)} {x : Int64} (C : Cx E X d cc own nL) (hdg : decode cc pc = .ok (.lload 5, 2)) (k : At E X (pc + 2) (a0 :: a1 :: a2 :: a3 :: a4 :: some (.long x) :: ls) (.long x :: st) M) : At E X pc (a0 :: a1 :: a2 :: a3 :: a4 :: some (.long x) :: ls) st M := g_ll (i := 5) C rfl (Or.inr ⟨hdg, rfl⟩) k
theorem s_aload5 {a0 a1 a2 a3 a4 : Option Value} {ls : List (Option Value)} {x : Nat} (C : Cx E X d cc own nL) (hdg : decode cc pc = .ok (.aload 5, 2)) (k : At E X (pc + 2) (a0 :: a1 :: a2 :: a3 :: a4 :: some (.ref x) :: ls) (.ref x :: st) M) : At E X pc (a0 :: a1 :: a2 :: a3 :: a4 :: some (.ref x) :: ls) st M := g_al (i := 5) C rfl (Or.inr ⟨hdg, rfl⟩) k
theorem s_istore5 {a0 a1 a2 a3 a4 : Option Value} {z : Option Value} {ls : List (Option Value)} {x : Int32} (C : Cx E X d cc own nL) (hn : nl a4 = true) (hdg : decode cc pc = .ok (.istore 5, 2)) (k : At E X (pc + 2) (a0 :: a1 :: a2 :: a3 :: a4 :: some (.int x) :: ls) st M) : At E X pc (a0 :: a1 :: a2 :: a3 :: a4 :: z :: ls) (.int x :: st) M := g_is (i := 5) C (by simp only [List.length_cons]; omega) (fun j hj w hw => by cases hj; simp at hw; subst hw; simpa [nl] using hn) (Or.inr ⟨hdg, rfl⟩) k
theorem s_astore5 {a0 a1 a2 a3 a4 : Option Value} {z : Option Value} {ls : List (Option Value)} {x : Nat} (C : Cx E X d cc own nL) (hn : nl a4 = true) (hdg : decode cc pc = .ok (.astore 5, 2)) (k : At E X (pc + 2) (a0 :: a1 :: a2 :: a3 :: a4 :: some (.ref x) :: ls) st M) : At E X pc (a0 :: a1 :: a2 :: a3 :: a4 :: z :: ls) (.ref x :: st) M := g_as (i := 5) C (by simp only [List.length_cons]; omega) (fun j hj w hw => by cases hj; simp at hw; subst hw; simpa [nl] using hn) (Or.inr ⟨hdg, rfl⟩) k
theorem s_lstore5 {a0 a1 a2 a3 a4 : Option Value} {z z2 : Option Value} {ls : List (Option Value)} {x : Int64} (C : Cx E X d cc own nL) (hn : nl a4 = true) (hdg : decode cc pc = .ok (.lstore 5, 2)) (k : At E X (pc + 2) (a0 :: a1 :: a2 :: a3 :: a4 :: some (.long x) :: none :: ls) st M) : At E X pc (a0 :: a1 :: a2 :: a3 :: a4 :: z :: z2 :: ls) (.long x :: st) M := g_ls (i := 5) C (by simp only [List.length_cons]; omega) (fun j hj w hw => by cases hj; simp at hw; subst hw; simpa [nl] using hn) (Or.inr ⟨hdg, rfl⟩) k
theorem s_iinc5 {a0 a1 a2 a3 a4 : Option Value} {ls : List (Option Value)} {x : Int32} {n : Int} {v : Int32} (C : Cx E X d cc own nL) (hn : nl a4 = true) (hdg : decode cc pc = .ok (.iinc 5 n, 3)) (hv : Int32.ofInt n = v) (k : At E X (pc + 3) (a0 :: a1 :: a2 :: a3 :: a4 :: some (.int (x + v)) :: ls) st M) : At E X pc (a0 :: a1 :: a2 :: a3 :: a4 :: some (.int x) :: ls) st M := by subst hv; exact g_ii (i := 5) C rfl (fun j hj w hw => by cases hj; simp at hw; subst hw; simpa [nl] using hn) hdg k
theorem s_iload6 {a0 a1 a2 a3 a4 a5 : Option Value} {ls : List (Option Value)} {x : Int32} (C : Cx E X d cc own nL) (hdg : decode cc pc = .ok (.iload 6, 2)) (k : At E X (pc + 2) (a0 :: a1 :: a2 :: a3 :: a4 :: a5 :: some (.int x) :: ls) (.int x :: st) M) : At E X pc (a0 :: a1 :: a2 :: a3 :: a4 :: a5 :: some (.int x) :: ls) st M := g_il (i := 6) C rfl (Or.inr ⟨hdg, rfl⟩) k
theorem s_lload6 {a0 a1 a2 a3 a4 a5 : Option Value} {ls : List (Option Value)} {x : Int64} (C : Cx E X d cc own nL) (hdg : decode cc pc = .ok (.lload 6, 2)) (k : At E X (pc + 2) (a0 :: a1 :: a2 :: a3 :: a4 :: a5 :: some (.long x) :: ls) (.long x :: st) M) : At E X pc (a0 :: a1 :: a2 :: a3 :: a4 :: a5 :: some (.long x) :: ls) st M := g_ll (i := 6) C rfl (Or.inr ⟨hdg, rfl⟩) k
theorem s_aload6 {a0 a1 a2 a3 a4 a5 : Option Value} {ls : List (Option Value)} {x : Nat} (C : Cx E X d cc own nL) (hdg : decode cc pc = .ok (.aload 6, 2)) (k : At E X (pc + 2) (a0 :: a1 :: a2 :: a3 :: a4 :: a5 :: some (.ref x) :: ls) (.ref x :: st) M) : At E X pc (a0 :: a1 :: a2 :: a3 :: a4 :: a5 :: some (.ref x) :: ls) st M := g_al (i := 6) C rfl (Or.inr ⟨hdg, rfl⟩) k
theorem s_istore6 {a0 a1 a2 a3 a4 a5 : Option Value} {z : Option Value} {ls : List (Option Value)} {x : Int32} (C : Cx E X d cc own nL) (hn : nl a5 = true) (hdg : decode cc pc = .ok (.istore 6, 2)) (k : At E X (pc + 2) (a0 :: a1 :: a2 :: a3 :: a4 :: a5 :: some (.int x) :: ls) st M) : At E X pc (a0 :: a1 :: a2 :: a3 :: a4 :: a5 :: z :: ls) (.int x :: st) M := g_is (i := 6) C (by simp only [List.length_cons]; omega) (fun j hj w hw => by cases hj; simp at hw; subst hw; simpa [nl] using hn) (Or.inr ⟨hdg, rfl⟩) k
theorem s_astore6 {a0 a1 a2 a3 a4 a5 : Option Value} {z : Option Value} {ls : List (Option Value)} {x : Nat} (C : Cx E X d cc own nL) (hn : nl a5 = true) (hdg : decode cc pc = .ok (.astore 6, 2)) (k : At E X (pc + 2) (a0 :: a1 :: a2 :: a3 :: a4 :: a5 :: some (.ref x) :: ls) st M) : At E X pc (a0 :: a1 :: a2 :: a3 :: a4 :: a5 :: z :: ls) (.ref x :: st) M := g_as (i := 6) C (by simp only [List.length_cons]; omega) (fun j hj w hw => by cases hj; simp at hw; subst hw; simpa [nl] using hn) (Or.inr ⟨hdg, rfl⟩) k
theorem s_lstore6 {a0 a1 a2 a3 a4 a5 : Option Value} {z z2 : Option Value} {ls : List (Option Value)} {x : Int64} (C : Cx E X d cc own nL) (hn : nl a5 = true) (hdg : decode cc pc = .ok (.lstore 6, 2)) (k : At E X (pc + 2) (a0 :: a1 :: a2 :: a3 :: a4 :: a5 :: some (.long x) :: none :: ls) st M) : At E X pc (a0 :: a1 :: a2 :: a3 :: a4 :: a5 :: z :: z2 :: ls) (.long x :: st) M := g_ls (i := 6) C (by simp only [List.length_cons]; omega) (fun j hj w hw => by cases hj; simp at hw; subst hw; simpa [nl] using hn) (Or.inr ⟨hdg, rfl⟩) k
theorem s_iinc6 {a0 a1 a2 a3 a4 a5 : Option Value} {ls : List (Option Value)} {x : Int32} {n : Int} {v : Int32} (C : Cx E X d cc own nL) (hn : nl a5 = true) (hdg : decode cc pc = .ok (.iinc 6 n, 3)) (hv : Int32.ofInt n = v) (k : At E X (pc + 3) (a0 :: a1 :: a2 :: a3 :: a4 :: a5 :: some (.int (x + v)) :: ls) st M) : At E X pc (a0 :: a1 :: a2 :: a3 :: a4 :: a5 :: some (.int x) :: ls) st M := by subst hv; exact g_ii (i := 6) C rfl (fun j hj w hw => by cases hj; simp at hw; subst hw; simpa [nl] using hn) hdg k
theorem s_iload7 {a0 a1 a2 a3 a4 a5 a6 : Option Value} {ls : List (Option Value)} {x : Int32} (C : Cx E X d cc own nL) (hdg : decode cc pc = .ok (.iload 7, 2)) (k : At E X (pc + 2) (a0 :: a1 :: a2 :: a3 :: a4 :: a5 :: a6 :: some (.int x) :: ls) (.int x :: st) M) : At E X pc (a0 :: a1 :: a2 :: a3 :: a4 :: a5 :: a6 :: some (.int x) :: ls) st M := g_il (i := 7) C rfl (Or.inr ⟨hdg, rfl⟩) k
theorem s_lload7 {a0 a1 a2 a3 a4 a5 a6 : Option Value} {ls : List (Option Value)} {x : Int64} (C : Cx E X d cc own nL) (hdg : decode cc pc = .ok (.lload 7, 2)) (k : At E X (pc + 2) (a0 :: a1 :: a2 :: a3 :: a4 :: a5 :: a6 :: some (.long x) :: ls) (.long x :: st) M) : At E X pc (a0 :: a1 :: a2 :: a3 :: a4 :: a5 :: a6 :: some (.long x) :: ls) st M := g_ll (i := 7) C rfl (Or.inr ⟨hdg, rfl⟩) k
theorem s_aload7 {a0 a1 a2 a3 a4 a5 a6 : Option Value} {ls : List (Option Value)} {x : Nat} (C : Cx E X d cc own nL) (hdg : decode cc pc = .ok (.aload 7, 2)) (k : At E X (pc + 2) (a0 :: a1 :: a2 :: a3 :: a4 :: a5 :: a6 :: some (.ref x) :: ls) (.ref x :: st) M) : At E X pc (a0 :: a1 :: a2 :: a3 :: a4 :: a5 :: a6 :: some (.ref x) :: ls) st M := g_al (i := 7) C rfl (Or.inr ⟨hdg, rfl⟩) k
theorem s_istore7 {a0 a1 a2 a3 a4 a5 a6 : Option Value} {z : Option Value} {ls : List (Option Value)} {x : Int32} (C : Cx E X d cc own nL) (hn : nl a6 = true) (hdg : decode cc pc = .ok (.istore 7, 2)) (k : At E X (pc + 2) (a0 :: a1 :: a2 :: a3 :: a4 :: a5 :: a6 :: some (.int x) :: ls) st M) : At E X pc (a0 :: a1 :: a2 :: a3 :: a4 :: a5 :: a6 :: z :: ls) (.int x :: st) M := g_is (i := 7) C (by simp only [List.length_cons]; omega) (fun j hj w hw => by cases hj; simp at hw; subst hw; simpa [nl] using hn) (Or.inr ⟨hdg, rfl⟩) k
theorem s_astore7 {a0 a1 a2 a3 a4 a5 a6 : Option Value} {z : Option Value} {ls : List (Option Value)} {x : Nat} (C : Cx E X d cc own nL) (hn : nl a6 = true) (hdg : decode cc pc = .ok (.astore 7, 2)) (k : At E X (pc + 2) (a0 :: a1 :: a2 :: a3 :: a4 :: a5 :: a6 :: some (.ref x) :: ls) st M) : At E X pc (a0 :: a1 :: a2 :: a3 :: a4 :: a5 :: a6 :: z :: ls) (.ref x :: st) M := g_as (i := 7) C (by simp only [List.length_cons]; omega) (fun j hj w hw => by cases hj; simp at hw; subst hw; simpa [nl] using hn) (Or.inr ⟨hdg, rfl⟩) k
theorem s_lstore7 {a0 a1 a2 a3 a4 a5 a6 : Option Value} {z z2 : Option Value} {ls : List (Option Value)} {x : Int64} (C : Cx E X d cc own nL) (hn : nl a6 = true) (hdg : decode cc pc = .ok (.lstore 7, 2)) (k : At E X (pc + 2) (a0 :: a1 :: a2 :: a3 :: a4 :: a5 :: a6 :: some (.long x) :: none :: ls) st M) : At E X pc (a0 :: a1 :: a2 :: a3 :: a4 :: a5 :: a6 :: z :: z2 :: ls) (.long x :: st) M := g_ls (i := 7) C (by simp only [List.length_cons]; omega) (fun j hj w hw => by cases hj; simp at hw; subst hw; simpa [nl] using hn) (Or.inr ⟨hdg, rfl⟩) k
theorem s_iinc7 {a0 a1 a2 a3 a4 a5 a6 : Option Value} {ls : List (Option Value)} {x : Int32} {n : Int} {v : Int32} (C : Cx E X d cc own nL) (hn : nl a6 = true) (hdg : decode cc pc = .ok (.iinc 7 n, 3)) (hv : Int32.ofInt n = v) (k : At E X (pc + 3) (a0 :: a1 :: a2 :: a3 :: a4 :: a5 :: a6 :: some (.int (x + v)) :: ls) st M) : At E X pc (a0 :: a1 :: a2 :: a3 :: a4 :: a5 :: a6 :: some (.int x) :: ls) st M := by subst hv; exact g_ii (i := 7) C rfl (fun j hj w hw => by cases hj; simp at hw; subst hw; simpa [nl] using hn) hdg k
theorem s_iload8 {a0 a1 a2 a3 a4 a5 a6 a7 : Option Value} {ls : List (Option Value)} {x : Int32} (C : Cx E X d cc own nL) (hdg : decode cc pc = .ok (.iload 8, 2)) (k : At E X (pc + 2) (a0 :: a1 :: a2 :: a3 :: a4 :: a5 :: a6 :: a7 :: some (.int x) :: ls) (.int x :: st) M) : At E X pc (a0 :: a1 :: a2 :: a3 :: a4 :: a5 :: a6 :: a7 :: some (.int x) :: ls) st M := g_il (i := 8) C rfl (Or.inr ⟨hdg, rfl⟩) k
theorem s_lload8 {a0 a1 a2 a3 a4 a5 a6 a7 : Option Value} {ls : List (Option Value)} {x : Int64} (C : Cx E X d cc own nL) (hdg : decode cc pc = .ok (.lload 8, 2)) (k : At E X (pc + 2) (a0 :: a1 :: a2 :: a3 :: a4 :: a5 :: a6 :: a7 :: some (.long x) :: ls) (.long x :: st) M) : At E X pc (a0 :: a1 :: a2 :: a3 :: a4 :: a5 :: a6 :: a7 :: some (.long x) :: ls) st M := g_ll (i := 8) C rfl (Or.inr ⟨hdg, rfl⟩) k
theorem s_aload8 {a0 a1 a2 a3 a4 a5 a6 a7 : Option Value} {ls : List (Option Value)} {x : Nat} (C : Cx E X d cc own nL) (hdg : decode cc pc = .ok (.aload 8, 2)) (k : At E X (pc + 2) (a0 :: a1 :: a2 :: a3 :: a4 :: a5 :: a6 :: a7 :: some (.ref x) :: ls) (.ref x :: st) M) : At E X pc (a0 :: a1 :: a2 :: a3 :: a4 :: a5 :: a6 :: a7 :: some (.ref x) :: ls) st M := g_al (i := 8) C rfl (Or.inr ⟨hdg, rfl⟩) k
theorem s_istore8 {a0 a1 a2 a3 a4 a5 a6 a7 : Option Value} {z : Option Value} {ls : List (Option Value)} {x : Int32} (C : Cx E X d cc own nL) (hn : nl a7 = true) (hdg : decode cc pc = .ok (.istore 8, 2)) (k : At E X (pc + 2) (a0 :: a1 :: a2 :: a3 :: a4 :: a5 :: a6 :: a7 :: some (.int x) :: ls) st M) : At E X pc (a0 :: a1 :: a2 :: a3 :: a4 :: a5 :: a6 :: a7 :: z :: ls) (.int x :: st) M := g_is (i := 8) C (by simp only [List.length_cons]; omega) (fun j hj w hw => by cases hj; simp at hw; subst hw; simpa [nl] using hn) (Or.inr ⟨hdg, rfl⟩) k
theorem s_astore8 {a0 a1 a2 a3 a4 a5 a6 a7 : Option Value} {z : Option Value} {ls : List (Option Value)} {x : Nat} (C : Cx E X d cc own nL) (hn : nl a7 = true) (hdg : decode cc pc = .ok (.astore 8, 2)) (k : At E X (pc + 2) (a0 :: a1 :: a2 :: a3 :: a4 :: a5 :: a6 :: a7 :: some (.ref x) :: ls) st M) : At E X pc (a0 :: a1 :: a2 :: a3 :: a4 :: a5 :: a6 :: a7 :: z :: ls) (.ref x :: st) M := g_as (i := 8) C (by simp only [List.length_cons]; omega) (fun j hj w hw => by cases hj; simp at hw; subst hw; simpa [nl] using hn) (Or.inr ⟨hdg, rfl⟩) k
theorem s_lstore8 {a0 a1 a2 a3 a4 a5 a6 a7 : Option Value} {z z2 : Option Value} {ls : List (Option Value)} {x : Int64} (C : Cx E X d cc own nL) (hn : nl a7 = true) (hdg : decode cc pc = .ok (.lstore 8, 2)) (k : At E X (pc + 2) (a0 :: a1 :: a2 :: a3 :: a4 :: a5 :: a6 :: a7 :: some (.long x) :: none :: ls) st M) : At E X pc (a0 :: a1 :: a2 :: a3 :: a4 :: a5 :: a6 :: a7 :: z :: z2 :: ls) (.long x :: st) M := g_ls (i := 8) C (by simp only [List.length_cons]; omega) (fun j hj w hw => by cases hj; simp at hw; subst hw; simpa [nl] using hn) (Or.inr ⟨hdg, rfl⟩) k
theorem s_iinc8 {a0 a1 a2 a3 a4 a5 a6 a7 : Option Value} {ls : List (Option Value)} {x : Int32} {n : Int} {v : Int32} (C : Cx E X d cc own nL) (hn : nl a7 = true) (hdg : decode cc pc = .ok (.iinc 8 n, 3)) (hv : Int32.ofInt n = v) (k : At E X (pc + 3) (a0 :: a1 :: a2 :: a3 :: a4 :: a5 :: a6 :: a7 :: some (.int (x + v)) :: ls) st M) : At E X pc (a0 :: a1 :: a2 :: a3 :: a4 :: a5 :: a6 :: a7 :: some (.int x) :: ls) st M := by subst hv; exact g_ii (i := 8) C rfl (fun j hj w hw => by cases hj; simp at hw; subst hw; simpa [nl] using hn) hdg k
end Loc
end
section
/-! Rows over memory: fields, arrays, statics, strings, returns, calls; the entry of a method. Written by wip/whole/mk06.py. -/
section MemRows
variable {E : En} {X : Xc} {d : Nat} {cc : ByteArray} {own : String} {nL pc : Nat} {ls : List (Option Value)} {st : List Value} {M : Mem}
theorem s_get {c ci k idx t N : Nat} {T : u_T} {CN : String} (C : Cx E X d cc own nL) (hk : kd c = (ci, 0)) (hlt : ci < 11) (hc : vwCl[ci]? = some (CN, T, N)) (hin : ∀ w ∈ u_ws CN T N, w ∈ tb) (hkN : k < N) (hf : (fds ci)[k]? = some t) (hl : Cond.fieldLink own idx (T k).1 (T k).2.1 (T k).2.2.1 ∈ tb) (hdg : decode cc pc = .ok (.getfield idx, 3))
    (kk : At E X (pc + 3) ls (fv E M c t k :: st) M) : At E X pc ls (.ref (ad E c) :: st) M := by
  intro H locs la hP hS hl'
  have e : (wl E M)[c]? = some (ad E c, .inr (ci, fl E M c ci)) := by rw [wl_at (kd_lt hk (by omega)), ce_ob hk hlt]
  exact va_get C.1 C.2.1 C.2.2.2.2.1 hin C.2.2.2.1 C.2.2.2.2.2.1.1 hP c e hc k hkN (C.2.2.2.2.1 _ hl) (fun _ h => h) (fl_at hf) hdg (kk H locs la hP hS hl')
theorem s_putI {c ci k idx N : Nat} {T : u_T} {CN : String} {x : Int32} {ty0 : Nat → FieldType} {ty : FieldType} (C : Cx E X d cc own nL) (hk : kd c = (ci, 0)) (hlt : ci < 11) (hc : vwCl[ci]? = some (CN, T, N)) (hin : ∀ w ∈ u_ws CN T N, w ∈ tb) (hty : ∀ k, k < N → parseFieldDescriptor (T k).2.2.1 = some (ty0 k)) (hnm : ∀ a, a < N → ∀ b, b < N → a ≠ b → (T a).2.1 ≠ (T b).2.1) (hkN : k < N) (hf : (fds ci)[k]? = some 0) (hl : Cond.fieldLink own idx (T k).1 (T k).2.1 (T k).2.2.1 ∈ tb) (hfin : (T k).2.2.2 = false) (hd : parseFieldDescriptor (T k).2.2.1 = some ty) (hn : narrow ty (.int x) = .int x) (hfit : fits ty (.int x) = true) (hdg : decode cc pc = .ok (.putfield idx, 3))
    (kk : At E X (pc + 3) ls st (pI M c k x)) : At E X pc ls (.int x :: .ref (ad E c) :: st) M := by
  intro H locs la hP hS hl'
  have hlc := kd_lt hk (by omega)
  have e : (wl E M)[c]? = some (ad E c, .inr (ci, fl E M c ci)) := by rw [wl_at hlc, ce_ob hk hlt]
  have e2 : (wl E M).set c (ad E c, .inr (ci, (fl E M c ci).set k (.int x))) = wl E (pI M c k x) := wl_set hlc pI_o (by rw [ce_ob hk hlt, fl_setI hf])
  refine va_put C.1 C.2.1 C.2.2.2.2.1 hin ty0 hty hnm C.2.2.2.1 C.2.2.2.2.2.1.1 hP (C.2.2.2.2.2.2.1.D M) hS c e hc k hkN (C.2.2.2.2.1 _ hl) (fun _ h => h) hfin hd hn hfit (by rw [fl_len]; exact (List.getElem?_eq_some_iff.mp hf).1) hdg (fun H1 locs1 hP1 _ hS1 => kk H1 locs1 la ?_ hS1 hl')
  rw [e2] at hP1
  exact hP1
theorem s_putL {c ci k idx N : Nat} {T : u_T} {CN : String} {x : Int64} {ty0 : Nat → FieldType} (C : Cx E X d cc own nL) (hk : kd c = (ci, 0)) (hlt : ci < 11) (hc : vwCl[ci]? = some (CN, T, N)) (hin : ∀ w ∈ u_ws CN T N, w ∈ tb) (hty : ∀ k, k < N → parseFieldDescriptor (T k).2.2.1 = some (ty0 k)) (hnm : ∀ a, a < N → ∀ b, b < N → a ≠ b → (T a).2.1 ≠ (T b).2.1) (hkN : k < N) (hf : (fds ci)[k]? = some 1) (hl : Cond.fieldLink own idx (T k).1 (T k).2.1 (T k).2.2.1 ∈ tb) (hfin : (T k).2.2.2 = false) (hd : parseFieldDescriptor (T k).2.2.1 = some .long) (hdg : decode cc pc = .ok (.putfield idx, 3))
    (kk : At E X (pc + 3) ls st (pL M c k x)) : At E X pc ls (.long x :: .ref (ad E c) :: st) M := by
  intro H locs la hP hS hl'
  have hlc := kd_lt hk (by omega)
  have e : (wl E M)[c]? = some (ad E c, .inr (ci, fl E M c ci)) := by rw [wl_at hlc, ce_ob hk hlt]
  have e2 : (wl E M).set c (ad E c, .inr (ci, (fl E M c ci).set k (.long x))) = wl E (pL M c k x) := wl_set hlc pL_o (by rw [ce_ob hk hlt, fl_setL hf])
  refine va_put C.1 C.2.1 C.2.2.2.2.1 hin ty0 hty hnm C.2.2.2.1 C.2.2.2.2.2.1.1 hP (C.2.2.2.2.2.2.1.D M) hS c e hc k hkN (C.2.2.2.2.1 _ hl) (fun _ h => h) hfin hd rfl rfl (by rw [fl_len]; exact (List.getElem?_eq_some_iff.mp hf).1) hdg (fun H1 locs1 hP1 _ hS1 => kk H1 locs1 la ?_ hS1 hl')
  rw [e2] at hP1
  exact hP1
theorem s_iald {c n : Nat} {i : Int32} {α : Type} {b : Option α} {r : α} (C : Cx E X d cc own nL) (hk : kd c = (20, n)) (h : ck (ib i n) b = some r) (hdg : decode cc pc = .ok (.iaload, 1)) (kk : b = some r → At E X (pc + 1) ls (.int (M.1 c (tn i)) :: st) M) : At E X pc ls (.int i :: .ref (ad E c) :: st) M := by
  intro H locs la hP hS hl
  have e : (wl E M)[c]? = some (ad E c, .inl (cA E 20, n, .inl (M.1 c))) := by rw [wl_at (kd_lt hk (by decide)), ce_20 hk]
  exact va_iald C.1 C.2.1 C.2.2.2.2.2.1.1 hP c 0 e rfl (ib_in (ck_e h).1) hdg (kk (ck_e h).2 H locs la hP hS hl)
theorem s_bald {c n : Nat} {i : Int32} {α : Type} {b : Option α} {r : α} (C : Cx E X d cc own nL) (hk : kd c = (21, n)) (h : ck (ib i n) b = some r) (hdg : decode cc pc = .ok (.baload, 1)) (kk : b = some r → At E X (pc + 1) ls (.int (M.1 c (tn i)) :: st) M) : At E X pc ls (.int i :: .ref (ad E c) :: st) M := by
  intro H locs la hP hS hl
  have e : (wl E M)[c]? = some (ad E c, .inl (cA E 21, n, .inl (M.1 c))) := by rw [wl_at (kd_lt hk (by decide)), ce_21 hk]
  exact va_bald C.1 C.2.1 C.2.2.2.2.2.1.1 hP c 1 e rfl (ib_in (ck_e h).1) hdg (kk (ck_e h).2 H locs la hP hS hl)
theorem s_zald {c n : Nat} {i : Int32} {α : Type} {b : Option α} {r : α} (C : Cx E X d cc own nL) (hk : kd c = (22, n)) (h : ck (ib i n) b = some r) (hdg : decode cc pc = .ok (.baload, 1)) (kk : b = some r → At E X (pc + 1) ls (.int (M.1 c (tn i)) :: st) M) : At E X pc ls (.int i :: .ref (ad E c) :: st) M := by
  intro H locs la hP hS hl
  have e : (wl E M)[c]? = some (ad E c, .inl (cA E 22, n, .inl (M.1 c))) := by rw [wl_at (kd_lt hk (by decide)), ce_22 hk]
  exact va_zald C.1 C.2.1 C.2.2.2.2.2.1.1 hP c 2 e rfl (ib_in (ck_e h).1) hdg (kk (ck_e h).2 H locs la hP hS hl)
theorem s_lald {c n : Nat} {i : Int32} {α : Type} {b : Option α} {r : α} (C : Cx E X d cc own nL) (hk : kd c = (23, n)) (h : ck (ib i n) b = some r) (hdg : decode cc pc = .ok (.laload, 1)) (kk : b = some r → At E X (pc + 1) ls (.long (M.2 c (tn i)) :: st) M) : At E X pc ls (.int i :: .ref (ad E c) :: st) M := by
  intro H locs la hP hS hl
  have e : (wl E M)[c]? = some (ad E c, .inl (cA E 23, n, .inr (.inl (M.2 c)))) := by rw [wl_at (kd_lt hk (by decide)), ce_23 hk]
  exact va_lald C.1 C.2.1 C.2.2.2.2.2.1.1 hP c 3 e rfl (ib_in (ck_e h).1) hdg (kk (ck_e h).2 H locs la hP hS hl)
theorem s_aald {c n : Nat} {i : Int32} {α : Type} {b : Option α} {r : α} (C : Cx E X d cc own nL) (hk : kd c = (24, n)) (h : ck (ib i n) b = some r) (hdg : decode cc pc = .ok (.aaload, 1)) (kk : b = some r → At E X (pc + 1) ls (.ref (ad E (c + 1 + 6 * tn i)) :: st) M) : At E X pc ls (.int i :: .ref (ad E c) :: st) M := by
  intro H locs la hP hS hl
  have e : (wl E M)[c]? = some (ad E c, .inl (cA E 24, n, .inr (.inr (.inr (.inr (fun i => some (ad E (c + 1 + 6 * i)))))))) := by rw [wl_at (kd_lt hk (by decide)), ce_24 hk]
  exact va_aldq C.1 C.2.1 C.2.2.2.2.2.1.1 hP c 4 e rfl (ib_in (ck_e h).1) hdg (kk (ck_e h).2 H locs la hP hS hl)
theorem s_iast {c n : Nat} {i x : Int32} {α : Type} {b : Option α} {r : α} (C : Cx E X d cc own nL) (hk : kd c = (20, n)) (h : ck (ib i n) b = some r) (hdg : decode cc pc = .ok (.iastore, 1)) (kk : b = some r → At E X (pc + 1) ls st (pI M c (tn i) x)) : At E X pc ls (.int x :: .int i :: .ref (ad E c) :: st) M := by
  intro H locs la hP hS hl
  have hlc := kd_lt hk (by decide)
  have e : (wl E M)[c]? = some (ad E c, .inl (cA E 20, n, .inl (M.1 c))) := by rw [wl_at hlc, ce_20 hk]
  have e2 : (wl E M).set c (ad E c, .inl (cA E 20, n, .inl (upd (M.1 c) (tn i) x))) = wl E (pI M c (tn i) x) := wl_set hlc pI_o (by rw [ce_20 hk, pI_s])
  refine va_iast C.1 C.2.1 C.2.2.2.2.2.1.1 hP (C.2.2.2.2.2.2.1.D M) hS c 0 e rfl (ib_in (ck_e h).1) hdg (fun H1 locs1 hP1 _ hS1 => kk (ck_e h).2 H1 locs1 la ?_ hS1 hl)
  rw [e2] at hP1
  exact hP1
theorem s_bast {c n : Nat} {i x : Int32} {α : Type} {b : Option α} {r : α} (C : Cx E X d cc own nL) (hk : kd c = (21, n)) (h : ck (ib i n) b = some r) (hdg : decode cc pc = .ok (.bastore, 1)) (kk : b = some r → At E X (pc + 1) ls st (pI M c (tn i) (vp_nar .byte x))) : At E X pc ls (.int x :: .int i :: .ref (ad E c) :: st) M := by
  intro H locs la hP hS hl
  have hlc := kd_lt hk (by decide)
  have e : (wl E M)[c]? = some (ad E c, .inl (cA E 21, n, .inl (M.1 c))) := by rw [wl_at hlc, ce_21 hk]
  have e2 : (wl E M).set c (ad E c, .inl (cA E 21, n, .inl (upd (M.1 c) (tn i) (vp_nar .byte x)))) = wl E (pI M c (tn i) (vp_nar .byte x)) := wl_set hlc pI_o (by rw [ce_21 hk, pI_s])
  refine va_bast C.1 C.2.1 C.2.2.2.2.2.1.1 hP (C.2.2.2.2.2.2.1.D M) hS c 1 e rfl (ib_in (ck_e h).1) hdg (fun H1 locs1 hP1 _ hS1 => kk (ck_e h).2 H1 locs1 la ?_ hS1 hl)
  rw [e2] at hP1
  exact hP1
theorem s_zast {c n : Nat} {i x : Int32} {α : Type} {b : Option α} {r : α} (C : Cx E X d cc own nL) (hk : kd c = (22, n)) (h : ck (ib i n) b = some r) (hdg : decode cc pc = .ok (.bastore, 1)) (kk : b = some r → At E X (pc + 1) ls st (pI M c (tn i) (vp_nar .boolean x))) : At E X pc ls (.int x :: .int i :: .ref (ad E c) :: st) M := by
  intro H locs la hP hS hl
  have hlc := kd_lt hk (by decide)
  have e : (wl E M)[c]? = some (ad E c, .inl (cA E 22, n, .inl (M.1 c))) := by rw [wl_at hlc, ce_22 hk]
  have e2 : (wl E M).set c (ad E c, .inl (cA E 22, n, .inl (upd (M.1 c) (tn i) (vp_nar .boolean x)))) = wl E (pI M c (tn i) (vp_nar .boolean x)) := wl_set hlc pI_o (by rw [ce_22 hk, pI_s])
  refine va_zast C.1 C.2.1 C.2.2.2.2.2.1.1 hP (C.2.2.2.2.2.2.1.D M) hS c 2 e rfl (ib_in (ck_e h).1) hdg (fun H1 locs1 hP1 _ hS1 => kk (ck_e h).2 H1 locs1 la ?_ hS1 hl)
  rw [e2] at hP1
  exact hP1
theorem s_last {c n : Nat} {i : Int32} {x : Int64} {α : Type} {b : Option α} {r : α} (C : Cx E X d cc own nL) (hk : kd c = (23, n)) (h : ck (ib i n) b = some r) (hdg : decode cc pc = .ok (.lastore, 1)) (kk : b = some r → At E X (pc + 1) ls st (pL M c (tn i) x)) : At E X pc ls (.long x :: .int i :: .ref (ad E c) :: st) M := by
  intro H locs la hP hS hl
  have hlc := kd_lt hk (by decide)
  have e : (wl E M)[c]? = some (ad E c, .inl (cA E 23, n, .inr (.inl (M.2 c)))) := by rw [wl_at hlc, ce_23 hk]
  have e2 : (wl E M).set c (ad E c, .inl (cA E 23, n, .inr (.inl (vp_updL (M.2 c) (tn i) x)))) = wl E (pL M c (tn i) x) := wl_set hlc pL_o (by rw [ce_23 hk, pL_s])
  refine va_last C.1 C.2.1 C.2.2.2.2.2.1.1 hP (C.2.2.2.2.2.2.1.D M) hS c 3 e rfl (ib_in (ck_e h).1) hdg (fun H1 locs1 hP1 _ hS1 => kk (ck_e h).2 H1 locs1 la ?_ hS1 hl)
  rw [e2] at hP1
  exact hP1
theorem s_alen20 {c n : Nat} (C : Cx E X d cc own nL) (hk : kd c = (20, n)) (hdg : decode cc pc = .ok (.arraylength, 1)) (kk : At E X (pc + 1) ls (.int (nI n) :: st) M) : At E X pc ls (.ref (ad E c) :: st) M := by
  intro H locs la hP hS hl
  have e : (wl E M)[c]? = some (ad E c, .inl (cA E 20, n, .inl (M.1 c))) := by rw [wl_at (kd_lt hk (by decide)), ce_20 hk]
  exact va_alen C.1 C.2.1 C.2.2.2.2.2.1.1 hP c 0 e rfl rfl hdg (kk H locs la hP hS hl)
theorem s_alen21 {c n : Nat} (C : Cx E X d cc own nL) (hk : kd c = (21, n)) (hdg : decode cc pc = .ok (.arraylength, 1)) (kk : At E X (pc + 1) ls (.int (nI n) :: st) M) : At E X pc ls (.ref (ad E c) :: st) M := by
  intro H locs la hP hS hl
  have e : (wl E M)[c]? = some (ad E c, .inl (cA E 21, n, .inl (M.1 c))) := by rw [wl_at (kd_lt hk (by decide)), ce_21 hk]
  exact va_alen C.1 C.2.1 C.2.2.2.2.2.1.1 hP c 1 e rfl rfl hdg (kk H locs la hP hS hl)
theorem s_alen23 {c n : Nat} (C : Cx E X d cc own nL) (hk : kd c = (23, n)) (hdg : decode cc pc = .ok (.arraylength, 1)) (kk : At E X (pc + 1) ls (.int (nI n) :: st) M) : At E X pc ls (.ref (ad E c) :: st) M := by
  intro H locs la hP hS hl
  have e : (wl E M)[c]? = some (ad E c, .inl (cA E 23, n, .inr (.inl (M.2 c)))) := by rw [wl_at (kd_lt hk (by decide)), ce_23 hk]
  exact va_alen C.1 C.2.1 C.2.2.2.2.2.1.1 hP c 3 e rfl rfl hdg (kk H locs la hP hS hl)
theorem s_iret {v r : Int32} {M' : Mem} (C : Cx E X d cc own nL) (R : Rt E X (some .int) (some (.int r)) M') (h : some (v, M) = some (r, M')) (hdg : decode cc pc = .ok (.ireturn, 1)) : At E X pc ls [.int v] M := by
  intro H locs la hP hS hl
  cases h
  show W _ _ _ _ _ _ _ _ _ _ _ _ _ _ _ _
  rw [R.2.2]
  exact W.iret C.1 C.2.1 R.1 (fun t ht hW => ⟨rfl, by rw [ht]; exact hP, hS.F ht⟩) hS.2.2 hdg R.2.1
theorem s_lret {v r : Int64} {M' : Mem} (C : Cx E X d cc own nL) (R : Rt E X (some .long) (some (.long r)) M') (h : some (v, M) = some (r, M')) (hdg : decode cc pc = .ok (.lreturn, 1)) : At E X pc ls [.long v] M := by
  intro H locs la hP hS hl
  cases h
  show W _ _ _ _ _ _ _ _ _ _ _ _ _ _ _ _
  rw [R.2.2]
  exact W.lret C.1 C.2.1 R.1 (fun t ht hW => ⟨rfl, by rw [ht]; exact hP, hS.F ht⟩) hS.2.2 hdg R.2.1
theorem s_zret {v r : Int32} {M' : Mem} {ty : FieldType} (C : Cx E X d cc own nL) (R : Rt E X (some ty) (some (.int r)) M') (h : some (v, M) = some (r, M')) (hn : narrow ty (.int v) = .int v) (hdg : decode cc pc = .ok (.ireturn, 1)) : At E X pc ls [.int v] M := by
  intro H locs la hP hS hl
  cases h
  show W _ _ _ _ _ _ _ _ _ _ _ _ _ _ _ _
  rw [R.2.2]
  exact W.zret C.1 C.2.1 R.1 hn (fun t ht hW => ⟨rfl, by rw [ht]; exact hP, hS.F ht⟩) hS.2.2 hdg R.2.1
theorem isB_n {x : Int32} (h : isB x = true) : narrow .boolean (.int x) = .int x ∧ fits .boolean (.int x) = true := by
  simp only [isB, Bool.or_eq_true, decide_eq_true_eq] at h
  rcases h with rfl | rfl
  · exact ⟨rfl, rfl⟩
  · exact ⟨rfl, rfl⟩
theorem s_vret {M' : Mem} (C : Cx E X d cc own nL) (R : Rt E X none none M') (h : some M = some M') (hdg : decode cc pc = .ok (.return_, 1)) : At E X pc ls [] M := by
  intro H locs la hP hS hl
  cases h
  show W _ _ _ _ _ _ _ _ _ _ _ _ _ _ _ _
  rw [R.2.2]
  exact W.vret C.1 C.2.1 R.1 (fun t ht hW => ⟨rfl, by rw [ht]; exact hP, hS.F ht⟩) hS.2.2 hdg R.2.1
theorem s_sret {v r : Nat} {M' : Mem} {n : String} (C : Cx E X d cc own nL) (R : Rt E X (some (.object n)) (some (.ref (aK E r))) M') (h : some (v, M) = some (r, M')) (hdg : decode cc pc = .ok (.areturn, 1)) : At E X pc ls [.ref (aK E v)] M := by
  intro H locs la hP hS hl
  cases h
  show W _ _ _ _ _ _ _ _ _ _ _ _ _ _ _ _
  rw [R.2.2]
  exact W.aret C.1 C.2.1 R.1 (Or.inl ⟨_, rfl⟩) (Or.inr ⟨_, rfl⟩) (fun t ht hW => ⟨rfl, by rw [ht]; exact hP, hS.F ht⟩) hS.2.2 hdg R.2.1
-- calls
def CwB (y : MethodName) (cy : ByteArray) (maxL : Nat) (ret : Option FieldType) (n : Nat) : Prop := Cond.code y cy maxL ret ∈ tb ∧ Cond.initialized y.cls ∈ tb ∧ (y.cls ≠ "java/lang/invoke/MethodHandle" ∧ y.cls ≠ "java/lang/invoke/VarHandle" ∧ (parseMethodDescriptor y.desc).map (fun d => d.parameters.length) = some n) ∧ maxL ≤ 17
def CwV (own : String) (idx : Nat) (CN : String) (y : MethodName) (cy : ByteArray) (maxL : Nat) (ret : Option FieldType) (n : Nat) : Prop := CwB y cy maxL ret n ∧ Cond.methodLink own idx y ∈ tb ∧ Cond.instanceMethod y ∈ tb ∧ Cond.selects CN y y ∈ tb
def CwS (own : String) (idx : Nat) (y : MethodName) (cy : ByteArray) (maxL : Nat) (ret : Option FieldType) (n : Nat) : Prop := CwB y cy maxL ret n ∧ Cond.methodLink own idx y ∈ tb ∧ Cond.static y ∈ tb
def CwN (own : String) (idx : Nat) (y : MethodName) (host : String) (cy : ByteArray) (maxL : Nat) (ret : Option FieldType) (n : Nat) : Prop := CwB y cy maxL ret n ∧ Cond.methodLinkNest own idx y host ∈ nestW ∧ Cond.static y ∈ tb
theorem good_code {y : MethodName} {cy : ByteArray} {maxL : Nat} {ret : Option FieldType} (h : Cond.code y cy maxL ret ∈ tb) : GoodIn tb (Cond.code y cy maxL ret :: tb) := fun w hw => by
  rcases List.mem_cons.mp hw with rfl | hw
  · exact tb_good _ h
  · exact tb_good _ hw
theorem callB_mk {idx maxL n : Nat} {y : MethodName} {cy : ByteArray} {ret : Option FieldType} (C : Cx E X d cc own nL) (hd : 1 ≤ d) (b : CwB y cy maxL ret n) (hl : Cond.methodLink own idx y ∈ tb) : CallB (xR X) (xs X) (xa X) own idx y cy maxL ret (Cond.code y cy maxL ret :: tb) (rmd (d - 1)) 0 0 n :=
  callB_of n C.2.2.2.2.1 (good_code b.1) rfl rfl rfl (C.2.2.2.2.1 _ b.2.1) (C.2.2.2.2.1 _ hl) b.2.2.1 ⟨by have := C.2.2.2.2.2.2.2.1; show d - 1 + 1 ≤ _; omega, by have := C.2.2.2.2.2.2.2.2.1; have := b.2.2.2; show 8 + (maxL + 11) + 36 * (d - 1) ≤ _; omega⟩
theorem pre_mk {av : List Value} {H : Heap} {locs : List Loc} (C : Cx E X d cc own nL) (hP : va_P (eG E) vwCl (wl E M) H) (hS : va_S (xA X) (xs X).heap H locs) : ∀ U : State, U.heap = H → (xs X).WarmedH U.vm → Pc E (xA X) av M av.toArray U :=
  fun U hU hW => ⟨rfl, C.2.2.2.2.2.1.warm hW (fun a h1 h2 => by rw [hU]; exact hS.2.1 a h1 h2), by rw [hU]; exact hP⟩
theorem run_mk {H : Heap} {locs : List Loc} {la : Array Slot} {rest st0 : List Value} {v : Option Value} {M' : Mem} {a : Array Value} (hP : va_P (eG E) vwCl (wl E M) H) (hS : va_S (xA X) (xs X).heap H locs) (hl : hasL la ls)
    (hr : va_Run (xp X) (xl X) (xe X) (xR X) (xs X) (xm X) (xa X) (xb X) (xh X) (xc X) H locs (xn X) (xo X) 0 0 (F0 (xm X) pc la st0) rest (Qc E (xA X) v M' a) (xA X)) (kk : At E X (pc + 3) ls (v.toList ++ rest) M') : xW X H locs (F0 (xm X) pc la st0) := by
  intro T hT St
  obtain ⟨v', st₀, t, T', L, h0, X', hL, e1, e2, ⟨hv, hPt, hz, hk⟩, go⟩ := hr T hT St
  cases hv
  rw [h0] at hz hk
  obtain ⟨t2, a1, b1⟩ := kk T'.heap (locs ++ L) la (by rw [e1]; exact hPt) ⟨Nat.le_trans hS.1 (by rw [e1]; exact hz), fun q h1 h2 => by rw [e1, hk q (Nat.lt_of_lt_of_le h1 hS.1) h2]; exact hS.2.1 q h1 h2, fun q hq => by
      rcases List.mem_append.mp hq with h | h
      · exact hS.2.2 q h
      · exact hL q h⟩ hl T' rfl X'
  exact ⟨t2, go t2 a1, b1⟩
theorem s_callVg {b : Nat} {idx maxL n : Nat} {CN : String} {y : MethodName} {cy : ByteArray} {ret : Option FieldType} {As rest : List Value} {v : Option Value} {M' : Mem} (C : Cx E X d cc own nL) (hnl : ls.length = nL) (hrec : ∀ (H : Heap) (locs : List Loc), va_P (eG E) vwCl (wl E M) H → va_S (xA X) (xs X).heap H locs → ∃ cell : Cell, H[b]? = some cell ∧ cell.vm.isStatics = false ∧ (xs X).vm.findClass CN = some cell.cls)
    (hd : 1 ≤ d) (w : CwV own idx CN y cy maxL ret n) (hn : As.length = n) (hc : (rest.map fun v => v.category).sum ≤ 8) (hdg : decode cc pc = .ok (.invokevirtual idx, 3)) (hM : Ct (xl X) E (xA X) (d - 1) y cy maxL ret (.ref b :: As) M v M') (kk : At E X (pc + 3) ls (v.toList ++ rest) M') : At E X pc ls (As.reverse ++ .ref b :: rest) M := by
  intro H locs la hP hS hl
  refine run_mk hP hS hl (va_runV (As := As) (rest := rest) (nL := nL) (Ts := tb) ⟨C.1, C.2.1, C.2.2.1, C.2.2.2.1, C.2.2.2.2.1⟩ hM ⟨callB_mk C hd w.1 w.2.1, C.2.2.2.2.1 _ w.2.2.1, C.2.2.2.2.1 _ w.2.2.2⟩ ⟨Pc.blind, hrec H locs hP hS, pre_mk C hP hS⟩ rfl hn (by rw [← hnl]; exact hl.1) rfl (by show 2 * 0 + _ ≤ 8; omega) hdg ⟨C.2.2.2.2.2.2.2.2.2.1, C.2.2.2.2.2.2.2.2.2.2⟩) kk
theorem s_callV {c ci N : Nat} {T : u_T} {idx maxL n : Nat} {CN : String} {y : MethodName} {cy : ByteArray} {ret : Option FieldType} {As rest : List Value} {v : Option Value} {M' : Mem} (C : Cx E X d cc own nL) (hnl : ls.length = nL) (hk : kd c = (ci, 0)) (hlt : ci < 11) (hv : vwCl[ci]? = some (CN, T, N))
    (hd : 1 ≤ d) (w : CwV own idx CN y cy maxL ret n) (hn : As.length = n) (hc : (rest.map fun v => v.category).sum ≤ 8) (hdg : decode cc pc = .ok (.invokevirtual idx, 3)) (hM : Ct (xl X) E (xA X) (d - 1) y cy maxL ret (.ref (ad E c) :: As) M v M') (kk : At E X (pc + 3) ls (v.toList ++ rest) M') : At E X pc ls (As.reverse ++ .ref (ad E c) :: rest) M :=
  s_callVg C hnl (fun H locs hP hS => va_recv C.2.2.2.2.2.1.1 hP hv (show (wl E M)[c]? = some (ad E c, .inr (ci, fl E M c ci)) by rw [wl_at (kd_lt hk (by omega)), ce_ob hk hlt])) hd w hn hc hdg hM kk
theorem s_callVS {j : Nat} {idx maxL n : Nat} {y : MethodName} {cy : ByteArray} {ret : Option FieldType} {As rest : List Value} {v : Option Value} {M' : Mem} (C : Cx E X d cc own nL) (hnl : ls.length = nL) (hj : j < NS)
    (hd : 1 ≤ d) (w : CwV own idx "java/lang/String" y cy maxL ret n) (hn : As.length = n) (hc : (rest.map fun v => v.category).sum ≤ 8) (hdg : decode cc pc = .ok (.invokevirtual idx, 3)) (hM : Ct (xl X) E (xA X) (d - 1) y cy maxL ret (.ref (aK E j) :: As) M v M') (kk : At E X (pc + 3) ls (v.toList ++ rest) M') : At E X pc ls (As.reverse ++ .ref (aK E j) :: rest) M :=
  s_callVg C hnl (fun H locs hP hS => by
    obtain ⟨cell, h1, h2, h3, -⟩ := (C.2.2.2.2.2.1.2.1 j hj).1.kept hS.2.1
    exact ⟨cell, h1, h2, h3⟩) hd w hn hc hdg hM kk
theorem s_callS {idx maxL n : Nat} {y : MethodName} {cy : ByteArray} {ret : Option FieldType} {As rest : List Value} {v : Option Value} {M' : Mem} (C : Cx E X d cc own nL) (hnl : ls.length = nL)
    (hd : 1 ≤ d) (w : CwS own idx y cy maxL ret n) (hn : As.length = n) (hc : (rest.map fun v => v.category).sum ≤ 8) (hdg : decode cc pc = .ok (.invokestatic idx, 3)) (hM : Ct (xl X) E (xA X) (d - 1) y cy maxL ret As M v M') (kk : At E X (pc + 3) ls (v.toList ++ rest) M') : At E X pc ls (As.reverse ++ rest) M := by
  intro H locs la hP hS hl
  refine run_mk hP hS hl (va_runS (As := As) (rest := rest) (nL := nL) (Ts := tb) ⟨C.1, C.2.1, C.2.2.1, C.2.2.2.1, C.2.2.2.2.1⟩ hM ⟨callB_mk C hd w.1 w.2.1, C.2.2.2.2.1 _ w.2.2⟩ ⟨Pc.blind, pre_mk C hP hS⟩ rfl hn (by rw [← hnl]; exact hl.1) rfl (by show 2 * 0 + _ ≤ 8; omega) hdg ⟨C.2.2.2.2.2.2.2.2.2.1, C.2.2.2.2.2.2.2.2.2.2⟩) kk
theorem s_callN {idx maxL n : Nat} {y : MethodName} {host : String} {cy : ByteArray} {ret : Option FieldType} {As rest : List Value} {v : Option Value} {M' : Mem} (C : Cx E X d cc own nL) (hnl : ls.length = nL)
    (hd : 1 ≤ d) (w : CwN own idx y host cy maxL ret n) (hn : As.length = n) (hc : (rest.map fun v => v.category).sum ≤ 8) (hdg : decode cc pc = .ok (.invokestatic idx, 3)) (hM : Ct (xl X) E (xA X) (d - 1) y cy maxL ret As M v M') (kk : At E X (pc + 3) ls (v.toList ++ rest) M') : At E X pc ls (As.reverse ++ rest) M := by
  intro H locs la hP hS hl
  have b := w.1
  refine run_mk hP hS hl (va_runSN (As := As) (rest := rest) (nL := nL) (Ts := tb) (host := host) ⟨C.1, C.2.1, C.2.2.1, C.2.2.2.1, C.2.2.2.2.1⟩ hM ⟨va_cnB n C.2.2.2.2.1 (good_code b.1) rfl rfl rfl (C.2.2.2.2.2.1.2.2.2.1 _ w.2.1) (C.2.2.2.2.1 _ b.2.1) b.2.2.1 ⟨by have := C.2.2.2.2.2.2.2.1; show d - 1 + 1 ≤ _; omega, by have := C.2.2.2.2.2.2.2.2.1; have := b.2.2.2; show 8 + (maxL + 11) + 36 * (d - 1) ≤ _; omega⟩, C.2.2.2.2.1 _ w.2.2, trivial⟩ ⟨Pc.blind, pre_mk C hP hS⟩ rfl hn (by rw [← hnl]; exact hl.1) rfl (by show 2 * 0 + _ ≤ 8; omega) hdg ⟨C.2.2.2.2.2.2.2.2.2.1, C.2.2.2.2.2.2.2.2.2.2⟩) kk
-- Math
theorem s_max {idx : Nat} {x y : Int32} {rest : List Value} (C : Cx E X d cc own nL) (hnl : ls.length = nL) (hd : 1 ≤ d) (w : Cond.methodLink own idx Lib.Math.max.name ∈ tb ∧ Cond.static Lib.Math.max.name ∈ tb ∧ Cond.initialized "java/lang/Math" ∈ tb ∧ Cond.code Lib.Math.max.name Lib.Math.max.code 2 (some .int) ∈ tb) (hc : (rest.map fun v => v.category).sum ≤ 8) (hdg : decode cc pc = .ok (.invokestatic idx, 3)) (kk : At E X (pc + 3) ls (.int (if x < y then y else x) :: rest) M) : At E X pc ls (.int y :: .int x :: rest) M :=
  fun H locs la hP hS hl => va_mmax C.1 C.2.1 (by rw [C.2.2.1, ← hnl]; exact hl.1.symm) C.2.2.2.1 (C.2.2.2.2.1 _ w.1) (C.2.2.2.2.1 _ w.2.1) (C.2.2.2.2.1 _ w.2.2.1) (C.2.2.2.2.1 _ w.2.2.2) (Nat.le_trans hd C.2.2.2.2.2.2.2.1) (by have := C.2.2.2.2.2.2.2.2.1; omega) C.2.2.2.2.2.2.2.2.2.1 C.2.2.2.2.2.2.2.2.2.2 hdg (kk H locs la hP hS hl)
theorem s_min {idx : Nat} {x y : Int32} {rest : List Value} (C : Cx E X d cc own nL) (hnl : ls.length = nL) (hd : 1 ≤ d) (w : Cond.methodLink own idx Lib.Math.min.name ∈ tb ∧ Cond.static Lib.Math.min.name ∈ tb ∧ Cond.initialized "java/lang/Math" ∈ tb ∧ Cond.code Lib.Math.min.name Lib.Math.min.code 2 (some .int) ∈ tb) (hc : (rest.map fun v => v.category).sum ≤ 8) (hdg : decode cc pc = .ok (.invokestatic idx, 3)) (kk : At E X (pc + 3) ls (.int (if y < x then y else x) :: rest) M) : At E X pc ls (.int y :: .int x :: rest) M :=
  fun H locs la hP hS hl => va_mmin C.1 C.2.1 (by rw [C.2.2.1, ← hnl]; exact hl.1.symm) C.2.2.2.1 (C.2.2.2.2.1 _ w.1) (C.2.2.2.2.1 _ w.2.1) (C.2.2.2.2.1 _ w.2.2.1) (C.2.2.2.2.1 _ w.2.2.2) (Nat.le_trans hd C.2.2.2.2.2.2.2.1) (by have := C.2.2.2.2.2.2.2.2.1; omega) C.2.2.2.2.2.2.2.2.2.1 C.2.2.2.2.2.2.2.2.2.2 hdg (kk H locs la hP hS hl)
-- the entry
theorem Ct.mk {l : Launch} {A : Nat → Prop} {y : MethodName} {maxL : Nat} {ret : Option FieldType} {av : List Value} {v : Option Value} {M' : Mem} (hE : Okk E A) (hy : plainName y.cls = true) (hls : ent av maxL = ls) (hle : (ents av).length ≤ maxL)
    (body : ∀ X : Xc, xl X = l → xA X = A → Cx E X d cc y.cls maxL → Rt E X ret v M' → At E X 0 ls [] M) : Ct l E A d y cc maxL ret av M v M' := by
  refine Met.ofW (cc := cc) (maxL := maxL) (ret := ret) hy rfl ?_
  intro p e s m args below meth c s₁ B hml hv
  obtain ⟨rfl, hSg, hP⟩ := hv
  have hts := atoms_spec (ws := Cond.code y cc maxL ret :: tb) B.pre
  have hown : s.vm.findClass y.cls = some m.cls := findClass_of_methodNamed B.named
  rw [lg_entry_eq]
  have h := body (p, l, e, rmd d, s, m, av.toArray, below, meth, c, MQ below (Qc E A v M') av.toArray s 0 0 A, A, 0, 0) rfl rfl ⟨B.exec, B.bytes, hml, hown, fun w hw => hts w (List.mem_cons_of_mem _ hw), hSg, hE, Nat.le_refl _, Nat.le_refl _, Nat.le_refl _, Nat.le_refl _⟩ ⟨B.returns, B.notSynchronized, rfl⟩
  subst hls
  exact h s.heap [] _ hP va_S.rf (has_ent av hle)
end MemRows
end
section
/-! More rows: abs, arraycopy, statics, strings, switches. Written by wip/whole/mk07.py. -/
section MoreRows
variable {E : En} {X : Xc} {d : Nat} {cc : ByteArray} {own : String} {nL pc : Nat} {ls : List (Option Value)} {st : List Value} {M : Mem}
theorem s_abs {idx : Nat} {x : Int32} {rest : List Value} (C : Cx E X d cc own nL) (hnl : ls.length = nL) (hd : 1 ≤ d) (w : Cond.methodLink own idx Lib.Math.abs.name ∈ tb ∧ Cond.static Lib.Math.abs.name ∈ tb ∧ Cond.initialized "java/lang/Math" ∈ tb ∧ Cond.code Lib.Math.abs.name Lib.Math.abs.code 1 (some .int) ∈ tb) (hc : (rest.map fun v => v.category).sum ≤ 8) (hdg : decode cc pc = .ok (.invokestatic idx, 3)) (kk : At E X (pc + 3) ls (.int (if 0 ≤ x then x else 0 - x) :: rest) M) : At E X pc ls (.int x :: rest) M :=
  fun H locs la hP hS hl => va_mabs C.1 C.2.1 (by rw [C.2.2.1, ← hnl]; exact hl.1.symm) C.2.2.2.1 (C.2.2.2.2.1 _ w.1) (C.2.2.2.2.1 _ w.2.1) (C.2.2.2.2.1 _ w.2.2.1) (C.2.2.2.2.1 _ w.2.2.2) (Nat.le_trans hd C.2.2.2.2.2.2.2.1) (by have := C.2.2.2.2.2.2.2.2.1; omega) C.2.2.2.2.2.2.2.2.2.1 C.2.2.2.2.2.2.2.2.2.2 hdg (kk H locs la hP hS hl)
def cpok (sp dp n : Int32) (n0 n1 : Nat) : Bool := !decide (sp < 0) && (!decide (dp < 0) && (!decide (n < 0) && (decide (tn sp + tn n ≤ n0) && decide (tn dp + tn n ≤ n1))))
theorem s_copy {c0 c1 n0 n1 idx : Nat} {sp dp n : Int32} {rest : List Value} {α : Type} {b : Option α} {r : α} (C : Cx E X d cc own nL) (hnl : ls.length = nL) (hd : 1 ≤ d) (w : Cond.methodLink own idx arraycopyName ∈ tb ∧ Cond.native arraycopyName ∈ tb ∧ Cond.static arraycopyName ∈ tb ∧ Cond.initialized "java/lang/System" ∈ tb) (hc : (rest.map fun v => v.category).sum ≤ 8)
    (hk0 : kd c0 = (20, n0)) (hk1 : kd c1 = (20, n1)) (h : ck (cpok sp dp n n0 n1) b = some r) (hdg : decode cc pc = .ok (.invokestatic idx, 3)) (kk : b = some r → At E X (pc + 3) ls rest (pC M c0 c1 (tn sp) (tn dp) (tn n))) : At E X pc ls (.int n :: .int dp :: .ref (ad E c1) :: .int sp :: .ref (ad E c0) :: rest) M := by
  intro H locs la hP hS hl
  have hlc := kd_lt hk1 (by decide)
  have e0 : (wl E M)[c0]? = some (ad E c0, .inl (cA E 20, n0, .inl (M.1 c0))) := by rw [wl_at (kd_lt hk0 (by decide)), ce_20 hk0]
  have e1 : (wl E M)[c1]? = some (ad E c1, .inl (cA E 20, n1, .inl (M.1 c1))) := by rw [wl_at hlc, ce_20 hk1]
  have e2 : (wl E M).set c1 (ad E c1, .inl (cA E 20, n1, .inl (va_cpy (M.1 c0) (M.1 c1) (tn sp) (tn dp) (tn n)))) = wl E (pC M c0 c1 (tn sp) (tn dp) (tn n)) := wl_set hlc pC_o (by rw [ce_20 hk1, pC_s])
  obtain ⟨h1, h2⟩ := ck_e h
  simp only [cpok, Bool.and_eq_true, Bool.not_eq_true', decide_eq_false_iff_not, decide_eq_true_eq] at h1
  obtain ⟨a1, a2, a3, a4, a5⟩ := h1
  refine va_copyi C.1 C.2.1 (by rw [C.2.2.1, ← hnl]; exact hl.1.symm) C.2.2.2.1 (C.2.2.2.2.1 _ w.1) (C.2.2.2.2.1 _ w.2.1) (C.2.2.2.2.1 _ w.2.2.1) (C.2.2.2.2.1 _ w.2.2.2) C.2.2.2.2.2.1.1 hP (C.2.2.2.2.2.2.1.D M) hS c0 c1 0 0 e0 e1 rfl rfl rfl a1 a2 a3 a4 a5 (fun _ _ => rfl) (Nat.le_trans hd C.2.2.2.2.2.2.2.1) (by have := C.2.2.2.2.2.2.2.2.1; have e : nativeFrameWords "java/lang/System" "arraycopy" 5 = 7 := by decide +kernel
                                                                                                                                                                      omega) hdg (fun H1 locs1 hP1 _ hS1 => kk h2 H1 locs1 la ?_ hS1 hl)
  rw [e2] at hP1
  exact hP1
-- the two static rows
theorem s_stHL (C : Cx E X d cc RX3 nL) {idx : Nat} (hw : Cond.fieldLinkNest RX3 idx "BranchGuess" "HEAD_LEAST" "[I" RX9 ∈ nestW) (hdg : decode cc pc = .ok (.getstatic idx, 3)) (kk : At E X (pc + 3) ls (.ref (aS E 0) :: st) M) : At E X pc ls st M :=
  fun H locs la hP hS hl => va_getsN C.1 C.2.1 C.2.2.2.2.2.1.2.2.2.2.2.2.1 hS C.2.2.2.1 (va_Nw.use (nest_same _ hw) (C.2.2.2.2.2.1.2.2.2.1 _ hw)) (fun _ h => h) hdg (kk H locs la hP hS hl)
theorem s_stHM (C : Cx E X d cc RX3 nL) {idx : Nat} (hw : Cond.fieldLinkNest RX3 idx "BranchGuess" "HEAD_MOST" "[I" RX9 ∈ nestW) (hdg : decode cc pc = .ok (.getstatic idx, 3)) (kk : At E X (pc + 3) ls (.ref (aS E 1) :: st) M) : At E X pc ls st M :=
  fun H locs la hP hS hl => va_getsN C.1 C.2.1 C.2.2.2.2.2.1.2.2.2.2.2.2.2.2.1 hS C.2.2.2.1 (va_Nw.use (nest_same _ hw) (C.2.2.2.2.2.1.2.2.2.1 _ hw)) (fun _ h => h) hdg (kk H locs la hP hS hl)
theorem s_ildHL {i : Int32} {α : Type} {b : Option α} {r : α} (C : Cx E X d cc own nL) (h : ck (ib i 6) b = some r) (hdg : decode cc pc = .ok (.iaload, 1)) (kk : b = some r → At E X (pc + 1) ls (.int (hdL.getD (tn i) 0) :: st) M) : At E X pc ls (.int i :: .ref (aS E 0) :: st) M :=
  fun H locs la hP hS hl => va_ti C.1 C.2.1 C.2.2.2.2.2.1.2.2.2.2.2.2.2.1 hS (ib_in (ck_e h).1) rfl hdg (kk (ck_e h).2 H locs la hP hS hl)
theorem s_ildHM {i : Int32} {α : Type} {b : Option α} {r : α} (C : Cx E X d cc own nL) (h : ck (ib i 6) b = some r) (hdg : decode cc pc = .ok (.iaload, 1)) (kk : b = some r → At E X (pc + 1) ls (.int (hdM.getD (tn i) 0) :: st) M) : At E X pc ls (.int i :: .ref (aS E 1) :: st) M :=
  fun H locs la hP hS hl => va_ti C.1 C.2.1 C.2.2.2.2.2.1.2.2.2.2.2.2.2.2.2 hS (ib_in (ck_e h).1) rfl hdg (kk (ck_e h).2 H locs la hP hS hl)
-- strings
theorem s_ldcs {idx j : Nat} {tx : String} (C : Cx E X d cc own nL) (hj : strR[j]? = some (own, idx, tx)) (hdg : decode cc pc = .ok (.ldc idx, 2)) (kk : At E X (pc + 2) ls (.ref (aK E j) :: st) M) : At E X pc ls st M :=
  fun H locs la hP hS hl => va_ldcS C.1 C.2.1 C.2.2.2.1 (C.2.2.2.2.2.1.2.2.1 j _ hj) hdg (kk H locs la hP hS hl)
theorem s_compact (C : Cx E X d cc own nL) {idx : Nat} (hw : Cond.fieldLink own idx "java/lang/String" "COMPACT_STRINGS" "Z" ∈ tb) (hdg : decode cc pc = .ok (.getstatic idx, 3)) (kk : At E X (pc + 3) ls (.int 1 :: st) M) : At E X pc ls st M :=
  fun H locs la hP hS hl => va_gets C.1 C.2.1 C.2.2.2.2.2.1.2.2.2.2.1 hS C.2.2.2.1 (C.2.2.2.2.1 _ hw) (fun _ h => h) hdg (kk H locs la hP hS hl)
theorem s_fmt (C : Cx E X d cc own nL) {idx : Nat} (hw : Cond.fieldLink own idx "jdk/internal/util/Preconditions" "SIOOBE_FORMATTER" "Ljava/util/function/BiFunction;" ∈ tb) (hdg : decode cc pc = .ok (.getstatic idx, 3)) (kk : ∀ z : Value, (z = .null ∨ ∃ t, z = .ref t) → At E X (pc + 3) ls (z :: st) M) : At E X pc ls st M := by
  intro H locs la hP hS hl
  rcases C.2.2.2.2.2.1.2.2.2.2.2.1 with hz | ⟨t, hz⟩
  · exact va_gets C.1 C.2.1 hz hS C.2.2.2.1 (C.2.2.2.2.1 _ hw) (fun _ h => h) hdg (kk _ (Or.inl rfl) H locs la hP hS hl)
  · exact va_gets C.1 C.2.1 hz hS C.2.2.2.1 (C.2.2.2.2.1 _ hw) (fun _ h => h) hdg (kk _ (Or.inr ⟨t, rfl⟩) H locs la hP hS hl)
theorem s_coder {j idx : Nat} (C : Cx E X d cc own nL) (hj : j < NS) (hw : Cond.fieldLink own idx "java/lang/String" "coder" "B" ∈ tb) (hdg : decode cc pc = .ok (.getfield idx, 3)) (kk : At E X (pc + 3) ls (.int 0 :: st) M) : At E X pc ls (.ref (aK E j) :: st) M :=
  fun H locs la hP hS hl => vk_getf C.1 C.2.1 (C.2.2.2.2.2.1.2.1 j hj).2.1 hS C.2.2.2.1 (C.2.2.2.2.1 _ hw) (fun _ h => h) hdg (kk H locs la hP hS hl)
theorem s_value {j idx : Nat} (C : Cx E X d cc own nL) (hj : j < NS) (hw : Cond.fieldLink own idx "java/lang/String" "value" "[B" ∈ tb) (hdg : decode cc pc = .ok (.getfield idx, 3)) (kk : At E X (pc + 3) ls (.ref (aV E j) :: st) M) : At E X pc ls (.ref (aK E j) :: st) M :=
  fun H locs la hP hS hl => vk_getf C.1 C.2.1 (C.2.2.2.2.2.1.2.1 j hj).2.2.1 hS C.2.2.2.1 (C.2.2.2.2.1 _ hw) (fun _ h => h) hdg (kk H locs la hP hS hl)
theorem s_slen {j : Nat} (C : Cx E X d cc own nL) (hj : j < NS) (hdg : decode cc pc = .ok (.arraylength, 1)) (kk : At E X (pc + 1) ls (.int (nI (sl j)) :: st) M) : At E X pc ls (.ref (aV E j) :: st) M :=
  fun H locs la hP hS hl => va_tlen C.1 C.2.1 (C.2.2.2.2.2.1.2.1 j hj).2.2.2 hS rfl hdg (kk H locs la hP hS hl)
theorem s_sbyte {j : Nat} {i : Int32} (C : Cx E X d cc own nL) (hj : j < NS) (h : vp_in i (sl j)) (hdg : decode cc pc = .ok (.baload, 1)) (kk : At E X (pc + 1) ls (.int (sc j (tn i)) :: st) M) : At E X pc ls (.int i :: .ref (aV E j) :: st) M :=
  fun H locs la hP hS hl => va_tb C.1 C.2.1 (C.2.2.2.2.2.1.2.1 j hj).2.2.2 hS h rfl hdg (kk H locs la hP hS hl)
theorem s_i2c {x : Int32} (C : Cx E X d cc own nL) (hdg : decode cc pc = .ok (.i2c, 1)) (kk : At E X (pc + 1) ls (.int (x.toUInt32 % 65536).toInt32 :: st) M) : At E X pc ls (.int x :: st) M :=
  fun H locs la hP hS hl => lv_i2c C.1 C.2.1 hdg rfl (kk H locs la hP hS hl)
-- switches
theorem s_tin (C : Cx E X d cc own nL) {dflt lo hi : Int} {offs : Array Int} {len : Nat} {x : Int32} (j : Nat) {off : Int} {tgt : Nat} (hdg : decode cc pc = .ok (.tableswitch dflt lo hi offs, len)) (hx : x.toInt = lo + j) (hj : lo + j ≤ hi) (ho : offs[j]? = some off) (ht : (pc : Int) + off = (tgt : Int)) (k : At E X tgt ls st M) : At E X pc ls (.int x :: st) M :=
  fun H locs la hP hS hl => lv_tableIn C.1 C.2.1 hdg (by omega) (by omega) (by rw [hx, show (lo + (j : Int) - lo).toNat = j by omega]; exact ho) ht (k H locs la hP hS hl)
theorem s_tout (C : Cx E X d cc own nL) {dflt lo hi : Int} {offs : Array Int} {len : Nat} {x : Int32} {tgt : Nat} (hdg : decode cc pc = .ok (.tableswitch dflt lo hi offs, len)) (hx : x.toInt < lo ∨ hi < x.toInt) (ht : (pc : Int) + dflt = (tgt : Int)) (k : At E X tgt ls st M) : At E X pc ls (.int x :: st) M :=
  fun H locs la hP hS hl => lv_tableOut C.1 C.2.1 hdg hx ht (k H locs la hP hS hl)
theorem ne_int {x : Int32} {n : Int32} (h : ¬ x = n) : x.toInt ≠ n.toInt := fun e => h (Int32.toInt_inj.mp e)
end MoreRows
end
