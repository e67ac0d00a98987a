-- ===== PART A: goes FIRST, ahead of the names: the tables' words, and 'selects' of the private methods out of them =====
/-- a private method of a class that the tables say can be made, by its rows of tables_1 -/
def lw_okq (q : MethodName × Nat) : Prop := (q.1.cls ≠ "java/lang/invoke/MethodHandle" ∧ q.1.cls ≠ "java/lang/invoke/VarHandle") ∧ Cond.instantiable q.1.cls q.2 ∈ tables_1 ∧ Cond.privateMethod q.1 ∈ tables_1 ∧ Cond.instanceMethod q.1 ∈ tables_1
theorem lw_p0 : lw_okq (⟨"SurplusLand$Tape", "scan", "()V"⟩, 9) := ⟨⟨by decide +kernel, by decide +kernel⟩, List.mem_of_getElem? (i := 275) (by decide +kernel), List.mem_of_getElem? (i := 448) (by decide +kernel), List.mem_of_getElem? (i := 449) (by decide +kernel)⟩
theorem lw_p1 : lw_okq (⟨"SurplusLand$Tape", "stopOf", "(I)I"⟩, 9) := ⟨⟨by decide +kernel, by decide +kernel⟩, List.mem_of_getElem? (i := 275) (by decide +kernel), List.mem_of_getElem? (i := 452) (by decide +kernel), List.mem_of_getElem? (i := 453) (by decide +kernel)⟩
theorem lw_p2 : lw_okq (⟨"SurplusLand$Tape", "isLetter", "(I)Z"⟩, 9) := ⟨⟨by decide +kernel, by decide +kernel⟩, List.mem_of_getElem? (i := 275) (by decide +kernel), List.mem_of_getElem? (i := 456) (by decide +kernel), List.mem_of_getElem? (i := 457) (by decide +kernel)⟩
theorem lw_p3 : lw_okq (⟨"SurplusLand$Tape", "isDigit", "(I)Z"⟩, 9) := ⟨⟨by decide +kernel, by decide +kernel⟩, List.mem_of_getElem? (i := 275) (by decide +kernel), List.mem_of_getElem? (i := 460) (by decide +kernel), List.mem_of_getElem? (i := 461) (by decide +kernel)⟩
theorem lw_p4 : lw_okq (⟨"SurplusLand$Tape", "kindOf", "(II)I"⟩, 9) := ⟨⟨by decide +kernel, by decide +kernel⟩, List.mem_of_getElem? (i := 275) (by decide +kernel), List.mem_of_getElem? (i := 464) (by decide +kernel), List.mem_of_getElem? (i := 465) (by decide +kernel)⟩
theorem lw_p5 : lw_okq (⟨"SurplusLand$Tape", "kindOfWord", "(II)I"⟩, 9) := ⟨⟨by decide +kernel, by decide +kernel⟩, List.mem_of_getElem? (i := 275) (by decide +kernel), List.mem_of_getElem? (i := 468) (by decide +kernel), List.mem_of_getElem? (i := 469) (by decide +kernel)⟩
theorem lw_p6 : lw_okq (⟨"SurplusLand$Tape", "spells", "(IILjava/lang/String;)Z"⟩, 9) := ⟨⟨by decide +kernel, by decide +kernel⟩, List.mem_of_getElem? (i := 275) (by decide +kernel), List.mem_of_getElem? (i := 473) (by decide +kernel), List.mem_of_getElem? (i := 474) (by decide +kernel)⟩
theorem lw_p7 : lw_okq (⟨"SurplusLand$Tape", "numberOf", "(II)I"⟩, 9) := ⟨⟨by decide +kernel, by decide +kernel⟩, List.mem_of_getElem? (i := 275) (by decide +kernel), List.mem_of_getElem? (i := 537) (by decide +kernel), List.mem_of_getElem? (i := 538) (by decide +kernel)⟩
theorem lw_p8 : lw_okq (⟨"SurplusLand$Tape", "readClause", "()Z"⟩, 9) := ⟨⟨by decide +kernel, by decide +kernel⟩, List.mem_of_getElem? (i := 275) (by decide +kernel), List.mem_of_getElem? (i := 547) (by decide +kernel), List.mem_of_getElem? (i := 548) (by decide +kernel)⟩
theorem lw_p9 : lw_okq (⟨"SurplusLand$Tape", "refuse", "()Z"⟩, 9) := ⟨⟨by decide +kernel, by decide +kernel⟩, List.mem_of_getElem? (i := 275) (by decide +kernel), List.mem_of_getElem? (i := 552) (by decide +kernel), List.mem_of_getElem? (i := 553) (by decide +kernel)⟩
theorem lw_p10 : lw_okq (⟨"SurplusLand$Tape", "step", "()V"⟩, 9) := ⟨⟨by decide +kernel, by decide +kernel⟩, List.mem_of_getElem? (i := 275) (by decide +kernel), List.mem_of_getElem? (i := 556) (by decide +kernel), List.mem_of_getElem? (i := 557) (by decide +kernel)⟩
theorem lw_p11 : lw_okq (⟨"SurplusLand$Tape", "readSum", "(I)Z"⟩, 9) := ⟨⟨by decide +kernel, by decide +kernel⟩, List.mem_of_getElem? (i := 275) (by decide +kernel), List.mem_of_getElem? (i := 564) (by decide +kernel), List.mem_of_getElem? (i := 565) (by decide +kernel)⟩
theorem lw_p12 : lw_okq (⟨"SurplusLand$Tape", "readTerm", "(I)Z"⟩, 9) := ⟨⟨by decide +kernel, by decide +kernel⟩, List.mem_of_getElem? (i := 275) (by decide +kernel), List.mem_of_getElem? (i := 568) (by decide +kernel), List.mem_of_getElem? (i := 569) (by decide +kernel)⟩
theorem lw_p13 : lw_okq (⟨"SurplusLand$Tape", "readFactor", "(I)Z"⟩, 9) := ⟨⟨by decide +kernel, by decide +kernel⟩, List.mem_of_getElem? (i := 275) (by decide +kernel), List.mem_of_getElem? (i := 572) (by decide +kernel), List.mem_of_getElem? (i := 573) (by decide +kernel)⟩
theorem lw_p14 : lw_okq (⟨"SurplusLand$Tape", "readConditions", "()Z"⟩, 9) := ⟨⟨by decide +kernel, by decide +kernel⟩, List.mem_of_getElem? (i := 275) (by decide +kernel), List.mem_of_getElem? (i := 576) (by decide +kernel), List.mem_of_getElem? (i := 577) (by decide +kernel)⟩
theorem lw_p15 : lw_okq (⟨"SurplusLand$Land", "gatherCrops", "(I)V"⟩, 14) := ⟨⟨by decide +kernel, by decide +kernel⟩, List.mem_of_getElem? (i := 70) (by decide +kernel), List.mem_of_getElem? (i := 643) (by decide +kernel), List.mem_of_getElem? (i := 644) (by decide +kernel)⟩
def lw_privs_1 : List (MethodName × Nat) := [(⟨"SurplusLand$Tape", "scan", "()V"⟩, 9), (⟨"SurplusLand$Tape", "stopOf", "(I)I"⟩, 9), (⟨"SurplusLand$Tape", "isLetter", "(I)Z"⟩, 9), (⟨"SurplusLand$Tape", "isDigit", "(I)Z"⟩, 9), (⟨"SurplusLand$Tape", "kindOf", "(II)I"⟩, 9), (⟨"SurplusLand$Tape", "kindOfWord", "(II)I"⟩, 9), (⟨"SurplusLand$Tape", "spells", "(IILjava/lang/String;)Z"⟩, 9), (⟨"SurplusLand$Tape", "numberOf", "(II)I"⟩, 9), (⟨"SurplusLand$Tape", "readClause", "()Z"⟩, 9), (⟨"SurplusLand$Tape", "refuse", "()Z"⟩, 9), (⟨"SurplusLand$Tape", "step", "()V"⟩, 9), (⟨"SurplusLand$Tape", "readSum", "(I)Z"⟩, 9), (⟨"SurplusLand$Tape", "readTerm", "(I)Z"⟩, 9), (⟨"SurplusLand$Tape", "readFactor", "(I)Z"⟩, 9), (⟨"SurplusLand$Tape", "readConditions", "()Z"⟩, 9), (⟨"SurplusLand$Land", "gatherCrops", "(I)V"⟩, 14)]
theorem lw_r1 : ∀ q ∈ lw_privs_1, lw_okq q := List.forall_mem_cons.mpr ⟨lw_p0, List.forall_mem_cons.mpr ⟨lw_p1, List.forall_mem_cons.mpr ⟨lw_p2, List.forall_mem_cons.mpr ⟨lw_p3, List.forall_mem_cons.mpr ⟨lw_p4, List.forall_mem_cons.mpr ⟨lw_p5, List.forall_mem_cons.mpr ⟨lw_p6, List.forall_mem_cons.mpr ⟨lw_p7, List.forall_mem_cons.mpr ⟨lw_p8, List.forall_mem_cons.mpr ⟨lw_p9, List.forall_mem_cons.mpr ⟨lw_p10, List.forall_mem_cons.mpr ⟨lw_p11, List.forall_mem_cons.mpr ⟨lw_p12, List.forall_mem_cons.mpr ⟨lw_p13, List.forall_mem_cons.mpr ⟨lw_p14, List.forall_mem_cons.mpr ⟨lw_p15, fun _ h => absurd h List.not_mem_nil⟩⟩⟩⟩⟩⟩⟩⟩⟩⟩⟩⟩⟩⟩⟩⟩
theorem lw_p16 : lw_okq (⟨"SurplusLand$Land", "applyLaw", "(LSurplusLand$Law;)V"⟩, 14) := ⟨⟨by decide +kernel, by decide +kernel⟩, List.mem_of_getElem? (i := 70) (by decide +kernel), List.mem_of_getElem? (i := 647) (by decide +kernel), List.mem_of_getElem? (i := 648) (by decide +kernel)⟩
theorem lw_p17 : lw_okq (⟨"SurplusLand$Judge", "run", "(LSurplusLand$Law;II)J"⟩, 9) := ⟨⟨by decide +kernel, by decide +kernel⟩, List.mem_of_getElem? (i := 98) (by decide +kernel), List.mem_of_getElem? (i := 664) (by decide +kernel), List.mem_of_getElem? (i := 665) (by decide +kernel)⟩
theorem lw_p18 : lw_okq (⟨"SurplusLand$Judge", "obey", "(IJ)V"⟩, 9) := ⟨⟨by decide +kernel, by decide +kernel⟩, List.mem_of_getElem? (i := 98) (by decide +kernel), List.mem_of_getElem? (i := 672) (by decide +kernel), List.mem_of_getElem? (i := 673) (by decide +kernel)⟩
theorem lw_p19 : lw_okq (⟨"SurplusLand$Land", "keepParts", "()V"⟩, 14) := ⟨⟨by decide +kernel, by decide +kernel⟩, List.mem_of_getElem? (i := 70) (by decide +kernel), List.mem_of_getElem? (i := 687) (by decide +kernel), List.mem_of_getElem? (i := 688) (by decide +kernel)⟩
theorem lw_p20 : lw_okq (⟨"SurplusLand$Land", "sellStored", "(I)V"⟩, 14) := ⟨⟨by decide +kernel, by decide +kernel⟩, List.mem_of_getElem? (i := 70) (by decide +kernel), List.mem_of_getElem? (i := 738) (by decide +kernel), List.mem_of_getElem? (i := 739) (by decide +kernel)⟩
theorem lw_p21 : lw_okq (⟨"SurplusLand$Land", "stillStored", "()V"⟩, 14) := ⟨⟨by decide +kernel, by decide +kernel⟩, List.mem_of_getElem? (i := 70) (by decide +kernel), List.mem_of_getElem? (i := 747) (by decide +kernel), List.mem_of_getElem? (i := 748) (by decide +kernel)⟩
theorem lw_p22 : lw_okq (⟨"SurplusLand$Land", "sellFree", "(J)V"⟩, 14) := ⟨⟨by decide +kernel, by decide +kernel⟩, List.mem_of_getElem? (i := 70) (by decide +kernel), List.mem_of_getElem? (i := 755) (by decide +kernel), List.mem_of_getElem? (i := 756) (by decide +kernel)⟩
theorem lw_p23 : lw_okq (⟨"SurplusLand$Land", "sellOneEach", "(J)J"⟩, 14) := ⟨⟨by decide +kernel, by decide +kernel⟩, List.mem_of_getElem? (i := 70) (by decide +kernel), List.mem_of_getElem? (i := 763) (by decide +kernel), List.mem_of_getElem? (i := 764) (by decide +kernel)⟩
theorem lw_p24 : lw_okq (⟨"SurplusLand$Land", "stillFree", "()V"⟩, 14) := ⟨⟨by decide +kernel, by decide +kernel⟩, List.mem_of_getElem? (i := 70) (by decide +kernel), List.mem_of_getElem? (i := 767) (by decide +kernel), List.mem_of_getElem? (i := 768) (by decide +kernel)⟩
theorem lw_p25 : lw_okq (⟨"SurplusLand$Land", "movePrice", "(J)V"⟩, 14) := ⟨⟨by decide +kernel, by decide +kernel⟩, List.mem_of_getElem? (i := 70) (by decide +kernel), List.mem_of_getElem? (i := 777) (by decide +kernel), List.mem_of_getElem? (i := 778) (by decide +kernel)⟩
theorem lw_p26 : lw_okq (⟨"SurplusLand$Land", "tendVines", "()V"⟩, 14) := ⟨⟨by decide +kernel, by decide +kernel⟩, List.mem_of_getElem? (i := 70) (by decide +kernel), List.mem_of_getElem? (i := 783) (by decide +kernel), List.mem_of_getElem? (i := 784) (by decide +kernel)⟩
theorem lw_p27 : lw_okq (⟨"SurplusLand$Land", "settleLoans", "()V"⟩, 14) := ⟨⟨by decide +kernel, by decide +kernel⟩, List.mem_of_getElem? (i := 70) (by decide +kernel), List.mem_of_getElem? (i := 797) (by decide +kernel), List.mem_of_getElem? (i := 798) (by decide +kernel)⟩
theorem lw_p28 : lw_okq (⟨"SurplusLand$Land", "closeIfDue", "(LSurplusLand$Receipt;LSurplusLand$Loan;)V"⟩, 14) := ⟨⟨by decide +kernel, by decide +kernel⟩, List.mem_of_getElem? (i := 70) (by decide +kernel), List.mem_of_getElem? (i := 801) (by decide +kernel), List.mem_of_getElem? (i := 802) (by decide +kernel)⟩
theorem lw_p29 : lw_okq (⟨"SurplusLand$Land", "seize", "(LSurplusLand$Receipt;LSurplusLand$Loan;)V"⟩, 14) := ⟨⟨by decide +kernel, by decide +kernel⟩, List.mem_of_getElem? (i := 70) (by decide +kernel), List.mem_of_getElem? (i := 821) (by decide +kernel), List.mem_of_getElem? (i := 822) (by decide +kernel)⟩
theorem lw_p30 : lw_okq (⟨"SurplusLand", "waysToDraw", "(IIIII)J"⟩, 8) := ⟨⟨by decide +kernel, by decide +kernel⟩, List.mem_of_getElem? (i := 22) (by decide +kernel), List.mem_of_getElem? (i := 974) (by decide +kernel), List.mem_of_getElem? (i := 975) (by decide +kernel)⟩
theorem lw_p31 : lw_okq (⟨"SurplusLand", "setsOf", "(II)J"⟩, 8) := ⟨⟨by decide +kernel, by decide +kernel⟩, List.mem_of_getElem? (i := 22) (by decide +kernel), List.mem_of_getElem? (i := 978) (by decide +kernel), List.mem_of_getElem? (i := 979) (by decide +kernel)⟩
def lw_privs_2 : List (MethodName × Nat) := [(⟨"SurplusLand$Land", "applyLaw", "(LSurplusLand$Law;)V"⟩, 14), (⟨"SurplusLand$Judge", "run", "(LSurplusLand$Law;II)J"⟩, 9), (⟨"SurplusLand$Judge", "obey", "(IJ)V"⟩, 9), (⟨"SurplusLand$Land", "keepParts", "()V"⟩, 14), (⟨"SurplusLand$Land", "sellStored", "(I)V"⟩, 14), (⟨"SurplusLand$Land", "stillStored", "()V"⟩, 14), (⟨"SurplusLand$Land", "sellFree", "(J)V"⟩, 14), (⟨"SurplusLand$Land", "sellOneEach", "(J)J"⟩, 14), (⟨"SurplusLand$Land", "stillFree", "()V"⟩, 14), (⟨"SurplusLand$Land", "movePrice", "(J)V"⟩, 14), (⟨"SurplusLand$Land", "tendVines", "()V"⟩, 14), (⟨"SurplusLand$Land", "settleLoans", "()V"⟩, 14), (⟨"SurplusLand$Land", "closeIfDue", "(LSurplusLand$Receipt;LSurplusLand$Loan;)V"⟩, 14), (⟨"SurplusLand$Land", "seize", "(LSurplusLand$Receipt;LSurplusLand$Loan;)V"⟩, 14), (⟨"SurplusLand", "waysToDraw", "(IIIII)J"⟩, 8), (⟨"SurplusLand", "setsOf", "(II)J"⟩, 8)]
theorem lw_r2 : ∀ q ∈ lw_privs_2, lw_okq q := List.forall_mem_cons.mpr ⟨lw_p16, List.forall_mem_cons.mpr ⟨lw_p17, List.forall_mem_cons.mpr ⟨lw_p18, List.forall_mem_cons.mpr ⟨lw_p19, List.forall_mem_cons.mpr ⟨lw_p20, List.forall_mem_cons.mpr ⟨lw_p21, List.forall_mem_cons.mpr ⟨lw_p22, List.forall_mem_cons.mpr ⟨lw_p23, List.forall_mem_cons.mpr ⟨lw_p24, List.forall_mem_cons.mpr ⟨lw_p25, List.forall_mem_cons.mpr ⟨lw_p26, List.forall_mem_cons.mpr ⟨lw_p27, List.forall_mem_cons.mpr ⟨lw_p28, List.forall_mem_cons.mpr ⟨lw_p29, List.forall_mem_cons.mpr ⟨lw_p30, List.forall_mem_cons.mpr ⟨lw_p31, fun _ h => absurd h List.not_mem_nil⟩⟩⟩⟩⟩⟩⟩⟩⟩⟩⟩⟩⟩⟩⟩⟩
theorem lw_p32 : lw_okq (⟨"SurplusLandModel", "isLaw", "()Z"⟩, 66) := ⟨⟨by decide +kernel, by decide +kernel⟩, List.mem_of_getElem? (i := 1016) (by decide +kernel), List.mem_of_getElem? (i := 1279) (by decide +kernel), List.mem_of_getElem? (i := 1280) (by decide +kernel)⟩
theorem lw_p33 : lw_okq (⟨"SurplusLandModel", "reads", "(I)V"⟩, 66) := ⟨⟨by decide +kernel, by decide +kernel⟩, List.mem_of_getElem? (i := 1016) (by decide +kernel), List.mem_of_getElem? (i := 1283) (by decide +kernel), List.mem_of_getElem? (i := 1284) (by decide +kernel)⟩
theorem lw_p34 : lw_okq (⟨"SurplusLandModel", "next", "()V"⟩, 66) := ⟨⟨by decide +kernel, by decide +kernel⟩, List.mem_of_getElem? (i := 1016) (by decide +kernel), List.mem_of_getElem? (i := 1287) (by decide +kernel), List.mem_of_getElem? (i := 1288) (by decide +kernel)⟩
theorem lw_p35 : lw_okq (⟨"SurplusLandModel", "at", "(I)I"⟩, 66) := ⟨⟨by decide +kernel, by decide +kernel⟩, List.mem_of_getElem? (i := 1016) (by decide +kernel), List.mem_of_getElem? (i := 1291) (by decide +kernel), List.mem_of_getElem? (i := 1292) (by decide +kernel)⟩
theorem lw_p36 : lw_okq (⟨"SurplusLandModel", "clause", "()V"⟩, 66) := ⟨⟨by decide +kernel, by decide +kernel⟩, List.mem_of_getElem? (i := 1016) (by decide +kernel), List.mem_of_getElem? (i := 1303) (by decide +kernel), List.mem_of_getElem? (i := 1304) (by decide +kernel)⟩
theorem lw_p37 : lw_okq (⟨"SurplusLandModel", "is", "(Ljava/lang/String;)Z"⟩, 66) := ⟨⟨by decide +kernel, by decide +kernel⟩, List.mem_of_getElem? (i := 1016) (by decide +kernel), List.mem_of_getElem? (i := 1308) (by decide +kernel), List.mem_of_getElem? (i := 1309) (by decide +kernel)⟩
theorem lw_p38 : lw_okq (⟨"SurplusLandModel", "bad", "()V"⟩, 66) := ⟨⟨by decide +kernel, by decide +kernel⟩, List.mem_of_getElem? (i := 1016) (by decide +kernel), List.mem_of_getElem? (i := 1318) (by decide +kernel), List.mem_of_getElem? (i := 1319) (by decide +kernel)⟩
theorem lw_p39 : lw_okq (⟨"SurplusLandModel", "numberOf", "()I"⟩, 66) := ⟨⟨by decide +kernel, by decide +kernel⟩, List.mem_of_getElem? (i := 1016) (by decide +kernel), List.mem_of_getElem? (i := 1322) (by decide +kernel), List.mem_of_getElem? (i := 1323) (by decide +kernel)⟩
theorem lw_p40 : lw_okq (⟨"SurplusLandModel", "sum", "()J"⟩, 66) := ⟨⟨by decide +kernel, by decide +kernel⟩, List.mem_of_getElem? (i := 1016) (by decide +kernel), List.mem_of_getElem? (i := 1328) (by decide +kernel), List.mem_of_getElem? (i := 1329) (by decide +kernel)⟩
theorem lw_p41 : lw_okq (⟨"SurplusLandModel", "term", "()J"⟩, 66) := ⟨⟨by decide +kernel, by decide +kernel⟩, List.mem_of_getElem? (i := 1016) (by decide +kernel), List.mem_of_getElem? (i := 1332) (by decide +kernel), List.mem_of_getElem? (i := 1333) (by decide +kernel)⟩
theorem lw_p42 : lw_okq (⟨"SurplusLandModel", "factor", "()J"⟩, 66) := ⟨⟨by decide +kernel, by decide +kernel⟩, List.mem_of_getElem? (i := 1016) (by decide +kernel), List.mem_of_getElem? (i := 1336) (by decide +kernel), List.mem_of_getElem? (i := 1337) (by decide +kernel)⟩
theorem lw_p43 : lw_okq (⟨"SurplusLandModel", "isSign", "(I)Z"⟩, 66) := ⟨⟨by decide +kernel, by decide +kernel⟩, List.mem_of_getElem? (i := 1016) (by decide +kernel), List.mem_of_getElem? (i := 1346) (by decide +kernel), List.mem_of_getElem? (i := 1347) (by decide +kernel)⟩
theorem lw_p44 : lw_okq (⟨"SurplusLandModel", "conds", "()Z"⟩, 66) := ⟨⟨by decide +kernel, by decide +kernel⟩, List.mem_of_getElem? (i := 1016) (by decide +kernel), List.mem_of_getElem? (i := 1352) (by decide +kernel), List.mem_of_getElem? (i := 1353) (by decide +kernel)⟩
theorem lw_p45 : lw_okq (⟨"SurplusLandModel", "isGrower", "(I)Z"⟩, 66) := ⟨⟨by decide +kernel, by decide +kernel⟩, List.mem_of_getElem? (i := 1016) (by decide +kernel), List.mem_of_getElem? (i := 1365) (by decide +kernel), List.mem_of_getElem? (i := 1366) (by decide +kernel)⟩
theorem lw_p46 : lw_okq (⟨"SurplusLandModel", "passes", "(II[II)I"⟩, 66) := ⟨⟨by decide +kernel, by decide +kernel⟩, List.mem_of_getElem? (i := 1016) (by decide +kernel), List.mem_of_getElem? (i := 1378) (by decide +kernel), List.mem_of_getElem? (i := 1379) (by decide +kernel)⟩
theorem lw_p47 : lw_okq (⟨"SurplusLandModel", "store", "(I)I"⟩, 66) := ⟨⟨by decide +kernel, by decide +kernel⟩, List.mem_of_getElem? (i := 1016) (by decide +kernel), List.mem_of_getElem? (i := 1382) (by decide +kernel), List.mem_of_getElem? (i := 1383) (by decide +kernel)⟩
def lw_privs_3 : List (MethodName × Nat) := [(⟨"SurplusLandModel", "isLaw", "()Z"⟩, 66), (⟨"SurplusLandModel", "reads", "(I)V"⟩, 66), (⟨"SurplusLandModel", "next", "()V"⟩, 66), (⟨"SurplusLandModel", "at", "(I)I"⟩, 66), (⟨"SurplusLandModel", "clause", "()V"⟩, 66), (⟨"SurplusLandModel", "is", "(Ljava/lang/String;)Z"⟩, 66), (⟨"SurplusLandModel", "bad", "()V"⟩, 66), (⟨"SurplusLandModel", "numberOf", "()I"⟩, 66), (⟨"SurplusLandModel", "sum", "()J"⟩, 66), (⟨"SurplusLandModel", "term", "()J"⟩, 66), (⟨"SurplusLandModel", "factor", "()J"⟩, 66), (⟨"SurplusLandModel", "isSign", "(I)Z"⟩, 66), (⟨"SurplusLandModel", "conds", "()Z"⟩, 66), (⟨"SurplusLandModel", "isGrower", "(I)Z"⟩, 66), (⟨"SurplusLandModel", "passes", "(II[II)I"⟩, 66), (⟨"SurplusLandModel", "store", "(I)I"⟩, 66)]
theorem lw_r3 : ∀ q ∈ lw_privs_3, lw_okq q := List.forall_mem_cons.mpr ⟨lw_p32, List.forall_mem_cons.mpr ⟨lw_p33, List.forall_mem_cons.mpr ⟨lw_p34, List.forall_mem_cons.mpr ⟨lw_p35, List.forall_mem_cons.mpr ⟨lw_p36, List.forall_mem_cons.mpr ⟨lw_p37, List.forall_mem_cons.mpr ⟨lw_p38, List.forall_mem_cons.mpr ⟨lw_p39, List.forall_mem_cons.mpr ⟨lw_p40, List.forall_mem_cons.mpr ⟨lw_p41, List.forall_mem_cons.mpr ⟨lw_p42, List.forall_mem_cons.mpr ⟨lw_p43, List.forall_mem_cons.mpr ⟨lw_p44, List.forall_mem_cons.mpr ⟨lw_p45, List.forall_mem_cons.mpr ⟨lw_p46, List.forall_mem_cons.mpr ⟨lw_p47, fun _ h => absurd h List.not_mem_nil⟩⟩⟩⟩⟩⟩⟩⟩⟩⟩⟩⟩⟩⟩⟩⟩
theorem lw_p48 : lw_okq (⟨"SurplusLandModel", "wants", "(I)I"⟩, 66) := ⟨⟨by decide +kernel, by decide +kernel⟩, List.mem_of_getElem? (i := 1016) (by decide +kernel), List.mem_of_getElem? (i := 1386) (by decide +kernel), List.mem_of_getElem? (i := 1387) (by decide +kernel)⟩
theorem lw_p49 : lw_okq (⟨"SurplusLandModel", "receipt", "(IIII)I"⟩, 66) := ⟨⟨by decide +kernel, by decide +kernel⟩, List.mem_of_getElem? (i := 1016) (by decide +kernel), List.mem_of_getElem? (i := 1392) (by decide +kernel), List.mem_of_getElem? (i := 1393) (by decide +kernel)⟩
theorem lw_p50 : lw_okq (⟨"SurplusLandModel", "sold", "(IIIII)V"⟩, 66) := ⟨⟨by decide +kernel, by decide +kernel⟩, List.mem_of_getElem? (i := 1016) (by decide +kernel), List.mem_of_getElem? (i := 1396) (by decide +kernel), List.mem_of_getElem? (i := 1397) (by decide +kernel)⟩
theorem lw_p51 : lw_okq (⟨"SurplusLandModel", "frees", "(I)I"⟩, 66) := ⟨⟨by decide +kernel, by decide +kernel⟩, List.mem_of_getElem? (i := 1016) (by decide +kernel), List.mem_of_getElem? (i := 1400) (by decide +kernel), List.mem_of_getElem? (i := 1401) (by decide +kernel)⟩
theorem lw_p52 : lw_okq (⟨"SurplusLandModel", "abroad", "(III)V"⟩, 66) := ⟨⟨by decide +kernel, by decide +kernel⟩, List.mem_of_getElem? (i := 1016) (by decide +kernel), List.mem_of_getElem? (i := 1404) (by decide +kernel), List.mem_of_getElem? (i := 1405) (by decide +kernel)⟩
theorem lw_p53 : lw_okq (⟨"SurplusLandModel", "sells", "(IIIII)V"⟩, 66) := ⟨⟨by decide +kernel, by decide +kernel⟩, List.mem_of_getElem? (i := 1016) (by decide +kernel), List.mem_of_getElem? (i := 1408) (by decide +kernel), List.mem_of_getElem? (i := 1409) (by decide +kernel)⟩
theorem lw_p54 : lw_okq (⟨"SurplusLandModel", "stills", "(I)V"⟩, 66) := ⟨⟨by decide +kernel, by decide +kernel⟩, List.mem_of_getElem? (i := 1016) (by decide +kernel), List.mem_of_getElem? (i := 1412) (by decide +kernel), List.mem_of_getElem? (i := 1413) (by decide +kernel)⟩
theorem lw_p55 : lw_okq (⟨"SurplusLandModel", "grows", "(I)V"⟩, 66) := ⟨⟨by decide +kernel, by decide +kernel⟩, List.mem_of_getElem? (i := 1016) (by decide +kernel), List.mem_of_getElem? (i := 1416) (by decide +kernel), List.mem_of_getElem? (i := 1417) (by decide +kernel)⟩
theorem lw_p56 : lw_okq (⟨"SurplusLandModel", "dues", "(II)V"⟩, 66) := ⟨⟨by decide +kernel, by decide +kernel⟩, List.mem_of_getElem? (i := 1016) (by decide +kernel), List.mem_of_getElem? (i := 1420) (by decide +kernel), List.mem_of_getElem? (i := 1421) (by decide +kernel)⟩
theorem lw_p57 : lw_okq (⟨"SurplusLandModel", "pays", "(II)Z"⟩, 66) := ⟨⟨by decide +kernel, by decide +kernel⟩, List.mem_of_getElem? (i := 1016) (by decide +kernel), List.mem_of_getElem? (i := 1424) (by decide +kernel), List.mem_of_getElem? (i := 1425) (by decide +kernel)⟩
theorem lw_p58 : lw_okq (⟨"SurplusLandModel", "ends", "(II)V"⟩, 66) := ⟨⟨by decide +kernel, by decide +kernel⟩, List.mem_of_getElem? (i := 1016) (by decide +kernel), List.mem_of_getElem? (i := 1428) (by decide +kernel), List.mem_of_getElem? (i := 1429) (by decide +kernel)⟩
theorem lw_p59 : lw_okq (⟨"SurplusLandModel", "isFull", "(I)Z"⟩, 66) := ⟨⟨by decide +kernel, by decide +kernel⟩, List.mem_of_getElem? (i := 1016) (by decide +kernel), List.mem_of_getElem? (i := 1441) (by decide +kernel), List.mem_of_getElem? (i := 1442) (by decide +kernel)⟩
theorem lw_p60 : lw_okq (⟨"SurplusLandModel", "isPledged", "(I)Z"⟩, 66) := ⟨⟨by decide +kernel, by decide +kernel⟩, List.mem_of_getElem? (i := 1016) (by decide +kernel), List.mem_of_getElem? (i := 1445) (by decide +kernel), List.mem_of_getElem? (i := 1446) (by decide +kernel)⟩
theorem lw_p61 : lw_okq (⟨"SurplusLandModel", "isLoan", "(II)Z"⟩, 66) := ⟨⟨by decide +kernel, by decide +kernel⟩, List.mem_of_getElem? (i := 1016) (by decide +kernel), List.mem_of_getElem? (i := 1465) (by decide +kernel), List.mem_of_getElem? (i := 1466) (by decide +kernel)⟩
theorem lw_p62 : lw_okq (⟨"SurplusLandModel", "isNear", "(IIIII)Z"⟩, 66) := ⟨⟨by decide +kernel, by decide +kernel⟩, List.mem_of_getElem? (i := 1016) (by decide +kernel), List.mem_of_getElem? (i := 1514) (by decide +kernel), List.mem_of_getElem? (i := 1515) (by decide +kernel)⟩
theorem lw_p63 : lw_okq (⟨"SurplusLandModel", "ways", "(II)J"⟩, 66) := ⟨⟨by decide +kernel, by decide +kernel⟩, List.mem_of_getElem? (i := 1016) (by decide +kernel), List.mem_of_getElem? (i := 1518) (by decide +kernel), List.mem_of_getElem? (i := 1519) (by decide +kernel)⟩
def lw_privs_4 : List (MethodName × Nat) := [(⟨"SurplusLandModel", "wants", "(I)I"⟩, 66), (⟨"SurplusLandModel", "receipt", "(IIII)I"⟩, 66), (⟨"SurplusLandModel", "sold", "(IIIII)V"⟩, 66), (⟨"SurplusLandModel", "frees", "(I)I"⟩, 66), (⟨"SurplusLandModel", "abroad", "(III)V"⟩, 66), (⟨"SurplusLandModel", "sells", "(IIIII)V"⟩, 66), (⟨"SurplusLandModel", "stills", "(I)V"⟩, 66), (⟨"SurplusLandModel", "grows", "(I)V"⟩, 66), (⟨"SurplusLandModel", "dues", "(II)V"⟩, 66), (⟨"SurplusLandModel", "pays", "(II)Z"⟩, 66), (⟨"SurplusLandModel", "ends", "(II)V"⟩, 66), (⟨"SurplusLandModel", "isFull", "(I)Z"⟩, 66), (⟨"SurplusLandModel", "isPledged", "(I)Z"⟩, 66), (⟨"SurplusLandModel", "isLoan", "(II)Z"⟩, 66), (⟨"SurplusLandModel", "isNear", "(IIIII)Z"⟩, 66), (⟨"SurplusLandModel", "ways", "(II)J"⟩, 66)]
theorem lw_r4 : ∀ q ∈ lw_privs_4, lw_okq q := List.forall_mem_cons.mpr ⟨lw_p48, List.forall_mem_cons.mpr ⟨lw_p49, List.forall_mem_cons.mpr ⟨lw_p50, List.forall_mem_cons.mpr ⟨lw_p51, List.forall_mem_cons.mpr ⟨lw_p52, List.forall_mem_cons.mpr ⟨lw_p53, List.forall_mem_cons.mpr ⟨lw_p54, List.forall_mem_cons.mpr ⟨lw_p55, List.forall_mem_cons.mpr ⟨lw_p56, List.forall_mem_cons.mpr ⟨lw_p57, List.forall_mem_cons.mpr ⟨lw_p58, List.forall_mem_cons.mpr ⟨lw_p59, List.forall_mem_cons.mpr ⟨lw_p60, List.forall_mem_cons.mpr ⟨lw_p61, List.forall_mem_cons.mpr ⟨lw_p62, List.forall_mem_cons.mpr ⟨lw_p63, fun _ h => absurd h List.not_mem_nil⟩⟩⟩⟩⟩⟩⟩⟩⟩⟩⟩⟩⟩⟩⟩⟩
def lw_privs : List (MethodName × Nat) := lw_privs_1 ++ (lw_privs_2 ++ (lw_privs_3 ++ (lw_privs_4)))
def lw_tbl : List Cond := k2_sels lw_privs ++ tables_1
theorem lw_privs_ok : ∀ q ∈ lw_privs, lw_okq q := by
  show ∀ q ∈ lw_privs_1 ++ (lw_privs_2 ++ (lw_privs_3 ++ (lw_privs_4))), lw_okq q
  exact List.forall_mem_append.mpr ⟨lw_r1, List.forall_mem_append.mpr ⟨lw_r2, List.forall_mem_append.mpr ⟨lw_r3, lw_r4⟩⟩⟩
def RX0 : String := "SurplusLand$Bank"
def TX0 : u_T := fun k => match k with
  | 0 => ("SurplusLand$Bank", "part", "I", false)
  | 1 => ("SurplusLand$Bank", "rate", "I", false)
  | _ => ("SurplusLand$Bank", "money", "J", false)
def tyX0 : Nat → FieldType := fun k => match k with
  | 0 => .int
  | 1 => .int
  | _ => .long
abbrev wsX00 : List Cond := u_ws RX0 TX0 3
theorem nmX0 : ∀ a, a < 3 → ∀ b, b < 3 → a ≠ b → (TX0 a).2.1 ≠ (TX0 b).2.1 := by decide +kernel
theorem tyX0_ok : ∀ k, k < 3 → parseFieldDescriptor (TX0 k).2.2.1 = some (tyX0 k) := by decide +kernel
def RX1 : String := "SurplusLand$Grower"
def TX1 : u_T := fun k => match k with
  | 0 => ("SurplusLand$Grower", "told", "[I", true)
  | 1 => ("SurplusLand$Grower", "crops", "[I", true)
  | 2 => ("SurplusLand$Grower", "freed", "[Z", true)
  | 3 => ("SurplusLand$Grower", "village", "I", false)
  | 4 => ("SurplusLand$Grower", "acres", "I", false)
  | 5 => ("SurplusLand$Grower", "bearing", "I", false)
  | 6 => ("SurplusLand$Grower", "young0", "I", false)
  | 7 => ("SurplusLand$Grower", "young1", "I", false)
  | 8 => ("SurplusLand$Grower", "young2", "I", false)
  | 9 => ("SurplusLand$Grower", "free", "I", false)
  | 10 => ("SurplusLand$Grower", "kept", "I", false)
  | 11 => ("SurplusLand$Grower", "money", "J", false)
  | _ => ("SurplusLand$Grower", "rest", "J", false)
def tyX1 : Nat → FieldType := fun k => match k with
  | 0 => .array .int
  | 1 => .array .int
  | 2 => .array .boolean
  | 3 => .int
  | 4 => .int
  | 5 => .int
  | 6 => .int
  | 7 => .int
  | 8 => .int
  | 9 => .int
  | 10 => .int
  | 11 => .long
  | _ => .long
abbrev wsX10 : List Cond := u_ws RX1 TX1 13
theorem nmX1 : ∀ a, a < 13 → ∀ b, b < 13 → a ≠ b → (TX1 a).2.1 ≠ (TX1 b).2.1 := by decide +kernel
theorem tyX1_ok : ∀ k, k < 13 → parseFieldDescriptor (TX1 k).2.2.1 = some (tyX1 k) := by decide +kernel
def RX2 : String := "SurplusLand$Judge"
def TX2 : u_T := fun k => match k with
  | 0 => ("SurplusLand$Judge", "facts", "[J", true)
  | 1 => ("SurplusLand$Judge", "stack", "[J", true)
  | 2 => ("SurplusLand$Judge", "villages", "[Z", true)
  | 3 => ("SurplusLand$Judge", "partTold", "Z", false)
  | 4 => ("SurplusLand$Judge", "soldTold", "Z", false)
  | 5 => ("SurplusLand$Judge", "part", "I", false)
  | 6 => ("SurplusLand$Judge", "still", "I", false)
  | 7 => ("SurplusLand$Judge", "least", "J", false)
  | _ => ("SurplusLand$Judge", "sold", "J", false)
def tyX2 : Nat → FieldType := fun k => match k with
  | 0 => .array .long
  | 1 => .array .long
  | 2 => .array .boolean
  | 3 => .boolean
  | 4 => .boolean
  | 5 => .int
  | 6 => .int
  | 7 => .long
  | _ => .long
abbrev wsX20 : List Cond := u_ws RX2 TX2 9
theorem nmX2 : ∀ a, a < 9 → ∀ b, b < 9 → a ≠ b → (TX2 a).2.1 ≠ (TX2 b).2.1 := by decide +kernel
theorem tyX2_ok : ∀ k, k < 9 → parseFieldDescriptor (TX2 k).2.2.1 = some (tyX2 k) := by decide +kernel
def RX3 : String := "SurplusLand$Land"
def TX3 : u_T := fun k => match k with
  | 0 => ("SurplusLand$Land", "terms", "LSurplusLand$Terms;", true)
  | 1 => ("SurplusLand$Land", "growers", "[LSurplusLand$Grower;", true)
  | 2 => ("SurplusLand$Land", "banks", "[LSurplusLand$Bank;", true)
  | 3 => ("SurplusLand$Land", "store", "LSurplusLand$Store;", true)
  | 4 => ("SurplusLand$Land", "judge", "LSurplusLand$Judge;", true)
  | 5 => ("SurplusLand$Land", "yields", "[I", true)
  | 6 => ("SurplusLand$Land", "parts", "[I", true)
  | 7 => ("SurplusLand$Land", "sums", "[J", true)
  | 8 => ("SurplusLand$Land", "settled", "I", false)
  | 9 => ("SurplusLand$Land", "year", "I", false)
  | 10 => ("SurplusLand$Land", "price", "I", false)
  | 11 => ("SurplusLand$Land", "wanted", "I", false)
  | 12 => ("SurplusLand$Land", "part", "I", false)
  | _ => ("SurplusLand$Land", "unpaid", "I", false)
def tyX3 : Nat → FieldType := fun k => match k with
  | 0 => .object "SurplusLand$Terms"
  | 1 => .array (.object "SurplusLand$Grower")
  | 2 => .array (.object "SurplusLand$Bank")
  | 3 => .object "SurplusLand$Store"
  | 4 => .object "SurplusLand$Judge"
  | 5 => .array .int
  | 6 => .array .int
  | 7 => .array .long
  | 8 => .int
  | 9 => .int
  | 10 => .int
  | 11 => .int
  | 12 => .int
  | _ => .int
abbrev wsX30 : List Cond := u_ws RX3 TX3 14
theorem nmX3 : ∀ a, a < 14 → ∀ b, b < 14 → a ≠ b → (TX3 a).2.1 ≠ (TX3 b).2.1 := by decide +kernel
theorem tyX3_ok : ∀ k, k < 14 → parseFieldDescriptor (TX3 k).2.2.1 = some (tyX3 k) := by decide +kernel
def RX4 : String := "SurplusLand$Law"
def TX4 : u_T := fun k => match k with
  | 0 => ("SurplusLand$Law", "kinds", "[I", true)
  | 1 => ("SurplusLand$Law", "starts", "[I", true)
  | 2 => ("SurplusLand$Law", "middles", "[I", true)
  | 3 => ("SurplusLand$Law", "ends", "[I", true)
  | 4 => ("SurplusLand$Law", "code", "[I", true)
  | 5 => ("SurplusLand$Law", "clauses", "I", false)
  | _ => ("SurplusLand$Law", "used", "I", false)
def tyX4 : Nat → FieldType := fun k => match k with
  | 0 => .array .int
  | 1 => .array .int
  | 2 => .array .int
  | 3 => .array .int
  | 4 => .array .int
  | 5 => .int
  | _ => .int
abbrev wsX40 : List Cond := u_ws RX4 TX4 7
theorem nmX4 : ∀ a, a < 7 → ∀ b, b < 7 → a ≠ b → (TX4 a).2.1 ≠ (TX4 b).2.1 := by decide +kernel
theorem tyX4_ok : ∀ k, k < 7 → parseFieldDescriptor (TX4 k).2.2.1 = some (tyX4 k) := by decide +kernel
def RX5 : String := "SurplusLand$Loan"
def TX5 : u_T := fun k => match k with
  | 0 => ("SurplusLand$Loan", "bank", "I", true)
  | 1 => ("SurplusLand$Loan", "due", "I", true)
  | _ => ("SurplusLand$Loan", "owed", "J", true)
def tyX5 : Nat → FieldType := fun k => match k with
  | 0 => .int
  | 1 => .int
  | _ => .long
abbrev wsX50 : List Cond := u_ws RX5 TX5 3
theorem nmX5 : ∀ a, a < 3 → ∀ b, b < 3 → a ≠ b → (TX5 a).2.1 ≠ (TX5 b).2.1 := by decide +kernel
theorem tyX5_ok : ∀ k, k < 3 → parseFieldDescriptor (TX5 k).2.2.1 = some (tyX5 k) := by decide +kernel
def RX6 : String := "SurplusLand$Receipt"
def TX6 : u_T := fun k => match k with
  | 0 => ("SurplusLand$Receipt", "holder", "I", false)
  | 1 => ("SurplusLand$Receipt", "sacks", "I", false)
  | 2 => ("SurplusLand$Receipt", "year", "I", false)
  | 3 => ("SurplusLand$Receipt", "first", "LSurplusLand$Loan;", false)
  | _ => ("SurplusLand$Receipt", "second", "LSurplusLand$Loan;", false)
def tyX6 : Nat → FieldType := fun k => match k with
  | 0 => .int
  | 1 => .int
  | 2 => .int
  | 3 => .object "SurplusLand$Loan"
  | _ => .object "SurplusLand$Loan"
abbrev wsX60 : List Cond := u_ws RX6 TX6 5
theorem nmX6 : ∀ a, a < 5 → ∀ b, b < 5 → a ≠ b → (TX6 a).2.1 ≠ (TX6 b).2.1 := by decide +kernel
theorem tyX6_ok : ∀ k, k < 5 → parseFieldDescriptor (TX6 k).2.2.1 = some (tyX6 k) := by decide +kernel
def RX7 : String := "SurplusLand$Rows"
def TX7 : u_T := fun k => match k with
  | 0 => ("SurplusLand$Rows", "cells", "[J", true)
  | 1 => ("SurplusLand$Rows", "widths", "[I", true)
  | _ => ("SurplusLand$Rows", "lengths", "[I", true)
def tyX7 : Nat → FieldType := fun k => match k with
  | 0 => .array .long
  | 1 => .array .int
  | _ => .array .int
abbrev wsX70 : List Cond := u_ws RX7 TX7 3
theorem nmX7 : ∀ a, a < 3 → ∀ b, b < 3 → a ≠ b → (TX7 a).2.1 ≠ (TX7 b).2.1 := by decide +kernel
theorem tyX7_ok : ∀ k, k < 3 → parseFieldDescriptor (TX7 k).2.2.1 = some (tyX7 k) := by decide +kernel
def RX8 : String := "SurplusLand$Store"
def TX8 : u_T := fun k => match k with
  | 0 => ("SurplusLand$Store", "papers", "[LSurplusLand$Receipt;", true)
  | _ => ("SurplusLand$Store", "count", "I", false)
def tyX8 : Nat → FieldType := fun k => match k with
  | 0 => .array (.object "SurplusLand$Receipt")
  | _ => .int
abbrev wsX80 : List Cond := u_ws RX8 TX8 2
theorem nmX8 : ∀ a, a < 2 → ∀ b, b < 2 → a ≠ b → (TX8 a).2.1 ≠ (TX8 b).2.1 := by decide +kernel
theorem tyX8_ok : ∀ k, k < 2 → parseFieldDescriptor (TX8 k).2.2.1 = some (tyX8 k) := by decide +kernel
def RX9 : String := "SurplusLand$Tape"
def TX9 : u_T := fun k => match k with
  | 0 => ("SurplusLand$Tape", "bytes", "[B", true)
  | 1 => ("SurplusLand$Tape", "kinds", "[I", true)
  | 2 => ("SurplusLand$Tape", "places", "[I", true)
  | 3 => ("SurplusLand$Tape", "values", "[I", true)
  | 4 => ("SurplusLand$Tape", "length", "I", false)
  | 5 => ("SurplusLand$Tape", "fault", "I", false)
  | 6 => ("SurplusLand$Tape", "tokens", "I", false)
  | 7 => ("SurplusLand$Tape", "at", "I", false)
  | _ => ("SurplusLand$Tape", "law", "LSurplusLand$Law;", false)
def tyX9 : Nat → FieldType := fun k => match k with
  | 0 => .array .byte
  | 1 => .array .int
  | 2 => .array .int
  | 3 => .array .int
  | 4 => .int
  | 5 => .int
  | 6 => .int
  | 7 => .int
  | _ => .object "SurplusLand$Law"
abbrev wsX90 : List Cond := u_ws RX9 TX9 9
theorem nmX9 : ∀ a, a < 9 → ∀ b, b < 9 → a ≠ b → (TX9 a).2.1 ≠ (TX9 b).2.1 := by decide +kernel
theorem tyX9_ok : ∀ k, k < 9 → parseFieldDescriptor (TX9 k).2.2.1 = some (tyX9 k) := by decide +kernel
def RX10 : String := "SurplusLand$Terms"
def TX10 : u_T := fun k => match k with
  | 0 => ("SurplusLand$Terms", "base", "I", false)
  | 1 => ("SurplusLand$Terms", "slope", "I", false)
  | 2 => ("SurplusLand$Terms", "pull", "I", false)
  | 3 => ("SurplusLand$Terms", "quota", "I", false)
  | 4 => ("SurplusLand$Terms", "high", "I", false)
  | 5 => ("SurplusLand$Terms", "plant", "I", false)
  | _ => ("SurplusLand$Terms", "damp", "I", false)
def tyX10 : Nat → FieldType := fun k => match k with
  | 0 => .int
  | 1 => .int
  | 2 => .int
  | 3 => .int
  | 4 => .int
  | 5 => .int
  | _ => .int
abbrev wsX100 : List Cond := u_ws RX10 TX10 7
theorem nmX10 : ∀ a, a < 7 → ∀ b, b < 7 → a ≠ b → (TX10 a).2.1 ≠ (TX10 b).2.1 := by decide +kernel
theorem tyX10_ok : ∀ k, k < 7 → parseFieldDescriptor (TX10 k).2.2.1 = some (tyX10 k) := by decide +kernel
def RX11 : String := "SurplusLand"
def TX11 : u_T := fun k => match k with
  | 0 => ("SurplusLand", "terms", "LSurplusLand$Terms;", true)
  | 1 => ("SurplusLand", "land", "LSurplusLand$Land;", true)
  | 2 => ("SurplusLand", "other", "LSurplusLand$Land;", true)
  | 3 => ("SurplusLand", "tape", "LSurplusLand$Tape;", true)
  | 4 => ("SurplusLand", "draft", "LSurplusLand$Law;", true)
  | 5 => ("SurplusLand", "laws", "[LSurplusLand$Law;", true)
  | 6 => ("SurplusLand", "rows", "LSurplusLand$Rows;", true)
  | _ => ("SurplusLand", "sets", "[J", true)
def tyX11 : Nat → FieldType := fun k => match k with
  | 0 => .object "SurplusLand$Terms"
  | 1 => .object "SurplusLand$Land"
  | 2 => .object "SurplusLand$Land"
  | 3 => .object "SurplusLand$Tape"
  | 4 => .object "SurplusLand$Law"
  | 5 => .array (.object "SurplusLand$Law")
  | 6 => .object "SurplusLand$Rows"
  | _ => .array .long
abbrev wsX110 : List Cond := u_ws RX11 TX11 8
theorem nmX11 : ∀ a, a < 8 → ∀ b, b < 8 → a ≠ b → (TX11 a).2.1 ≠ (TX11 b).2.1 := by decide +kernel
theorem tyX11_ok : ∀ k, k < 8 → parseFieldDescriptor (TX11 k).2.2.1 = some (tyX11 k) := by decide +kernel
def RX12 : String := "SurplusLandModel"
def TX12 : u_T := fun k => match k with
  | 0 => ("SurplusLandModel", "thrown", "I", false)
  | 1 => ("SurplusLandModel", "width", "[I", true)
  | 2 => ("SurplusLandModel", "size", "[I", true)
  | 3 => ("SurplusLandModel", "cells", "[J", true)
  | 4 => ("SurplusLandModel", "moved", "[J", true)
  | 5 => ("SurplusLandModel", "base", "I", false)
  | 6 => ("SurplusLandModel", "slope", "I", false)
  | 7 => ("SurplusLandModel", "pull", "I", false)
  | 8 => ("SurplusLandModel", "quota", "I", false)
  | 9 => ("SurplusLandModel", "high", "I", false)
  | 10 => ("SurplusLandModel", "plant", "I", false)
  | 11 => ("SurplusLandModel", "damp", "I", false)
  | 12 => ("SurplusLandModel", "part", "[I", true)
  | 13 => ("SurplusLandModel", "rate", "[I", true)
  | 14 => ("SurplusLandModel", "tape", "[B", true)
  | 15 => ("SurplusLandModel", "taped", "I", false)
  | 16 => ("SurplusLandModel", "faultPlace", "I", false)
  | 17 => ("SurplusLandModel", "text", "[B", true)
  | 18 => ("SurplusLandModel", "textMany", "[I", true)
  | 19 => ("SurplusLandModel", "growers", "I", false)
  | 20 => ("SurplusLandModel", "village", "[I", true)
  | 21 => ("SurplusLandModel", "acres", "[I", true)
  | 22 => ("SurplusLandModel", "told", "[I", true)
  | 23 => ("SurplusLandModel", "was", "[I", true)
  | 24 => ("SurplusLandModel", "is", "[I", true)
  | 25 => ("SurplusLandModel", "yields", "[I", true)
  | 26 => ("SurplusLandModel", "parts", "[I", true)
  | 27 => ("SurplusLandModel", "wasFreed", "[Z", true)
  | 28 => ("SurplusLandModel", "wasTold", "[Z", true)
  | 29 => ("SurplusLandModel", "crops", "[I", true)
  | 30 => ("SurplusLandModel", "keptOf", "[I", true)
  | 31 => ("SurplusLandModel", "year", "[I", true)
  | 32 => ("SurplusLandModel", "price", "[I", true)
  | 33 => ("SurplusLandModel", "receipts", "[I", true)
  | 34 => ("SurplusLandModel", "wanted", "[I", true)
  | 35 => ("SurplusLandModel", "bearing", "[I", true)
  | 36 => ("SurplusLandModel", "young", "[I", true)
  | 37 => ("SurplusLandModel", "free", "[I", true)
  | 38 => ("SurplusLandModel", "rest", "[J", true)
  | 39 => ("SurplusLandModel", "money", "[J", true)
  | 40 => ("SurplusLandModel", "holder", "[I", true)
  | 41 => ("SurplusLandModel", "sacks", "[I", true)
  | 42 => ("SurplusLandModel", "fruit", "[I", true)
  | 43 => ("SurplusLandModel", "sums", "[J", true)
  | 44 => ("SurplusLandModel", "pledged", "[I", true)
  | 45 => ("SurplusLandModel", "due", "[I", true)
  | 46 => ("SurplusLandModel", "owes", "[J", true)
  | 47 => ("SurplusLandModel", "unpaid", "I", false)
  | 48 => ("SurplusLandModel", "row", "I", false)
  | 49 => ("SurplusLandModel", "many", "I", false)
  | 50 => ("SurplusLandModel", "to", "I", false)
  | 51 => ("SurplusLandModel", "from", "I", false)
  | 52 => ("SurplusLandModel", "sort", "I", false)
  | 53 => ("SurplusLandModel", "open", "I", false)
  | 54 => ("SurplusLandModel", "number", "J", false)
  | 55 => ("SurplusLandModel", "isBad", "Z", false)
  | 56 => ("SurplusLandModel", "known", "[J", true)
  | 57 => ("SurplusLandModel", "keeps", "J", false)
  | 58 => ("SurplusLandModel", "sells", "J", false)
  | 59 => ("SurplusLandModel", "hasKeep", "Z", false)
  | 60 => ("SurplusLandModel", "hasSell", "Z", false)
  | 61 => ("SurplusLandModel", "freed", "I", false)
  | 62 => ("SurplusLandModel", "least", "I", false)
  | 63 => ("SurplusLandModel", "still", "I", false)
  | 64 => ("SurplusLandModel", "clauses", "I", false)
  | _ => ("SurplusLandModel", "choose", "[J", true)
def tyX12 : Nat → FieldType := fun k => match k with
  | 0 => .int
  | 1 => .array .int
  | 2 => .array .int
  | 3 => .array .long
  | 4 => .array .long
  | 5 => .int
  | 6 => .int
  | 7 => .int
  | 8 => .int
  | 9 => .int
  | 10 => .int
  | 11 => .int
  | 12 => .array .int
  | 13 => .array .int
  | 14 => .array .byte
  | 15 => .int
  | 16 => .int
  | 17 => .array .byte
  | 18 => .array .int
  | 19 => .int
  | 20 => .array .int
  | 21 => .array .int
  | 22 => .array .int
  | 23 => .array .int
  | 24 => .array .int
  | 25 => .array .int
  | 26 => .array .int
  | 27 => .array .boolean
  | 28 => .array .boolean
  | 29 => .array .int
  | 30 => .array .int
  | 31 => .array .int
  | 32 => .array .int
  | 33 => .array .int
  | 34 => .array .int
  | 35 => .array .int
  | 36 => .array .int
  | 37 => .array .int
  | 38 => .array .long
  | 39 => .array .long
  | 40 => .array .int
  | 41 => .array .int
  | 42 => .array .int
  | 43 => .array .long
  | 44 => .array .int
  | 45 => .array .int
  | 46 => .array .long
  | 47 => .int
  | 48 => .int
  | 49 => .int
  | 50 => .int
  | 51 => .int
  | 52 => .int
  | 53 => .int
  | 54 => .long
  | 55 => .boolean
  | 56 => .array .long
  | 57 => .long
  | 58 => .long
  | 59 => .boolean
  | 60 => .boolean
  | 61 => .int
  | 62 => .int
  | 63 => .int
  | 64 => .int
  | _ => .array .long
abbrev wsX120 : List Cond := u_ws RX12 TX12 66
theorem nmX12 : ∀ a, a < 66 → ∀ b, b < 66 → a ≠ b → (TX12 a).2.1 ≠ (TX12 b).2.1 := by decide +kernel
theorem tyX12_ok : ∀ k, k < 66 → parseFieldDescriptor (TX12 k).2.2.1 = some (tyX12 k) := by decide +kernel
abbrev vwCl : List vw_C := [(RX0, TX0, 3), (RX1, TX1, 13), (RX2, TX2, 9), (RX3, TX3, 14), (RX4, TX4, 7), (RX5, TX5, 3), (RX6, TX6, 5), (RX7, TX7, 3), (RX8, TX8, 2), (RX9, TX9, 9), (RX10, TX10, 7), (RX11, TX11, 8), (RX12, TX12, 66)]
