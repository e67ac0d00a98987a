/-! ===== words of the tables, by their places ===== -/
theorem inT1 {w : Cond} (h : w ∈ tables_1_1) : w ∈ lw_tbl := List.mem_append_right _ (show w ∈ tables_1_1 ++ (tables_1_2 ++ (tables_1_3 ++ (tables_1_4 ++ (tables_1_5 ++ (tables_1_6 ++ tables_1_7))))) from (List.mem_append_left _ h))
theorem inT2 {w : Cond} (h : w ∈ tables_1_2) : w ∈ lw_tbl := List.mem_append_right _ (show w ∈ tables_1_1 ++ (tables_1_2 ++ (tables_1_3 ++ (tables_1_4 ++ (tables_1_5 ++ (tables_1_6 ++ tables_1_7))))) from (List.mem_append_right _ (List.mem_append_left _ h)))
theorem inT3 {w : Cond} (h : w ∈ tables_1_3) : w ∈ lw_tbl := List.mem_append_right _ (show w ∈ tables_1_1 ++ (tables_1_2 ++ (tables_1_3 ++ (tables_1_4 ++ (tables_1_5 ++ (tables_1_6 ++ tables_1_7))))) from (List.mem_append_right _ (List.mem_append_right _ (List.mem_append_left _ h))))
theorem inT4 {w : Cond} (h : w ∈ tables_1_4) : w ∈ lw_tbl := List.mem_append_right _ (show w ∈ tables_1_1 ++ (tables_1_2 ++ (tables_1_3 ++ (tables_1_4 ++ (tables_1_5 ++ (tables_1_6 ++ tables_1_7))))) from (List.mem_append_right _ (List.mem_append_right _ (List.mem_append_right _ (List.mem_append_left _ h)))))
theorem inT5 {w : Cond} (h : w ∈ tables_1_5) : w ∈ lw_tbl := List.mem_append_right _ (show w ∈ tables_1_1 ++ (tables_1_2 ++ (tables_1_3 ++ (tables_1_4 ++ (tables_1_5 ++ (tables_1_6 ++ tables_1_7))))) from (List.mem_append_right _ (List.mem_append_right _ (List.mem_append_right _ (List.mem_append_right _ (List.mem_append_left _ h))))))
theorem inT6 {w : Cond} (h : w ∈ tables_1_6) : w ∈ lw_tbl := List.mem_append_right _ (show w ∈ tables_1_1 ++ (tables_1_2 ++ (tables_1_3 ++ (tables_1_4 ++ (tables_1_5 ++ (tables_1_6 ++ tables_1_7))))) from (List.mem_append_right _ (List.mem_append_right _ (List.mem_append_right _ (List.mem_append_right _ (List.mem_append_right _ (List.mem_append_left _ h)))))))
theorem inT7 {w : Cond} (h : w ∈ tables_1_7) : w ∈ lw_tbl := List.mem_append_right _ (show w ∈ tables_1_1 ++ (tables_1_2 ++ (tables_1_3 ++ (tables_1_4 ++ (tables_1_5 ++ (tables_1_6 ++ tables_1_7))))) from (List.mem_append_right _ (List.mem_append_right _ (List.mem_append_right _ (List.mem_append_right _ (List.mem_append_right _ (List.mem_append_right _ h)))))))
theorem inP {w : Cond} (h : w ∈ k2_sels lw_privs) : w ∈ lw_tbl := List.mem_append_left _ h
theorem tw_0 : Cond.selects "SurplusLand$Tape" ⟨"SurplusLand$Tape", "scan", "()V"⟩ ⟨"SurplusLand$Tape", "scan", "()V"⟩ ∈ tG := tG_of (inP (List.mem_of_getElem? (i := 0) (by decide +kernel))) rfl
theorem tw_1 : Cond.selects "SurplusLand$Tape" ⟨"SurplusLand$Tape", "stopOf", "(I)I"⟩ ⟨"SurplusLand$Tape", "stopOf", "(I)I"⟩ ∈ tG := tG_of (inP (List.mem_of_getElem? (i := 1) (by decide +kernel))) rfl
theorem tw_2 : Cond.selects "SurplusLand$Tape" ⟨"SurplusLand$Tape", "isLetter", "(I)Z"⟩ ⟨"SurplusLand$Tape", "isLetter", "(I)Z"⟩ ∈ tG := tG_of (inP (List.mem_of_getElem? (i := 2) (by decide +kernel))) rfl
theorem tw_3 : Cond.selects "SurplusLand$Tape" ⟨"SurplusLand$Tape", "isDigit", "(I)Z"⟩ ⟨"SurplusLand$Tape", "isDigit", "(I)Z"⟩ ∈ tG := tG_of (inP (List.mem_of_getElem? (i := 3) (by decide +kernel))) rfl
theorem tw_4 : Cond.selects "SurplusLand$Tape" ⟨"SurplusLand$Tape", "kindOf", "(II)I"⟩ ⟨"SurplusLand$Tape", "kindOf", "(II)I"⟩ ∈ tG := tG_of (inP (List.mem_of_getElem? (i := 4) (by decide +kernel))) rfl
theorem tw_5 : Cond.selects "SurplusLand$Tape" ⟨"SurplusLand$Tape", "kindOfWord", "(II)I"⟩ ⟨"SurplusLand$Tape", "kindOfWord", "(II)I"⟩ ∈ tG := tG_of (inP (List.mem_of_getElem? (i := 5) (by decide +kernel))) rfl
theorem tw_6 : Cond.selects "SurplusLand$Tape" ⟨"SurplusLand$Tape", "spells", "(IILjava/lang/String;)Z"⟩ ⟨"SurplusLand$Tape", "spells", "(IILjava/lang/String;)Z"⟩ ∈ tG := tG_of (inP (List.mem_of_getElem? (i := 6) (by decide +kernel))) rfl
theorem tw_7 : Cond.selects "SurplusLand$Tape" ⟨"SurplusLand$Tape", "numberOf", "(II)I"⟩ ⟨"SurplusLand$Tape", "numberOf", "(II)I"⟩ ∈ tG := tG_of (inP (List.mem_of_getElem? (i := 7) (by decide +kernel))) rfl
theorem tw_8 : Cond.selects "SurplusLand$Tape" ⟨"SurplusLand$Tape", "readClause", "()Z"⟩ ⟨"SurplusLand$Tape", "readClause", "()Z"⟩ ∈ tG := tG_of (inP (List.mem_of_getElem? (i := 8) (by decide +kernel))) rfl
theorem tw_9 : Cond.selects "SurplusLand$Tape" ⟨"SurplusLand$Tape", "refuse", "()Z"⟩ ⟨"SurplusLand$Tape", "refuse", "()Z"⟩ ∈ tG := tG_of (inP (List.mem_of_getElem? (i := 9) (by decide +kernel))) rfl
theorem tw_10 : Cond.selects "SurplusLand$Tape" ⟨"SurplusLand$Tape", "step", "()V"⟩ ⟨"SurplusLand$Tape", "step", "()V"⟩ ∈ tG := tG_of (inP (List.mem_of_getElem? (i := 10) (by decide +kernel))) rfl
theorem tw_11 : Cond.selects "SurplusLand$Tape" ⟨"SurplusLand$Tape", "readSum", "(I)Z"⟩ ⟨"SurplusLand$Tape", "readSum", "(I)Z"⟩ ∈ tG := tG_of (inP (List.mem_of_getElem? (i := 11) (by decide +kernel))) rfl
theorem tw_12 : Cond.selects "SurplusLand$Tape" ⟨"SurplusLand$Tape", "readTerm", "(I)Z"⟩ ⟨"SurplusLand$Tape", "readTerm", "(I)Z"⟩ ∈ tG := tG_of (inP (List.mem_of_getElem? (i := 12) (by decide +kernel))) rfl
theorem tw_13 : Cond.selects "SurplusLand$Tape" ⟨"SurplusLand$Tape", "readFactor", "(I)Z"⟩ ⟨"SurplusLand$Tape", "readFactor", "(I)Z"⟩ ∈ tG := tG_of (inP (List.mem_of_getElem? (i := 13) (by decide +kernel))) rfl
theorem tw_14 : Cond.selects "SurplusLand$Tape" ⟨"SurplusLand$Tape", "readConditions", "()Z"⟩ ⟨"SurplusLand$Tape", "readConditions", "()Z"⟩ ∈ tG := tG_of (inP (List.mem_of_getElem? (i := 14) (by decide +kernel))) rfl
theorem tw_15 : Cond.selects "SurplusLand$Land" ⟨"SurplusLand$Land", "gatherCrops", "(I)V"⟩ ⟨"SurplusLand$Land", "gatherCrops", "(I)V"⟩ ∈ tG := tG_of (inP (List.mem_of_getElem? (i := 15) (by decide +kernel))) rfl
theorem tw_16 : Cond.selects "SurplusLand$Land" ⟨"SurplusLand$Land", "applyLaw", "(LSurplusLand$Law;)V"⟩ ⟨"SurplusLand$Land", "applyLaw", "(LSurplusLand$Law;)V"⟩ ∈ tG := tG_of (inP (List.mem_of_getElem? (i := 16) (by decide +kernel))) rfl
theorem tw_17 : Cond.selects "SurplusLand$Judge" ⟨"SurplusLand$Judge", "run", "(LSurplusLand$Law;II)J"⟩ ⟨"SurplusLand$Judge", "run", "(LSurplusLand$Law;II)J"⟩ ∈ tG := tG_of (inP (List.mem_of_getElem? (i := 17) (by decide +kernel))) rfl
theorem tw_18 : Cond.selects "SurplusLand$Judge" ⟨"SurplusLand$Judge", "obey", "(IJ)V"⟩ ⟨"SurplusLand$Judge", "obey", "(IJ)V"⟩ ∈ tG := tG_of (inP (List.mem_of_getElem? (i := 18) (by decide +kernel))) rfl
theorem tw_19 : Cond.selects "SurplusLand$Land" ⟨"SurplusLand$Land", "keepParts", "()V"⟩ ⟨"SurplusLand$Land", "keepParts", "()V"⟩ ∈ tG := tG_of (inP (List.mem_of_getElem? (i := 19) (by decide +kernel))) rfl
theorem tw_20 : Cond.selects "SurplusLand$Land" ⟨"SurplusLand$Land", "sellStored", "(I)V"⟩ ⟨"SurplusLand$Land", "sellStored", "(I)V"⟩ ∈ tG := tG_of (inP (List.mem_of_getElem? (i := 20) (by decide +kernel))) rfl
theorem tw_21 : Cond.selects "SurplusLand$Land" ⟨"SurplusLand$Land", "stillStored", "()V"⟩ ⟨"SurplusLand$Land", "stillStored", "()V"⟩ ∈ tG := tG_of (inP (List.mem_of_getElem? (i := 21) (by decide +kernel))) rfl
theorem tw_22 : Cond.selects "SurplusLand$Land" ⟨"SurplusLand$Land", "sellFree", "(J)V"⟩ ⟨"SurplusLand$Land", "sellFree", "(J)V"⟩ ∈ tG := tG_of (inP (List.mem_of_getElem? (i := 22) (by decide +kernel))) rfl
theorem tw_23 : Cond.selects "SurplusLand$Land" ⟨"SurplusLand$Land", "sellOneEach", "(J)J"⟩ ⟨"SurplusLand$Land", "sellOneEach", "(J)J"⟩ ∈ tG := tG_of (inP (List.mem_of_getElem? (i := 23) (by decide +kernel))) rfl
theorem tw_24 : Cond.selects "SurplusLand$Land" ⟨"SurplusLand$Land", "stillFree", "()V"⟩ ⟨"SurplusLand$Land", "stillFree", "()V"⟩ ∈ tG := tG_of (inP (List.mem_of_getElem? (i := 24) (by decide +kernel))) rfl
theorem tw_25 : Cond.selects "SurplusLand$Land" ⟨"SurplusLand$Land", "movePrice", "(J)V"⟩ ⟨"SurplusLand$Land", "movePrice", "(J)V"⟩ ∈ tG := tG_of (inP (List.mem_of_getElem? (i := 25) (by decide +kernel))) rfl
theorem tw_26 : Cond.selects "SurplusLand$Land" ⟨"SurplusLand$Land", "tendVines", "()V"⟩ ⟨"SurplusLand$Land", "tendVines", "()V"⟩ ∈ tG := tG_of (inP (List.mem_of_getElem? (i := 26) (by decide +kernel))) rfl
theorem tw_27 : Cond.selects "SurplusLand$Land" ⟨"SurplusLand$Land", "settleLoans", "()V"⟩ ⟨"SurplusLand$Land", "settleLoans", "()V"⟩ ∈ tG := tG_of (inP (List.mem_of_getElem? (i := 27) (by decide +kernel))) rfl
theorem tw_28 : Cond.selects "SurplusLand$Land" ⟨"SurplusLand$Land", "closeIfDue", "(LSurplusLand$Receipt;LSurplusLand$Loan;)V"⟩ ⟨"SurplusLand$Land", "closeIfDue", "(LSurplusLand$Receipt;LSurplusLand$Loan;)V"⟩ ∈ tG := tG_of (inP (List.mem_of_getElem? (i := 28) (by decide +kernel))) rfl
theorem tw_29 : Cond.selects "SurplusLand$Land" ⟨"SurplusLand$Land", "seize", "(LSurplusLand$Receipt;LSurplusLand$Loan;)V"⟩ ⟨"SurplusLand$Land", "seize", "(LSurplusLand$Receipt;LSurplusLand$Loan;)V"⟩ ∈ tG := tG_of (inP (List.mem_of_getElem? (i := 29) (by decide +kernel))) rfl
theorem tw_30 : Cond.selects "SurplusLand" ⟨"SurplusLand", "waysToDraw", "(IIIII)J"⟩ ⟨"SurplusLand", "waysToDraw", "(IIIII)J"⟩ ∈ tG := tG_of (inP (List.mem_of_getElem? (i := 30) (by decide +kernel))) rfl
theorem tw_31 : Cond.selects "SurplusLand" ⟨"SurplusLand", "setsOf", "(II)J"⟩ ⟨"SurplusLand", "setsOf", "(II)J"⟩ ∈ tG := tG_of (inP (List.mem_of_getElem? (i := 31) (by decide +kernel))) rfl
theorem tw_32 : Cond.selects "SurplusLandModel" ⟨"SurplusLandModel", "isLaw", "()Z"⟩ ⟨"SurplusLandModel", "isLaw", "()Z"⟩ ∈ tG := tG_of (inP (List.mem_of_getElem? (i := 32) (by decide +kernel))) rfl
theorem tw_33 : Cond.selects "SurplusLandModel" ⟨"SurplusLandModel", "reads", "(I)V"⟩ ⟨"SurplusLandModel", "reads", "(I)V"⟩ ∈ tG := tG_of (inP (List.mem_of_getElem? (i := 33) (by decide +kernel))) rfl
theorem tw_34 : Cond.selects "SurplusLandModel" ⟨"SurplusLandModel", "next", "()V"⟩ ⟨"SurplusLandModel", "next", "()V"⟩ ∈ tG := tG_of (inP (List.mem_of_getElem? (i := 34) (by decide +kernel))) rfl
theorem tw_35 : Cond.selects "SurplusLandModel" ⟨"SurplusLandModel", "at", "(I)I"⟩ ⟨"SurplusLandModel", "at", "(I)I"⟩ ∈ tG := tG_of (inP (List.mem_of_getElem? (i := 35) (by decide +kernel))) rfl
theorem tw_36 : Cond.selects "SurplusLandModel" ⟨"SurplusLandModel", "clause", "()V"⟩ ⟨"SurplusLandModel", "clause", "()V"⟩ ∈ tG := tG_of (inP (List.mem_of_getElem? (i := 36) (by decide +kernel))) rfl
theorem tw_37 : Cond.selects "SurplusLandModel" ⟨"SurplusLandModel", "is", "(Ljava/lang/String;)Z"⟩ ⟨"SurplusLandModel", "is", "(Ljava/lang/String;)Z"⟩ ∈ tG := tG_of (inP (List.mem_of_getElem? (i := 37) (by decide +kernel))) rfl
theorem tw_38 : Cond.selects "SurplusLandModel" ⟨"SurplusLandModel", "bad", "()V"⟩ ⟨"SurplusLandModel", "bad", "()V"⟩ ∈ tG := tG_of (inP (List.mem_of_getElem? (i := 38) (by decide +kernel))) rfl
theorem tw_39 : Cond.selects "SurplusLandModel" ⟨"SurplusLandModel", "numberOf", "()I"⟩ ⟨"SurplusLandModel", "numberOf", "()I"⟩ ∈ tG := tG_of (inP (List.mem_of_getElem? (i := 39) (by decide +kernel))) rfl
theorem tw_40 : Cond.selects "SurplusLandModel" ⟨"SurplusLandModel", "sum", "()J"⟩ ⟨"SurplusLandModel", "sum", "()J"⟩ ∈ tG := tG_of (inP (List.mem_of_getElem? (i := 40) (by decide +kernel))) rfl
theorem tw_41 : Cond.selects "SurplusLandModel" ⟨"SurplusLandModel", "term", "()J"⟩ ⟨"SurplusLandModel", "term", "()J"⟩ ∈ tG := tG_of (inP (List.mem_of_getElem? (i := 41) (by decide +kernel))) rfl
theorem tw_42 : Cond.selects "SurplusLandModel" ⟨"SurplusLandModel", "factor", "()J"⟩ ⟨"SurplusLandModel", "factor", "()J"⟩ ∈ tG := tG_of (inP (List.mem_of_getElem? (i := 42) (by decide +kernel))) rfl
theorem tw_43 : Cond.selects "SurplusLandModel" ⟨"SurplusLandModel", "isSign", "(I)Z"⟩ ⟨"SurplusLandModel", "isSign", "(I)Z"⟩ ∈ tG := tG_of (inP (List.mem_of_getElem? (i := 43) (by decide +kernel))) rfl
theorem tw_44 : Cond.selects "SurplusLandModel" ⟨"SurplusLandModel", "conds", "()Z"⟩ ⟨"SurplusLandModel", "conds", "()Z"⟩ ∈ tG := tG_of (inP (List.mem_of_getElem? (i := 44) (by decide +kernel))) rfl
theorem tw_45 : Cond.selects "SurplusLandModel" ⟨"SurplusLandModel", "isGrower", "(I)Z"⟩ ⟨"SurplusLandModel", "isGrower", "(I)Z"⟩ ∈ tG := tG_of (inP (List.mem_of_getElem? (i := 45) (by decide +kernel))) rfl
theorem tw_46 : Cond.selects "SurplusLandModel" ⟨"SurplusLandModel", "passes", "(II[II)I"⟩ ⟨"SurplusLandModel", "passes", "(II[II)I"⟩ ∈ tG := tG_of (inP (List.mem_of_getElem? (i := 46) (by decide +kernel))) rfl
theorem tw_47 : Cond.selects "SurplusLandModel" ⟨"SurplusLandModel", "store", "(I)I"⟩ ⟨"SurplusLandModel", "store", "(I)I"⟩ ∈ tG := tG_of (inP (List.mem_of_getElem? (i := 47) (by decide +kernel))) rfl
theorem tw_48 : Cond.selects "SurplusLandModel" ⟨"SurplusLandModel", "wants", "(I)I"⟩ ⟨"SurplusLandModel", "wants", "(I)I"⟩ ∈ tG := tG_of (inP (List.mem_of_getElem? (i := 48) (by decide +kernel))) rfl
theorem tw_49 : Cond.selects "SurplusLandModel" ⟨"SurplusLandModel", "receipt", "(IIII)I"⟩ ⟨"SurplusLandModel", "receipt", "(IIII)I"⟩ ∈ tG := tG_of (inP (List.mem_of_getElem? (i := 49) (by decide +kernel))) rfl
theorem tw_50 : Cond.selects "SurplusLandModel" ⟨"SurplusLandModel", "sold", "(IIIII)V"⟩ ⟨"SurplusLandModel", "sold", "(IIIII)V"⟩ ∈ tG := tG_of (inP (List.mem_of_getElem? (i := 50) (by decide +kernel))) rfl
theorem tw_51 : Cond.selects "SurplusLandModel" ⟨"SurplusLandModel", "frees", "(I)I"⟩ ⟨"SurplusLandModel", "frees", "(I)I"⟩ ∈ tG := tG_of (inP (List.mem_of_getElem? (i := 51) (by decide +kernel))) rfl
theorem tw_52 : Cond.selects "SurplusLandModel" ⟨"SurplusLandModel", "abroad", "(III)V"⟩ ⟨"SurplusLandModel", "abroad", "(III)V"⟩ ∈ tG := tG_of (inP (List.mem_of_getElem? (i := 52) (by decide +kernel))) rfl
theorem tw_53 : Cond.selects "SurplusLandModel" ⟨"SurplusLandModel", "sells", "(IIIII)V"⟩ ⟨"SurplusLandModel", "sells", "(IIIII)V"⟩ ∈ tG := tG_of (inP (List.mem_of_getElem? (i := 53) (by decide +kernel))) rfl
theorem tw_54 : Cond.selects "SurplusLandModel" ⟨"SurplusLandModel", "stills", "(I)V"⟩ ⟨"SurplusLandModel", "stills", "(I)V"⟩ ∈ tG := tG_of (inP (List.mem_of_getElem? (i := 54) (by decide +kernel))) rfl
theorem tw_55 : Cond.selects "SurplusLandModel" ⟨"SurplusLandModel", "grows", "(I)V"⟩ ⟨"SurplusLandModel", "grows", "(I)V"⟩ ∈ tG := tG_of (inP (List.mem_of_getElem? (i := 55) (by decide +kernel))) rfl
theorem tw_56 : Cond.selects "SurplusLandModel" ⟨"SurplusLandModel", "dues", "(II)V"⟩ ⟨"SurplusLandModel", "dues", "(II)V"⟩ ∈ tG := tG_of (inP (List.mem_of_getElem? (i := 56) (by decide +kernel))) rfl
theorem tw_57 : Cond.selects "SurplusLandModel" ⟨"SurplusLandModel", "pays", "(II)Z"⟩ ⟨"SurplusLandModel", "pays", "(II)Z"⟩ ∈ tG := tG_of (inP (List.mem_of_getElem? (i := 57) (by decide +kernel))) rfl
theorem tw_58 : Cond.selects "SurplusLandModel" ⟨"SurplusLandModel", "ends", "(II)V"⟩ ⟨"SurplusLandModel", "ends", "(II)V"⟩ ∈ tG := tG_of (inP (List.mem_of_getElem? (i := 58) (by decide +kernel))) rfl
theorem tw_59 : Cond.selects "SurplusLandModel" ⟨"SurplusLandModel", "isFull", "(I)Z"⟩ ⟨"SurplusLandModel", "isFull", "(I)Z"⟩ ∈ tG := tG_of (inP (List.mem_of_getElem? (i := 59) (by decide +kernel))) rfl
theorem tw_60 : Cond.selects "SurplusLandModel" ⟨"SurplusLandModel", "isPledged", "(I)Z"⟩ ⟨"SurplusLandModel", "isPledged", "(I)Z"⟩ ∈ tG := tG_of (inP (List.mem_of_getElem? (i := 60) (by decide +kernel))) rfl
theorem tw_61 : Cond.selects "SurplusLandModel" ⟨"SurplusLandModel", "isLoan", "(II)Z"⟩ ⟨"SurplusLandModel", "isLoan", "(II)Z"⟩ ∈ tG := tG_of (inP (List.mem_of_getElem? (i := 61) (by decide +kernel))) rfl
theorem tw_62 : Cond.selects "SurplusLandModel" ⟨"SurplusLandModel", "isNear", "(IIIII)Z"⟩ ⟨"SurplusLandModel", "isNear", "(IIIII)Z"⟩ ∈ tG := tG_of (inP (List.mem_of_getElem? (i := 62) (by decide +kernel))) rfl
theorem tw_63 : Cond.selects "SurplusLandModel" ⟨"SurplusLandModel", "ways", "(II)J"⟩ ⟨"SurplusLandModel", "ways", "(II)J"⟩ ∈ tG := tG_of (inP (List.mem_of_getElem? (i := 63) (by decide +kernel))) rfl
theorem tw_65 : Cond.initialized "SurplusLand" ∈ tG := tG_of (inT1 (List.mem_of_getElem? (i := 1) rfl)) rfl
theorem tw_66 : Cond.initialized "SurplusLand$Terms" ∈ tG := tG_of (inT1 (List.mem_of_getElem? (i := 2) rfl)) rfl
theorem tw_67 : Cond.initialized "SurplusLand$Land" ∈ tG := tG_of (inT1 (List.mem_of_getElem? (i := 3) rfl)) rfl
theorem tw_68 : Cond.initialized "SurplusLand$Store" ∈ tG := tG_of (inT1 (List.mem_of_getElem? (i := 4) rfl)) rfl
theorem tw_69 : Cond.initialized "SurplusLand$Judge" ∈ tG := tG_of (inT1 (List.mem_of_getElem? (i := 5) rfl)) rfl
theorem tw_70 : Cond.initialized "SurplusLand$Grower" ∈ tG := tG_of (inT1 (List.mem_of_getElem? (i := 6) rfl)) rfl
theorem tw_71 : Cond.initialized "SurplusLand$Bank" ∈ tG := tG_of (inT1 (List.mem_of_getElem? (i := 7) rfl)) rfl
theorem tw_72 : Cond.initialized "SurplusLand$Tape" ∈ tG := tG_of (inT1 (List.mem_of_getElem? (i := 8) rfl)) rfl
theorem tw_73 : Cond.initialized "SurplusLand$Law" ∈ tG := tG_of (inT1 (List.mem_of_getElem? (i := 9) rfl)) rfl
theorem tw_74 : Cond.initialized "java/lang/Math" ∈ tG := tG_of (inT1 (List.mem_of_getElem? (i := 10) rfl)) rfl
theorem tw_75 : Cond.initialized "SurplusLand$Rows" ∈ tG := tG_of (inT1 (List.mem_of_getElem? (i := 11) rfl)) rfl
theorem tw_76 : Cond.initialized "java/util/Arrays" ∈ tG := tG_of (inT1 (List.mem_of_getElem? (i := 12) rfl)) rfl
theorem tw_77 : Cond.initialized "SurplusLandModel" ∈ tG := tG_of (inT1 (List.mem_of_getElem? (i := 13) rfl)) rfl
theorem tw_78 : Cond.initialized "java/lang/String" ∈ tG := tG_of (inT1 (List.mem_of_getElem? (i := 14) rfl)) rfl
theorem tw_82 : Cond.initialized "java/lang/System" ∈ tG := tG_of (inT1 (List.mem_of_getElem? (i := 18) rfl)) rfl
theorem tw_83 : Cond.initialized "SurplusLand$Receipt" ∈ tG := tG_of (inT1 (List.mem_of_getElem? (i := 19) rfl)) rfl
theorem tw_84 : Cond.initialized "SurplusLand$Loan" ∈ tG := tG_of (inT1 (List.mem_of_getElem? (i := 20) rfl)) rfl
theorem tw_89 : Cond.code ⟨"SurplusLand", "<init>", "()V"⟩ prog_1_method_1_code 1 (none) ∈ tG := tG_of (inT1 (List.mem_of_getElem? (i := 25) rfl)) rfl
theorem tw_90 : Cond.methodLink "SurplusLand" 1 Lib.objectInit ∈ tG := tG_of (inT1 (List.mem_of_getElem? (i := 26) rfl)) rfl
theorem tw_91 : Cond.instanceMethod Lib.objectInit ∈ tG := tG_of (inT1 (List.mem_of_getElem? (i := 27) rfl)) rfl
theorem tw_92 : Cond.code Lib.objectInit ⟨#[0xb1]⟩ 1 none ∈ tG := tG_of (inT1 (List.mem_of_getElem? (i := 28) rfl)) rfl
theorem tw_93 : Cond.classLink "SurplusLand" 7 "SurplusLand$Terms" ∈ tG := tG_of (inT1 (List.mem_of_getElem? (i := 29) rfl)) rfl
theorem tw_94 : Cond.instantiable "SurplusLand$Terms" 7 ∈ tG := tG_of (inT1 (List.mem_of_getElem? (i := 30) rfl)) rfl
theorem tw_96 : Cond.instanceMethod ⟨"SurplusLand$Terms", "<init>", "()V"⟩ ∈ tG := tG_of (inT1 (List.mem_of_getElem? (i := 32) rfl)) rfl
theorem tw_97 : Cond.code ⟨"SurplusLand$Terms", "<init>", "()V"⟩ prog_12_method_1_code 1 (none) ∈ tG := tG_of (inT1 (List.mem_of_getElem? (i := 33) rfl)) rfl
theorem tw_98 : Cond.methodLink "SurplusLand$Terms" 1 Lib.objectInit ∈ tG := tG_of (inT1 (List.mem_of_getElem? (i := 34) rfl)) rfl
theorem tw_99 : Cond.fieldLink "SurplusLand$Terms" 7 "SurplusLand$Terms" "base" "I" ∈ tG := tG_of (inT1 (List.mem_of_getElem? (i := 35) rfl)) rfl
theorem tw_100 : Cond.fieldLink "SurplusLand" 69 "SurplusLand$Terms" "base" "I" ∈ tG := tG_of (inT1 (List.mem_of_getElem? (i := 36) rfl)) rfl
theorem tw_101 : Cond.fieldLink "SurplusLand$Terms" 13 "SurplusLand$Terms" "slope" "I" ∈ tG := tG_of (inT1 (List.mem_of_getElem? (i := 37) rfl)) rfl
theorem tw_102 : Cond.fieldLink "SurplusLand" 73 "SurplusLand$Terms" "slope" "I" ∈ tG := tG_of (inT1 (List.mem_of_getElem? (i := 38) rfl)) rfl
theorem tw_103 : Cond.fieldLink "SurplusLand$Terms" 16 "SurplusLand$Terms" "pull" "I" ∈ tG := tG_of (inT1 (List.mem_of_getElem? (i := 39) rfl)) rfl
theorem tw_104 : Cond.fieldLink "SurplusLand" 76 "SurplusLand$Terms" "pull" "I" ∈ tG := tG_of (inT1 (List.mem_of_getElem? (i := 40) rfl)) rfl
theorem tw_105 : Cond.fieldLink "SurplusLand$Land" 250 "SurplusLand$Terms" "pull" "I" ∈ tG := tG_of (inT1 (List.mem_of_getElem? (i := 41) rfl)) rfl
theorem tw_106 : Cond.fieldLink "SurplusLand$Terms" 19 "SurplusLand$Terms" "quota" "I" ∈ tG := tG_of (inT1 (List.mem_of_getElem? (i := 42) rfl)) rfl
theorem tw_107 : Cond.fieldLink "SurplusLand" 79 "SurplusLand$Terms" "quota" "I" ∈ tG := tG_of (inT1 (List.mem_of_getElem? (i := 43) rfl)) rfl
theorem tw_108 : Cond.fieldLink "SurplusLand$Land" 245 "SurplusLand$Terms" "quota" "I" ∈ tG := tG_of (inT1 (List.mem_of_getElem? (i := 44) rfl)) rfl
theorem tw_109 : Cond.fieldLink "SurplusLand$Terms" 22 "SurplusLand$Terms" "high" "I" ∈ tG := tG_of (inT1 (List.mem_of_getElem? (i := 45) rfl)) rfl
theorem tw_110 : Cond.fieldLink "SurplusLand" 82 "SurplusLand$Terms" "high" "I" ∈ tG := tG_of (inT1 (List.mem_of_getElem? (i := 46) rfl)) rfl
theorem tw_111 : Cond.fieldLink "SurplusLand$Land" 260 "SurplusLand$Terms" "high" "I" ∈ tG := tG_of (inT1 (List.mem_of_getElem? (i := 47) rfl)) rfl
theorem tw_112 : Cond.fieldLink "SurplusLand$Terms" 25 "SurplusLand$Terms" "plant" "I" ∈ tG := tG_of (inT1 (List.mem_of_getElem? (i := 48) rfl)) rfl
theorem tw_113 : Cond.fieldLink "SurplusLand" 85 "SurplusLand$Terms" "plant" "I" ∈ tG := tG_of (inT1 (List.mem_of_getElem? (i := 49) rfl)) rfl
theorem tw_114 : Cond.fieldLink "SurplusLand$Land" 263 "SurplusLand$Terms" "plant" "I" ∈ tG := tG_of (inT1 (List.mem_of_getElem? (i := 50) rfl)) rfl
theorem tw_115 : Cond.fieldLink "SurplusLand$Terms" 28 "SurplusLand$Terms" "damp" "I" ∈ tG := tG_of (inT1 (List.mem_of_getElem? (i := 51) rfl)) rfl
theorem tw_116 : Cond.fieldLink "SurplusLand" 88 "SurplusLand$Terms" "damp" "I" ∈ tG := tG_of (inT1 (List.mem_of_getElem? (i := 52) rfl)) rfl
theorem tw_117 : Cond.fieldLink "SurplusLand$Land" 150 "SurplusLand$Terms" "damp" "I" ∈ tG := tG_of (inT1 (List.mem_of_getElem? (i := 53) rfl)) rfl
theorem tw_133 : Cond.classLink "SurplusLand" 16 "SurplusLand$Land" ∈ tG := tG_of (inT1 (List.mem_of_getElem? (i := 69) rfl)) rfl
theorem tw_134 : Cond.instantiable "SurplusLand$Land" 14 ∈ tG := tG_of (inT1 (List.mem_of_getElem? (i := 70) rfl)) rfl
theorem tw_135 : Cond.methodLink "SurplusLand" 18 ⟨"SurplusLand$Land", "<init>", "(LSurplusLand$Terms;)V"⟩ ∈ tG := tG_of (inT1 (List.mem_of_getElem? (i := 71) rfl)) rfl
theorem tw_136 : Cond.instanceMethod ⟨"SurplusLand$Land", "<init>", "(LSurplusLand$Terms;)V"⟩ ∈ tG := tG_of (inT1 (List.mem_of_getElem? (i := 72) rfl)) rfl
theorem tw_137 : Cond.code ⟨"SurplusLand$Land", "<init>", "(LSurplusLand$Terms;)V"⟩ prog_5_method_1_code 3 (none) ∈ tG := tG_of (inT1 (List.mem_of_getElem? (i := 73) rfl)) rfl
theorem tw_138 : Cond.methodLink "SurplusLand$Land" 3 Lib.objectInit ∈ tG := tG_of (inT1 (List.mem_of_getElem? (i := 74) rfl)) rfl
theorem tw_139 : Cond.classLink "SurplusLand$Land" 9 "SurplusLand$Grower" ∈ tG := tG_of (inT1 (List.mem_of_getElem? (i := 75) rfl)) rfl
theorem tw_141 : Cond.classLink "SurplusLand$Land" 17 "SurplusLand$Bank" ∈ tG := tG_of (inT1 (List.mem_of_getElem? (i := 77) rfl)) rfl
theorem tw_143 : Cond.classLink "SurplusLand$Land" 23 "SurplusLand$Store" ∈ tG := tG_of (inT1 (List.mem_of_getElem? (i := 79) rfl)) rfl
theorem tw_144 : Cond.instantiable "SurplusLand$Store" 2 ∈ tG := tG_of (inT1 (List.mem_of_getElem? (i := 80) rfl)) rfl
theorem tw_146 : Cond.instanceMethod ⟨"SurplusLand$Store", "<init>", "()V"⟩ ∈ tG := tG_of (inT1 (List.mem_of_getElem? (i := 82) rfl)) rfl
theorem tw_147 : Cond.code ⟨"SurplusLand$Store", "<init>", "()V"⟩ prog_10_method_1_code 1 (none) ∈ tG := tG_of (inT1 (List.mem_of_getElem? (i := 83) rfl)) rfl
theorem tw_148 : Cond.methodLink "SurplusLand$Store" 3 Lib.objectInit ∈ tG := tG_of (inT1 (List.mem_of_getElem? (i := 84) rfl)) rfl
theorem tw_149 : Cond.classLink "SurplusLand$Store" 9 "SurplusLand$Receipt" ∈ tG := tG_of (inT1 (List.mem_of_getElem? (i := 85) rfl)) rfl
theorem tw_151 : Cond.fieldLink "SurplusLand$Store" 11 "SurplusLand$Store" "papers" "[LSurplusLand$Receipt;" ∈ tG := tG_of (inT1 (List.mem_of_getElem? (i := 87) rfl)) rfl
theorem tw_152 : Cond.fieldLink "SurplusLand$Land" 212 "SurplusLand$Store" "papers" "[LSurplusLand$Receipt;" ∈ tG := tG_of (inT1 (List.mem_of_getElem? (i := 88) rfl)) rfl
theorem tw_153 : Cond.fieldLink "SurplusLand$Store" 17 "SurplusLand$Store" "count" "I" ∈ tG := tG_of (inT1 (List.mem_of_getElem? (i := 89) rfl)) rfl
theorem tw_154 : Cond.fieldLink "SurplusLand$Land" 90 "SurplusLand$Store" "count" "I" ∈ tG := tG_of (inT1 (List.mem_of_getElem? (i := 90) rfl)) rfl
theorem tw_155 : Cond.fieldLink "SurplusLand" 164 "SurplusLand$Store" "count" "I" ∈ tG := tG_of (inT1 (List.mem_of_getElem? (i := 91) rfl)) rfl
theorem tw_161 : Cond.classLink "SurplusLand$Land" 30 "SurplusLand$Judge" ∈ tG := tG_of (inT1 (List.mem_of_getElem? (i := 97) rfl)) rfl
theorem tw_162 : Cond.instantiable "SurplusLand$Judge" 9 ∈ tG := tG_of (inT1 (List.mem_of_getElem? (i := 98) rfl)) rfl
theorem tw_164 : Cond.instanceMethod ⟨"SurplusLand$Judge", "<init>", "()V"⟩ ∈ tG := tG_of (inT1 (List.mem_of_getElem? (i := 100) rfl)) rfl
theorem tw_165 : Cond.code ⟨"SurplusLand$Judge", "<init>", "()V"⟩ prog_4_method_1_code 1 (none) ∈ tG := tG_of (inT1 (List.mem_of_getElem? (i := 101) rfl)) rfl
theorem tw_166 : Cond.methodLink "SurplusLand$Judge" 3 Lib.objectInit ∈ tG := tG_of (inT1 (List.mem_of_getElem? (i := 102) rfl)) rfl
theorem tw_167 : Cond.fieldLink "SurplusLand$Judge" 9 "SurplusLand$Judge" "facts" "[J" ∈ tG := tG_of (inT1 (List.mem_of_getElem? (i := 103) rfl)) rfl
theorem tw_168 : Cond.fieldLink "SurplusLand$Land" 169 "SurplusLand$Judge" "facts" "[J" ∈ tG := tG_of (inT1 (List.mem_of_getElem? (i := 104) rfl)) rfl
theorem tw_169 : Cond.fieldLink "SurplusLand$Judge" 15 "SurplusLand$Judge" "stack" "[J" ∈ tG := tG_of (inT1 (List.mem_of_getElem? (i := 105) rfl)) rfl
theorem tw_170 : Cond.fieldLink "SurplusLand$Judge" 18 "SurplusLand$Judge" "villages" "[Z" ∈ tG := tG_of (inT1 (List.mem_of_getElem? (i := 106) rfl)) rfl
theorem tw_171 : Cond.fieldLink "SurplusLand$Judge" 30 "SurplusLand$Judge" "partTold" "Z" ∈ tG := tG_of (inT1 (List.mem_of_getElem? (i := 107) rfl)) rfl
theorem tw_172 : Cond.fieldLink "SurplusLand$Judge" 34 "SurplusLand$Judge" "soldTold" "Z" ∈ tG := tG_of (inT1 (List.mem_of_getElem? (i := 108) rfl)) rfl
theorem tw_173 : Cond.fieldLink "SurplusLand$Judge" 37 "SurplusLand$Judge" "part" "I" ∈ tG := tG_of (inT1 (List.mem_of_getElem? (i := 109) rfl)) rfl
theorem tw_174 : Cond.fieldLink "SurplusLand$Land" 181 "SurplusLand$Judge" "part" "I" ∈ tG := tG_of (inT1 (List.mem_of_getElem? (i := 110) rfl)) rfl
theorem tw_175 : Cond.fieldLink "SurplusLand$Judge" 44 "SurplusLand$Judge" "still" "I" ∈ tG := tG_of (inT1 (List.mem_of_getElem? (i := 111) rfl)) rfl
theorem tw_176 : Cond.fieldLink "SurplusLand$Land" 234 "SurplusLand$Judge" "still" "I" ∈ tG := tG_of (inT1 (List.mem_of_getElem? (i := 112) rfl)) rfl
theorem tw_177 : Cond.fieldLink "SurplusLand$Judge" 22 "SurplusLand$Judge" "least" "J" ∈ tG := tG_of (inT1 (List.mem_of_getElem? (i := 113) rfl)) rfl
theorem tw_178 : Cond.fieldLink "SurplusLand$Judge" 41 "SurplusLand$Judge" "sold" "J" ∈ tG := tG_of (inT1 (List.mem_of_getElem? (i := 114) rfl)) rfl
theorem tw_179 : Cond.fieldLink "SurplusLand$Land" 209 "SurplusLand$Judge" "sold" "J" ∈ tG := tG_of (inT1 (List.mem_of_getElem? (i := 115) rfl)) rfl
theorem tw_199 : Cond.arrayClass .long ∈ tG := tG_of (inT1 (List.mem_of_getElem? (i := 135) rfl)) rfl
theorem tw_200 : Cond.arrayClass .boolean ∈ tG := tG_of (inT1 (List.mem_of_getElem? (i := 136) rfl)) rfl
theorem tw_201 : Cond.instantiable "SurplusLand$Grower" 13 ∈ tG := tG_of (inT1 (List.mem_of_getElem? (i := 137) rfl)) rfl
theorem tw_203 : Cond.instanceMethod ⟨"SurplusLand$Grower", "<init>", "()V"⟩ ∈ tG := tG_of (inT1 (List.mem_of_getElem? (i := 139) rfl)) rfl
theorem tw_204 : Cond.code ⟨"SurplusLand$Grower", "<init>", "()V"⟩ prog_3_method_1_code 1 (none) ∈ tG := tG_of (inT1 (List.mem_of_getElem? (i := 140) rfl)) rfl
theorem tw_205 : Cond.methodLink "SurplusLand$Grower" 3 Lib.objectInit ∈ tG := tG_of (inT1 (List.mem_of_getElem? (i := 141) rfl)) rfl
theorem tw_206 : Cond.fieldLink "SurplusLand$Grower" 9 "SurplusLand$Grower" "told" "[I" ∈ tG := tG_of (inT1 (List.mem_of_getElem? (i := 142) rfl)) rfl
theorem tw_207 : Cond.fieldLink "SurplusLand$Land" 72 "SurplusLand$Grower" "told" "[I" ∈ tG := tG_of (inT1 (List.mem_of_getElem? (i := 143) rfl)) rfl
theorem tw_208 : Cond.fieldLink "SurplusLand$Grower" 15 "SurplusLand$Grower" "crops" "[I" ∈ tG := tG_of (inT1 (List.mem_of_getElem? (i := 144) rfl)) rfl
theorem tw_209 : Cond.fieldLink "SurplusLand$Land" 166 "SurplusLand$Grower" "crops" "[I" ∈ tG := tG_of (inT1 (List.mem_of_getElem? (i := 145) rfl)) rfl
theorem tw_210 : Cond.fieldLink "SurplusLand$Grower" 18 "SurplusLand$Grower" "freed" "[Z" ∈ tG := tG_of (inT1 (List.mem_of_getElem? (i := 146) rfl)) rfl
theorem tw_211 : Cond.fieldLink "SurplusLand$Land" 188 "SurplusLand$Grower" "freed" "[Z" ∈ tG := tG_of (inT1 (List.mem_of_getElem? (i := 147) rfl)) rfl
theorem tw_212 : Cond.fieldLink "SurplusLand$Grower" 22 "SurplusLand$Grower" "village" "I" ∈ tG := tG_of (inT1 (List.mem_of_getElem? (i := 148) rfl)) rfl
theorem tw_213 : Cond.fieldLink "SurplusLand$Land" 93 "SurplusLand$Grower" "village" "I" ∈ tG := tG_of (inT1 (List.mem_of_getElem? (i := 149) rfl)) rfl
theorem tw_214 : Cond.fieldLink "SurplusLand" 258 "SurplusLand$Grower" "village" "I" ∈ tG := tG_of (inT1 (List.mem_of_getElem? (i := 150) rfl)) rfl
theorem tw_215 : Cond.fieldLink "SurplusLand$Grower" 26 "SurplusLand$Grower" "acres" "I" ∈ tG := tG_of (inT1 (List.mem_of_getElem? (i := 151) rfl)) rfl
theorem tw_216 : Cond.fieldLink "SurplusLand$Land" 96 "SurplusLand$Grower" "acres" "I" ∈ tG := tG_of (inT1 (List.mem_of_getElem? (i := 152) rfl)) rfl
theorem tw_217 : Cond.fieldLink "SurplusLand$Grower" 29 "SurplusLand$Grower" "bearing" "I" ∈ tG := tG_of (inT1 (List.mem_of_getElem? (i := 153) rfl)) rfl
theorem tw_218 : Cond.fieldLink "SurplusLand$Land" 87 "SurplusLand$Grower" "bearing" "I" ∈ tG := tG_of (inT1 (List.mem_of_getElem? (i := 154) rfl)) rfl
theorem tw_219 : Cond.fieldLink "SurplusLand" 261 "SurplusLand$Grower" "bearing" "I" ∈ tG := tG_of (inT1 (List.mem_of_getElem? (i := 155) rfl)) rfl
theorem tw_220 : Cond.fieldLink "SurplusLand$Grower" 32 "SurplusLand$Grower" "young0" "I" ∈ tG := tG_of (inT1 (List.mem_of_getElem? (i := 156) rfl)) rfl
theorem tw_221 : Cond.fieldLink "SurplusLand" 264 "SurplusLand$Grower" "young0" "I" ∈ tG := tG_of (inT1 (List.mem_of_getElem? (i := 157) rfl)) rfl
theorem tw_222 : Cond.fieldLink "SurplusLand$Grower" 35 "SurplusLand$Grower" "young1" "I" ∈ tG := tG_of (inT1 (List.mem_of_getElem? (i := 158) rfl)) rfl
theorem tw_223 : Cond.fieldLink "SurplusLand" 267 "SurplusLand$Grower" "young1" "I" ∈ tG := tG_of (inT1 (List.mem_of_getElem? (i := 159) rfl)) rfl
theorem tw_224 : Cond.fieldLink "SurplusLand$Grower" 38 "SurplusLand$Grower" "young2" "I" ∈ tG := tG_of (inT1 (List.mem_of_getElem? (i := 160) rfl)) rfl
theorem tw_225 : Cond.fieldLink "SurplusLand" 270 "SurplusLand$Grower" "young2" "I" ∈ tG := tG_of (inT1 (List.mem_of_getElem? (i := 161) rfl)) rfl
theorem tw_226 : Cond.fieldLink "SurplusLand$Grower" 41 "SurplusLand$Grower" "free" "I" ∈ tG := tG_of (inT1 (List.mem_of_getElem? (i := 162) rfl)) rfl
theorem tw_227 : Cond.fieldLink "SurplusLand$Land" 84 "SurplusLand$Grower" "free" "I" ∈ tG := tG_of (inT1 (List.mem_of_getElem? (i := 163) rfl)) rfl
theorem tw_228 : Cond.fieldLink "SurplusLand" 247 "SurplusLand$Grower" "free" "I" ∈ tG := tG_of (inT1 (List.mem_of_getElem? (i := 164) rfl)) rfl
theorem tw_229 : Cond.fieldLink "SurplusLand$Grower" 44 "SurplusLand$Grower" "kept" "I" ∈ tG := tG_of (inT1 (List.mem_of_getElem? (i := 165) rfl)) rfl
theorem tw_230 : Cond.fieldLink "SurplusLand$Land" 185 "SurplusLand$Grower" "kept" "I" ∈ tG := tG_of (inT1 (List.mem_of_getElem? (i := 166) rfl)) rfl
theorem tw_231 : Cond.fieldLink "SurplusLand" 280 "SurplusLand$Grower" "kept" "I" ∈ tG := tG_of (inT1 (List.mem_of_getElem? (i := 167) rfl)) rfl
theorem tw_232 : Cond.fieldLink "SurplusLand$Grower" 47 "SurplusLand$Grower" "money" "J" ∈ tG := tG_of (inT1 (List.mem_of_getElem? (i := 168) rfl)) rfl
theorem tw_233 : Cond.fieldLink "SurplusLand$Land" 75 "SurplusLand$Grower" "money" "J" ∈ tG := tG_of (inT1 (List.mem_of_getElem? (i := 169) rfl)) rfl
theorem tw_234 : Cond.fieldLink "SurplusLand" 304 "SurplusLand$Grower" "money" "J" ∈ tG := tG_of (inT1 (List.mem_of_getElem? (i := 170) rfl)) rfl
theorem tw_235 : Cond.fieldLink "SurplusLand$Grower" 51 "SurplusLand$Grower" "rest" "J" ∈ tG := tG_of (inT1 (List.mem_of_getElem? (i := 171) rfl)) rfl
theorem tw_236 : Cond.fieldLink "SurplusLand$Land" 196 "SurplusLand$Grower" "rest" "J" ∈ tG := tG_of (inT1 (List.mem_of_getElem? (i := 172) rfl)) rfl
theorem tw_237 : Cond.fieldLink "SurplusLand" 273 "SurplusLand$Grower" "rest" "J" ∈ tG := tG_of (inT1 (List.mem_of_getElem? (i := 173) rfl)) rfl
theorem tw_265 : Cond.arrayClass .int ∈ tG := tG_of (inT1 (List.mem_of_getElem? (i := 201) rfl)) rfl
theorem tw_266 : Cond.instantiable "SurplusLand$Bank" 3 ∈ tG := tG_of (inT1 (List.mem_of_getElem? (i := 202) rfl)) rfl
theorem tw_268 : Cond.instanceMethod ⟨"SurplusLand$Bank", "<init>", "()V"⟩ ∈ tG := tG_of (inT1 (List.mem_of_getElem? (i := 204) rfl)) rfl
theorem tw_269 : Cond.code ⟨"SurplusLand$Bank", "<init>", "()V"⟩ prog_2_method_1_code 1 (none) ∈ tG := tG_of (inT1 (List.mem_of_getElem? (i := 205) rfl)) rfl
theorem tw_270 : Cond.methodLink "SurplusLand$Bank" 1 Lib.objectInit ∈ tG := tG_of (inT1 (List.mem_of_getElem? (i := 206) rfl)) rfl
theorem tw_271 : Cond.fieldLink "SurplusLand$Bank" 7 "SurplusLand$Bank" "part" "I" ∈ tG := tG_of (inT1 (List.mem_of_getElem? (i := 207) rfl)) rfl
theorem tw_272 : Cond.fieldLink "SurplusLand" 95 "SurplusLand$Bank" "part" "I" ∈ tG := tG_of (inT1 (List.mem_of_getElem? (i := 208) rfl)) rfl
theorem tw_273 : Cond.fieldLink "SurplusLand$Land" 268 "SurplusLand$Bank" "part" "I" ∈ tG := tG_of (inT1 (List.mem_of_getElem? (i := 209) rfl)) rfl
theorem tw_274 : Cond.fieldLink "SurplusLand$Bank" 13 "SurplusLand$Bank" "rate" "I" ∈ tG := tG_of (inT1 (List.mem_of_getElem? (i := 210) rfl)) rfl
theorem tw_275 : Cond.fieldLink "SurplusLand" 100 "SurplusLand$Bank" "rate" "I" ∈ tG := tG_of (inT1 (List.mem_of_getElem? (i := 211) rfl)) rfl
theorem tw_276 : Cond.fieldLink "SurplusLand$Land" 277 "SurplusLand$Bank" "rate" "I" ∈ tG := tG_of (inT1 (List.mem_of_getElem? (i := 212) rfl)) rfl
theorem tw_277 : Cond.fieldLink "SurplusLand$Land" 83 "SurplusLand$Bank" "money" "J" ∈ tG := tG_of (inT1 (List.mem_of_getElem? (i := 213) rfl)) rfl
theorem tw_285 : Cond.fieldLink "SurplusLand$Land" 52 "SurplusLand$Land" "terms" "LSurplusLand$Terms;" ∈ tG := tG_of (inT1 (List.mem_of_getElem? (i := 221) rfl)) rfl
theorem tw_286 : Cond.fieldLink "SurplusLand$Land" 11 "SurplusLand$Land" "growers" "[LSurplusLand$Grower;" ∈ tG := tG_of (inT1 (List.mem_of_getElem? (i := 222) rfl)) rfl
theorem tw_287 : Cond.fieldLink "SurplusLand" 243 "SurplusLand$Land" "growers" "[LSurplusLand$Grower;" ∈ tG := tG_of (inT1 (List.mem_of_getElem? (i := 223) rfl)) rfl
theorem tw_288 : Cond.fieldLink "SurplusLand$Land" 19 "SurplusLand$Land" "banks" "[LSurplusLand$Bank;" ∈ tG := tG_of (inT1 (List.mem_of_getElem? (i := 224) rfl)) rfl
theorem tw_289 : Cond.fieldLink "SurplusLand" 91 "SurplusLand$Land" "banks" "[LSurplusLand$Bank;" ∈ tG := tG_of (inT1 (List.mem_of_getElem? (i := 225) rfl)) rfl
theorem tw_290 : Cond.fieldLink "SurplusLand$Land" 26 "SurplusLand$Land" "store" "LSurplusLand$Store;" ∈ tG := tG_of (inT1 (List.mem_of_getElem? (i := 226) rfl)) rfl
theorem tw_291 : Cond.fieldLink "SurplusLand" 160 "SurplusLand$Land" "store" "LSurplusLand$Store;" ∈ tG := tG_of (inT1 (List.mem_of_getElem? (i := 227) rfl)) rfl
theorem tw_292 : Cond.fieldLink "SurplusLand$Land" 33 "SurplusLand$Land" "judge" "LSurplusLand$Judge;" ∈ tG := tG_of (inT1 (List.mem_of_getElem? (i := 228) rfl)) rfl
theorem tw_293 : Cond.fieldLink "SurplusLand$Land" 37 "SurplusLand$Land" "yields" "[I" ∈ tG := tG_of (inT1 (List.mem_of_getElem? (i := 229) rfl)) rfl
theorem tw_294 : Cond.fieldLink "SurplusLand$Land" 41 "SurplusLand$Land" "parts" "[I" ∈ tG := tG_of (inT1 (List.mem_of_getElem? (i := 230) rfl)) rfl
theorem tw_295 : Cond.fieldLink "SurplusLand$Land" 44 "SurplusLand$Land" "sums" "[J" ∈ tG := tG_of (inT1 (List.mem_of_getElem? (i := 231) rfl)) rfl
theorem tw_296 : Cond.fieldLink "SurplusLand" 252 "SurplusLand$Land" "sums" "[J" ∈ tG := tG_of (inT1 (List.mem_of_getElem? (i := 232) rfl)) rfl
theorem tw_297 : Cond.fieldLink "SurplusLand$Land" 58 "SurplusLand$Land" "settled" "I" ∈ tG := tG_of (inT1 (List.mem_of_getElem? (i := 233) rfl)) rfl
theorem tw_298 : Cond.fieldLink "SurplusLand" 103 "SurplusLand$Land" "settled" "I" ∈ tG := tG_of (inT1 (List.mem_of_getElem? (i := 234) rfl)) rfl
theorem tw_299 : Cond.fieldLink "SurplusLand$Land" 69 "SurplusLand$Land" "year" "I" ∈ tG := tG_of (inT1 (List.mem_of_getElem? (i := 235) rfl)) rfl
theorem tw_300 : Cond.fieldLink "SurplusLand" 106 "SurplusLand$Land" "year" "I" ∈ tG := tG_of (inT1 (List.mem_of_getElem? (i := 236) rfl)) rfl
theorem tw_301 : Cond.fieldLink "SurplusLand$Land" 48 "SurplusLand$Land" "price" "I" ∈ tG := tG_of (inT1 (List.mem_of_getElem? (i := 237) rfl)) rfl
theorem tw_302 : Cond.fieldLink "SurplusLand" 283 "SurplusLand$Land" "price" "I" ∈ tG := tG_of (inT1 (List.mem_of_getElem? (i := 238) rfl)) rfl
theorem tw_303 : Cond.fieldLink "SurplusLand$Land" 119 "SurplusLand$Land" "wanted" "I" ∈ tG := tG_of (inT1 (List.mem_of_getElem? (i := 239) rfl)) rfl
theorem tw_304 : Cond.fieldLink "SurplusLand" 293 "SurplusLand$Land" "wanted" "I" ∈ tG := tG_of (inT2 (List.mem_of_getElem? (i := 0) rfl)) rfl
theorem tw_305 : Cond.fieldLink "SurplusLand$Land" 184 "SurplusLand$Land" "part" "I" ∈ tG := tG_of (inT2 (List.mem_of_getElem? (i := 1) rfl)) rfl
theorem tw_306 : Cond.fieldLink "SurplusLand" 296 "SurplusLand$Land" "part" "I" ∈ tG := tG_of (inT2 (List.mem_of_getElem? (i := 2) rfl)) rfl
theorem tw_307 : Cond.fieldLink "SurplusLand" 297 "SurplusLand$Land" "unpaid" "I" ∈ tG := tG_of (inT2 (List.mem_of_getElem? (i := 3) rfl)) rfl
theorem tw_308 : Cond.fieldLink "SurplusLand$Land" 319 "SurplusLand$Land" "unpaid" "I" ∈ tG := tG_of (inT2 (List.mem_of_getElem? (i := 4) rfl)) rfl
theorem tw_338 : Cond.classLink "SurplusLand" 28 "SurplusLand$Tape" ∈ tG := tG_of (inT2 (List.mem_of_getElem? (i := 34) rfl)) rfl
theorem tw_339 : Cond.instantiable "SurplusLand$Tape" 9 ∈ tG := tG_of (inT2 (List.mem_of_getElem? (i := 35) rfl)) rfl
theorem tw_341 : Cond.instanceMethod ⟨"SurplusLand$Tape", "<init>", "()V"⟩ ∈ tG := tG_of (inT2 (List.mem_of_getElem? (i := 37) rfl)) rfl
theorem tw_342 : Cond.code ⟨"SurplusLand$Tape", "<init>", "()V"⟩ prog_11_method_1_code 1 (none) ∈ tG := tG_of (inT2 (List.mem_of_getElem? (i := 38) rfl)) rfl
theorem tw_343 : Cond.methodLink "SurplusLand$Tape" 3 Lib.objectInit ∈ tG := tG_of (inT2 (List.mem_of_getElem? (i := 39) rfl)) rfl
theorem tw_344 : Cond.fieldLink "SurplusLand$Tape" 9 "SurplusLand$Tape" "bytes" "[B" ∈ tG := tG_of (inT2 (List.mem_of_getElem? (i := 40) rfl)) rfl
theorem tw_345 : Cond.fieldLink "SurplusLand$Tape" 15 "SurplusLand$Tape" "kinds" "[I" ∈ tG := tG_of (inT2 (List.mem_of_getElem? (i := 41) rfl)) rfl
theorem tw_346 : Cond.fieldLink "SurplusLand$Tape" 19 "SurplusLand$Tape" "places" "[I" ∈ tG := tG_of (inT2 (List.mem_of_getElem? (i := 42) rfl)) rfl
theorem tw_347 : Cond.fieldLink "SurplusLand$Tape" 22 "SurplusLand$Tape" "values" "[I" ∈ tG := tG_of (inT2 (List.mem_of_getElem? (i := 43) rfl)) rfl
theorem tw_348 : Cond.fieldLink "SurplusLand$Tape" 29 "SurplusLand$Tape" "length" "I" ∈ tG := tG_of (inT2 (List.mem_of_getElem? (i := 44) rfl)) rfl
theorem tw_349 : Cond.fieldLink "SurplusLand" 113 "SurplusLand$Tape" "length" "I" ∈ tG := tG_of (inT2 (List.mem_of_getElem? (i := 45) rfl)) rfl
theorem tw_350 : Cond.fieldLink "SurplusLand$Tape" 25 "SurplusLand$Tape" "fault" "I" ∈ tG := tG_of (inT2 (List.mem_of_getElem? (i := 46) rfl)) rfl
theorem tw_351 : Cond.fieldLink "SurplusLand" 136 "SurplusLand$Tape" "fault" "I" ∈ tG := tG_of (inT2 (List.mem_of_getElem? (i := 47) rfl)) rfl
theorem tw_352 : Cond.fieldLink "SurplusLand$Tape" 60 "SurplusLand$Tape" "tokens" "I" ∈ tG := tG_of (inT2 (List.mem_of_getElem? (i := 48) rfl)) rfl
theorem tw_353 : Cond.fieldLink "SurplusLand$Tape" 44 "SurplusLand$Tape" "at" "I" ∈ tG := tG_of (inT2 (List.mem_of_getElem? (i := 49) rfl)) rfl
theorem tw_354 : Cond.fieldLink "SurplusLand$Tape" 32 "SurplusLand$Tape" "law" "LSurplusLand$Law;" ∈ tG := tG_of (inT2 (List.mem_of_getElem? (i := 50) rfl)) rfl
theorem tw_374 : Cond.arrayClass .byte ∈ tG := tG_of (inT2 (List.mem_of_getElem? (i := 70) rfl)) rfl
theorem tw_375 : Cond.classLink "SurplusLand" 35 "SurplusLand$Law" ∈ tG := tG_of (inT2 (List.mem_of_getElem? (i := 71) rfl)) rfl
theorem tw_376 : Cond.instantiable "SurplusLand$Law" 7 ∈ tG := tG_of (inT2 (List.mem_of_getElem? (i := 72) rfl)) rfl
theorem tw_377 : Cond.methodLink "SurplusLand" 37 ⟨"SurplusLand$Law", "<init>", "(II)V"⟩ ∈ tG := tG_of (inT2 (List.mem_of_getElem? (i := 73) rfl)) rfl
theorem tw_378 : Cond.instanceMethod ⟨"SurplusLand$Law", "<init>", "(II)V"⟩ ∈ tG := tG_of (inT2 (List.mem_of_getElem? (i := 74) rfl)) rfl
theorem tw_379 : Cond.code ⟨"SurplusLand$Law", "<init>", "(II)V"⟩ prog_6_method_1_code 3 (none) ∈ tG := tG_of (inT2 (List.mem_of_getElem? (i := 75) rfl)) rfl
theorem tw_380 : Cond.methodLink "SurplusLand$Law" 1 Lib.objectInit ∈ tG := tG_of (inT2 (List.mem_of_getElem? (i := 76) rfl)) rfl
theorem tw_381 : Cond.methodLink "SurplusLand$Law" 7 ⟨"java/lang/Math", "max", "(II)I"⟩ ∈ tG := tG_of (inT2 (List.mem_of_getElem? (i := 77) rfl)) rfl
theorem tw_382 : Cond.static ⟨"java/lang/Math", "max", "(II)I"⟩ ∈ tG := tG_of (inT2 (List.mem_of_getElem? (i := 78) rfl)) rfl
theorem tw_383 : Cond.code ⟨"java/lang/Math", "max", "(II)I"⟩ prog_15_method_65_code 2 (some .int) ∈ tG := tG_of (inT2 (List.mem_of_getElem? (i := 79) rfl)) rfl
theorem tw_384 : Cond.fieldLink "SurplusLand$Law" 13 "SurplusLand$Law" "kinds" "[I" ∈ tG := tG_of (inT2 (List.mem_of_getElem? (i := 80) rfl)) rfl
theorem tw_385 : Cond.fieldLink "SurplusLand$Judge" 63 "SurplusLand$Law" "kinds" "[I" ∈ tG := tG_of (inT2 (List.mem_of_getElem? (i := 81) rfl)) rfl
theorem tw_386 : Cond.fieldLink "SurplusLand$Law" 19 "SurplusLand$Law" "starts" "[I" ∈ tG := tG_of (inT2 (List.mem_of_getElem? (i := 82) rfl)) rfl
theorem tw_387 : Cond.fieldLink "SurplusLand$Judge" 66 "SurplusLand$Law" "starts" "[I" ∈ tG := tG_of (inT2 (List.mem_of_getElem? (i := 83) rfl)) rfl
theorem tw_388 : Cond.fieldLink "SurplusLand$Law" 22 "SurplusLand$Law" "middles" "[I" ∈ tG := tG_of (inT2 (List.mem_of_getElem? (i := 84) rfl)) rfl
theorem tw_389 : Cond.fieldLink "SurplusLand$Judge" 52 "SurplusLand$Law" "middles" "[I" ∈ tG := tG_of (inT2 (List.mem_of_getElem? (i := 85) rfl)) rfl
theorem tw_390 : Cond.fieldLink "SurplusLand$Law" 25 "SurplusLand$Law" "ends" "[I" ∈ tG := tG_of (inT2 (List.mem_of_getElem? (i := 86) rfl)) rfl
theorem tw_391 : Cond.fieldLink "SurplusLand$Judge" 56 "SurplusLand$Law" "ends" "[I" ∈ tG := tG_of (inT2 (List.mem_of_getElem? (i := 87) rfl)) rfl
theorem tw_392 : Cond.fieldLink "SurplusLand$Law" 28 "SurplusLand$Law" "code" "[I" ∈ tG := tG_of (inT2 (List.mem_of_getElem? (i := 88) rfl)) rfl
theorem tw_393 : Cond.fieldLink "SurplusLand$Judge" 91 "SurplusLand$Law" "code" "[I" ∈ tG := tG_of (inT2 (List.mem_of_getElem? (i := 89) rfl)) rfl
theorem tw_394 : Cond.fieldLink "SurplusLand$Law" 31 "SurplusLand$Law" "clauses" "I" ∈ tG := tG_of (inT2 (List.mem_of_getElem? (i := 90) rfl)) rfl
theorem tw_395 : Cond.fieldLink "SurplusLand$Tape" 36 "SurplusLand$Law" "clauses" "I" ∈ tG := tG_of (inT2 (List.mem_of_getElem? (i := 91) rfl)) rfl
theorem tw_396 : Cond.fieldLink "SurplusLand$Judge" 47 "SurplusLand$Law" "clauses" "I" ∈ tG := tG_of (inT2 (List.mem_of_getElem? (i := 92) rfl)) rfl
theorem tw_397 : Cond.fieldLink "SurplusLand" 133 "SurplusLand$Law" "clauses" "I" ∈ tG := tG_of (inT2 (List.mem_of_getElem? (i := 93) rfl)) rfl
theorem tw_398 : Cond.fieldLink "SurplusLand$Law" 35 "SurplusLand$Law" "used" "I" ∈ tG := tG_of (inT2 (List.mem_of_getElem? (i := 94) rfl)) rfl
theorem tw_399 : Cond.fieldLink "SurplusLand$Tape" 41 "SurplusLand$Law" "used" "I" ∈ tG := tG_of (inT2 (List.mem_of_getElem? (i := 95) rfl)) rfl
theorem tw_416 : Cond.classLink "SurplusLand" 48 "SurplusLand$Rows" ∈ tG := tG_of (inT2 (List.mem_of_getElem? (i := 112) rfl)) rfl
theorem tw_417 : Cond.instantiable "SurplusLand$Rows" 3 ∈ tG := tG_of (inT2 (List.mem_of_getElem? (i := 113) rfl)) rfl
theorem tw_418 : Cond.methodLink "SurplusLand" 50 ⟨"SurplusLand$Rows", "<init>", "()V"⟩ ∈ tG := tG_of (inT2 (List.mem_of_getElem? (i := 114) rfl)) rfl
theorem tw_419 : Cond.instanceMethod ⟨"SurplusLand$Rows", "<init>", "()V"⟩ ∈ tG := tG_of (inT2 (List.mem_of_getElem? (i := 115) rfl)) rfl
theorem tw_420 : Cond.code ⟨"SurplusLand$Rows", "<init>", "()V"⟩ prog_9_method_1_code 1 (none) ∈ tG := tG_of (inT2 (List.mem_of_getElem? (i := 116) rfl)) rfl
theorem tw_421 : Cond.methodLink "SurplusLand$Rows" 3 Lib.objectInit ∈ tG := tG_of (inT2 (List.mem_of_getElem? (i := 117) rfl)) rfl
theorem tw_422 : Cond.methodLink "SurplusLand$Rows" 22 ⟨"java/util/Arrays", "fill", "([II)V"⟩ ∈ tG := tG_of (inT2 (List.mem_of_getElem? (i := 118) rfl)) rfl
theorem tw_423 : Cond.static ⟨"java/util/Arrays", "fill", "([II)V"⟩ ∈ tG := tG_of (inT2 (List.mem_of_getElem? (i := 119) rfl)) rfl
theorem tw_424 : Cond.code ⟨"java/util/Arrays", "fill", "([II)V"⟩ prog_20_method_103_code 4 (none) ∈ tG := tG_of (inT2 (List.mem_of_getElem? (i := 120) rfl)) rfl
theorem tw_425 : Cond.fieldLink "SurplusLand$Rows" 9 "SurplusLand$Rows" "cells" "[J" ∈ tG := tG_of (inT2 (List.mem_of_getElem? (i := 121) rfl)) rfl
theorem tw_426 : Cond.fieldLink "SurplusLand$Rows" 15 "SurplusLand$Rows" "widths" "[I" ∈ tG := tG_of (inT2 (List.mem_of_getElem? (i := 122) rfl)) rfl
theorem tw_427 : Cond.fieldLink "SurplusLand" 336 "SurplusLand$Rows" "widths" "[I" ∈ tG := tG_of (inT2 (List.mem_of_getElem? (i := 123) rfl)) rfl
theorem tw_428 : Cond.fieldLink "SurplusLand$Rows" 19 "SurplusLand$Rows" "lengths" "[I" ∈ tG := tG_of (inT2 (List.mem_of_getElem? (i := 124) rfl)) rfl
theorem tw_429 : Cond.fieldLink "SurplusLand" 150 "SurplusLand$Rows" "lengths" "[I" ∈ tG := tG_of (inT2 (List.mem_of_getElem? (i := 125) rfl)) rfl
theorem tw_437 : Cond.methodLink "SurplusLand" 55 ⟨"SurplusLand", "countSets", "()[J"⟩ ∈ tG := tG_of (inT2 (List.mem_of_getElem? (i := 133) rfl)) rfl
theorem tw_438 : Cond.static ⟨"SurplusLand", "countSets", "()[J"⟩ ∈ tG := tG_of (inT2 (List.mem_of_getElem? (i := 134) rfl)) rfl
theorem tw_439 : Cond.code ⟨"SurplusLand", "countSets", "()[J"⟩ prog_1_method_33_code 4 (some (.array .long)) ∈ tG := tG_of (inT2 (List.mem_of_getElem? (i := 135) rfl)) rfl
theorem tw_440 : Cond.fieldLink "SurplusLand" 10 "SurplusLand" "terms" "LSurplusLand$Terms;" ∈ tG := tG_of (inT2 (List.mem_of_getElem? (i := 136) rfl)) rfl
theorem tw_441 : Cond.fieldLink "SurplusLand" 21 "SurplusLand" "land" "LSurplusLand$Land;" ∈ tG := tG_of (inT2 (List.mem_of_getElem? (i := 137) rfl)) rfl
theorem tw_442 : Cond.fieldLink "SurplusLand" 25 "SurplusLand" "other" "LSurplusLand$Land;" ∈ tG := tG_of (inT2 (List.mem_of_getElem? (i := 138) rfl)) rfl
theorem tw_443 : Cond.fieldLink "SurplusLand" 31 "SurplusLand" "tape" "LSurplusLand$Tape;" ∈ tG := tG_of (inT2 (List.mem_of_getElem? (i := 139) rfl)) rfl
theorem tw_444 : Cond.fieldLink "SurplusLand" 40 "SurplusLand" "draft" "LSurplusLand$Law;" ∈ tG := tG_of (inT2 (List.mem_of_getElem? (i := 140) rfl)) rfl
theorem tw_445 : Cond.fieldLink "SurplusLand" 44 "SurplusLand" "laws" "[LSurplusLand$Law;" ∈ tG := tG_of (inT2 (List.mem_of_getElem? (i := 141) rfl)) rfl
theorem tw_446 : Cond.fieldLink "SurplusLand" 51 "SurplusLand" "rows" "LSurplusLand$Rows;" ∈ tG := tG_of (inT2 (List.mem_of_getElem? (i := 142) rfl)) rfl
theorem tw_447 : Cond.fieldLink "SurplusLand" 59 "SurplusLand" "sets" "[J" ∈ tG := tG_of (inT2 (List.mem_of_getElem? (i := 143) rfl)) rfl
theorem tw_468 : Cond.code ⟨"SurplusLand", "terms", "(IIIIIII)I"⟩ prog_1_method_2_code 10 (some .int) ∈ tG := tG_of (inT2 (List.mem_of_getElem? (i := 164) rfl)) rfl
theorem tw_469 : Cond.constant "SurplusLand" 63 10000000 ∈ tG := tG_of (inT2 (List.mem_of_getElem? (i := 165) rfl)) rfl
theorem tw_470 : Cond.methodLink "SurplusLand" 64 ⟨"SurplusLand", "isWithin", "(III)Z"⟩ ∈ tG := tG_of (inT2 (List.mem_of_getElem? (i := 166) rfl)) rfl
theorem tw_471 : Cond.static ⟨"SurplusLand", "isWithin", "(III)Z"⟩ ∈ tG := tG_of (inT2 (List.mem_of_getElem? (i := 167) rfl)) rfl
theorem tw_472 : Cond.code ⟨"SurplusLand", "isWithin", "(III)Z"⟩ prog_1_method_31_code 3 (some .boolean) ∈ tG := tG_of (inT2 (List.mem_of_getElem? (i := 168) rfl)) rfl
theorem tw_473 : Cond.constant "SurplusLand" 68 1000000 ∈ tG := tG_of (inT2 (List.mem_of_getElem? (i := 169) rfl)) rfl
theorem tw_477 : Cond.code ⟨"SurplusLand", "bank", "(III)I"⟩ prog_1_method_3_code 4 (some .int) ∈ tG := tG_of (inT2 (List.mem_of_getElem? (i := 173) rfl)) rfl
theorem tw_481 : Cond.code ⟨"SurplusLand", "grower", "(II)I"⟩ prog_1_method_4_code 3 (some .int) ∈ tG := tG_of (inT2 (List.mem_of_getElem? (i := 177) rfl)) rfl
theorem tw_482 : Cond.methodLink "SurplusLand" 109 ⟨"SurplusLand$Land", "settle", "(II)I"⟩ ∈ tG := tG_of (inT2 (List.mem_of_getElem? (i := 178) rfl)) rfl
theorem tw_483 : Cond.instanceMethod ⟨"SurplusLand$Land", "settle", "(II)I"⟩ ∈ tG := tG_of (inT2 (List.mem_of_getElem? (i := 179) rfl)) rfl
theorem tw_484 : Cond.selects "SurplusLand$Land" ⟨"SurplusLand$Land", "settle", "(II)I"⟩ ⟨"SurplusLand$Land", "settle", "(II)I"⟩ ∈ tG := tG_of (inT2 (List.mem_of_getElem? (i := 180) rfl)) rfl
theorem tw_485 : Cond.code ⟨"SurplusLand$Land", "settle", "(II)I"⟩ prog_5_method_3_code 3 (some .int) ∈ tG := tG_of (inT2 (List.mem_of_getElem? (i := 181) rfl)) rfl
theorem tw_486 : Cond.methodLink "SurplusLand$Land" 61 ⟨"SurplusLand$Grower", "arrive", "(II)V"⟩ ∈ tG := tG_of (inT2 (List.mem_of_getElem? (i := 182) rfl)) rfl
theorem tw_487 : Cond.instanceMethod ⟨"SurplusLand$Grower", "arrive", "(II)V"⟩ ∈ tG := tG_of (inT2 (List.mem_of_getElem? (i := 183) rfl)) rfl
theorem tw_488 : Cond.selects "SurplusLand$Grower" ⟨"SurplusLand$Grower", "arrive", "(II)V"⟩ ⟨"SurplusLand$Grower", "arrive", "(II)V"⟩ ∈ tG := tG_of (inT2 (List.mem_of_getElem? (i := 184) rfl)) rfl
theorem tw_489 : Cond.code ⟨"SurplusLand$Grower", "arrive", "(II)V"⟩ prog_3_method_2_code 3 (none) ∈ tG := tG_of (inT2 (List.mem_of_getElem? (i := 185) rfl)) rfl
theorem tw_490 : Cond.methodLink "SurplusLand$Grower" 54 ⟨"java/util/Arrays", "fill", "([II)V"⟩ ∈ tG := tG_of (inT2 (List.mem_of_getElem? (i := 186) rfl)) rfl
theorem tw_494 : Cond.code ⟨"SurplusLand", "feed", "(IIIII)I"⟩ prog_1_method_5_code 6 (some .int) ∈ tG := tG_of (inT2 (List.mem_of_getElem? (i := 190) rfl)) rfl
theorem tw_495 : Cond.methodLink "SurplusLand" 116 ⟨"SurplusLand$Tape", "append", "(I)V"⟩ ∈ tG := tG_of (inT2 (List.mem_of_getElem? (i := 191) rfl)) rfl
theorem tw_496 : Cond.instanceMethod ⟨"SurplusLand$Tape", "append", "(I)V"⟩ ∈ tG := tG_of (inT2 (List.mem_of_getElem? (i := 192) rfl)) rfl
theorem tw_497 : Cond.selects "SurplusLand$Tape" ⟨"SurplusLand$Tape", "append", "(I)V"⟩ ⟨"SurplusLand$Tape", "append", "(I)V"⟩ ∈ tG := tG_of (inT2 (List.mem_of_getElem? (i := 193) rfl)) rfl
theorem tw_498 : Cond.code ⟨"SurplusLand$Tape", "append", "(I)V"⟩ prog_11_method_2_code 3 (none) ∈ tG := tG_of (inT2 (List.mem_of_getElem? (i := 194) rfl)) rfl
theorem tw_502 : Cond.code ⟨"SurplusLand", "end", "(I)I"⟩ prog_1_method_6_code 2 (some .int) ∈ tG := tG_of (inT2 (List.mem_of_getElem? (i := 198) rfl)) rfl
theorem tw_506 : Cond.code ⟨"SurplusLand", "law", "(II)I"⟩ prog_1_method_7_code 5 (some .int) ∈ tG := tG_of (inT2 (List.mem_of_getElem? (i := 202) rfl)) rfl
theorem tw_507 : Cond.methodLink "SurplusLand" 120 ⟨"SurplusLand$Tape", "readLaw", "(LSurplusLand$Law;)Z"⟩ ∈ tG := tG_of (inT2 (List.mem_of_getElem? (i := 203) rfl)) rfl
theorem tw_508 : Cond.instanceMethod ⟨"SurplusLand$Tape", "readLaw", "(LSurplusLand$Law;)Z"⟩ ∈ tG := tG_of (inT2 (List.mem_of_getElem? (i := 204) rfl)) rfl
theorem tw_509 : Cond.selects "SurplusLand$Tape" ⟨"SurplusLand$Tape", "readLaw", "(LSurplusLand$Law;)Z"⟩ ⟨"SurplusLand$Tape", "readLaw", "(LSurplusLand$Law;)Z"⟩ ∈ tG := tG_of (inT2 (List.mem_of_getElem? (i := 205) rfl)) rfl
theorem tw_510 : Cond.code ⟨"SurplusLand$Tape", "readLaw", "(LSurplusLand$Law;)Z"⟩ prog_11_method_3_code 4 (some .boolean) ∈ tG := tG_of (inT2 (List.mem_of_getElem? (i := 206) rfl)) rfl
theorem tw_511 : Cond.methodLink "SurplusLand$Tape" 47 ⟨"SurplusLand$Tape", "scan", "()V"⟩ ∈ tG := tG_of (inT2 (List.mem_of_getElem? (i := 207) rfl)) rfl
theorem tw_513 : Cond.instanceMethod ⟨"SurplusLand$Tape", "scan", "()V"⟩ ∈ tG := tG_of (inT2 (List.mem_of_getElem? (i := 209) rfl)) rfl
theorem tw_514 : Cond.code ⟨"SurplusLand$Tape", "scan", "()V"⟩ prog_11_method_4_code 3 (none) ∈ tG := tG_of (inT2 (List.mem_of_getElem? (i := 210) rfl)) rfl
theorem tw_515 : Cond.methodLink "SurplusLand$Tape" 63 ⟨"SurplusLand$Tape", "stopOf", "(I)I"⟩ ∈ tG := tG_of (inT2 (List.mem_of_getElem? (i := 211) rfl)) rfl
theorem tw_517 : Cond.instanceMethod ⟨"SurplusLand$Tape", "stopOf", "(I)I"⟩ ∈ tG := tG_of (inT2 (List.mem_of_getElem? (i := 213) rfl)) rfl
theorem tw_518 : Cond.code ⟨"SurplusLand$Tape", "stopOf", "(I)I"⟩ prog_11_method_7_code 5 (some .int) ∈ tG := tG_of (inT2 (List.mem_of_getElem? (i := 214) rfl)) rfl
theorem tw_519 : Cond.methodLink "SurplusLand$Tape" 79 ⟨"SurplusLand$Tape", "isLetter", "(I)Z"⟩ ∈ tG := tG_of (inT2 (List.mem_of_getElem? (i := 215) rfl)) rfl
theorem tw_521 : Cond.instanceMethod ⟨"SurplusLand$Tape", "isLetter", "(I)Z"⟩ ∈ tG := tG_of (inT2 (List.mem_of_getElem? (i := 217) rfl)) rfl
theorem tw_522 : Cond.code ⟨"SurplusLand$Tape", "isLetter", "(I)Z"⟩ prog_11_method_5_code 2 (some .boolean) ∈ tG := tG_of (inT2 (List.mem_of_getElem? (i := 218) rfl)) rfl
theorem tw_523 : Cond.methodLink "SurplusLand$Tape" 83 ⟨"SurplusLand$Tape", "isDigit", "(I)Z"⟩ ∈ tG := tG_of (inT2 (List.mem_of_getElem? (i := 219) rfl)) rfl
theorem tw_525 : Cond.instanceMethod ⟨"SurplusLand$Tape", "isDigit", "(I)Z"⟩ ∈ tG := tG_of (inT2 (List.mem_of_getElem? (i := 221) rfl)) rfl
theorem tw_526 : Cond.code ⟨"SurplusLand$Tape", "isDigit", "(I)Z"⟩ prog_11_method_6_code 2 (some .boolean) ∈ tG := tG_of (inT2 (List.mem_of_getElem? (i := 222) rfl)) rfl
theorem tw_527 : Cond.methodLink "SurplusLand$Tape" 67 ⟨"SurplusLand$Tape", "kindOf", "(II)I"⟩ ∈ tG := tG_of (inT2 (List.mem_of_getElem? (i := 223) rfl)) rfl
theorem tw_529 : Cond.instanceMethod ⟨"SurplusLand$Tape", "kindOf", "(II)I"⟩ ∈ tG := tG_of (inT2 (List.mem_of_getElem? (i := 225) rfl)) rfl
theorem tw_530 : Cond.code ⟨"SurplusLand$Tape", "kindOf", "(II)I"⟩ prog_11_method_8_code 3 (some .int) ∈ tG := tG_of (inT2 (List.mem_of_getElem? (i := 226) rfl)) rfl
theorem tw_531 : Cond.methodLink "SurplusLand$Tape" 86 ⟨"SurplusLand$Tape", "kindOfWord", "(II)I"⟩ ∈ tG := tG_of (inT2 (List.mem_of_getElem? (i := 227) rfl)) rfl
theorem tw_533 : Cond.instanceMethod ⟨"SurplusLand$Tape", "kindOfWord", "(II)I"⟩ ∈ tG := tG_of (inT2 (List.mem_of_getElem? (i := 229) rfl)) rfl
theorem tw_534 : Cond.code ⟨"SurplusLand$Tape", "kindOfWord", "(II)I"⟩ prog_11_method_10_code 3 (some .int) ∈ tG := tG_of (inT2 (List.mem_of_getElem? (i := 230) rfl)) rfl
theorem tw_536 : Cond.methodLink "SurplusLand$Tape" 96 ⟨"SurplusLand$Tape", "spells", "(IILjava/lang/String;)Z"⟩ ∈ tG := tG_of (inT2 (List.mem_of_getElem? (i := 232) rfl)) rfl
theorem tw_538 : Cond.instanceMethod ⟨"SurplusLand$Tape", "spells", "(IILjava/lang/String;)Z"⟩ ∈ tG := tG_of (inT2 (List.mem_of_getElem? (i := 234) rfl)) rfl
theorem tw_539 : Cond.code ⟨"SurplusLand$Tape", "spells", "(IILjava/lang/String;)Z"⟩ prog_11_method_11_code 5 (some .boolean) ∈ tG := tG_of (inT2 (List.mem_of_getElem? (i := 235) rfl)) rfl
theorem tw_540 : Cond.methodLink "SurplusLand$Tape" 124 ⟨"java/lang/String", "length", "()I"⟩ ∈ tG := tG_of (inT2 (List.mem_of_getElem? (i := 236) rfl)) rfl
theorem tw_541 : Cond.instanceMethod ⟨"java/lang/String", "length", "()I"⟩ ∈ tG := tG_of (inT2 (List.mem_of_getElem? (i := 237) rfl)) rfl
theorem tw_542 : Cond.selects "java/lang/String" ⟨"java/lang/String", "length", "()I"⟩ ⟨"java/lang/String", "length", "()I"⟩ ∈ tG := tG_of (inT2 (List.mem_of_getElem? (i := 238) rfl)) rfl
theorem tw_543 : Cond.code ⟨"java/lang/String", "length", "()I"⟩ prog_16_method_54_code 1 (some .int) ∈ tG := tG_of (inT2 (List.mem_of_getElem? (i := 239) rfl)) rfl
theorem tw_550 : Cond.methodLink "SurplusLand$Tape" 129 ⟨"java/lang/String", "charAt", "(I)C"⟩ ∈ tG := tG_of (inT3 (List.mem_of_getElem? (i := 6) rfl)) rfl
theorem tw_551 : Cond.instanceMethod ⟨"java/lang/String", "charAt", "(I)C"⟩ ∈ tG := tG_of (inT3 (List.mem_of_getElem? (i := 7) rfl)) rfl
theorem tw_552 : Cond.selects "java/lang/String" ⟨"java/lang/String", "charAt", "(I)C"⟩ ⟨"java/lang/String", "charAt", "(I)C"⟩ ∈ tG := tG_of (inT3 (List.mem_of_getElem? (i := 8) rfl)) rfl
theorem tw_553 : Cond.code ⟨"java/lang/String", "charAt", "(I)C"⟩ prog_16_method_56_code 2 (some .char) ∈ tG := tG_of (inT3 (List.mem_of_getElem? (i := 9) rfl)) rfl
theorem tw_600 : Cond.methodLink "SurplusLand$Tape" 71 ⟨"SurplusLand$Tape", "numberOf", "(II)I"⟩ ∈ tG := tG_of (inT3 (List.mem_of_getElem? (i := 56) rfl)) rfl
theorem tw_602 : Cond.instanceMethod ⟨"SurplusLand$Tape", "numberOf", "(II)I"⟩ ∈ tG := tG_of (inT3 (List.mem_of_getElem? (i := 58) rfl)) rfl
theorem tw_603 : Cond.code ⟨"SurplusLand$Tape", "numberOf", "(II)I"⟩ prog_11_method_9_code 5 (some .int) ∈ tG := tG_of (inT3 (List.mem_of_getElem? (i := 59) rfl)) rfl
theorem tw_604 : Cond.constant "SurplusLand$Tape" 90 1000000 ∈ tG := tG_of (inT3 (List.mem_of_getElem? (i := 60) rfl)) rfl
theorem tw_605 : Cond.methodLink "SurplusLand$Tape" 91 ⟨"java/lang/Math", "min", "(II)I"⟩ ∈ tG := tG_of (inT3 (List.mem_of_getElem? (i := 61) rfl)) rfl
theorem tw_606 : Cond.static ⟨"java/lang/Math", "min", "(II)I"⟩ ∈ tG := tG_of (inT3 (List.mem_of_getElem? (i := 62) rfl)) rfl
theorem tw_607 : Cond.code ⟨"java/lang/Math", "min", "(II)I"⟩ prog_15_method_69_code 2 (some .int) ∈ tG := tG_of (inT3 (List.mem_of_getElem? (i := 63) rfl)) rfl
theorem tw_608 : Cond.constant "SurplusLand$Tape" 89 999999 ∈ tG := tG_of (inT3 (List.mem_of_getElem? (i := 64) rfl)) rfl
theorem tw_609 : Cond.methodLink "SurplusLand$Tape" 74 ⟨"java/lang/Math", "max", "(II)I"⟩ ∈ tG := tG_of (inT3 (List.mem_of_getElem? (i := 65) rfl)) rfl
theorem tw_610 : Cond.methodLink "SurplusLand$Tape" 50 ⟨"SurplusLand$Tape", "readClause", "()Z"⟩ ∈ tG := tG_of (inT3 (List.mem_of_getElem? (i := 66) rfl)) rfl
theorem tw_612 : Cond.instanceMethod ⟨"SurplusLand$Tape", "readClause", "()Z"⟩ ∈ tG := tG_of (inT3 (List.mem_of_getElem? (i := 68) rfl)) rfl
theorem tw_613 : Cond.code ⟨"SurplusLand$Tape", "readClause", "()Z"⟩ prog_11_method_14_code 5 (some .boolean) ∈ tG := tG_of (inT3 (List.mem_of_getElem? (i := 69) rfl)) rfl
theorem tw_615 : Cond.methodLink "SurplusLand$Tape" 57 ⟨"SurplusLand$Tape", "refuse", "()Z"⟩ ∈ tG := tG_of (inT3 (List.mem_of_getElem? (i := 71) rfl)) rfl
theorem tw_617 : Cond.instanceMethod ⟨"SurplusLand$Tape", "refuse", "()Z"⟩ ∈ tG := tG_of (inT3 (List.mem_of_getElem? (i := 73) rfl)) rfl
theorem tw_618 : Cond.code ⟨"SurplusLand$Tape", "refuse", "()Z"⟩ prog_11_method_13_code 1 (some .boolean) ∈ tG := tG_of (inT3 (List.mem_of_getElem? (i := 74) rfl)) rfl
theorem tw_619 : Cond.methodLink "SurplusLand$Tape" 54 ⟨"SurplusLand$Tape", "step", "()V"⟩ ∈ tG := tG_of (inT3 (List.mem_of_getElem? (i := 75) rfl)) rfl
theorem tw_621 : Cond.instanceMethod ⟨"SurplusLand$Tape", "step", "()V"⟩ ∈ tG := tG_of (inT3 (List.mem_of_getElem? (i := 77) rfl)) rfl
theorem tw_622 : Cond.code ⟨"SurplusLand$Tape", "step", "()V"⟩ prog_11_method_12_code 1 (none) ∈ tG := tG_of (inT3 (List.mem_of_getElem? (i := 78) rfl)) rfl
theorem tw_623 : Cond.methodLink "SurplusLand$Tape" 137 ⟨"SurplusLand$Law", "emit", "(I)V"⟩ ∈ tG := tG_of (inT3 (List.mem_of_getElem? (i := 79) rfl)) rfl
theorem tw_624 : Cond.instanceMethod ⟨"SurplusLand$Law", "emit", "(I)V"⟩ ∈ tG := tG_of (inT3 (List.mem_of_getElem? (i := 80) rfl)) rfl
theorem tw_625 : Cond.selects "SurplusLand$Law" ⟨"SurplusLand$Law", "emit", "(I)V"⟩ ⟨"SurplusLand$Law", "emit", "(I)V"⟩ ∈ tG := tG_of (inT3 (List.mem_of_getElem? (i := 81) rfl)) rfl
theorem tw_626 : Cond.code ⟨"SurplusLand$Law", "emit", "(I)V"⟩ prog_6_method_3_code 2 (none) ∈ tG := tG_of (inT3 (List.mem_of_getElem? (i := 82) rfl)) rfl
theorem tw_627 : Cond.methodLink "SurplusLand$Tape" 141 ⟨"SurplusLand$Tape", "readSum", "(I)Z"⟩ ∈ tG := tG_of (inT3 (List.mem_of_getElem? (i := 83) rfl)) rfl
theorem tw_629 : Cond.instanceMethod ⟨"SurplusLand$Tape", "readSum", "(I)Z"⟩ ∈ tG := tG_of (inT3 (List.mem_of_getElem? (i := 85) rfl)) rfl
theorem tw_630 : Cond.code ⟨"SurplusLand$Tape", "readSum", "(I)Z"⟩ prog_11_method_16_code 5 (some .boolean) ∈ tG := tG_of (inT3 (List.mem_of_getElem? (i := 86) rfl)) rfl
theorem tw_631 : Cond.methodLink "SurplusLand$Tape" 151 ⟨"SurplusLand$Tape", "readTerm", "(I)Z"⟩ ∈ tG := tG_of (inT3 (List.mem_of_getElem? (i := 87) rfl)) rfl
theorem tw_633 : Cond.instanceMethod ⟨"SurplusLand$Tape", "readTerm", "(I)Z"⟩ ∈ tG := tG_of (inT3 (List.mem_of_getElem? (i := 89) rfl)) rfl
theorem tw_634 : Cond.code ⟨"SurplusLand$Tape", "readTerm", "(I)Z"⟩ prog_11_method_17_code 5 (some .boolean) ∈ tG := tG_of (inT3 (List.mem_of_getElem? (i := 90) rfl)) rfl
theorem tw_635 : Cond.methodLink "SurplusLand$Tape" 154 ⟨"SurplusLand$Tape", "readFactor", "(I)Z"⟩ ∈ tG := tG_of (inT3 (List.mem_of_getElem? (i := 91) rfl)) rfl
theorem tw_637 : Cond.instanceMethod ⟨"SurplusLand$Tape", "readFactor", "(I)Z"⟩ ∈ tG := tG_of (inT3 (List.mem_of_getElem? (i := 93) rfl)) rfl
theorem tw_638 : Cond.code ⟨"SurplusLand$Tape", "readFactor", "(I)Z"⟩ prog_11_method_18_code 3 (some .boolean) ∈ tG := tG_of (inT3 (List.mem_of_getElem? (i := 94) rfl)) rfl
theorem tw_639 : Cond.methodLink "SurplusLand$Tape" 144 ⟨"SurplusLand$Tape", "readConditions", "()Z"⟩ ∈ tG := tG_of (inT3 (List.mem_of_getElem? (i := 95) rfl)) rfl
theorem tw_641 : Cond.instanceMethod ⟨"SurplusLand$Tape", "readConditions", "()Z"⟩ ∈ tG := tG_of (inT3 (List.mem_of_getElem? (i := 97) rfl)) rfl
theorem tw_642 : Cond.code ⟨"SurplusLand$Tape", "readConditions", "()Z"⟩ prog_11_method_15_code 3 (some .boolean) ∈ tG := tG_of (inT3 (List.mem_of_getElem? (i := 98) rfl)) rfl
theorem tw_643 : Cond.methodLink "SurplusLand$Tape" 147 ⟨"SurplusLand$Law", "addClause", "(III)V"⟩ ∈ tG := tG_of (inT3 (List.mem_of_getElem? (i := 99) rfl)) rfl
theorem tw_644 : Cond.instanceMethod ⟨"SurplusLand$Law", "addClause", "(III)V"⟩ ∈ tG := tG_of (inT3 (List.mem_of_getElem? (i := 100) rfl)) rfl
theorem tw_645 : Cond.selects "SurplusLand$Law" ⟨"SurplusLand$Law", "addClause", "(III)V"⟩ ⟨"SurplusLand$Law", "addClause", "(III)V"⟩ ∈ tG := tG_of (inT3 (List.mem_of_getElem? (i := 101) rfl)) rfl
theorem tw_646 : Cond.code ⟨"SurplusLand$Law", "addClause", "(III)V"⟩ prog_6_method_4_code 4 (none) ∈ tG := tG_of (inT3 (List.mem_of_getElem? (i := 102) rfl)) rfl
theorem tw_647 : Cond.methodLink "SurplusLand" 124 ⟨"SurplusLand$Law", "copy", "()LSurplusLand$Law;"⟩ ∈ tG := tG_of (inT3 (List.mem_of_getElem? (i := 103) rfl)) rfl
theorem tw_648 : Cond.instanceMethod ⟨"SurplusLand$Law", "copy", "()LSurplusLand$Law;"⟩ ∈ tG := tG_of (inT3 (List.mem_of_getElem? (i := 104) rfl)) rfl
theorem tw_649 : Cond.selects "SurplusLand$Law" ⟨"SurplusLand$Law", "copy", "()LSurplusLand$Law;"⟩ ⟨"SurplusLand$Law", "copy", "()LSurplusLand$Law;"⟩ ∈ tG := tG_of (inT3 (List.mem_of_getElem? (i := 105) rfl)) rfl
theorem tw_650 : Cond.code ⟨"SurplusLand$Law", "copy", "()LSurplusLand$Law;"⟩ prog_6_method_2_code 2 (some (.object "SurplusLand$Law")) ∈ tG := tG_of (inT3 (List.mem_of_getElem? (i := 106) rfl)) rfl
theorem tw_651 : Cond.classLink "SurplusLand$Law" 14 "SurplusLand$Law" ∈ tG := tG_of (inT3 (List.mem_of_getElem? (i := 107) rfl)) rfl
theorem tw_652 : Cond.methodLink "SurplusLand$Law" 38 ⟨"SurplusLand$Law", "<init>", "(II)V"⟩ ∈ tG := tG_of (inT3 (List.mem_of_getElem? (i := 108) rfl)) rfl
theorem tw_653 : Cond.methodLink "SurplusLand$Law" 41 arraycopyName ∈ tG := tG_of (inT3 (List.mem_of_getElem? (i := 109) rfl)) rfl
theorem tw_654 : Cond.static arraycopyName ∈ tG := tG_of (inT3 (List.mem_of_getElem? (i := 110) rfl)) rfl
theorem tw_655 : Cond.native arraycopyName ∈ tG := tG_of (inT3 (List.mem_of_getElem? (i := 111) rfl)) rfl
theorem tw_656 : Cond.methodLink "SurplusLand" 128 ⟨"java/lang/Math", "max", "(II)I"⟩ ∈ tG := tG_of (inT3 (List.mem_of_getElem? (i := 112) rfl)) rfl
theorem tw_660 : Cond.code ⟨"SurplusLand", "fault", "()I"⟩ prog_1_method_8_code 1 (some .int) ∈ tG := tG_of (inT3 (List.mem_of_getElem? (i := 116) rfl)) rfl
theorem tw_664 : Cond.code ⟨"SurplusLand", "crop", "(II)I"⟩ prog_1_method_9_code 3 (some .int) ∈ tG := tG_of (inT3 (List.mem_of_getElem? (i := 120) rfl)) rfl
theorem tw_665 : Cond.methodLink "SurplusLand" 139 ⟨"SurplusLand$Land", "hasGrower", "(I)Z"⟩ ∈ tG := tG_of (inT3 (List.mem_of_getElem? (i := 121) rfl)) rfl
theorem tw_666 : Cond.instanceMethod ⟨"SurplusLand$Land", "hasGrower", "(I)Z"⟩ ∈ tG := tG_of (inT3 (List.mem_of_getElem? (i := 122) rfl)) rfl
theorem tw_667 : Cond.selects "SurplusLand$Land" ⟨"SurplusLand$Land", "hasGrower", "(I)Z"⟩ ⟨"SurplusLand$Land", "hasGrower", "(I)Z"⟩ ∈ tG := tG_of (inT3 (List.mem_of_getElem? (i := 123) rfl)) rfl
theorem tw_668 : Cond.code ⟨"SurplusLand$Land", "hasGrower", "(I)Z"⟩ prog_5_method_2_code 2 (some .boolean) ∈ tG := tG_of (inT3 (List.mem_of_getElem? (i := 124) rfl)) rfl
theorem tw_669 : Cond.constant "SurplusLand" 143 500000 ∈ tG := tG_of (inT3 (List.mem_of_getElem? (i := 125) rfl)) rfl
theorem tw_670 : Cond.methodLink "SurplusLand" 144 ⟨"SurplusLand$Land", "tellCrop", "(II)V"⟩ ∈ tG := tG_of (inT3 (List.mem_of_getElem? (i := 126) rfl)) rfl
theorem tw_671 : Cond.instanceMethod ⟨"SurplusLand$Land", "tellCrop", "(II)V"⟩ ∈ tG := tG_of (inT3 (List.mem_of_getElem? (i := 127) rfl)) rfl
theorem tw_672 : Cond.selects "SurplusLand$Land" ⟨"SurplusLand$Land", "tellCrop", "(II)V"⟩ ⟨"SurplusLand$Land", "tellCrop", "(II)V"⟩ ∈ tG := tG_of (inT3 (List.mem_of_getElem? (i := 128) rfl)) rfl
theorem tw_673 : Cond.code ⟨"SurplusLand$Land", "tellCrop", "(II)V"⟩ prog_5_method_4_code 3 (none) ∈ tG := tG_of (inT3 (List.mem_of_getElem? (i := 129) rfl)) rfl
theorem tw_674 : Cond.methodLink "SurplusLand$Land" 65 ⟨"SurplusLand$Land", "hasGrower", "(I)Z"⟩ ∈ tG := tG_of (inT3 (List.mem_of_getElem? (i := 130) rfl)) rfl
theorem tw_678 : Cond.code ⟨"SurplusLand", "crops", "(I)I"⟩ prog_1_method_10_code 5 (some .int) ∈ tG := tG_of (inT3 (List.mem_of_getElem? (i := 134) rfl)) rfl
theorem tw_679 : Cond.methodLink "SurplusLand" 147 ⟨"SurplusLand$Rows", "hasRow", "(I)Z"⟩ ∈ tG := tG_of (inT3 (List.mem_of_getElem? (i := 135) rfl)) rfl
theorem tw_680 : Cond.instanceMethod ⟨"SurplusLand$Rows", "hasRow", "(I)Z"⟩ ∈ tG := tG_of (inT3 (List.mem_of_getElem? (i := 136) rfl)) rfl
theorem tw_681 : Cond.selects "SurplusLand$Rows" ⟨"SurplusLand$Rows", "hasRow", "(I)Z"⟩ ⟨"SurplusLand$Rows", "hasRow", "(I)Z"⟩ ∈ tG := tG_of (inT3 (List.mem_of_getElem? (i := 137) rfl)) rfl
theorem tw_682 : Cond.code ⟨"SurplusLand$Rows", "hasRow", "(I)Z"⟩ prog_9_method_2_code 2 (some .boolean) ∈ tG := tG_of (inT3 (List.mem_of_getElem? (i := 138) rfl)) rfl
theorem tw_684 : Cond.methodLink "SurplusLand" 154 ⟨"SurplusLand$Rows", "numberAt", "(II)J"⟩ ∈ tG := tG_of (inT3 (List.mem_of_getElem? (i := 140) rfl)) rfl
theorem tw_685 : Cond.instanceMethod ⟨"SurplusLand$Rows", "numberAt", "(II)J"⟩ ∈ tG := tG_of (inT3 (List.mem_of_getElem? (i := 141) rfl)) rfl
theorem tw_686 : Cond.selects "SurplusLand$Rows" ⟨"SurplusLand$Rows", "numberAt", "(II)J"⟩ ⟨"SurplusLand$Rows", "numberAt", "(II)J"⟩ ∈ tG := tG_of (inT3 (List.mem_of_getElem? (i := 142) rfl)) rfl
theorem tw_687 : Cond.code ⟨"SurplusLand$Rows", "numberAt", "(II)J"⟩ prog_9_method_6_code 3 (some .long) ∈ tG := tG_of (inT3 (List.mem_of_getElem? (i := 143) rfl)) rfl
theorem tw_688 : Cond.constantLong "SurplusLand" 158 500000 ∈ tG := tG_of (inT3 (List.mem_of_getElem? (i := 144) rfl)) rfl
theorem tw_692 : Cond.code ⟨"SurplusLand", "go", "(I)I"⟩ prog_1_method_11_code 2 (some .int) ∈ tG := tG_of (inT3 (List.mem_of_getElem? (i := 148) rfl)) rfl
theorem tw_693 : Cond.methodLink "SurplusLand" 169 ⟨"SurplusLand$Land", "passYear", "(ILSurplusLand$Law;)V"⟩ ∈ tG := tG_of (inT3 (List.mem_of_getElem? (i := 149) rfl)) rfl
theorem tw_694 : Cond.instanceMethod ⟨"SurplusLand$Land", "passYear", "(ILSurplusLand$Law;)V"⟩ ∈ tG := tG_of (inT3 (List.mem_of_getElem? (i := 150) rfl)) rfl
theorem tw_695 : Cond.selects "SurplusLand$Land" ⟨"SurplusLand$Land", "passYear", "(ILSurplusLand$Law;)V"⟩ ⟨"SurplusLand$Land", "passYear", "(ILSurplusLand$Law;)V"⟩ ∈ tG := tG_of (inT3 (List.mem_of_getElem? (i := 151) rfl)) rfl
theorem tw_696 : Cond.code ⟨"SurplusLand$Land", "passYear", "(ILSurplusLand$Law;)V"⟩ prog_5_method_11_code 6 (none) ∈ tG := tG_of (inT3 (List.mem_of_getElem? (i := 152) rfl)) rfl
theorem tw_698 : Cond.methodLink "SurplusLand$Land" 113 ⟨"SurplusLand$Terms", "wantedAt", "(I)I"⟩ ∈ tG := tG_of (inT3 (List.mem_of_getElem? (i := 154) rfl)) rfl
theorem tw_699 : Cond.instanceMethod ⟨"SurplusLand$Terms", "wantedAt", "(I)I"⟩ ∈ tG := tG_of (inT3 (List.mem_of_getElem? (i := 155) rfl)) rfl
theorem tw_700 : Cond.selects "SurplusLand$Terms" ⟨"SurplusLand$Terms", "wantedAt", "(I)I"⟩ ⟨"SurplusLand$Terms", "wantedAt", "(I)I"⟩ ∈ tG := tG_of (inT3 (List.mem_of_getElem? (i := 156) rfl)) rfl
theorem tw_701 : Cond.code ⟨"SurplusLand$Terms", "wantedAt", "(I)I"⟩ prog_12_method_2_code 4 (some .int) ∈ tG := tG_of (inT3 (List.mem_of_getElem? (i := 157) rfl)) rfl
theorem tw_702 : Cond.constantLong "SurplusLand$Terms" 31 100 ∈ tG := tG_of (inT3 (List.mem_of_getElem? (i := 158) rfl)) rfl
theorem tw_703 : Cond.methodLink "SurplusLand$Terms" 33 ⟨"java/lang/Math", "max", "(JJ)J"⟩ ∈ tG := tG_of (inT3 (List.mem_of_getElem? (i := 159) rfl)) rfl
theorem tw_704 : Cond.static ⟨"java/lang/Math", "max", "(JJ)J"⟩ ∈ tG := tG_of (inT3 (List.mem_of_getElem? (i := 160) rfl)) rfl
theorem tw_705 : Cond.code ⟨"java/lang/Math", "max", "(JJ)J"⟩ prog_15_method_66_code 4 (some .long) ∈ tG := tG_of (inT3 (List.mem_of_getElem? (i := 161) rfl)) rfl
theorem tw_706 : Cond.methodLink "SurplusLand$Land" 122 ⟨"SurplusLand$Land", "gatherCrops", "(I)V"⟩ ∈ tG := tG_of (inT3 (List.mem_of_getElem? (i := 162) rfl)) rfl
theorem tw_708 : Cond.instanceMethod ⟨"SurplusLand$Land", "gatherCrops", "(I)V"⟩ ∈ tG := tG_of (inT3 (List.mem_of_getElem? (i := 164) rfl)) rfl
theorem tw_709 : Cond.code ⟨"SurplusLand$Land", "gatherCrops", "(I)V"⟩ prog_5_method_12_code 5 (none) ∈ tG := tG_of (inT3 (List.mem_of_getElem? (i := 165) rfl)) rfl
theorem tw_710 : Cond.methodLink "SurplusLand$Land" 126 ⟨"SurplusLand$Land", "applyLaw", "(LSurplusLand$Law;)V"⟩ ∈ tG := tG_of (inT3 (List.mem_of_getElem? (i := 166) rfl)) rfl
theorem tw_712 : Cond.instanceMethod ⟨"SurplusLand$Land", "applyLaw", "(LSurplusLand$Law;)V"⟩ ∈ tG := tG_of (inT3 (List.mem_of_getElem? (i := 168) rfl)) rfl
theorem tw_713 : Cond.code ⟨"SurplusLand$Land", "applyLaw", "(LSurplusLand$Law;)V"⟩ prog_5_method_13_code 5 (none) ∈ tG := tG_of (inT3 (List.mem_of_getElem? (i := 169) rfl)) rfl
theorem tw_714 : Cond.methodLink "SurplusLand$Land" 172 ⟨"SurplusLand$Store", "sacksInAll", "()J"⟩ ∈ tG := tG_of (inT3 (List.mem_of_getElem? (i := 170) rfl)) rfl
theorem tw_715 : Cond.instanceMethod ⟨"SurplusLand$Store", "sacksInAll", "()J"⟩ ∈ tG := tG_of (inT3 (List.mem_of_getElem? (i := 171) rfl)) rfl
theorem tw_716 : Cond.selects "SurplusLand$Store" ⟨"SurplusLand$Store", "sacksInAll", "()J"⟩ ⟨"SurplusLand$Store", "sacksInAll", "()J"⟩ ∈ tG := tG_of (inT3 (List.mem_of_getElem? (i := 172) rfl)) rfl
theorem tw_717 : Cond.code ⟨"SurplusLand$Store", "sacksInAll", "()J"⟩ prog_10_method_5_code 1 (some .long) ∈ tG := tG_of (inT3 (List.mem_of_getElem? (i := 173) rfl)) rfl
theorem tw_718 : Cond.methodLink "SurplusLand$Store" 46 ⟨"SurplusLand$Store", "sacksBefore", "(I)J"⟩ ∈ tG := tG_of (inT3 (List.mem_of_getElem? (i := 174) rfl)) rfl
theorem tw_719 : Cond.instanceMethod ⟨"SurplusLand$Store", "sacksBefore", "(I)J"⟩ ∈ tG := tG_of (inT3 (List.mem_of_getElem? (i := 175) rfl)) rfl
theorem tw_720 : Cond.selects "SurplusLand$Store" ⟨"SurplusLand$Store", "sacksBefore", "(I)J"⟩ ⟨"SurplusLand$Store", "sacksBefore", "(I)J"⟩ ∈ tG := tG_of (inT3 (List.mem_of_getElem? (i := 176) rfl)) rfl
theorem tw_721 : Cond.code ⟨"SurplusLand$Store", "sacksBefore", "(I)J"⟩ prog_10_method_6_code 5 (some .long) ∈ tG := tG_of (inT3 (List.mem_of_getElem? (i := 177) rfl)) rfl
theorem tw_722 : Cond.methodLink "SurplusLand$Land" 175 ⟨"SurplusLand$Store", "sacksBefore", "(I)J"⟩ ∈ tG := tG_of (inT3 (List.mem_of_getElem? (i := 178) rfl)) rfl
theorem tw_723 : Cond.methodLink "SurplusLand$Land" 178 ⟨"SurplusLand$Judge", "hear", "(LSurplusLand$Law;)V"⟩ ∈ tG := tG_of (inT3 (List.mem_of_getElem? (i := 179) rfl)) rfl
theorem tw_724 : Cond.instanceMethod ⟨"SurplusLand$Judge", "hear", "(LSurplusLand$Law;)V"⟩ ∈ tG := tG_of (inT3 (List.mem_of_getElem? (i := 180) rfl)) rfl
theorem tw_725 : Cond.selects "SurplusLand$Judge" ⟨"SurplusLand$Judge", "hear", "(LSurplusLand$Law;)V"⟩ ⟨"SurplusLand$Judge", "hear", "(LSurplusLand$Law;)V"⟩ ∈ tG := tG_of (inT3 (List.mem_of_getElem? (i := 181) rfl)) rfl
theorem tw_726 : Cond.code ⟨"SurplusLand$Judge", "hear", "(LSurplusLand$Law;)V"⟩ prog_4_method_3_code 4 (none) ∈ tG := tG_of (inT3 (List.mem_of_getElem? (i := 182) rfl)) rfl
theorem tw_727 : Cond.methodLink "SurplusLand$Judge" 59 ⟨"SurplusLand$Judge", "run", "(LSurplusLand$Law;II)J"⟩ ∈ tG := tG_of (inT3 (List.mem_of_getElem? (i := 183) rfl)) rfl
theorem tw_729 : Cond.instanceMethod ⟨"SurplusLand$Judge", "run", "(LSurplusLand$Law;II)J"⟩ ∈ tG := tG_of (inT3 (List.mem_of_getElem? (i := 185) rfl)) rfl
theorem tw_730 : Cond.code ⟨"SurplusLand$Judge", "run", "(LSurplusLand$Law;II)J"⟩ prog_4_method_5_code 8 (some .long) ∈ tG := tG_of (inT3 (List.mem_of_getElem? (i := 186) rfl)) rfl
theorem tw_732 : Cond.methodLink "SurplusLand$Judge" 94 ⟨"SurplusLand$Judge", "join", "(IJJ)J"⟩ ∈ tG := tG_of (inT3 (List.mem_of_getElem? (i := 188) rfl)) rfl
theorem tw_733 : Cond.static ⟨"SurplusLand$Judge", "join", "(IJJ)J"⟩ ∈ tG := tG_of (inT3 (List.mem_of_getElem? (i := 189) rfl)) rfl
theorem tw_734 : Cond.code ⟨"SurplusLand$Judge", "join", "(IJJ)J"⟩ prog_4_method_6_code 5 (some .long) ∈ tG := tG_of (inT3 (List.mem_of_getElem? (i := 190) rfl)) rfl
theorem tw_735 : Cond.methodLink "SurplusLand$Judge" 69 ⟨"SurplusLand$Judge", "obey", "(IJ)V"⟩ ∈ tG := tG_of (inT3 (List.mem_of_getElem? (i := 191) rfl)) rfl
theorem tw_737 : Cond.instanceMethod ⟨"SurplusLand$Judge", "obey", "(IJ)V"⟩ ∈ tG := tG_of (inT3 (List.mem_of_getElem? (i := 193) rfl)) rfl
theorem tw_738 : Cond.code ⟨"SurplusLand$Judge", "obey", "(IJ)V"⟩ prog_4_method_4_code 4 (none) ∈ tG := tG_of (inT3 (List.mem_of_getElem? (i := 194) rfl)) rfl
theorem tw_739 : Cond.constantLong "SurplusLand$Judge" 73 100 ∈ tG := tG_of (inT3 (List.mem_of_getElem? (i := 195) rfl)) rfl
theorem tw_741 : Cond.static ⟨"SurplusLand", "cutTo", "(JJJ)J"⟩ ∈ tG := tG_of (inT3 (List.mem_of_getElem? (i := 197) rfl)) rfl
theorem tw_742 : Cond.code ⟨"SurplusLand", "cutTo", "(JJJ)J"⟩ prog_1_method_32_code 6 (some .long) ∈ tG := tG_of (inT3 (List.mem_of_getElem? (i := 198) rfl)) rfl
theorem tw_743 : Cond.methodLink "SurplusLand" 346 ⟨"java/lang/Math", "min", "(JJ)J"⟩ ∈ tG := tG_of (inT3 (List.mem_of_getElem? (i := 199) rfl)) rfl
theorem tw_744 : Cond.static ⟨"java/lang/Math", "min", "(JJ)J"⟩ ∈ tG := tG_of (inT3 (List.mem_of_getElem? (i := 200) rfl)) rfl
theorem tw_745 : Cond.code ⟨"java/lang/Math", "min", "(JJ)J"⟩ prog_15_method_70_code 4 (some .long) ∈ tG := tG_of (inT3 (List.mem_of_getElem? (i := 201) rfl)) rfl
theorem tw_746 : Cond.methodLink "SurplusLand" 350 ⟨"java/lang/Math", "max", "(JJ)J"⟩ ∈ tG := tG_of (inT3 (List.mem_of_getElem? (i := 202) rfl)) rfl
theorem tw_747 : Cond.constantLong "SurplusLand$Judge" 79 8 ∈ tG := tG_of (inT3 (List.mem_of_getElem? (i := 203) rfl)) rfl
theorem tw_748 : Cond.methodLink "SurplusLand$Judge" 81 ⟨"java/lang/Math", "max", "(JJ)J"⟩ ∈ tG := tG_of (inT3 (List.mem_of_getElem? (i := 204) rfl)) rfl
theorem tw_749 : Cond.methodLink "SurplusLand$Judge" 87 ⟨"java/lang/Math", "min", "(II)I"⟩ ∈ tG := tG_of (inT3 (List.mem_of_getElem? (i := 205) rfl)) rfl
theorem tw_750 : Cond.methodLink "SurplusLand$Land" 130 ⟨"SurplusLand$Land", "keepParts", "()V"⟩ ∈ tG := tG_of (inT3 (List.mem_of_getElem? (i := 206) rfl)) rfl
theorem tw_752 : Cond.instanceMethod ⟨"SurplusLand$Land", "keepParts", "()V"⟩ ∈ tG := tG_of (inT3 (List.mem_of_getElem? (i := 208) rfl)) rfl
theorem tw_753 : Cond.code ⟨"SurplusLand$Land", "keepParts", "()V"⟩ prog_5_method_14_code 6 (none) ∈ tG := tG_of (inT3 (List.mem_of_getElem? (i := 209) rfl)) rfl
theorem tw_754 : Cond.methodLink "SurplusLand$Land" 192 ⟨"SurplusLand$Judge", "frees", "(II)Z"⟩ ∈ tG := tG_of (inT3 (List.mem_of_getElem? (i := 210) rfl)) rfl
theorem tw_755 : Cond.instanceMethod ⟨"SurplusLand$Judge", "frees", "(II)Z"⟩ ∈ tG := tG_of (inT3 (List.mem_of_getElem? (i := 211) rfl)) rfl
theorem tw_756 : Cond.selects "SurplusLand$Judge" ⟨"SurplusLand$Judge", "frees", "(II)Z"⟩ ⟨"SurplusLand$Judge", "frees", "(II)Z"⟩ ∈ tG := tG_of (inT3 (List.mem_of_getElem? (i := 212) rfl)) rfl
theorem tw_757 : Cond.code ⟨"SurplusLand$Judge", "frees", "(II)Z"⟩ prog_4_method_2_code 3 (some .boolean) ∈ tG := tG_of (inT3 (List.mem_of_getElem? (i := 213) rfl)) rfl
theorem tw_758 : Cond.constantLong "SurplusLand$Land" 199 100 ∈ tG := tG_of (inT3 (List.mem_of_getElem? (i := 214) rfl)) rfl
theorem tw_760 : Cond.methodLink "SurplusLand$Land" 205 ⟨"SurplusLand$Store", "issue", "(III)I"⟩ ∈ tG := tG_of (inT3 (List.mem_of_getElem? (i := 216) rfl)) rfl
theorem tw_761 : Cond.instanceMethod ⟨"SurplusLand$Store", "issue", "(III)I"⟩ ∈ tG := tG_of (inT3 (List.mem_of_getElem? (i := 217) rfl)) rfl
theorem tw_762 : Cond.selects "SurplusLand$Store" ⟨"SurplusLand$Store", "issue", "(III)I"⟩ ⟨"SurplusLand$Store", "issue", "(III)I"⟩ ∈ tG := tG_of (inT3 (List.mem_of_getElem? (i := 218) rfl)) rfl
theorem tw_763 : Cond.code ⟨"SurplusLand$Store", "issue", "(III)I"⟩ prog_10_method_4_code 5 (some .int) ∈ tG := tG_of (inT3 (List.mem_of_getElem? (i := 219) rfl)) rfl
theorem tw_764 : Cond.methodLink "SurplusLand$Store" 25 ⟨"SurplusLand$Store", "isFull", "()Z"⟩ ∈ tG := tG_of (inT3 (List.mem_of_getElem? (i := 220) rfl)) rfl
theorem tw_765 : Cond.instanceMethod ⟨"SurplusLand$Store", "isFull", "()Z"⟩ ∈ tG := tG_of (inT3 (List.mem_of_getElem? (i := 221) rfl)) rfl
theorem tw_766 : Cond.selects "SurplusLand$Store" ⟨"SurplusLand$Store", "isFull", "()Z"⟩ ⟨"SurplusLand$Store", "isFull", "()Z"⟩ ∈ tG := tG_of (inT3 (List.mem_of_getElem? (i := 222) rfl)) rfl
theorem tw_767 : Cond.code ⟨"SurplusLand$Store", "isFull", "()Z"⟩ prog_10_method_3_code 1 (some .boolean) ∈ tG := tG_of (inT3 (List.mem_of_getElem? (i := 223) rfl)) rfl
theorem tw_768 : Cond.instantiable "SurplusLand$Receipt" 5 ∈ tG := tG_of (inT3 (List.mem_of_getElem? (i := 224) rfl)) rfl
theorem tw_770 : Cond.instanceMethod ⟨"SurplusLand$Receipt", "<init>", "()V"⟩ ∈ tG := tG_of (inT3 (List.mem_of_getElem? (i := 226) rfl)) rfl
theorem tw_771 : Cond.code ⟨"SurplusLand$Receipt", "<init>", "()V"⟩ prog_8_method_1_code 1 (none) ∈ tG := tG_of (inT3 (List.mem_of_getElem? (i := 227) rfl)) rfl
theorem tw_772 : Cond.methodLink "SurplusLand$Receipt" 1 Lib.objectInit ∈ tG := tG_of (inT3 (List.mem_of_getElem? (i := 228) rfl)) rfl
theorem tw_773 : Cond.fieldLink "SurplusLand$Store" 30 "SurplusLand$Receipt" "holder" "I" ∈ tG := tG_of (inT3 (List.mem_of_getElem? (i := 229) rfl)) rfl
theorem tw_774 : Cond.fieldLink "SurplusLand" 194 "SurplusLand$Receipt" "holder" "I" ∈ tG := tG_of (inT3 (List.mem_of_getElem? (i := 230) rfl)) rfl
theorem tw_775 : Cond.fieldLink "SurplusLand$Land" 227 "SurplusLand$Receipt" "holder" "I" ∈ tG := tG_of (inT3 (List.mem_of_getElem? (i := 231) rfl)) rfl
theorem tw_776 : Cond.fieldLink "SurplusLand$Store" 33 "SurplusLand$Receipt" "sacks" "I" ∈ tG := tG_of (inT3 (List.mem_of_getElem? (i := 232) rfl)) rfl
theorem tw_777 : Cond.fieldLink "SurplusLand" 182 "SurplusLand$Receipt" "sacks" "I" ∈ tG := tG_of (inT3 (List.mem_of_getElem? (i := 233) rfl)) rfl
theorem tw_778 : Cond.fieldLink "SurplusLand$Land" 216 "SurplusLand$Receipt" "sacks" "I" ∈ tG := tG_of (inT3 (List.mem_of_getElem? (i := 234) rfl)) rfl
theorem tw_779 : Cond.fieldLink "SurplusLand$Store" 36 "SurplusLand$Receipt" "year" "I" ∈ tG := tG_of (inT3 (List.mem_of_getElem? (i := 235) rfl)) rfl
theorem tw_780 : Cond.fieldLink "SurplusLand" 197 "SurplusLand$Receipt" "year" "I" ∈ tG := tG_of (inT3 (List.mem_of_getElem? (i := 236) rfl)) rfl
theorem tw_781 : Cond.fieldLink "SurplusLand$Land" 237 "SurplusLand$Receipt" "year" "I" ∈ tG := tG_of (inT3 (List.mem_of_getElem? (i := 237) rfl)) rfl
theorem tw_782 : Cond.fieldLink "SurplusLand$Receipt" 7 "SurplusLand$Receipt" "first" "LSurplusLand$Loan;" ∈ tG := tG_of (inT3 (List.mem_of_getElem? (i := 238) rfl)) rfl
theorem tw_783 : Cond.fieldLink "SurplusLand$Store" 39 "SurplusLand$Receipt" "first" "LSurplusLand$Loan;" ∈ tG := tG_of (inT3 (List.mem_of_getElem? (i := 239) rfl)) rfl
theorem tw_784 : Cond.fieldLink "SurplusLand" 207 "SurplusLand$Receipt" "first" "LSurplusLand$Loan;" ∈ tG := tG_of (inT4 (List.mem_of_getElem? (i := 0) rfl)) rfl
theorem tw_785 : Cond.fieldLink "SurplusLand$Land" 269 "SurplusLand$Receipt" "first" "LSurplusLand$Loan;" ∈ tG := tG_of (inT4 (List.mem_of_getElem? (i := 1) rfl)) rfl
theorem tw_786 : Cond.fieldLink "SurplusLand$Receipt" 13 "SurplusLand$Receipt" "second" "LSurplusLand$Loan;" ∈ tG := tG_of (inT4 (List.mem_of_getElem? (i := 2) rfl)) rfl
theorem tw_787 : Cond.fieldLink "SurplusLand$Store" 43 "SurplusLand$Receipt" "second" "LSurplusLand$Loan;" ∈ tG := tG_of (inT4 (List.mem_of_getElem? (i := 3) rfl)) rfl
theorem tw_788 : Cond.fieldLink "SurplusLand" 203 "SurplusLand$Receipt" "second" "LSurplusLand$Loan;" ∈ tG := tG_of (inT4 (List.mem_of_getElem? (i := 4) rfl)) rfl
theorem tw_789 : Cond.fieldLink "SurplusLand$Land" 296 "SurplusLand$Receipt" "second" "LSurplusLand$Loan;" ∈ tG := tG_of (inT4 (List.mem_of_getElem? (i := 5) rfl)) rfl
theorem tw_801 : Cond.methodLink "SurplusLand$Land" 133 ⟨"SurplusLand$Land", "sellStored", "(I)V"⟩ ∈ tG := tG_of (inT4 (List.mem_of_getElem? (i := 17) rfl)) rfl
theorem tw_803 : Cond.instanceMethod ⟨"SurplusLand$Land", "sellStored", "(I)V"⟩ ∈ tG := tG_of (inT4 (List.mem_of_getElem? (i := 19) rfl)) rfl
theorem tw_804 : Cond.code ⟨"SurplusLand$Land", "sellStored", "(I)V"⟩ prog_5_method_15_code 7 (none) ∈ tG := tG_of (inT4 (List.mem_of_getElem? (i := 20) rfl)) rfl
theorem tw_805 : Cond.methodLink "SurplusLand$Land" 221 ⟨"java/lang/Math", "min", "(JJ)J"⟩ ∈ tG := tG_of (inT4 (List.mem_of_getElem? (i := 21) rfl)) rfl
theorem tw_806 : Cond.methodLink "SurplusLand$Land" 230 ⟨"SurplusLand$Land", "credit", "(IJ)V"⟩ ∈ tG := tG_of (inT4 (List.mem_of_getElem? (i := 22) rfl)) rfl
theorem tw_807 : Cond.instanceMethod ⟨"SurplusLand$Land", "credit", "(IJ)V"⟩ ∈ tG := tG_of (inT4 (List.mem_of_getElem? (i := 23) rfl)) rfl
theorem tw_808 : Cond.selects "SurplusLand$Land" ⟨"SurplusLand$Land", "credit", "(IJ)V"⟩ ⟨"SurplusLand$Land", "credit", "(IJ)V"⟩ ∈ tG := tG_of (inT4 (List.mem_of_getElem? (i := 24) rfl)) rfl
theorem tw_809 : Cond.code ⟨"SurplusLand$Land", "credit", "(IJ)V"⟩ prog_5_method_6_code 4 (none) ∈ tG := tG_of (inT4 (List.mem_of_getElem? (i := 25) rfl)) rfl
theorem tw_810 : Cond.methodLink "SurplusLand$Land" 136 ⟨"SurplusLand$Land", "stillStored", "()V"⟩ ∈ tG := tG_of (inT4 (List.mem_of_getElem? (i := 26) rfl)) rfl
theorem tw_812 : Cond.instanceMethod ⟨"SurplusLand$Land", "stillStored", "()V"⟩ ∈ tG := tG_of (inT4 (List.mem_of_getElem? (i := 28) rfl)) rfl
theorem tw_813 : Cond.code ⟨"SurplusLand$Land", "stillStored", "()V"⟩ prog_5_method_16_code 3 (none) ∈ tG := tG_of (inT4 (List.mem_of_getElem? (i := 29) rfl)) rfl
theorem tw_814 : Cond.methodLink "SurplusLand$Land" 139 ⟨"SurplusLand$Land", "freeInAll", "()J"⟩ ∈ tG := tG_of (inT4 (List.mem_of_getElem? (i := 30) rfl)) rfl
theorem tw_815 : Cond.instanceMethod ⟨"SurplusLand$Land", "freeInAll", "()J"⟩ ∈ tG := tG_of (inT4 (List.mem_of_getElem? (i := 31) rfl)) rfl
theorem tw_816 : Cond.selects "SurplusLand$Land" ⟨"SurplusLand$Land", "freeInAll", "()J"⟩ ⟨"SurplusLand$Land", "freeInAll", "()J"⟩ ∈ tG := tG_of (inT4 (List.mem_of_getElem? (i := 32) rfl)) rfl
theorem tw_817 : Cond.code ⟨"SurplusLand$Land", "freeInAll", "()J"⟩ prog_5_method_7_code 4 (some .long) ∈ tG := tG_of (inT4 (List.mem_of_getElem? (i := 33) rfl)) rfl
theorem tw_818 : Cond.methodLink "SurplusLand$Land" 143 ⟨"SurplusLand$Land", "sellFree", "(J)V"⟩ ∈ tG := tG_of (inT4 (List.mem_of_getElem? (i := 34) rfl)) rfl
theorem tw_820 : Cond.instanceMethod ⟨"SurplusLand$Land", "sellFree", "(J)V"⟩ ∈ tG := tG_of (inT4 (List.mem_of_getElem? (i := 36) rfl)) rfl
theorem tw_821 : Cond.code ⟨"SurplusLand$Land", "sellFree", "(J)V"⟩ prog_5_method_17_code 9 (none) ∈ tG := tG_of (inT4 (List.mem_of_getElem? (i := 37) rfl)) rfl
theorem tw_822 : Cond.methodLink "SurplusLand$Land" 238 ⟨"SurplusLand$Grower", "sell", "(II)V"⟩ ∈ tG := tG_of (inT4 (List.mem_of_getElem? (i := 38) rfl)) rfl
theorem tw_823 : Cond.instanceMethod ⟨"SurplusLand$Grower", "sell", "(II)V"⟩ ∈ tG := tG_of (inT4 (List.mem_of_getElem? (i := 39) rfl)) rfl
theorem tw_824 : Cond.selects "SurplusLand$Grower" ⟨"SurplusLand$Grower", "sell", "(II)V"⟩ ⟨"SurplusLand$Grower", "sell", "(II)V"⟩ ∈ tG := tG_of (inT4 (List.mem_of_getElem? (i := 40) rfl)) rfl
theorem tw_825 : Cond.code ⟨"SurplusLand$Grower", "sell", "(II)V"⟩ prog_3_method_4_code 3 (none) ∈ tG := tG_of (inT4 (List.mem_of_getElem? (i := 41) rfl)) rfl
theorem tw_826 : Cond.methodLink "SurplusLand$Land" 241 ⟨"SurplusLand$Land", "sellOneEach", "(J)J"⟩ ∈ tG := tG_of (inT4 (List.mem_of_getElem? (i := 42) rfl)) rfl
theorem tw_828 : Cond.instanceMethod ⟨"SurplusLand$Land", "sellOneEach", "(J)J"⟩ ∈ tG := tG_of (inT4 (List.mem_of_getElem? (i := 44) rfl)) rfl
theorem tw_829 : Cond.code ⟨"SurplusLand$Land", "sellOneEach", "(J)J"⟩ prog_5_method_18_code 6 (some .long) ∈ tG := tG_of (inT4 (List.mem_of_getElem? (i := 45) rfl)) rfl
theorem tw_830 : Cond.methodLink "SurplusLand$Land" 147 ⟨"SurplusLand$Land", "stillFree", "()V"⟩ ∈ tG := tG_of (inT4 (List.mem_of_getElem? (i := 46) rfl)) rfl
theorem tw_832 : Cond.instanceMethod ⟨"SurplusLand$Land", "stillFree", "()V"⟩ ∈ tG := tG_of (inT4 (List.mem_of_getElem? (i := 48) rfl)) rfl
theorem tw_833 : Cond.code ⟨"SurplusLand$Land", "stillFree", "()V"⟩ prog_5_method_19_code 4 (none) ∈ tG := tG_of (inT4 (List.mem_of_getElem? (i := 49) rfl)) rfl
theorem tw_834 : Cond.methodLink "SurplusLand$Land" 248 ⟨"java/lang/Math", "min", "(II)I"⟩ ∈ tG := tG_of (inT4 (List.mem_of_getElem? (i := 50) rfl)) rfl
theorem tw_835 : Cond.methodLink "SurplusLand$Land" 153 ⟨"SurplusLand$Store", "rot", "(I)J"⟩ ∈ tG := tG_of (inT4 (List.mem_of_getElem? (i := 51) rfl)) rfl
theorem tw_836 : Cond.instanceMethod ⟨"SurplusLand$Store", "rot", "(I)J"⟩ ∈ tG := tG_of (inT4 (List.mem_of_getElem? (i := 52) rfl)) rfl
theorem tw_837 : Cond.selects "SurplusLand$Store" ⟨"SurplusLand$Store", "rot", "(I)J"⟩ ⟨"SurplusLand$Store", "rot", "(I)J"⟩ ∈ tG := tG_of (inT4 (List.mem_of_getElem? (i := 53) rfl)) rfl
theorem tw_838 : Cond.code ⟨"SurplusLand$Store", "rot", "(I)J"⟩ prog_10_method_7_code 6 (some .long) ∈ tG := tG_of (inT4 (List.mem_of_getElem? (i := 54) rfl)) rfl
theorem tw_839 : Cond.constantLong "SurplusLand$Store" 50 1000 ∈ tG := tG_of (inT4 (List.mem_of_getElem? (i := 55) rfl)) rfl
theorem tw_840 : Cond.methodLink "SurplusLand$Land" 157 ⟨"SurplusLand$Land", "movePrice", "(J)V"⟩ ∈ tG := tG_of (inT4 (List.mem_of_getElem? (i := 56) rfl)) rfl
theorem tw_842 : Cond.instanceMethod ⟨"SurplusLand$Land", "movePrice", "(J)V"⟩ ∈ tG := tG_of (inT4 (List.mem_of_getElem? (i := 58) rfl)) rfl
theorem tw_843 : Cond.code ⟨"SurplusLand$Land", "movePrice", "(J)V"⟩ prog_5_method_20_code 5 (none) ∈ tG := tG_of (inT4 (List.mem_of_getElem? (i := 59) rfl)) rfl
theorem tw_844 : Cond.constantLong "SurplusLand$Land" 253 1000 ∈ tG := tG_of (inT4 (List.mem_of_getElem? (i := 60) rfl)) rfl
theorem tw_845 : Cond.constantLong "SurplusLand$Land" 255 10000 ∈ tG := tG_of (inT4 (List.mem_of_getElem? (i := 61) rfl)) rfl
theorem tw_846 : Cond.methodLink "SurplusLand$Land" 160 ⟨"SurplusLand$Land", "tendVines", "()V"⟩ ∈ tG := tG_of (inT4 (List.mem_of_getElem? (i := 62) rfl)) rfl
theorem tw_848 : Cond.instanceMethod ⟨"SurplusLand$Land", "tendVines", "()V"⟩ ∈ tG := tG_of (inT4 (List.mem_of_getElem? (i := 64) rfl)) rfl
theorem tw_849 : Cond.code ⟨"SurplusLand$Land", "tendVines", "()V"⟩ prog_5_method_21_code 2 (none) ∈ tG := tG_of (inT4 (List.mem_of_getElem? (i := 65) rfl)) rfl
theorem tw_850 : Cond.methodLink "SurplusLand$Land" 257 ⟨"SurplusLand$Grower", "growOlder", "()V"⟩ ∈ tG := tG_of (inT4 (List.mem_of_getElem? (i := 66) rfl)) rfl
theorem tw_851 : Cond.instanceMethod ⟨"SurplusLand$Grower", "growOlder", "()V"⟩ ∈ tG := tG_of (inT4 (List.mem_of_getElem? (i := 67) rfl)) rfl
theorem tw_852 : Cond.selects "SurplusLand$Grower" ⟨"SurplusLand$Grower", "growOlder", "()V"⟩ ⟨"SurplusLand$Grower", "growOlder", "()V"⟩ ∈ tG := tG_of (inT4 (List.mem_of_getElem? (i := 68) rfl)) rfl
theorem tw_853 : Cond.code ⟨"SurplusLand$Grower", "growOlder", "()V"⟩ prog_3_method_5_code 1 (none) ∈ tG := tG_of (inT4 (List.mem_of_getElem? (i := 69) rfl)) rfl
theorem tw_854 : Cond.methodLink "SurplusLand$Land" 266 ⟨"SurplusLand$Grower", "plant", "(I)V"⟩ ∈ tG := tG_of (inT4 (List.mem_of_getElem? (i := 70) rfl)) rfl
theorem tw_855 : Cond.instanceMethod ⟨"SurplusLand$Grower", "plant", "(I)V"⟩ ∈ tG := tG_of (inT4 (List.mem_of_getElem? (i := 71) rfl)) rfl
theorem tw_856 : Cond.selects "SurplusLand$Grower" ⟨"SurplusLand$Grower", "plant", "(I)V"⟩ ⟨"SurplusLand$Grower", "plant", "(I)V"⟩ ∈ tG := tG_of (inT4 (List.mem_of_getElem? (i := 72) rfl)) rfl
theorem tw_857 : Cond.code ⟨"SurplusLand$Grower", "plant", "(I)V"⟩ prog_3_method_6_code 3 (none) ∈ tG := tG_of (inT4 (List.mem_of_getElem? (i := 73) rfl)) rfl
theorem tw_858 : Cond.methodLink "SurplusLand$Grower" 64 ⟨"java/lang/Math", "min", "(II)I"⟩ ∈ tG := tG_of (inT4 (List.mem_of_getElem? (i := 74) rfl)) rfl
theorem tw_859 : Cond.methodLink "SurplusLand$Grower" 70 ⟨"java/lang/Math", "max", "(II)I"⟩ ∈ tG := tG_of (inT4 (List.mem_of_getElem? (i := 75) rfl)) rfl
theorem tw_860 : Cond.methodLink "SurplusLand$Land" 163 ⟨"SurplusLand$Land", "settleLoans", "()V"⟩ ∈ tG := tG_of (inT4 (List.mem_of_getElem? (i := 76) rfl)) rfl
theorem tw_862 : Cond.instanceMethod ⟨"SurplusLand$Land", "settleLoans", "()V"⟩ ∈ tG := tG_of (inT4 (List.mem_of_getElem? (i := 78) rfl)) rfl
theorem tw_863 : Cond.code ⟨"SurplusLand$Land", "settleLoans", "()V"⟩ prog_5_method_26_code 6 (none) ∈ tG := tG_of (inT4 (List.mem_of_getElem? (i := 79) rfl)) rfl
theorem tw_864 : Cond.methodLink "SurplusLand$Land" 299 ⟨"SurplusLand$Land", "closeIfDue", "(LSurplusLand$Receipt;LSurplusLand$Loan;)V"⟩ ∈ tG := tG_of (inT4 (List.mem_of_getElem? (i := 80) rfl)) rfl
theorem tw_866 : Cond.instanceMethod ⟨"SurplusLand$Land", "closeIfDue", "(LSurplusLand$Receipt;LSurplusLand$Loan;)V"⟩ ∈ tG := tG_of (inT4 (List.mem_of_getElem? (i := 82) rfl)) rfl
theorem tw_867 : Cond.code ⟨"SurplusLand$Land", "closeIfDue", "(LSurplusLand$Receipt;LSurplusLand$Loan;)V"⟩ prog_5_method_27_code 3 (none) ∈ tG := tG_of (inT4 (List.mem_of_getElem? (i := 83) rfl)) rfl
theorem tw_868 : Cond.methodLink "SurplusLand$Land" 303 ⟨"SurplusLand$Receipt", "bears", "(LSurplusLand$Loan;)Z"⟩ ∈ tG := tG_of (inT4 (List.mem_of_getElem? (i := 84) rfl)) rfl
theorem tw_869 : Cond.instanceMethod ⟨"SurplusLand$Receipt", "bears", "(LSurplusLand$Loan;)Z"⟩ ∈ tG := tG_of (inT4 (List.mem_of_getElem? (i := 85) rfl)) rfl
theorem tw_870 : Cond.selects "SurplusLand$Receipt" ⟨"SurplusLand$Receipt", "bears", "(LSurplusLand$Loan;)Z"⟩ ⟨"SurplusLand$Receipt", "bears", "(LSurplusLand$Loan;)Z"⟩ ∈ tG := tG_of (inT4 (List.mem_of_getElem? (i := 86) rfl)) rfl
theorem tw_871 : Cond.code ⟨"SurplusLand$Receipt", "bears", "(LSurplusLand$Loan;)Z"⟩ prog_8_method_4_code 2 (some .boolean) ∈ tG := tG_of (inT4 (List.mem_of_getElem? (i := 87) rfl)) rfl
theorem tw_872 : Cond.methodLink "SurplusLand$Land" 310 ⟨"SurplusLand$Land", "moneyOf", "(I)J"⟩ ∈ tG := tG_of (inT4 (List.mem_of_getElem? (i := 88) rfl)) rfl
theorem tw_873 : Cond.instanceMethod ⟨"SurplusLand$Land", "moneyOf", "(I)J"⟩ ∈ tG := tG_of (inT4 (List.mem_of_getElem? (i := 89) rfl)) rfl
theorem tw_874 : Cond.selects "SurplusLand$Land" ⟨"SurplusLand$Land", "moneyOf", "(I)J"⟩ ⟨"SurplusLand$Land", "moneyOf", "(I)J"⟩ ∈ tG := tG_of (inT4 (List.mem_of_getElem? (i := 90) rfl)) rfl
theorem tw_875 : Cond.code ⟨"SurplusLand$Land", "moneyOf", "(I)J"⟩ prog_5_method_5_code 2 (some .long) ∈ tG := tG_of (inT4 (List.mem_of_getElem? (i := 91) rfl)) rfl
theorem tw_876 : Cond.methodLink "SurplusLand$Land" 313 ⟨"SurplusLand$Land", "payBack", "(LSurplusLand$Receipt;LSurplusLand$Loan;)V"⟩ ∈ tG := tG_of (inT4 (List.mem_of_getElem? (i := 92) rfl)) rfl
theorem tw_877 : Cond.instanceMethod ⟨"SurplusLand$Land", "payBack", "(LSurplusLand$Receipt;LSurplusLand$Loan;)V"⟩ ∈ tG := tG_of (inT4 (List.mem_of_getElem? (i := 93) rfl)) rfl
theorem tw_878 : Cond.selects "SurplusLand$Land" ⟨"SurplusLand$Land", "payBack", "(LSurplusLand$Receipt;LSurplusLand$Loan;)V"⟩ ⟨"SurplusLand$Land", "payBack", "(LSurplusLand$Receipt;LSurplusLand$Loan;)V"⟩ ∈ tG := tG_of (inT4 (List.mem_of_getElem? (i := 94) rfl)) rfl
theorem tw_879 : Cond.code ⟨"SurplusLand$Land", "payBack", "(LSurplusLand$Receipt;LSurplusLand$Loan;)V"⟩ prog_5_method_25_code 3 (none) ∈ tG := tG_of (inT4 (List.mem_of_getElem? (i := 95) rfl)) rfl
theorem tw_880 : Cond.methodLink "SurplusLand$Land" 293 ⟨"SurplusLand$Receipt", "drop", "(LSurplusLand$Loan;)V"⟩ ∈ tG := tG_of (inT4 (List.mem_of_getElem? (i := 96) rfl)) rfl
theorem tw_881 : Cond.instanceMethod ⟨"SurplusLand$Receipt", "drop", "(LSurplusLand$Loan;)V"⟩ ∈ tG := tG_of (inT4 (List.mem_of_getElem? (i := 97) rfl)) rfl
theorem tw_882 : Cond.selects "SurplusLand$Receipt" ⟨"SurplusLand$Receipt", "drop", "(LSurplusLand$Loan;)V"⟩ ⟨"SurplusLand$Receipt", "drop", "(LSurplusLand$Loan;)V"⟩ ∈ tG := tG_of (inT4 (List.mem_of_getElem? (i := 98) rfl)) rfl
theorem tw_883 : Cond.code ⟨"SurplusLand$Receipt", "drop", "(LSurplusLand$Loan;)V"⟩ prog_8_method_6_code 2 (none) ∈ tG := tG_of (inT4 (List.mem_of_getElem? (i := 99) rfl)) rfl
theorem tw_884 : Cond.methodLink "SurplusLand$Land" 316 ⟨"SurplusLand$Land", "seize", "(LSurplusLand$Receipt;LSurplusLand$Loan;)V"⟩ ∈ tG := tG_of (inT4 (List.mem_of_getElem? (i := 100) rfl)) rfl
theorem tw_886 : Cond.instanceMethod ⟨"SurplusLand$Land", "seize", "(LSurplusLand$Receipt;LSurplusLand$Loan;)V"⟩ ∈ tG := tG_of (inT4 (List.mem_of_getElem? (i := 102) rfl)) rfl
theorem tw_887 : Cond.code ⟨"SurplusLand$Land", "seize", "(LSurplusLand$Receipt;LSurplusLand$Loan;)V"⟩ prog_5_method_28_code 6 (none) ∈ tG := tG_of (inT4 (List.mem_of_getElem? (i := 103) rfl)) rfl
theorem tw_888 : Cond.methodLink "SurplusLand$Land" 322 ⟨"java/lang/Math", "max", "(II)I"⟩ ∈ tG := tG_of (inT4 (List.mem_of_getElem? (i := 104) rfl)) rfl
theorem tw_889 : Cond.methodLink "SurplusLand$Land" 325 ⟨"SurplusLand$Store", "isFull", "()Z"⟩ ∈ tG := tG_of (inT4 (List.mem_of_getElem? (i := 105) rfl)) rfl
theorem tw_893 : Cond.code ⟨"SurplusLand", "right", "(III)I"⟩ prog_1_method_12_code 4 (some .int) ∈ tG := tG_of (inT4 (List.mem_of_getElem? (i := 109) rfl)) rfl
theorem tw_894 : Cond.constant "SurplusLand" 173 (-1000000) ∈ tG := tG_of (inT4 (List.mem_of_getElem? (i := 110) rfl)) rfl
theorem tw_895 : Cond.methodLink "SurplusLand" 174 ⟨"SurplusLand$Land", "putRight", "(III)I"⟩ ∈ tG := tG_of (inT4 (List.mem_of_getElem? (i := 111) rfl)) rfl
theorem tw_896 : Cond.instanceMethod ⟨"SurplusLand$Land", "putRight", "(III)I"⟩ ∈ tG := tG_of (inT4 (List.mem_of_getElem? (i := 112) rfl)) rfl
theorem tw_897 : Cond.selects "SurplusLand$Land" ⟨"SurplusLand$Land", "putRight", "(III)I"⟩ ⟨"SurplusLand$Land", "putRight", "(III)I"⟩ ∈ tG := tG_of (inT4 (List.mem_of_getElem? (i := 113) rfl)) rfl
theorem tw_898 : Cond.code ⟨"SurplusLand$Land", "putRight", "(III)I"⟩ prog_5_method_22_code 6 (some .int) ∈ tG := tG_of (inT4 (List.mem_of_getElem? (i := 114) rfl)) rfl
theorem tw_902 : Cond.code ⟨"SurplusLand", "split", "(II)I"⟩ prog_1_method_13_code 4 (some .int) ∈ tG := tG_of (inT4 (List.mem_of_getElem? (i := 118) rfl)) rfl
theorem tw_903 : Cond.methodLink "SurplusLand" 178 ⟨"SurplusLand$Store", "find", "(I)LSurplusLand$Receipt;"⟩ ∈ tG := tG_of (inT4 (List.mem_of_getElem? (i := 119) rfl)) rfl
theorem tw_904 : Cond.instanceMethod ⟨"SurplusLand$Store", "find", "(I)LSurplusLand$Receipt;"⟩ ∈ tG := tG_of (inT4 (List.mem_of_getElem? (i := 120) rfl)) rfl
theorem tw_905 : Cond.selects "SurplusLand$Store" ⟨"SurplusLand$Store", "find", "(I)LSurplusLand$Receipt;"⟩ ⟨"SurplusLand$Store", "find", "(I)LSurplusLand$Receipt;"⟩ ∈ tG := tG_of (inT4 (List.mem_of_getElem? (i := 121) rfl)) rfl
theorem tw_906 : Cond.code ⟨"SurplusLand$Store", "find", "(I)LSurplusLand$Receipt;"⟩ prog_10_method_2_code 2 (some (.object "SurplusLand$Receipt")) ∈ tG := tG_of (inT4 (List.mem_of_getElem? (i := 122) rfl)) rfl
theorem tw_908 : Cond.methodLink "SurplusLand" 187 ⟨"SurplusLand$Store", "isFull", "()Z"⟩ ∈ tG := tG_of (inT4 (List.mem_of_getElem? (i := 124) rfl)) rfl
theorem tw_909 : Cond.methodLink "SurplusLand" 191 ⟨"SurplusLand$Receipt", "isPledged", "()Z"⟩ ∈ tG := tG_of (inT4 (List.mem_of_getElem? (i := 125) rfl)) rfl
theorem tw_910 : Cond.instanceMethod ⟨"SurplusLand$Receipt", "isPledged", "()Z"⟩ ∈ tG := tG_of (inT4 (List.mem_of_getElem? (i := 126) rfl)) rfl
theorem tw_911 : Cond.selects "SurplusLand$Receipt" ⟨"SurplusLand$Receipt", "isPledged", "()Z"⟩ ⟨"SurplusLand$Receipt", "isPledged", "()Z"⟩ ∈ tG := tG_of (inT4 (List.mem_of_getElem? (i := 127) rfl)) rfl
theorem tw_912 : Cond.code ⟨"SurplusLand$Receipt", "isPledged", "()Z"⟩ prog_8_method_2_code 1 (some .boolean) ∈ tG := tG_of (inT4 (List.mem_of_getElem? (i := 128) rfl)) rfl
theorem tw_913 : Cond.methodLink "SurplusLand" 198 ⟨"SurplusLand$Store", "issue", "(III)I"⟩ ∈ tG := tG_of (inT4 (List.mem_of_getElem? (i := 129) rfl)) rfl
theorem tw_917 : Cond.code ⟨"SurplusLand", "give", "(II)I"⟩ prog_1_method_14_code 4 (some .int) ∈ tG := tG_of (inT4 (List.mem_of_getElem? (i := 133) rfl)) rfl
theorem tw_921 : Cond.code ⟨"SurplusLand", "pledge", "(III)J"⟩ prog_1_method_15_code 8 (some .long) ∈ tG := tG_of (inT4 (List.mem_of_getElem? (i := 137) rfl)) rfl
theorem tw_922 : Cond.constantLong "SurplusLand" 201 (-2) ∈ tG := tG_of (inT4 (List.mem_of_getElem? (i := 138) rfl)) rfl
theorem tw_923 : Cond.constantLong "SurplusLand" 215 (-7) ∈ tG := tG_of (inT4 (List.mem_of_getElem? (i := 139) rfl)) rfl
theorem tw_924 : Cond.methodLink "SurplusLand" 217 ⟨"SurplusLand$Land", "offer", "(LSurplusLand$Receipt;I)J"⟩ ∈ tG := tG_of (inT4 (List.mem_of_getElem? (i := 140) rfl)) rfl
theorem tw_925 : Cond.instanceMethod ⟨"SurplusLand$Land", "offer", "(LSurplusLand$Receipt;I)J"⟩ ∈ tG := tG_of (inT4 (List.mem_of_getElem? (i := 141) rfl)) rfl
theorem tw_926 : Cond.selects "SurplusLand$Land" ⟨"SurplusLand$Land", "offer", "(LSurplusLand$Receipt;I)J"⟩ ⟨"SurplusLand$Land", "offer", "(LSurplusLand$Receipt;I)J"⟩ ∈ tG := tG_of (inT4 (List.mem_of_getElem? (i := 142) rfl)) rfl
theorem tw_927 : Cond.code ⟨"SurplusLand$Land", "offer", "(LSurplusLand$Receipt;I)J"⟩ prog_5_method_23_code 5 (some .long) ∈ tG := tG_of (inT4 (List.mem_of_getElem? (i := 143) rfl)) rfl
theorem tw_928 : Cond.constantLong "SurplusLand$Land" 273 2 ∈ tG := tG_of (inT4 (List.mem_of_getElem? (i := 144) rfl)) rfl
theorem tw_929 : Cond.constantLong "SurplusLand" 221 (-8) ∈ tG := tG_of (inT4 (List.mem_of_getElem? (i := 145) rfl)) rfl
theorem tw_930 : Cond.methodLink "SurplusLand" 223 ⟨"SurplusLand$Land", "lend", "(LSurplusLand$Receipt;IJI)V"⟩ ∈ tG := tG_of (inT4 (List.mem_of_getElem? (i := 146) rfl)) rfl
theorem tw_931 : Cond.instanceMethod ⟨"SurplusLand$Land", "lend", "(LSurplusLand$Receipt;IJI)V"⟩ ∈ tG := tG_of (inT4 (List.mem_of_getElem? (i := 147) rfl)) rfl
theorem tw_932 : Cond.selects "SurplusLand$Land" ⟨"SurplusLand$Land", "lend", "(LSurplusLand$Receipt;IJI)V"⟩ ⟨"SurplusLand$Land", "lend", "(LSurplusLand$Receipt;IJI)V"⟩ ∈ tG := tG_of (inT4 (List.mem_of_getElem? (i := 148) rfl)) rfl
theorem tw_933 : Cond.code ⟨"SurplusLand$Land", "lend", "(LSurplusLand$Receipt;IJI)V"⟩ prog_5_method_24_code 6 (none) ∈ tG := tG_of (inT4 (List.mem_of_getElem? (i := 149) rfl)) rfl
theorem tw_934 : Cond.classLink "SurplusLand$Land" 275 "SurplusLand$Loan" ∈ tG := tG_of (inT4 (List.mem_of_getElem? (i := 150) rfl)) rfl
theorem tw_935 : Cond.instantiable "SurplusLand$Loan" 3 ∈ tG := tG_of (inT4 (List.mem_of_getElem? (i := 151) rfl)) rfl
theorem tw_936 : Cond.methodLink "SurplusLand$Land" 280 ⟨"SurplusLand$Loan", "<init>", "(IIJ)V"⟩ ∈ tG := tG_of (inT4 (List.mem_of_getElem? (i := 152) rfl)) rfl
theorem tw_937 : Cond.instanceMethod ⟨"SurplusLand$Loan", "<init>", "(IIJ)V"⟩ ∈ tG := tG_of (inT4 (List.mem_of_getElem? (i := 153) rfl)) rfl
theorem tw_938 : Cond.code ⟨"SurplusLand$Loan", "<init>", "(IIJ)V"⟩ prog_7_method_1_code 5 (none) ∈ tG := tG_of (inT4 (List.mem_of_getElem? (i := 154) rfl)) rfl
theorem tw_939 : Cond.methodLink "SurplusLand$Loan" 1 Lib.objectInit ∈ tG := tG_of (inT4 (List.mem_of_getElem? (i := 155) rfl)) rfl
theorem tw_940 : Cond.fieldLink "SurplusLand$Loan" 7 "SurplusLand$Loan" "bank" "I" ∈ tG := tG_of (inT4 (List.mem_of_getElem? (i := 156) rfl)) rfl
theorem tw_941 : Cond.fieldLink "SurplusLand" 210 "SurplusLand$Loan" "bank" "I" ∈ tG := tG_of (inT4 (List.mem_of_getElem? (i := 157) rfl)) rfl
theorem tw_942 : Cond.fieldLink "SurplusLand$Land" 290 "SurplusLand$Loan" "bank" "I" ∈ tG := tG_of (inT4 (List.mem_of_getElem? (i := 158) rfl)) rfl
theorem tw_943 : Cond.fieldLink "SurplusLand$Loan" 13 "SurplusLand$Loan" "due" "I" ∈ tG := tG_of (inT4 (List.mem_of_getElem? (i := 159) rfl)) rfl
theorem tw_944 : Cond.fieldLink "SurplusLand" 255 "SurplusLand$Loan" "due" "I" ∈ tG := tG_of (inT4 (List.mem_of_getElem? (i := 160) rfl)) rfl
theorem tw_945 : Cond.fieldLink "SurplusLand$Land" 307 "SurplusLand$Loan" "due" "I" ∈ tG := tG_of (inT4 (List.mem_of_getElem? (i := 161) rfl)) rfl
theorem tw_946 : Cond.fieldLink "SurplusLand$Loan" 16 "SurplusLand$Loan" "owed" "J" ∈ tG := tG_of (inT4 (List.mem_of_getElem? (i := 162) rfl)) rfl
theorem tw_947 : Cond.fieldLink "SurplusLand" 235 "SurplusLand$Loan" "owed" "J" ∈ tG := tG_of (inT4 (List.mem_of_getElem? (i := 163) rfl)) rfl
theorem tw_948 : Cond.fieldLink "SurplusLand$Land" 287 "SurplusLand$Loan" "owed" "J" ∈ tG := tG_of (inT4 (List.mem_of_getElem? (i := 164) rfl)) rfl
theorem tw_956 : Cond.methodLink "SurplusLand$Land" 283 ⟨"SurplusLand$Receipt", "bear", "(LSurplusLand$Loan;)V"⟩ ∈ tG := tG_of (inT4 (List.mem_of_getElem? (i := 172) rfl)) rfl
theorem tw_957 : Cond.instanceMethod ⟨"SurplusLand$Receipt", "bear", "(LSurplusLand$Loan;)V"⟩ ∈ tG := tG_of (inT4 (List.mem_of_getElem? (i := 173) rfl)) rfl
theorem tw_958 : Cond.selects "SurplusLand$Receipt" ⟨"SurplusLand$Receipt", "bear", "(LSurplusLand$Loan;)V"⟩ ⟨"SurplusLand$Receipt", "bear", "(LSurplusLand$Loan;)V"⟩ ∈ tG := tG_of (inT4 (List.mem_of_getElem? (i := 174) rfl)) rfl
theorem tw_959 : Cond.code ⟨"SurplusLand$Receipt", "bear", "(LSurplusLand$Loan;)V"⟩ prog_8_method_5_code 2 (none) ∈ tG := tG_of (inT4 (List.mem_of_getElem? (i := 175) rfl)) rfl
theorem tw_963 : Cond.code ⟨"SurplusLand", "pay", "(II)J"⟩ prog_1_method_16_code 5 (some .long) ∈ tG := tG_of (inT4 (List.mem_of_getElem? (i := 179) rfl)) rfl
theorem tw_964 : Cond.methodLink "SurplusLand" 227 ⟨"SurplusLand$Receipt", "loanOf", "(I)LSurplusLand$Loan;"⟩ ∈ tG := tG_of (inT4 (List.mem_of_getElem? (i := 180) rfl)) rfl
theorem tw_965 : Cond.instanceMethod ⟨"SurplusLand$Receipt", "loanOf", "(I)LSurplusLand$Loan;"⟩ ∈ tG := tG_of (inT4 (List.mem_of_getElem? (i := 181) rfl)) rfl
theorem tw_966 : Cond.selects "SurplusLand$Receipt" ⟨"SurplusLand$Receipt", "loanOf", "(I)LSurplusLand$Loan;"⟩ ⟨"SurplusLand$Receipt", "loanOf", "(I)LSurplusLand$Loan;"⟩ ∈ tG := tG_of (inT4 (List.mem_of_getElem? (i := 182) rfl)) rfl
theorem tw_967 : Cond.code ⟨"SurplusLand$Receipt", "loanOf", "(I)LSurplusLand$Loan;"⟩ prog_8_method_3_code 2 (some (.object "SurplusLand$Loan")) ∈ tG := tG_of (inT4 (List.mem_of_getElem? (i := 183) rfl)) rfl
theorem tw_968 : Cond.methodLink "SurplusLand" 231 ⟨"SurplusLand$Land", "moneyOf", "(I)J"⟩ ∈ tG := tG_of (inT4 (List.mem_of_getElem? (i := 184) rfl)) rfl
theorem tw_969 : Cond.methodLink "SurplusLand" 239 ⟨"SurplusLand$Land", "payBack", "(LSurplusLand$Receipt;LSurplusLand$Loan;)V"⟩ ∈ tG := tG_of (inT4 (List.mem_of_getElem? (i := 185) rfl)) rfl
theorem tw_973 : Cond.code ⟨"SurplusLand", "redeem", "(I)I"⟩ prog_1_method_17_code 4 (some .int) ∈ tG := tG_of (inT4 (List.mem_of_getElem? (i := 189) rfl)) rfl
theorem tw_977 : Cond.code ⟨"SurplusLand", "receipt", "(II)I"⟩ prog_1_method_18_code 4 (some .int) ∈ tG := tG_of (inT4 (List.mem_of_getElem? (i := 193) rfl)) rfl
theorem tw_981 : Cond.code ⟨"SurplusLand", "owed", "(II)J"⟩ prog_1_method_19_code 5 (some .long) ∈ tG := tG_of (inT4 (List.mem_of_getElem? (i := 197) rfl)) rfl
theorem tw_985 : Cond.code ⟨"SurplusLand", "growerOf", "(II)I"⟩ prog_1_method_20_code 5 (some .int) ∈ tG := tG_of (inT4 (List.mem_of_getElem? (i := 201) rfl)) rfl
theorem tw_986 : Cond.methodLink "SurplusLand" 276 ⟨"SurplusLand$Grower", "cropOf", "(I)I"⟩ ∈ tG := tG_of (inT4 (List.mem_of_getElem? (i := 202) rfl)) rfl
theorem tw_987 : Cond.instanceMethod ⟨"SurplusLand$Grower", "cropOf", "(I)I"⟩ ∈ tG := tG_of (inT4 (List.mem_of_getElem? (i := 203) rfl)) rfl
theorem tw_988 : Cond.selects "SurplusLand$Grower" ⟨"SurplusLand$Grower", "cropOf", "(I)I"⟩ ⟨"SurplusLand$Grower", "cropOf", "(I)I"⟩ ∈ tG := tG_of (inT4 (List.mem_of_getElem? (i := 204) rfl)) rfl
theorem tw_989 : Cond.code ⟨"SurplusLand$Grower", "cropOf", "(I)I"⟩ prog_3_method_3_code 2 (some .int) ∈ tG := tG_of (inT4 (List.mem_of_getElem? (i := 205) rfl)) rfl
theorem tw_994 : Cond.code ⟨"SurplusLand", "money", "(I)J"⟩ prog_1_method_21_code 2 (some .long) ∈ tG := tG_of (inT4 (List.mem_of_getElem? (i := 210) rfl)) rfl
theorem tw_998 : Cond.code ⟨"SurplusLand", "count", "(I)I"⟩ prog_1_method_22_code 2 (some .int) ∈ tG := tG_of (inT4 (List.mem_of_getElem? (i := 214) rfl)) rfl
theorem tw_999 : Cond.methodLink "SurplusLand" 286 ⟨"SurplusLand$Store", "sacksInAll", "()J"⟩ ∈ tG := tG_of (inT4 (List.mem_of_getElem? (i := 215) rfl)) rfl
theorem tw_1000 : Cond.methodLink "SurplusLand" 290 ⟨"SurplusLand$Land", "freeInAll", "()J"⟩ ∈ tG := tG_of (inT4 (List.mem_of_getElem? (i := 216) rfl)) rfl
theorem tw_1001 : Cond.methodLink "SurplusLand" 300 ⟨"SurplusLand$Rows", "filledSlots", "()I"⟩ ∈ tG := tG_of (inT4 (List.mem_of_getElem? (i := 217) rfl)) rfl
theorem tw_1002 : Cond.instanceMethod ⟨"SurplusLand$Rows", "filledSlots", "()I"⟩ ∈ tG := tG_of (inT4 (List.mem_of_getElem? (i := 218) rfl)) rfl
theorem tw_1003 : Cond.selects "SurplusLand$Rows" ⟨"SurplusLand$Rows", "filledSlots", "()I"⟩ ⟨"SurplusLand$Rows", "filledSlots", "()I"⟩ ∈ tG := tG_of (inT4 (List.mem_of_getElem? (i := 219) rfl)) rfl
theorem tw_1004 : Cond.code ⟨"SurplusLand$Rows", "filledSlots", "()I"⟩ prog_9_method_4_code 3 (some .int) ∈ tG := tG_of (inT4 (List.mem_of_getElem? (i := 220) rfl)) rfl
theorem tw_1008 : Cond.code ⟨"SurplusLand", "sum", "(I)J"⟩ prog_1_method_23_code 2 (some .long) ∈ tG := tG_of (inT4 (List.mem_of_getElem? (i := 224) rfl)) rfl
theorem tw_1012 : Cond.code ⟨"SurplusLand", "gains", "(II)J"⟩ prog_1_method_24_code 7 (some .long) ∈ tG := tG_of (inT4 (List.mem_of_getElem? (i := 228) rfl)) rfl
theorem tw_1016 : Cond.code ⟨"SurplusLand", "beside", "(I)J"⟩ prog_1_method_25_code 2 (some .long) ∈ tG := tG_of (inT4 (List.mem_of_getElem? (i := 232) rfl)) rfl
theorem tw_1017 : Cond.constantLong "SurplusLand" 307 (-4) ∈ tG := tG_of (inT4 (List.mem_of_getElem? (i := 233) rfl)) rfl
theorem tw_1018 : Cond.methodLink "SurplusLand" 309 ⟨"SurplusLand$Land", "liveAgain", "(LSurplusLand$Land;LSurplusLand$Law;)V"⟩ ∈ tG := tG_of (inT4 (List.mem_of_getElem? (i := 234) rfl)) rfl
theorem tw_1019 : Cond.instanceMethod ⟨"SurplusLand$Land", "liveAgain", "(LSurplusLand$Land;LSurplusLand$Law;)V"⟩ ∈ tG := tG_of (inT4 (List.mem_of_getElem? (i := 235) rfl)) rfl
theorem tw_1020 : Cond.selects "SurplusLand$Land" ⟨"SurplusLand$Land", "liveAgain", "(LSurplusLand$Land;LSurplusLand$Law;)V"⟩ ⟨"SurplusLand$Land", "liveAgain", "(LSurplusLand$Land;LSurplusLand$Law;)V"⟩ ∈ tG := tG_of (inT4 (List.mem_of_getElem? (i := 236) rfl)) rfl
theorem tw_1021 : Cond.code ⟨"SurplusLand$Land", "liveAgain", "(LSurplusLand$Land;LSurplusLand$Law;)V"⟩ prog_5_method_10_code 4 (none) ∈ tG := tG_of (inT4 (List.mem_of_getElem? (i := 237) rfl)) rfl
theorem tw_1022 : Cond.methodLink "SurplusLand$Land" 99 ⟨"SurplusLand$Land", "settle", "(II)I"⟩ ∈ tG := tG_of (inT4 (List.mem_of_getElem? (i := 238) rfl)) rfl
theorem tw_1023 : Cond.methodLink "SurplusLand$Land" 103 arraycopyName ∈ tG := tG_of (inT4 (List.mem_of_getElem? (i := 239) rfl)) rfl
theorem tw_1024 : Cond.methodLink "SurplusLand$Land" 109 ⟨"SurplusLand$Land", "passYear", "(ILSurplusLand$Law;)V"⟩ ∈ tG := tG_of (inT5 (List.mem_of_getElem? (i := 0) rfl)) rfl
theorem tw_1025 : Cond.methodLink "SurplusLand" 313 ⟨"SurplusLand$Land", "moneyInAll", "()J"⟩ ∈ tG := tG_of (inT5 (List.mem_of_getElem? (i := 1) rfl)) rfl
theorem tw_1026 : Cond.instanceMethod ⟨"SurplusLand$Land", "moneyInAll", "()J"⟩ ∈ tG := tG_of (inT5 (List.mem_of_getElem? (i := 2) rfl)) rfl
theorem tw_1027 : Cond.selects "SurplusLand$Land" ⟨"SurplusLand$Land", "moneyInAll", "()J"⟩ ⟨"SurplusLand$Land", "moneyInAll", "()J"⟩ ∈ tG := tG_of (inT5 (List.mem_of_getElem? (i := 3) rfl)) rfl
theorem tw_1028 : Cond.code ⟨"SurplusLand$Land", "moneyInAll", "()J"⟩ prog_5_method_8_code 4 (some .long) ∈ tG := tG_of (inT5 (List.mem_of_getElem? (i := 4) rfl)) rfl
theorem tw_1029 : Cond.methodLink "SurplusLand" 316 ⟨"SurplusLand$Land", "bearingInAll", "()J"⟩ ∈ tG := tG_of (inT5 (List.mem_of_getElem? (i := 5) rfl)) rfl
theorem tw_1030 : Cond.instanceMethod ⟨"SurplusLand$Land", "bearingInAll", "()J"⟩ ∈ tG := tG_of (inT5 (List.mem_of_getElem? (i := 6) rfl)) rfl
theorem tw_1031 : Cond.selects "SurplusLand$Land" ⟨"SurplusLand$Land", "bearingInAll", "()J"⟩ ⟨"SurplusLand$Land", "bearingInAll", "()J"⟩ ∈ tG := tG_of (inT5 (List.mem_of_getElem? (i := 7) rfl)) rfl
theorem tw_1032 : Cond.code ⟨"SurplusLand$Land", "bearingInAll", "()J"⟩ prog_5_method_9_code 4 (some .long) ∈ tG := tG_of (inT5 (List.mem_of_getElem? (i := 8) rfl)) rfl
theorem tw_1036 : Cond.code ⟨"SurplusLand", "light", "(IIII)I"⟩ prog_1_method_26_code 11 (some .int) ∈ tG := tG_of (inT5 (List.mem_of_getElem? (i := 12) rfl)) rfl
theorem tw_1037 : Cond.methodLink "SurplusLand" 319 ⟨"SurplusLand", "waysToDraw", "(IIIII)J"⟩ ∈ tG := tG_of (inT5 (List.mem_of_getElem? (i := 13) rfl)) rfl
theorem tw_1039 : Cond.instanceMethod ⟨"SurplusLand", "waysToDraw", "(IIIII)J"⟩ ∈ tG := tG_of (inT5 (List.mem_of_getElem? (i := 15) rfl)) rfl
theorem tw_1040 : Cond.code ⟨"SurplusLand", "waysToDraw", "(IIIII)J"⟩ prog_1_method_35_code 9 (some .long) ∈ tG := tG_of (inT5 (List.mem_of_getElem? (i := 16) rfl)) rfl
theorem tw_1041 : Cond.methodLink "SurplusLand" 325 ⟨"SurplusLand", "setsOf", "(II)J"⟩ ∈ tG := tG_of (inT5 (List.mem_of_getElem? (i := 17) rfl)) rfl
theorem tw_1043 : Cond.instanceMethod ⟨"SurplusLand", "setsOf", "(II)J"⟩ ∈ tG := tG_of (inT5 (List.mem_of_getElem? (i := 19) rfl)) rfl
theorem tw_1044 : Cond.code ⟨"SurplusLand", "setsOf", "(II)J"⟩ prog_1_method_34_code 3 (some .long) ∈ tG := tG_of (inT5 (List.mem_of_getElem? (i := 20) rfl)) rfl
theorem tw_1045 : Cond.constantLong "SurplusLand" 323 20 ∈ tG := tG_of (inT5 (List.mem_of_getElem? (i := 21) rfl)) rfl
theorem tw_1049 : Cond.code ⟨"SurplusLand", "row", "(III)I"⟩ prog_1_method_27_code 4 (some .int) ∈ tG := tG_of (inT5 (List.mem_of_getElem? (i := 25) rfl)) rfl
theorem tw_1050 : Cond.methodLink "SurplusLand" 328 ⟨"SurplusLand$Rows", "lay", "(III)V"⟩ ∈ tG := tG_of (inT5 (List.mem_of_getElem? (i := 26) rfl)) rfl
theorem tw_1051 : Cond.instanceMethod ⟨"SurplusLand$Rows", "lay", "(III)V"⟩ ∈ tG := tG_of (inT5 (List.mem_of_getElem? (i := 27) rfl)) rfl
theorem tw_1052 : Cond.selects "SurplusLand$Rows" ⟨"SurplusLand$Rows", "lay", "(III)V"⟩ ⟨"SurplusLand$Rows", "lay", "(III)V"⟩ ∈ tG := tG_of (inT5 (List.mem_of_getElem? (i := 28) rfl)) rfl
theorem tw_1053 : Cond.code ⟨"SurplusLand$Rows", "lay", "(III)V"⟩ prog_9_method_5_code 5 (none) ∈ tG := tG_of (inT5 (List.mem_of_getElem? (i := 29) rfl)) rfl
theorem tw_1057 : Cond.code ⟨"SurplusLand", "tear", "(I)Z"⟩ prog_1_method_28_code 2 (some .boolean) ∈ tG := tG_of (inT5 (List.mem_of_getElem? (i := 33) rfl)) rfl
theorem tw_1061 : Cond.code ⟨"SurplusLand", "write", "(IIJ)I"⟩ prog_1_method_29_code 5 (some .int) ∈ tG := tG_of (inT5 (List.mem_of_getElem? (i := 37) rfl)) rfl
theorem tw_1062 : Cond.methodLink "SurplusLand" 332 ⟨"SurplusLand$Rows", "set", "(IIJ)V"⟩ ∈ tG := tG_of (inT5 (List.mem_of_getElem? (i := 38) rfl)) rfl
theorem tw_1063 : Cond.instanceMethod ⟨"SurplusLand$Rows", "set", "(IIJ)V"⟩ ∈ tG := tG_of (inT5 (List.mem_of_getElem? (i := 39) rfl)) rfl
theorem tw_1064 : Cond.selects "SurplusLand$Rows" ⟨"SurplusLand$Rows", "set", "(IIJ)V"⟩ ⟨"SurplusLand$Rows", "set", "(IIJ)V"⟩ ∈ tG := tG_of (inT5 (List.mem_of_getElem? (i := 40) rfl)) rfl
theorem tw_1065 : Cond.code ⟨"SurplusLand$Rows", "set", "(IIJ)V"⟩ prog_9_method_7_code 6 (none) ∈ tG := tG_of (inT5 (List.mem_of_getElem? (i := 41) rfl)) rfl
theorem tw_1069 : Cond.code ⟨"SurplusLand", "paste", "(IIIII)I"⟩ prog_1_method_30_code 6 (some .int) ∈ tG := tG_of (inT5 (List.mem_of_getElem? (i := 45) rfl)) rfl
theorem tw_1070 : Cond.methodLink "SurplusLand" 339 ⟨"SurplusLand$Rows", "holds", "(III)Z"⟩ ∈ tG := tG_of (inT5 (List.mem_of_getElem? (i := 46) rfl)) rfl
theorem tw_1071 : Cond.instanceMethod ⟨"SurplusLand$Rows", "holds", "(III)Z"⟩ ∈ tG := tG_of (inT5 (List.mem_of_getElem? (i := 47) rfl)) rfl
theorem tw_1072 : Cond.selects "SurplusLand$Rows" ⟨"SurplusLand$Rows", "holds", "(III)Z"⟩ ⟨"SurplusLand$Rows", "holds", "(III)Z"⟩ ∈ tG := tG_of (inT5 (List.mem_of_getElem? (i := 48) rfl)) rfl
theorem tw_1073 : Cond.code ⟨"SurplusLand$Rows", "holds", "(III)Z"⟩ prog_9_method_3_code 4 (some .boolean) ∈ tG := tG_of (inT5 (List.mem_of_getElem? (i := 49) rfl)) rfl
theorem tw_1074 : Cond.methodLink "SurplusLand" 342 ⟨"SurplusLand$Rows", "carry", "(IIIII)V"⟩ ∈ tG := tG_of (inT5 (List.mem_of_getElem? (i := 50) rfl)) rfl
theorem tw_1075 : Cond.instanceMethod ⟨"SurplusLand$Rows", "carry", "(IIIII)V"⟩ ∈ tG := tG_of (inT5 (List.mem_of_getElem? (i := 51) rfl)) rfl
theorem tw_1076 : Cond.selects "SurplusLand$Rows" ⟨"SurplusLand$Rows", "carry", "(IIIII)V"⟩ ⟨"SurplusLand$Rows", "carry", "(IIIII)V"⟩ ∈ tG := tG_of (inT5 (List.mem_of_getElem? (i := 52) rfl)) rfl
theorem tw_1077 : Cond.code ⟨"SurplusLand$Rows", "carry", "(IIIII)V"⟩ prog_9_method_8_code 6 (none) ∈ tG := tG_of (inT5 (List.mem_of_getElem? (i := 53) rfl)) rfl
theorem tw_1078 : Cond.methodLink "SurplusLand$Rows" 32 arraycopyName ∈ tG := tG_of (inT5 (List.mem_of_getElem? (i := 54) rfl)) rfl
theorem tw_1083 : Cond.code ⟨"SurplusLandModel", "<init>", "()V"⟩ prog_14_method_1_code 2 (none) ∈ tG := tG_of (inT5 (List.mem_of_getElem? (i := 59) rfl)) rfl
theorem tw_1084 : Cond.methodLink "SurplusLandModel" 3 Lib.objectInit ∈ tG := tG_of (inT5 (List.mem_of_getElem? (i := 60) rfl)) rfl
theorem tw_1085 : Cond.fieldLink "SurplusLandModel" 149 "SurplusLandModel" "thrown" "I" ∈ tG := tG_of (inT5 (List.mem_of_getElem? (i := 61) rfl)) rfl
theorem tw_1086 : Cond.fieldLink "SurplusLandModel" 9 "SurplusLandModel" "width" "[I" ∈ tG := tG_of (inT5 (List.mem_of_getElem? (i := 62) rfl)) rfl
theorem tw_1087 : Cond.fieldLink "SurplusLandModel" 13 "SurplusLandModel" "size" "[I" ∈ tG := tG_of (inT5 (List.mem_of_getElem? (i := 63) rfl)) rfl
theorem tw_1088 : Cond.fieldLink "SurplusLandModel" 16 "SurplusLandModel" "cells" "[J" ∈ tG := tG_of (inT5 (List.mem_of_getElem? (i := 64) rfl)) rfl
theorem tw_1089 : Cond.fieldLink "SurplusLandModel" 20 "SurplusLandModel" "moved" "[J" ∈ tG := tG_of (inT5 (List.mem_of_getElem? (i := 65) rfl)) rfl
theorem tw_1090 : Cond.fieldLink "SurplusLandModel" 23 "SurplusLandModel" "base" "I" ∈ tG := tG_of (inT5 (List.mem_of_getElem? (i := 66) rfl)) rfl
theorem tw_1091 : Cond.fieldLink "SurplusLandModel" 27 "SurplusLandModel" "slope" "I" ∈ tG := tG_of (inT5 (List.mem_of_getElem? (i := 67) rfl)) rfl
theorem tw_1092 : Cond.fieldLink "SurplusLandModel" 30 "SurplusLandModel" "pull" "I" ∈ tG := tG_of (inT5 (List.mem_of_getElem? (i := 68) rfl)) rfl
theorem tw_1093 : Cond.fieldLink "SurplusLandModel" 33 "SurplusLandModel" "quota" "I" ∈ tG := tG_of (inT5 (List.mem_of_getElem? (i := 69) rfl)) rfl
theorem tw_1094 : Cond.fieldLink "SurplusLandModel" 36 "SurplusLandModel" "high" "I" ∈ tG := tG_of (inT5 (List.mem_of_getElem? (i := 70) rfl)) rfl
theorem tw_1095 : Cond.fieldLink "SurplusLandModel" 39 "SurplusLandModel" "plant" "I" ∈ tG := tG_of (inT5 (List.mem_of_getElem? (i := 71) rfl)) rfl
theorem tw_1096 : Cond.fieldLink "SurplusLandModel" 178 "SurplusLandModel" "damp" "I" ∈ tG := tG_of (inT5 (List.mem_of_getElem? (i := 72) rfl)) rfl
theorem tw_1097 : Cond.fieldLink "SurplusLandModel" 42 "SurplusLandModel" "part" "[I" ∈ tG := tG_of (inT5 (List.mem_of_getElem? (i := 73) rfl)) rfl
theorem tw_1098 : Cond.fieldLink "SurplusLandModel" 45 "SurplusLandModel" "rate" "[I" ∈ tG := tG_of (inT5 (List.mem_of_getElem? (i := 74) rfl)) rfl
theorem tw_1099 : Cond.fieldLink "SurplusLandModel" 48 "SurplusLandModel" "tape" "[B" ∈ tG := tG_of (inT5 (List.mem_of_getElem? (i := 75) rfl)) rfl
theorem tw_1100 : Cond.fieldLink "SurplusLandModel" 188 "SurplusLandModel" "taped" "I" ∈ tG := tG_of (inT5 (List.mem_of_getElem? (i := 76) rfl)) rfl
theorem tw_1101 : Cond.fieldLink "SurplusLandModel" 52 "SurplusLandModel" "faultPlace" "I" ∈ tG := tG_of (inT5 (List.mem_of_getElem? (i := 77) rfl)) rfl
theorem tw_1102 : Cond.fieldLink "SurplusLandModel" 55 "SurplusLandModel" "text" "[B" ∈ tG := tG_of (inT5 (List.mem_of_getElem? (i := 78) rfl)) rfl
theorem tw_1103 : Cond.fieldLink "SurplusLandModel" 58 "SurplusLandModel" "textMany" "[I" ∈ tG := tG_of (inT5 (List.mem_of_getElem? (i := 79) rfl)) rfl
theorem tw_1104 : Cond.fieldLink "SurplusLandModel" 185 "SurplusLandModel" "growers" "I" ∈ tG := tG_of (inT5 (List.mem_of_getElem? (i := 80) rfl)) rfl
theorem tw_1105 : Cond.fieldLink "SurplusLandModel" 61 "SurplusLandModel" "village" "[I" ∈ tG := tG_of (inT5 (List.mem_of_getElem? (i := 81) rfl)) rfl
theorem tw_1106 : Cond.fieldLink "SurplusLandModel" 64 "SurplusLandModel" "acres" "[I" ∈ tG := tG_of (inT5 (List.mem_of_getElem? (i := 82) rfl)) rfl
theorem tw_1107 : Cond.fieldLink "SurplusLandModel" 67 "SurplusLandModel" "told" "[I" ∈ tG := tG_of (inT5 (List.mem_of_getElem? (i := 83) rfl)) rfl
theorem tw_1108 : Cond.fieldLink "SurplusLandModel" 70 "SurplusLandModel" "was" "[I" ∈ tG := tG_of (inT5 (List.mem_of_getElem? (i := 84) rfl)) rfl
theorem tw_1109 : Cond.fieldLink "SurplusLandModel" 73 "SurplusLandModel" "is" "[I" ∈ tG := tG_of (inT5 (List.mem_of_getElem? (i := 85) rfl)) rfl
theorem tw_1110 : Cond.fieldLink "SurplusLandModel" 76 "SurplusLandModel" "yields" "[I" ∈ tG := tG_of (inT5 (List.mem_of_getElem? (i := 86) rfl)) rfl
theorem tw_1111 : Cond.fieldLink "SurplusLandModel" 79 "SurplusLandModel" "parts" "[I" ∈ tG := tG_of (inT5 (List.mem_of_getElem? (i := 87) rfl)) rfl
theorem tw_1112 : Cond.fieldLink "SurplusLandModel" 82 "SurplusLandModel" "wasFreed" "[Z" ∈ tG := tG_of (inT5 (List.mem_of_getElem? (i := 88) rfl)) rfl
theorem tw_1113 : Cond.fieldLink "SurplusLandModel" 86 "SurplusLandModel" "wasTold" "[Z" ∈ tG := tG_of (inT5 (List.mem_of_getElem? (i := 89) rfl)) rfl
theorem tw_1114 : Cond.fieldLink "SurplusLandModel" 89 "SurplusLandModel" "crops" "[I" ∈ tG := tG_of (inT5 (List.mem_of_getElem? (i := 90) rfl)) rfl
theorem tw_1115 : Cond.fieldLink "SurplusLandModel" 92 "SurplusLandModel" "keptOf" "[I" ∈ tG := tG_of (inT5 (List.mem_of_getElem? (i := 91) rfl)) rfl
theorem tw_1116 : Cond.fieldLink "SurplusLandModel" 95 "SurplusLandModel" "year" "[I" ∈ tG := tG_of (inT5 (List.mem_of_getElem? (i := 92) rfl)) rfl
theorem tw_1117 : Cond.fieldLink "SurplusLandModel" 98 "SurplusLandModel" "price" "[I" ∈ tG := tG_of (inT5 (List.mem_of_getElem? (i := 93) rfl)) rfl
theorem tw_1118 : Cond.fieldLink "SurplusLandModel" 101 "SurplusLandModel" "receipts" "[I" ∈ tG := tG_of (inT5 (List.mem_of_getElem? (i := 94) rfl)) rfl
theorem tw_1119 : Cond.fieldLink "SurplusLandModel" 104 "SurplusLandModel" "wanted" "[I" ∈ tG := tG_of (inT5 (List.mem_of_getElem? (i := 95) rfl)) rfl
theorem tw_1120 : Cond.fieldLink "SurplusLandModel" 107 "SurplusLandModel" "bearing" "[I" ∈ tG := tG_of (inT5 (List.mem_of_getElem? (i := 96) rfl)) rfl
theorem tw_1121 : Cond.fieldLink "SurplusLandModel" 110 "SurplusLandModel" "young" "[I" ∈ tG := tG_of (inT5 (List.mem_of_getElem? (i := 97) rfl)) rfl
theorem tw_1122 : Cond.fieldLink "SurplusLandModel" 113 "SurplusLandModel" "free" "[I" ∈ tG := tG_of (inT5 (List.mem_of_getElem? (i := 98) rfl)) rfl
theorem tw_1123 : Cond.fieldLink "SurplusLandModel" 116 "SurplusLandModel" "rest" "[J" ∈ tG := tG_of (inT5 (List.mem_of_getElem? (i := 99) rfl)) rfl
theorem tw_1124 : Cond.fieldLink "SurplusLandModel" 119 "SurplusLandModel" "money" "[J" ∈ tG := tG_of (inT5 (List.mem_of_getElem? (i := 100) rfl)) rfl
theorem tw_1125 : Cond.fieldLink "SurplusLandModel" 122 "SurplusLandModel" "holder" "[I" ∈ tG := tG_of (inT5 (List.mem_of_getElem? (i := 101) rfl)) rfl
theorem tw_1126 : Cond.fieldLink "SurplusLandModel" 125 "SurplusLandModel" "sacks" "[I" ∈ tG := tG_of (inT5 (List.mem_of_getElem? (i := 102) rfl)) rfl
theorem tw_1127 : Cond.fieldLink "SurplusLandModel" 128 "SurplusLandModel" "fruit" "[I" ∈ tG := tG_of (inT5 (List.mem_of_getElem? (i := 103) rfl)) rfl
theorem tw_1128 : Cond.fieldLink "SurplusLandModel" 131 "SurplusLandModel" "sums" "[J" ∈ tG := tG_of (inT5 (List.mem_of_getElem? (i := 104) rfl)) rfl
theorem tw_1129 : Cond.fieldLink "SurplusLandModel" 134 "SurplusLandModel" "pledged" "[I" ∈ tG := tG_of (inT5 (List.mem_of_getElem? (i := 105) rfl)) rfl
theorem tw_1130 : Cond.fieldLink "SurplusLandModel" 137 "SurplusLandModel" "due" "[I" ∈ tG := tG_of (inT5 (List.mem_of_getElem? (i := 106) rfl)) rfl
theorem tw_1131 : Cond.fieldLink "SurplusLandModel" 140 "SurplusLandModel" "owes" "[J" ∈ tG := tG_of (inT5 (List.mem_of_getElem? (i := 107) rfl)) rfl
theorem tw_1132 : Cond.fieldLink "SurplusLandModel" 407 "SurplusLandModel" "unpaid" "I" ∈ tG := tG_of (inT5 (List.mem_of_getElem? (i := 108) rfl)) rfl
theorem tw_1133 : Cond.fieldLink "SurplusLandModel" 194 "SurplusLandModel" "row" "I" ∈ tG := tG_of (inT5 (List.mem_of_getElem? (i := 109) rfl)) rfl
theorem tw_1134 : Cond.fieldLink "SurplusLandModel" 191 "SurplusLandModel" "many" "I" ∈ tG := tG_of (inT5 (List.mem_of_getElem? (i := 110) rfl)) rfl
theorem tw_1135 : Cond.fieldLink "SurplusLandModel" 197 "SurplusLandModel" "to" "I" ∈ tG := tG_of (inT5 (List.mem_of_getElem? (i := 111) rfl)) rfl
theorem tw_1136 : Cond.fieldLink "SurplusLandModel" 204 "SurplusLandModel" "from" "I" ∈ tG := tG_of (inT5 (List.mem_of_getElem? (i := 112) rfl)) rfl
theorem tw_1137 : Cond.fieldLink "SurplusLandModel" 207 "SurplusLandModel" "sort" "I" ∈ tG := tG_of (inT5 (List.mem_of_getElem? (i := 113) rfl)) rfl
theorem tw_1138 : Cond.fieldLink "SurplusLandModel" 263 "SurplusLandModel" "open" "I" ∈ tG := tG_of (inT5 (List.mem_of_getElem? (i := 114) rfl)) rfl
theorem tw_1139 : Cond.fieldLink "SurplusLandModel" 216 "SurplusLandModel" "number" "J" ∈ tG := tG_of (inT5 (List.mem_of_getElem? (i := 115) rfl)) rfl
theorem tw_1140 : Cond.fieldLink "SurplusLandModel" 224 "SurplusLandModel" "isBad" "Z" ∈ tG := tG_of (inT5 (List.mem_of_getElem? (i := 116) rfl)) rfl
theorem tw_1141 : Cond.fieldLink "SurplusLandModel" 143 "SurplusLandModel" "known" "[J" ∈ tG := tG_of (inT5 (List.mem_of_getElem? (i := 117) rfl)) rfl
theorem tw_1142 : Cond.fieldLink "SurplusLandModel" 317 "SurplusLandModel" "keeps" "J" ∈ tG := tG_of (inT5 (List.mem_of_getElem? (i := 118) rfl)) rfl
theorem tw_1143 : Cond.fieldLink "SurplusLandModel" 323 "SurplusLandModel" "sells" "J" ∈ tG := tG_of (inT5 (List.mem_of_getElem? (i := 119) rfl)) rfl
theorem tw_1144 : Cond.fieldLink "SurplusLandModel" 314 "SurplusLandModel" "hasKeep" "Z" ∈ tG := tG_of (inT5 (List.mem_of_getElem? (i := 120) rfl)) rfl
theorem tw_1145 : Cond.fieldLink "SurplusLandModel" 320 "SurplusLandModel" "hasSell" "Z" ∈ tG := tG_of (inT5 (List.mem_of_getElem? (i := 121) rfl)) rfl
theorem tw_1146 : Cond.fieldLink "SurplusLandModel" 292 "SurplusLandModel" "freed" "I" ∈ tG := tG_of (inT5 (List.mem_of_getElem? (i := 122) rfl)) rfl
theorem tw_1147 : Cond.fieldLink "SurplusLandModel" 295 "SurplusLandModel" "least" "I" ∈ tG := tG_of (inT5 (List.mem_of_getElem? (i := 123) rfl)) rfl
theorem tw_1148 : Cond.fieldLink "SurplusLandModel" 303 "SurplusLandModel" "still" "I" ∈ tG := tG_of (inT5 (List.mem_of_getElem? (i := 124) rfl)) rfl
theorem tw_1149 : Cond.fieldLink "SurplusLandModel" 287 "SurplusLandModel" "clauses" "I" ∈ tG := tG_of (inT5 (List.mem_of_getElem? (i := 125) rfl)) rfl
theorem tw_1150 : Cond.fieldLink "SurplusLandModel" 146 "SurplusLandModel" "choose" "[J" ∈ tG := tG_of (inT5 (List.mem_of_getElem? (i := 126) rfl)) rfl
theorem tw_1287 : Cond.code ⟨"SurplusLandModel", "row", "(III)I"⟩ prog_14_method_6_code 5 (some .int) ∈ tG := tG_of (inT6 (List.mem_of_getElem? (i := 23) rfl)) rfl
theorem tw_1288 : Cond.methodLink "SurplusLandModel" 158 ⟨"SurplusLandModel", "isSlot", "(I)Z"⟩ ∈ tG := tG_of (inT6 (List.mem_of_getElem? (i := 24) rfl)) rfl
theorem tw_1289 : Cond.static ⟨"SurplusLandModel", "isSlot", "(I)Z"⟩ ∈ tG := tG_of (inT6 (List.mem_of_getElem? (i := 25) rfl)) rfl
theorem tw_1290 : Cond.code ⟨"SurplusLandModel", "isSlot", "(I)Z"⟩ prog_14_method_4_code 1 (some .boolean) ∈ tG := tG_of (inT6 (List.mem_of_getElem? (i := 26) rfl)) rfl
theorem tw_1291 : Cond.constantLong "SurplusLandModel" 152 3 ∈ tG := tG_of (inT6 (List.mem_of_getElem? (i := 27) rfl)) rfl
theorem tw_1292 : Cond.methodLink "SurplusLandModel" 154 ⟨"SurplusLandModel", "in", "(JJJ)Z"⟩ ∈ tG := tG_of (inT6 (List.mem_of_getElem? (i := 28) rfl)) rfl
theorem tw_1293 : Cond.static ⟨"SurplusLandModel", "in", "(JJJ)Z"⟩ ∈ tG := tG_of (inT6 (List.mem_of_getElem? (i := 29) rfl)) rfl
theorem tw_1294 : Cond.code ⟨"SurplusLandModel", "in", "(JJJ)Z"⟩ prog_14_method_3_code 6 (some .boolean) ∈ tG := tG_of (inT6 (List.mem_of_getElem? (i := 30) rfl)) rfl
theorem tw_1298 : Cond.code ⟨"SurplusLandModel", "tear", "(I)Z"⟩ prog_14_method_7_code 2 (some .boolean) ∈ tG := tG_of (inT6 (List.mem_of_getElem? (i := 34) rfl)) rfl
theorem tw_1302 : Cond.code ⟨"SurplusLandModel", "write", "(IIJ)I"⟩ prog_14_method_8_code 5 (some .int) ∈ tG := tG_of (inT6 (List.mem_of_getElem? (i := 38) rfl)) rfl
theorem tw_1303 : Cond.methodLink "SurplusLandModel" 162 ⟨"SurplusLandModel", "cut", "(IJ)J"⟩ ∈ tG := tG_of (inT6 (List.mem_of_getElem? (i := 39) rfl)) rfl
theorem tw_1304 : Cond.static ⟨"SurplusLandModel", "cut", "(IJ)J"⟩ ∈ tG := tG_of (inT6 (List.mem_of_getElem? (i := 40) rfl)) rfl
theorem tw_1305 : Cond.code ⟨"SurplusLandModel", "cut", "(IJ)J"⟩ prog_14_method_5_code 3 (some .long) ∈ tG := tG_of (inT6 (List.mem_of_getElem? (i := 41) rfl)) rfl
theorem tw_1309 : Cond.code ⟨"SurplusLandModel", "paste", "(IIIII)I"⟩ prog_14_method_9_code 7 (some .int) ∈ tG := tG_of (inT6 (List.mem_of_getElem? (i := 45) rfl)) rfl
theorem tw_1313 : Cond.code ⟨"SurplusLandModel", "terms", "(IIIIIII)I"⟩ prog_14_method_10_code 8 (some .int) ∈ tG := tG_of (inT6 (List.mem_of_getElem? (i := 49) rfl)) rfl
theorem tw_1314 : Cond.constantLong "SurplusLandModel" 166 10000000 ∈ tG := tG_of (inT6 (List.mem_of_getElem? (i := 50) rfl)) rfl
theorem tw_1315 : Cond.constantLong "SurplusLandModel" 168 1000000 ∈ tG := tG_of (inT6 (List.mem_of_getElem? (i := 51) rfl)) rfl
theorem tw_1316 : Cond.constantLong "SurplusLandModel" 170 1000 ∈ tG := tG_of (inT6 (List.mem_of_getElem? (i := 52) rfl)) rfl
theorem tw_1317 : Cond.constantLong "SurplusLandModel" 172 10000 ∈ tG := tG_of (inT6 (List.mem_of_getElem? (i := 53) rfl)) rfl
theorem tw_1318 : Cond.constantLong "SurplusLandModel" 174 100 ∈ tG := tG_of (inT6 (List.mem_of_getElem? (i := 54) rfl)) rfl
theorem tw_1319 : Cond.constantLong "SurplusLandModel" 176 200 ∈ tG := tG_of (inT6 (List.mem_of_getElem? (i := 55) rfl)) rfl
theorem tw_1323 : Cond.code ⟨"SurplusLandModel", "bank", "(III)I"⟩ prog_14_method_11_code 4 (some .int) ∈ tG := tG_of (inT6 (List.mem_of_getElem? (i := 59) rfl)) rfl
theorem tw_1324 : Cond.constantLong "SurplusLandModel" 181 2 ∈ tG := tG_of (inT6 (List.mem_of_getElem? (i := 60) rfl)) rfl
theorem tw_1328 : Cond.code ⟨"SurplusLandModel", "grower", "(II)I"⟩ prog_14_method_12_code 3 (some .int) ∈ tG := tG_of (inT6 (List.mem_of_getElem? (i := 64) rfl)) rfl
theorem tw_1329 : Cond.constantLong "SurplusLandModel" 183 7 ∈ tG := tG_of (inT6 (List.mem_of_getElem? (i := 65) rfl)) rfl
theorem tw_1333 : Cond.code ⟨"SurplusLandModel", "feed", "(IIIII)I"⟩ prog_14_method_14_code 8 (some .int) ∈ tG := tG_of (inT6 (List.mem_of_getElem? (i := 69) rfl)) rfl
theorem tw_1337 : Cond.code ⟨"SurplusLandModel", "end", "(I)I"⟩ prog_14_method_15_code 2 (some .int) ∈ tG := tG_of (inT6 (List.mem_of_getElem? (i := 73) rfl)) rfl
theorem tw_1341 : Cond.code ⟨"SurplusLandModel", "law", "(II)I"⟩ prog_14_method_31_code 5 (some .int) ∈ tG := tG_of (inT6 (List.mem_of_getElem? (i := 77) rfl)) rfl
theorem tw_1342 : Cond.methodLink "SurplusLandModel" 333 ⟨"SurplusLandModel", "isLaw", "()Z"⟩ ∈ tG := tG_of (inT6 (List.mem_of_getElem? (i := 78) rfl)) rfl
theorem tw_1344 : Cond.instanceMethod ⟨"SurplusLandModel", "isLaw", "()Z"⟩ ∈ tG := tG_of (inT6 (List.mem_of_getElem? (i := 80) rfl)) rfl
theorem tw_1345 : Cond.code ⟨"SurplusLandModel", "isLaw", "()Z"⟩ prog_14_method_30_code 2 (some .boolean) ∈ tG := tG_of (inT6 (List.mem_of_getElem? (i := 81) rfl)) rfl
theorem tw_1346 : Cond.methodLink "SurplusLandModel" 329 ⟨"SurplusLandModel", "reads", "(I)V"⟩ ∈ tG := tG_of (inT6 (List.mem_of_getElem? (i := 82) rfl)) rfl
theorem tw_1348 : Cond.instanceMethod ⟨"SurplusLandModel", "reads", "(I)V"⟩ ∈ tG := tG_of (inT6 (List.mem_of_getElem? (i := 84) rfl)) rfl
theorem tw_1349 : Cond.code ⟨"SurplusLandModel", "reads", "(I)V"⟩ prog_14_method_29_code 2 (none) ∈ tG := tG_of (inT6 (List.mem_of_getElem? (i := 85) rfl)) rfl
theorem tw_1350 : Cond.methodLink "SurplusLandModel" 241 ⟨"SurplusLandModel", "next", "()V"⟩ ∈ tG := tG_of (inT6 (List.mem_of_getElem? (i := 86) rfl)) rfl
theorem tw_1352 : Cond.instanceMethod ⟨"SurplusLandModel", "next", "()V"⟩ ∈ tG := tG_of (inT6 (List.mem_of_getElem? (i := 88) rfl)) rfl
theorem tw_1353 : Cond.code ⟨"SurplusLandModel", "next", "()V"⟩ prog_14_method_19_code 2 (none) ∈ tG := tG_of (inT6 (List.mem_of_getElem? (i := 89) rfl)) rfl
theorem tw_1354 : Cond.methodLink "SurplusLandModel" 200 ⟨"SurplusLandModel", "at", "(I)I"⟩ ∈ tG := tG_of (inT6 (List.mem_of_getElem? (i := 90) rfl)) rfl
theorem tw_1356 : Cond.instanceMethod ⟨"SurplusLandModel", "at", "(I)I"⟩ ∈ tG := tG_of (inT6 (List.mem_of_getElem? (i := 92) rfl)) rfl
theorem tw_1357 : Cond.code ⟨"SurplusLandModel", "at", "(I)I"⟩ prog_14_method_16_code 2 (some .int) ∈ tG := tG_of (inT6 (List.mem_of_getElem? (i := 93) rfl)) rfl
theorem tw_1358 : Cond.methodLink "SurplusLandModel" 210 ⟨"SurplusLandModel", "isLetter", "(I)Z"⟩ ∈ tG := tG_of (inT6 (List.mem_of_getElem? (i := 94) rfl)) rfl
theorem tw_1359 : Cond.static ⟨"SurplusLandModel", "isLetter", "(I)Z"⟩ ∈ tG := tG_of (inT6 (List.mem_of_getElem? (i := 95) rfl)) rfl
theorem tw_1360 : Cond.code ⟨"SurplusLandModel", "isLetter", "(I)Z"⟩ prog_14_method_17_code 1 (some .boolean) ∈ tG := tG_of (inT6 (List.mem_of_getElem? (i := 96) rfl)) rfl
theorem tw_1361 : Cond.methodLink "SurplusLandModel" 213 ⟨"SurplusLandModel", "isDigit", "(I)Z"⟩ ∈ tG := tG_of (inT6 (List.mem_of_getElem? (i := 97) rfl)) rfl
theorem tw_1362 : Cond.static ⟨"SurplusLandModel", "isDigit", "(I)Z"⟩ ∈ tG := tG_of (inT6 (List.mem_of_getElem? (i := 98) rfl)) rfl
theorem tw_1363 : Cond.code ⟨"SurplusLandModel", "isDigit", "(I)Z"⟩ prog_14_method_18_code 1 (some .boolean) ∈ tG := tG_of (inT6 (List.mem_of_getElem? (i := 99) rfl)) rfl
theorem tw_1364 : Cond.constantLong "SurplusLandModel" 220 10 ∈ tG := tG_of (inT6 (List.mem_of_getElem? (i := 100) rfl)) rfl
theorem tw_1365 : Cond.constantLong "SurplusLandModel" 222 48 ∈ tG := tG_of (inT6 (List.mem_of_getElem? (i := 101) rfl)) rfl
theorem tw_1366 : Cond.methodLink "SurplusLandModel" 326 ⟨"SurplusLandModel", "clause", "()V"⟩ ∈ tG := tG_of (inT6 (List.mem_of_getElem? (i := 102) rfl)) rfl
theorem tw_1368 : Cond.instanceMethod ⟨"SurplusLandModel", "clause", "()V"⟩ ∈ tG := tG_of (inT6 (List.mem_of_getElem? (i := 104) rfl)) rfl
theorem tw_1369 : Cond.code ⟨"SurplusLandModel", "clause", "()V"⟩ prog_14_method_28_code 6 (none) ∈ tG := tG_of (inT6 (List.mem_of_getElem? (i := 105) rfl)) rfl
theorem tw_1371 : Cond.methodLink "SurplusLandModel" 249 ⟨"SurplusLandModel", "is", "(Ljava/lang/String;)Z"⟩ ∈ tG := tG_of (inT6 (List.mem_of_getElem? (i := 107) rfl)) rfl
theorem tw_1373 : Cond.instanceMethod ⟨"SurplusLandModel", "is", "(Ljava/lang/String;)Z"⟩ ∈ tG := tG_of (inT6 (List.mem_of_getElem? (i := 109) rfl)) rfl
theorem tw_1374 : Cond.code ⟨"SurplusLandModel", "is", "(Ljava/lang/String;)Z"⟩ prog_14_method_22_code 4 (some .boolean) ∈ tG := tG_of (inT6 (List.mem_of_getElem? (i := 110) rfl)) rfl
theorem tw_1375 : Cond.methodLink "SurplusLandModel" 228 ⟨"java/lang/String", "length", "()I"⟩ ∈ tG := tG_of (inT6 (List.mem_of_getElem? (i := 111) rfl)) rfl
theorem tw_1376 : Cond.methodLink "SurplusLandModel" 234 ⟨"java/lang/String", "charAt", "(I)C"⟩ ∈ tG := tG_of (inT6 (List.mem_of_getElem? (i := 112) rfl)) rfl
theorem tw_1381 : Cond.methodLink "SurplusLandModel" 238 ⟨"SurplusLandModel", "bad", "()V"⟩ ∈ tG := tG_of (inT6 (List.mem_of_getElem? (i := 117) rfl)) rfl
theorem tw_1383 : Cond.instanceMethod ⟨"SurplusLandModel", "bad", "()V"⟩ ∈ tG := tG_of (inT6 (List.mem_of_getElem? (i := 119) rfl)) rfl
theorem tw_1384 : Cond.code ⟨"SurplusLandModel", "bad", "()V"⟩ prog_14_method_20_code 1 (none) ∈ tG := tG_of (inT6 (List.mem_of_getElem? (i := 120) rfl)) rfl
theorem tw_1385 : Cond.methodLink "SurplusLandModel" 244 ⟨"SurplusLandModel", "numberOf", "()I"⟩ ∈ tG := tG_of (inT6 (List.mem_of_getElem? (i := 121) rfl)) rfl
theorem tw_1387 : Cond.instanceMethod ⟨"SurplusLandModel", "numberOf", "()I"⟩ ∈ tG := tG_of (inT6 (List.mem_of_getElem? (i := 123) rfl)) rfl
theorem tw_1388 : Cond.code ⟨"SurplusLandModel", "numberOf", "()I"⟩ prog_14_method_23_code 2 (some .int) ∈ tG := tG_of (inT6 (List.mem_of_getElem? (i := 124) rfl)) rfl
theorem tw_1389 : Cond.methodLink "SurplusLandModel" 297 ⟨"java/lang/Math", "max", "(II)I"⟩ ∈ tG := tG_of (inT6 (List.mem_of_getElem? (i := 125) rfl)) rfl
theorem tw_1390 : Cond.methodLink "SurplusLandModel" 305 ⟨"java/lang/Math", "min", "(II)I"⟩ ∈ tG := tG_of (inT6 (List.mem_of_getElem? (i := 126) rfl)) rfl
theorem tw_1391 : Cond.methodLink "SurplusLandModel" 266 ⟨"SurplusLandModel", "sum", "()J"⟩ ∈ tG := tG_of (inT6 (List.mem_of_getElem? (i := 127) rfl)) rfl
theorem tw_1393 : Cond.instanceMethod ⟨"SurplusLandModel", "sum", "()J"⟩ ∈ tG := tG_of (inT6 (List.mem_of_getElem? (i := 129) rfl)) rfl
theorem tw_1394 : Cond.code ⟨"SurplusLandModel", "sum", "()J"⟩ prog_14_method_26_code 6 (some .long) ∈ tG := tG_of (inT6 (List.mem_of_getElem? (i := 130) rfl)) rfl
theorem tw_1395 : Cond.methodLink "SurplusLandModel" 275 ⟨"SurplusLandModel", "term", "()J"⟩ ∈ tG := tG_of (inT6 (List.mem_of_getElem? (i := 131) rfl)) rfl
theorem tw_1397 : Cond.instanceMethod ⟨"SurplusLandModel", "term", "()J"⟩ ∈ tG := tG_of (inT6 (List.mem_of_getElem? (i := 133) rfl)) rfl
theorem tw_1398 : Cond.code ⟨"SurplusLandModel", "term", "()J"⟩ prog_14_method_25_code 6 (some .long) ∈ tG := tG_of (inT6 (List.mem_of_getElem? (i := 134) rfl)) rfl
theorem tw_1399 : Cond.methodLink "SurplusLandModel" 270 ⟨"SurplusLandModel", "factor", "()J"⟩ ∈ tG := tG_of (inT6 (List.mem_of_getElem? (i := 135) rfl)) rfl
theorem tw_1401 : Cond.instanceMethod ⟨"SurplusLandModel", "factor", "()J"⟩ ∈ tG := tG_of (inT6 (List.mem_of_getElem? (i := 137) rfl)) rfl
theorem tw_1402 : Cond.code ⟨"SurplusLandModel", "factor", "()J"⟩ prog_14_method_24_code 4 (some .long) ∈ tG := tG_of (inT6 (List.mem_of_getElem? (i := 138) rfl)) rfl
theorem tw_1409 : Cond.methodLink "SurplusLandModel" 260 ⟨"SurplusLandModel", "isSign", "(I)Z"⟩ ∈ tG := tG_of (inT6 (List.mem_of_getElem? (i := 145) rfl)) rfl
theorem tw_1411 : Cond.instanceMethod ⟨"SurplusLandModel", "isSign", "(I)Z"⟩ ∈ tG := tG_of (inT6 (List.mem_of_getElem? (i := 147) rfl)) rfl
theorem tw_1412 : Cond.code ⟨"SurplusLandModel", "isSign", "(I)Z"⟩ prog_14_method_21_code 2 (some .boolean) ∈ tG := tG_of (inT6 (List.mem_of_getElem? (i := 148) rfl)) rfl
theorem tw_1413 : Cond.constantLong "SurplusLandModel" 273 (-1) ∈ tG := tG_of (inT6 (List.mem_of_getElem? (i := 149) rfl)) rfl
theorem tw_1415 : Cond.methodLink "SurplusLandModel" 310 ⟨"SurplusLandModel", "conds", "()Z"⟩ ∈ tG := tG_of (inT6 (List.mem_of_getElem? (i := 151) rfl)) rfl
theorem tw_1417 : Cond.instanceMethod ⟨"SurplusLandModel", "conds", "()Z"⟩ ∈ tG := tG_of (inT6 (List.mem_of_getElem? (i := 153) rfl)) rfl
theorem tw_1418 : Cond.code ⟨"SurplusLandModel", "conds", "()Z"⟩ prog_14_method_27_code 8 (some .boolean) ∈ tG := tG_of (inT6 (List.mem_of_getElem? (i := 154) rfl)) rfl
theorem tw_1423 : Cond.code ⟨"SurplusLandModel", "fault", "()I"⟩ prog_14_method_32_code 1 (some .int) ∈ tG := tG_of (inT6 (List.mem_of_getElem? (i := 159) rfl)) rfl
theorem tw_1427 : Cond.code ⟨"SurplusLandModel", "crop", "(II)I"⟩ prog_14_method_33_code 3 (some .int) ∈ tG := tG_of (inT6 (List.mem_of_getElem? (i := 163) rfl)) rfl
theorem tw_1428 : Cond.methodLink "SurplusLandModel" 336 ⟨"SurplusLandModel", "isGrower", "(I)Z"⟩ ∈ tG := tG_of (inT6 (List.mem_of_getElem? (i := 164) rfl)) rfl
theorem tw_1430 : Cond.instanceMethod ⟨"SurplusLandModel", "isGrower", "(I)Z"⟩ ∈ tG := tG_of (inT6 (List.mem_of_getElem? (i := 166) rfl)) rfl
theorem tw_1431 : Cond.code ⟨"SurplusLandModel", "isGrower", "(I)Z"⟩ prog_14_method_13_code 2 (some .boolean) ∈ tG := tG_of (inT6 (List.mem_of_getElem? (i := 167) rfl)) rfl
theorem tw_1432 : Cond.constantLong "SurplusLandModel" 339 500000 ∈ tG := tG_of (inT6 (List.mem_of_getElem? (i := 168) rfl)) rfl
theorem tw_1436 : Cond.code ⟨"SurplusLandModel", "crops", "(I)I"⟩ prog_14_method_34_code 3 (some .int) ∈ tG := tG_of (inT6 (List.mem_of_getElem? (i := 172) rfl)) rfl
theorem tw_1440 : Cond.code ⟨"SurplusLandModel", "go", "(I)I"⟩ prog_14_method_45_code 5 (some .int) ∈ tG := tG_of (inT6 (List.mem_of_getElem? (i := 176) rfl)) rfl
theorem tw_1441 : Cond.methodLink "SurplusLandModel" 374 ⟨"SurplusLandModel", "passes", "(II[II)I"⟩ ∈ tG := tG_of (inT6 (List.mem_of_getElem? (i := 177) rfl)) rfl
theorem tw_1443 : Cond.instanceMethod ⟨"SurplusLandModel", "passes", "(II[II)I"⟩ ∈ tG := tG_of (inT6 (List.mem_of_getElem? (i := 179) rfl)) rfl
theorem tw_1444 : Cond.code ⟨"SurplusLandModel", "passes", "(II[II)I"⟩ prog_14_method_40_code 21 (some .int) ∈ tG := tG_of (inT6 (List.mem_of_getElem? (i := 180) rfl)) rfl
theorem tw_1445 : Cond.methodLink "SurplusLandModel" 344 ⟨"SurplusLandModel", "store", "(I)I"⟩ ∈ tG := tG_of (inT6 (List.mem_of_getElem? (i := 181) rfl)) rfl
theorem tw_1447 : Cond.instanceMethod ⟨"SurplusLandModel", "store", "(I)I"⟩ ∈ tG := tG_of (inT6 (List.mem_of_getElem? (i := 183) rfl)) rfl
theorem tw_1448 : Cond.code ⟨"SurplusLandModel", "store", "(I)I"⟩ prog_14_method_35_code 4 (some .int) ∈ tG := tG_of (inT6 (List.mem_of_getElem? (i := 184) rfl)) rfl
theorem tw_1449 : Cond.methodLink "SurplusLandModel" 346 ⟨"SurplusLandModel", "wants", "(I)I"⟩ ∈ tG := tG_of (inT6 (List.mem_of_getElem? (i := 185) rfl)) rfl
theorem tw_1451 : Cond.instanceMethod ⟨"SurplusLandModel", "wants", "(I)I"⟩ ∈ tG := tG_of (inT6 (List.mem_of_getElem? (i := 187) rfl)) rfl
theorem tw_1452 : Cond.code ⟨"SurplusLandModel", "wants", "(I)I"⟩ prog_14_method_37_code 2 (some .int) ∈ tG := tG_of (inT6 (List.mem_of_getElem? (i := 188) rfl)) rfl
theorem tw_1453 : Cond.methodLink "SurplusLandModel" 341 ⟨"java/lang/Math", "max", "(JJ)J"⟩ ∈ tG := tG_of (inT6 (List.mem_of_getElem? (i := 189) rfl)) rfl
theorem tw_1454 : Cond.methodLink "SurplusLandModel" 349 ⟨"java/lang/Math", "min", "(JJ)J"⟩ ∈ tG := tG_of (inT6 (List.mem_of_getElem? (i := 190) rfl)) rfl
theorem tw_1455 : Cond.methodLink "SurplusLandModel" 351 ⟨"SurplusLandModel", "receipt", "(IIII)I"⟩ ∈ tG := tG_of (inT6 (List.mem_of_getElem? (i := 191) rfl)) rfl
theorem tw_1457 : Cond.instanceMethod ⟨"SurplusLandModel", "receipt", "(IIII)I"⟩ ∈ tG := tG_of (inT6 (List.mem_of_getElem? (i := 193) rfl)) rfl
theorem tw_1458 : Cond.code ⟨"SurplusLandModel", "receipt", "(IIII)I"⟩ prog_14_method_38_code 6 (some .int) ∈ tG := tG_of (inT6 (List.mem_of_getElem? (i := 194) rfl)) rfl
theorem tw_1459 : Cond.methodLink "SurplusLandModel" 355 ⟨"SurplusLandModel", "sold", "(IIIII)V"⟩ ∈ tG := tG_of (inT6 (List.mem_of_getElem? (i := 195) rfl)) rfl
theorem tw_1461 : Cond.instanceMethod ⟨"SurplusLandModel", "sold", "(IIIII)V"⟩ ∈ tG := tG_of (inT6 (List.mem_of_getElem? (i := 197) rfl)) rfl
theorem tw_1462 : Cond.code ⟨"SurplusLandModel", "sold", "(IIIII)V"⟩ prog_14_method_39_code 7 (none) ∈ tG := tG_of (inT6 (List.mem_of_getElem? (i := 198) rfl)) rfl
theorem tw_1463 : Cond.methodLink "SurplusLandModel" 359 ⟨"SurplusLandModel", "frees", "(I)I"⟩ ∈ tG := tG_of (inT6 (List.mem_of_getElem? (i := 199) rfl)) rfl
theorem tw_1465 : Cond.instanceMethod ⟨"SurplusLandModel", "frees", "(I)I"⟩ ∈ tG := tG_of (inT6 (List.mem_of_getElem? (i := 201) rfl)) rfl
theorem tw_1466 : Cond.code ⟨"SurplusLandModel", "frees", "(I)I"⟩ prog_14_method_36_code 4 (some .int) ∈ tG := tG_of (inT6 (List.mem_of_getElem? (i := 202) rfl)) rfl
theorem tw_1467 : Cond.methodLink "SurplusLandModel" 362 ⟨"SurplusLandModel", "abroad", "(III)V"⟩ ∈ tG := tG_of (inT6 (List.mem_of_getElem? (i := 203) rfl)) rfl
theorem tw_1469 : Cond.instanceMethod ⟨"SurplusLandModel", "abroad", "(III)V"⟩ ∈ tG := tG_of (inT6 (List.mem_of_getElem? (i := 205) rfl)) rfl
theorem tw_1470 : Cond.code ⟨"SurplusLandModel", "abroad", "(III)V"⟩ prog_14_method_42_code 7 (none) ∈ tG := tG_of (inT6 (List.mem_of_getElem? (i := 206) rfl)) rfl
theorem tw_1471 : Cond.methodLink "SurplusLandModel" 372 ⟨"SurplusLandModel", "sells", "(IIIII)V"⟩ ∈ tG := tG_of (inT6 (List.mem_of_getElem? (i := 207) rfl)) rfl
theorem tw_1473 : Cond.instanceMethod ⟨"SurplusLandModel", "sells", "(IIIII)V"⟩ ∈ tG := tG_of (inT6 (List.mem_of_getElem? (i := 209) rfl)) rfl
theorem tw_1474 : Cond.code ⟨"SurplusLandModel", "sells", "(IIIII)V"⟩ prog_14_method_41_code 6 (none) ∈ tG := tG_of (inT6 (List.mem_of_getElem? (i := 210) rfl)) rfl
theorem tw_1475 : Cond.methodLink "SurplusLandModel" 366 ⟨"SurplusLandModel", "stills", "(I)V"⟩ ∈ tG := tG_of (inT6 (List.mem_of_getElem? (i := 211) rfl)) rfl
theorem tw_1477 : Cond.instanceMethod ⟨"SurplusLandModel", "stills", "(I)V"⟩ ∈ tG := tG_of (inT6 (List.mem_of_getElem? (i := 213) rfl)) rfl
theorem tw_1478 : Cond.code ⟨"SurplusLandModel", "stills", "(I)V"⟩ prog_14_method_43_code 5 (none) ∈ tG := tG_of (inT6 (List.mem_of_getElem? (i := 214) rfl)) rfl
theorem tw_1479 : Cond.methodLink "SurplusLandModel" 369 ⟨"SurplusLandModel", "grows", "(I)V"⟩ ∈ tG := tG_of (inT6 (List.mem_of_getElem? (i := 215) rfl)) rfl
theorem tw_1481 : Cond.instanceMethod ⟨"SurplusLandModel", "grows", "(I)V"⟩ ∈ tG := tG_of (inT6 (List.mem_of_getElem? (i := 217) rfl)) rfl
theorem tw_1482 : Cond.code ⟨"SurplusLandModel", "grows", "(I)V"⟩ prog_14_method_44_code 5 (none) ∈ tG := tG_of (inT6 (List.mem_of_getElem? (i := 218) rfl)) rfl
theorem tw_1483 : Cond.methodLink "SurplusLandModel" 378 ⟨"SurplusLandModel", "dues", "(II)V"⟩ ∈ tG := tG_of (inT6 (List.mem_of_getElem? (i := 219) rfl)) rfl
theorem tw_1485 : Cond.instanceMethod ⟨"SurplusLandModel", "dues", "(II)V"⟩ ∈ tG := tG_of (inT6 (List.mem_of_getElem? (i := 221) rfl)) rfl
theorem tw_1486 : Cond.code ⟨"SurplusLandModel", "dues", "(II)V"⟩ prog_14_method_56_code 9 (none) ∈ tG := tG_of (inT6 (List.mem_of_getElem? (i := 222) rfl)) rfl
theorem tw_1487 : Cond.methodLink "SurplusLandModel" 404 ⟨"SurplusLandModel", "pays", "(II)Z"⟩ ∈ tG := tG_of (inT6 (List.mem_of_getElem? (i := 223) rfl)) rfl
theorem tw_1489 : Cond.instanceMethod ⟨"SurplusLandModel", "pays", "(II)Z"⟩ ∈ tG := tG_of (inT6 (List.mem_of_getElem? (i := 225) rfl)) rfl
theorem tw_1490 : Cond.code ⟨"SurplusLandModel", "pays", "(II)Z"⟩ prog_14_method_54_code 4 (some .boolean) ∈ tG := tG_of (inT6 (List.mem_of_getElem? (i := 226) rfl)) rfl
theorem tw_1491 : Cond.methodLink "SurplusLandModel" 397 ⟨"SurplusLandModel", "ends", "(II)V"⟩ ∈ tG := tG_of (inT6 (List.mem_of_getElem? (i := 227) rfl)) rfl
theorem tw_1493 : Cond.instanceMethod ⟨"SurplusLandModel", "ends", "(II)V"⟩ ∈ tG := tG_of (inT6 (List.mem_of_getElem? (i := 229) rfl)) rfl
theorem tw_1494 : Cond.code ⟨"SurplusLandModel", "ends", "(II)V"⟩ prog_14_method_53_code 3 (none) ∈ tG := tG_of (inT6 (List.mem_of_getElem? (i := 230) rfl)) rfl
theorem tw_1498 : Cond.code ⟨"SurplusLandModel", "right", "(III)I"⟩ prog_14_method_46_code 6 (some .int) ∈ tG := tG_of (inT6 (List.mem_of_getElem? (i := 234) rfl)) rfl
theorem tw_1499 : Cond.constant "SurplusLandModel" 382 (-1000000) ∈ tG := tG_of (inT6 (List.mem_of_getElem? (i := 235) rfl)) rfl
theorem tw_1503 : Cond.code ⟨"SurplusLandModel", "split", "(II)I"⟩ prog_14_method_49_code 3 (some .int) ∈ tG := tG_of (inT6 (List.mem_of_getElem? (i := 239) rfl)) rfl
theorem tw_1504 : Cond.methodLink "SurplusLandModel" 383 ⟨"SurplusLandModel", "isFull", "(I)Z"⟩ ∈ tG := tG_of (inT7 (List.mem_of_getElem? (i := 0) rfl)) rfl
theorem tw_1506 : Cond.instanceMethod ⟨"SurplusLandModel", "isFull", "(I)Z"⟩ ∈ tG := tG_of (inT7 (List.mem_of_getElem? (i := 2) rfl)) rfl
theorem tw_1507 : Cond.code ⟨"SurplusLandModel", "isFull", "(I)Z"⟩ prog_14_method_47_code 2 (some .boolean) ∈ tG := tG_of (inT7 (List.mem_of_getElem? (i := 3) rfl)) rfl
theorem tw_1508 : Cond.methodLink "SurplusLandModel" 386 ⟨"SurplusLandModel", "isPledged", "(I)Z"⟩ ∈ tG := tG_of (inT7 (List.mem_of_getElem? (i := 4) rfl)) rfl
theorem tw_1510 : Cond.instanceMethod ⟨"SurplusLandModel", "isPledged", "(I)Z"⟩ ∈ tG := tG_of (inT7 (List.mem_of_getElem? (i := 6) rfl)) rfl
theorem tw_1511 : Cond.code ⟨"SurplusLandModel", "isPledged", "(I)Z"⟩ prog_14_method_48_code 2 (some .boolean) ∈ tG := tG_of (inT7 (List.mem_of_getElem? (i := 7) rfl)) rfl
theorem tw_1515 : Cond.code ⟨"SurplusLandModel", "give", "(II)I"⟩ prog_14_method_50_code 3 (some .int) ∈ tG := tG_of (inT7 (List.mem_of_getElem? (i := 11) rfl)) rfl
theorem tw_1519 : Cond.code ⟨"SurplusLandModel", "pledge", "(III)J"⟩ prog_14_method_51_code 7 (some .long) ∈ tG := tG_of (inT7 (List.mem_of_getElem? (i := 15) rfl)) rfl
theorem tw_1520 : Cond.constantLong "SurplusLandModel" 389 9 ∈ tG := tG_of (inT7 (List.mem_of_getElem? (i := 16) rfl)) rfl
theorem tw_1521 : Cond.constantLong "SurplusLandModel" 391 (-2) ∈ tG := tG_of (inT7 (List.mem_of_getElem? (i := 17) rfl)) rfl
theorem tw_1522 : Cond.constantLong "SurplusLandModel" 393 (-7) ∈ tG := tG_of (inT7 (List.mem_of_getElem? (i := 18) rfl)) rfl
theorem tw_1523 : Cond.constantLong "SurplusLandModel" 395 (-8) ∈ tG := tG_of (inT7 (List.mem_of_getElem? (i := 19) rfl)) rfl
theorem tw_1527 : Cond.code ⟨"SurplusLandModel", "pay", "(II)J"⟩ prog_14_method_55_code 5 (some .long) ∈ tG := tG_of (inT7 (List.mem_of_getElem? (i := 23) rfl)) rfl
theorem tw_1528 : Cond.methodLink "SurplusLandModel" 400 ⟨"SurplusLandModel", "isLoan", "(II)Z"⟩ ∈ tG := tG_of (inT7 (List.mem_of_getElem? (i := 24) rfl)) rfl
theorem tw_1530 : Cond.instanceMethod ⟨"SurplusLandModel", "isLoan", "(II)Z"⟩ ∈ tG := tG_of (inT7 (List.mem_of_getElem? (i := 26) rfl)) rfl
theorem tw_1531 : Cond.code ⟨"SurplusLandModel", "isLoan", "(II)Z"⟩ prog_14_method_52_code 3 (some .boolean) ∈ tG := tG_of (inT7 (List.mem_of_getElem? (i := 27) rfl)) rfl
theorem tw_1535 : Cond.code ⟨"SurplusLandModel", "redeem", "(I)I"⟩ prog_14_method_57_code 3 (some .int) ∈ tG := tG_of (inT7 (List.mem_of_getElem? (i := 31) rfl)) rfl
theorem tw_1539 : Cond.code ⟨"SurplusLandModel", "receipt", "(II)I"⟩ prog_14_method_58_code 3 (some .int) ∈ tG := tG_of (inT7 (List.mem_of_getElem? (i := 35) rfl)) rfl
theorem tw_1543 : Cond.code ⟨"SurplusLandModel", "owed", "(II)J"⟩ prog_14_method_59_code 3 (some .long) ∈ tG := tG_of (inT7 (List.mem_of_getElem? (i := 39) rfl)) rfl
theorem tw_1547 : Cond.code ⟨"SurplusLandModel", "growerOf", "(II)I"⟩ prog_14_method_60_code 3 (some .int) ∈ tG := tG_of (inT7 (List.mem_of_getElem? (i := 43) rfl)) rfl
theorem tw_1551 : Cond.code ⟨"SurplusLandModel", "money", "(I)J"⟩ prog_14_method_61_code 2 (some .long) ∈ tG := tG_of (inT7 (List.mem_of_getElem? (i := 47) rfl)) rfl
theorem tw_1552 : Cond.constantLong "SurplusLandModel" 410 12 ∈ tG := tG_of (inT7 (List.mem_of_getElem? (i := 48) rfl)) rfl
theorem tw_1553 : Cond.constantLong "SurplusLandModel" 412 14 ∈ tG := tG_of (inT7 (List.mem_of_getElem? (i := 49) rfl)) rfl
theorem tw_1557 : Cond.code ⟨"SurplusLandModel", "count", "(I)I"⟩ prog_14_method_62_code 4 (some .int) ∈ tG := tG_of (inT7 (List.mem_of_getElem? (i := 53) rfl)) rfl
theorem tw_1561 : Cond.code ⟨"SurplusLandModel", "sum", "(I)J"⟩ prog_14_method_63_code 2 (some .long) ∈ tG := tG_of (inT7 (List.mem_of_getElem? (i := 57) rfl)) rfl
theorem tw_1565 : Cond.code ⟨"SurplusLandModel", "gains", "(II)J"⟩ prog_14_method_64_code 6 (some .long) ∈ tG := tG_of (inT7 (List.mem_of_getElem? (i := 61) rfl)) rfl
theorem tw_1569 : Cond.code ⟨"SurplusLandModel", "beside", "(I)J"⟩ prog_14_method_65_code 5 (some .long) ∈ tG := tG_of (inT7 (List.mem_of_getElem? (i := 65) rfl)) rfl
theorem tw_1570 : Cond.constantLong "SurplusLandModel" 414 4 ∈ tG := tG_of (inT7 (List.mem_of_getElem? (i := 66) rfl)) rfl
theorem tw_1571 : Cond.constantLong "SurplusLandModel" 416 (-4) ∈ tG := tG_of (inT7 (List.mem_of_getElem? (i := 67) rfl)) rfl
theorem tw_1575 : Cond.code ⟨"SurplusLandModel", "light", "(IIII)I"⟩ prog_14_method_68_code 6 (some .int) ∈ tG := tG_of (inT7 (List.mem_of_getElem? (i := 71) rfl)) rfl
theorem tw_1576 : Cond.constantLong "SurplusLandModel" 424 60 ∈ tG := tG_of (inT7 (List.mem_of_getElem? (i := 72) rfl)) rfl
theorem tw_1577 : Cond.methodLink "SurplusLandModel" 426 ⟨"SurplusLandModel", "isNear", "(IIIII)Z"⟩ ∈ tG := tG_of (inT7 (List.mem_of_getElem? (i := 73) rfl)) rfl
theorem tw_1579 : Cond.instanceMethod ⟨"SurplusLandModel", "isNear", "(IIIII)Z"⟩ ∈ tG := tG_of (inT7 (List.mem_of_getElem? (i := 75) rfl)) rfl
theorem tw_1580 : Cond.code ⟨"SurplusLandModel", "isNear", "(IIIII)Z"⟩ prog_14_method_67_code 9 (some .boolean) ∈ tG := tG_of (inT7 (List.mem_of_getElem? (i := 76) rfl)) rfl
theorem tw_1581 : Cond.methodLink "SurplusLandModel" 418 ⟨"SurplusLandModel", "ways", "(II)J"⟩ ∈ tG := tG_of (inT7 (List.mem_of_getElem? (i := 77) rfl)) rfl
theorem tw_1583 : Cond.instanceMethod ⟨"SurplusLandModel", "ways", "(II)J"⟩ ∈ tG := tG_of (inT7 (List.mem_of_getElem? (i := 79) rfl)) rfl
theorem tw_1584 : Cond.code ⟨"SurplusLandModel", "ways", "(II)J"⟩ prog_14_method_66_code 5 (some .long) ∈ tG := tG_of (inT7 (List.mem_of_getElem? (i := 80) rfl)) rfl
theorem tw_1585 : Cond.constantLong "SurplusLandModel" 422 20 ∈ tG := tG_of (inT7 (List.mem_of_getElem? (i := 81) rfl)) rfl
