/-! ===== the law, block by block ===== -/
theorem tw_85 : Cond.classLink "SurplusLandLaw" 7 "SurplusLand" ∈ tG := tG_of (inT1 (List.mem_of_getElem? (i := 21) rfl)) rfl
theorem tw_86 : Cond.instantiable "SurplusLand" 8 ∈ tG := tG_of (inT1 (List.mem_of_getElem? (i := 22) rfl)) rfl
theorem tw_87 : Cond.methodLink "SurplusLandLaw" 9 ⟨"SurplusLand", "<init>", "()V"⟩ ∈ tG := tG_of (inT1 (List.mem_of_getElem? (i := 23) rfl)) rfl
theorem tw_88 : Cond.instanceMethod ⟨"SurplusLand", "<init>", "()V"⟩ ∈ tG := tG_of (inT1 (List.mem_of_getElem? (i := 24) rfl)) rfl
theorem tw_465 : Cond.methodLink "SurplusLandLaw" 13 ⟨"SurplusLand", "terms", "(IIIIIII)I"⟩ ∈ tG := tG_of (inT2 (List.mem_of_getElem? (i := 161) rfl)) rfl
theorem tw_466 : Cond.instanceMethod ⟨"SurplusLand", "terms", "(IIIIIII)I"⟩ ∈ tG := tG_of (inT2 (List.mem_of_getElem? (i := 162) rfl)) rfl
theorem tw_467 : Cond.selects "SurplusLand" ⟨"SurplusLand", "terms", "(IIIIIII)I"⟩ ⟨"SurplusLand", "terms", "(IIIIIII)I"⟩ ∈ tG := tG_of (inT2 (List.mem_of_getElem? (i := 163) rfl)) rfl
theorem tw_474 : Cond.methodLink "SurplusLandLaw" 18 ⟨"SurplusLand", "bank", "(III)I"⟩ ∈ tG := tG_of (inT2 (List.mem_of_getElem? (i := 170) rfl)) rfl
theorem tw_475 : Cond.instanceMethod ⟨"SurplusLand", "bank", "(III)I"⟩ ∈ tG := tG_of (inT2 (List.mem_of_getElem? (i := 171) rfl)) rfl
theorem tw_476 : Cond.selects "SurplusLand" ⟨"SurplusLand", "bank", "(III)I"⟩ ⟨"SurplusLand", "bank", "(III)I"⟩ ∈ tG := tG_of (inT2 (List.mem_of_getElem? (i := 172) rfl)) rfl
theorem tw_478 : Cond.methodLink "SurplusLandLaw" 23 ⟨"SurplusLand", "grower", "(II)I"⟩ ∈ tG := tG_of (inT2 (List.mem_of_getElem? (i := 174) rfl)) rfl
theorem tw_479 : Cond.instanceMethod ⟨"SurplusLand", "grower", "(II)I"⟩ ∈ tG := tG_of (inT2 (List.mem_of_getElem? (i := 175) rfl)) rfl
theorem tw_480 : Cond.selects "SurplusLand" ⟨"SurplusLand", "grower", "(II)I"⟩ ⟨"SurplusLand", "grower", "(II)I"⟩ ∈ tG := tG_of (inT2 (List.mem_of_getElem? (i := 176) rfl)) rfl
theorem tw_491 : Cond.methodLink "SurplusLandLaw" 28 ⟨"SurplusLand", "feed", "(IIIII)I"⟩ ∈ tG := tG_of (inT2 (List.mem_of_getElem? (i := 187) rfl)) rfl
theorem tw_492 : Cond.instanceMethod ⟨"SurplusLand", "feed", "(IIIII)I"⟩ ∈ tG := tG_of (inT2 (List.mem_of_getElem? (i := 188) rfl)) rfl
theorem tw_493 : Cond.selects "SurplusLand" ⟨"SurplusLand", "feed", "(IIIII)I"⟩ ⟨"SurplusLand", "feed", "(IIIII)I"⟩ ∈ tG := tG_of (inT2 (List.mem_of_getElem? (i := 189) rfl)) rfl
theorem tw_499 : Cond.methodLink "SurplusLandLaw" 33 ⟨"SurplusLand", "end", "(I)I"⟩ ∈ tG := tG_of (inT2 (List.mem_of_getElem? (i := 195) rfl)) rfl
theorem tw_500 : Cond.instanceMethod ⟨"SurplusLand", "end", "(I)I"⟩ ∈ tG := tG_of (inT2 (List.mem_of_getElem? (i := 196) rfl)) rfl
theorem tw_501 : Cond.selects "SurplusLand" ⟨"SurplusLand", "end", "(I)I"⟩ ⟨"SurplusLand", "end", "(I)I"⟩ ∈ tG := tG_of (inT2 (List.mem_of_getElem? (i := 197) rfl)) rfl
theorem tw_503 : Cond.methodLink "SurplusLandLaw" 38 ⟨"SurplusLand", "law", "(II)I"⟩ ∈ tG := tG_of (inT2 (List.mem_of_getElem? (i := 199) rfl)) rfl
theorem tw_504 : Cond.instanceMethod ⟨"SurplusLand", "law", "(II)I"⟩ ∈ tG := tG_of (inT2 (List.mem_of_getElem? (i := 200) rfl)) rfl
theorem tw_505 : Cond.selects "SurplusLand" ⟨"SurplusLand", "law", "(II)I"⟩ ⟨"SurplusLand", "law", "(II)I"⟩ ∈ tG := tG_of (inT2 (List.mem_of_getElem? (i := 201) rfl)) rfl
theorem tw_657 : Cond.methodLink "SurplusLandLaw" 42 ⟨"SurplusLand", "fault", "()I"⟩ ∈ tG := tG_of (inT3 (List.mem_of_getElem? (i := 113) rfl)) rfl
theorem tw_658 : Cond.instanceMethod ⟨"SurplusLand", "fault", "()I"⟩ ∈ tG := tG_of (inT3 (List.mem_of_getElem? (i := 114) rfl)) rfl
theorem tw_659 : Cond.selects "SurplusLand" ⟨"SurplusLand", "fault", "()I"⟩ ⟨"SurplusLand", "fault", "()I"⟩ ∈ tG := tG_of (inT3 (List.mem_of_getElem? (i := 115) rfl)) rfl
theorem tw_661 : Cond.methodLink "SurplusLandLaw" 47 ⟨"SurplusLand", "crop", "(II)I"⟩ ∈ tG := tG_of (inT3 (List.mem_of_getElem? (i := 117) rfl)) rfl
theorem tw_662 : Cond.instanceMethod ⟨"SurplusLand", "crop", "(II)I"⟩ ∈ tG := tG_of (inT3 (List.mem_of_getElem? (i := 118) rfl)) rfl
theorem tw_663 : Cond.selects "SurplusLand" ⟨"SurplusLand", "crop", "(II)I"⟩ ⟨"SurplusLand", "crop", "(II)I"⟩ ∈ tG := tG_of (inT3 (List.mem_of_getElem? (i := 119) rfl)) rfl
theorem tw_675 : Cond.methodLink "SurplusLandLaw" 51 ⟨"SurplusLand", "crops", "(I)I"⟩ ∈ tG := tG_of (inT3 (List.mem_of_getElem? (i := 131) rfl)) rfl
theorem tw_676 : Cond.instanceMethod ⟨"SurplusLand", "crops", "(I)I"⟩ ∈ tG := tG_of (inT3 (List.mem_of_getElem? (i := 132) rfl)) rfl
theorem tw_677 : Cond.selects "SurplusLand" ⟨"SurplusLand", "crops", "(I)I"⟩ ⟨"SurplusLand", "crops", "(I)I"⟩ ∈ tG := tG_of (inT3 (List.mem_of_getElem? (i := 133) rfl)) rfl
theorem tw_689 : Cond.methodLink "SurplusLandLaw" 55 ⟨"SurplusLand", "go", "(I)I"⟩ ∈ tG := tG_of (inT3 (List.mem_of_getElem? (i := 145) rfl)) rfl
theorem tw_690 : Cond.instanceMethod ⟨"SurplusLand", "go", "(I)I"⟩ ∈ tG := tG_of (inT3 (List.mem_of_getElem? (i := 146) rfl)) rfl
theorem tw_691 : Cond.selects "SurplusLand" ⟨"SurplusLand", "go", "(I)I"⟩ ⟨"SurplusLand", "go", "(I)I"⟩ ∈ tG := tG_of (inT3 (List.mem_of_getElem? (i := 147) rfl)) rfl
theorem tw_890 : Cond.methodLink "SurplusLandLaw" 59 ⟨"SurplusLand", "right", "(III)I"⟩ ∈ tG := tG_of (inT4 (List.mem_of_getElem? (i := 106) rfl)) rfl
theorem tw_891 : Cond.instanceMethod ⟨"SurplusLand", "right", "(III)I"⟩ ∈ tG := tG_of (inT4 (List.mem_of_getElem? (i := 107) rfl)) rfl
theorem tw_892 : Cond.selects "SurplusLand" ⟨"SurplusLand", "right", "(III)I"⟩ ⟨"SurplusLand", "right", "(III)I"⟩ ∈ tG := tG_of (inT4 (List.mem_of_getElem? (i := 108) rfl)) rfl
theorem tw_899 : Cond.methodLink "SurplusLandLaw" 63 ⟨"SurplusLand", "split", "(II)I"⟩ ∈ tG := tG_of (inT4 (List.mem_of_getElem? (i := 115) rfl)) rfl
theorem tw_900 : Cond.instanceMethod ⟨"SurplusLand", "split", "(II)I"⟩ ∈ tG := tG_of (inT4 (List.mem_of_getElem? (i := 116) rfl)) rfl
theorem tw_901 : Cond.selects "SurplusLand" ⟨"SurplusLand", "split", "(II)I"⟩ ⟨"SurplusLand", "split", "(II)I"⟩ ∈ tG := tG_of (inT4 (List.mem_of_getElem? (i := 117) rfl)) rfl
theorem tw_914 : Cond.methodLink "SurplusLandLaw" 67 ⟨"SurplusLand", "give", "(II)I"⟩ ∈ tG := tG_of (inT4 (List.mem_of_getElem? (i := 130) rfl)) rfl
theorem tw_915 : Cond.instanceMethod ⟨"SurplusLand", "give", "(II)I"⟩ ∈ tG := tG_of (inT4 (List.mem_of_getElem? (i := 131) rfl)) rfl
theorem tw_916 : Cond.selects "SurplusLand" ⟨"SurplusLand", "give", "(II)I"⟩ ⟨"SurplusLand", "give", "(II)I"⟩ ∈ tG := tG_of (inT4 (List.mem_of_getElem? (i := 132) rfl)) rfl
theorem tw_918 : Cond.methodLink "SurplusLandLaw" 71 ⟨"SurplusLand", "pledge", "(III)J"⟩ ∈ tG := tG_of (inT4 (List.mem_of_getElem? (i := 134) rfl)) rfl
theorem tw_919 : Cond.instanceMethod ⟨"SurplusLand", "pledge", "(III)J"⟩ ∈ tG := tG_of (inT4 (List.mem_of_getElem? (i := 135) rfl)) rfl
theorem tw_920 : Cond.selects "SurplusLand" ⟨"SurplusLand", "pledge", "(III)J"⟩ ⟨"SurplusLand", "pledge", "(III)J"⟩ ∈ tG := tG_of (inT4 (List.mem_of_getElem? (i := 136) rfl)) rfl
theorem tw_960 : Cond.methodLink "SurplusLandLaw" 76 ⟨"SurplusLand", "pay", "(II)J"⟩ ∈ tG := tG_of (inT4 (List.mem_of_getElem? (i := 176) rfl)) rfl
theorem tw_961 : Cond.instanceMethod ⟨"SurplusLand", "pay", "(II)J"⟩ ∈ tG := tG_of (inT4 (List.mem_of_getElem? (i := 177) rfl)) rfl
theorem tw_962 : Cond.selects "SurplusLand" ⟨"SurplusLand", "pay", "(II)J"⟩ ⟨"SurplusLand", "pay", "(II)J"⟩ ∈ tG := tG_of (inT4 (List.mem_of_getElem? (i := 178) rfl)) rfl
theorem tw_970 : Cond.methodLink "SurplusLandLaw" 81 ⟨"SurplusLand", "redeem", "(I)I"⟩ ∈ tG := tG_of (inT4 (List.mem_of_getElem? (i := 186) rfl)) rfl
theorem tw_971 : Cond.instanceMethod ⟨"SurplusLand", "redeem", "(I)I"⟩ ∈ tG := tG_of (inT4 (List.mem_of_getElem? (i := 187) rfl)) rfl
theorem tw_972 : Cond.selects "SurplusLand" ⟨"SurplusLand", "redeem", "(I)I"⟩ ⟨"SurplusLand", "redeem", "(I)I"⟩ ∈ tG := tG_of (inT4 (List.mem_of_getElem? (i := 188) rfl)) rfl
theorem tw_974 : Cond.methodLink "SurplusLandLaw" 85 ⟨"SurplusLand", "receipt", "(II)I"⟩ ∈ tG := tG_of (inT4 (List.mem_of_getElem? (i := 190) rfl)) rfl
theorem tw_975 : Cond.instanceMethod ⟨"SurplusLand", "receipt", "(II)I"⟩ ∈ tG := tG_of (inT4 (List.mem_of_getElem? (i := 191) rfl)) rfl
theorem tw_976 : Cond.selects "SurplusLand" ⟨"SurplusLand", "receipt", "(II)I"⟩ ⟨"SurplusLand", "receipt", "(II)I"⟩ ∈ tG := tG_of (inT4 (List.mem_of_getElem? (i := 192) rfl)) rfl
theorem tw_978 : Cond.methodLink "SurplusLandLaw" 89 ⟨"SurplusLand", "owed", "(II)J"⟩ ∈ tG := tG_of (inT4 (List.mem_of_getElem? (i := 194) rfl)) rfl
theorem tw_979 : Cond.instanceMethod ⟨"SurplusLand", "owed", "(II)J"⟩ ∈ tG := tG_of (inT4 (List.mem_of_getElem? (i := 195) rfl)) rfl
theorem tw_980 : Cond.selects "SurplusLand" ⟨"SurplusLand", "owed", "(II)J"⟩ ⟨"SurplusLand", "owed", "(II)J"⟩ ∈ tG := tG_of (inT4 (List.mem_of_getElem? (i := 196) rfl)) rfl
theorem tw_982 : Cond.methodLink "SurplusLandLaw" 93 ⟨"SurplusLand", "growerOf", "(II)I"⟩ ∈ tG := tG_of (inT4 (List.mem_of_getElem? (i := 198) rfl)) rfl
theorem tw_983 : Cond.instanceMethod ⟨"SurplusLand", "growerOf", "(II)I"⟩ ∈ tG := tG_of (inT4 (List.mem_of_getElem? (i := 199) rfl)) rfl
theorem tw_984 : Cond.selects "SurplusLand" ⟨"SurplusLand", "growerOf", "(II)I"⟩ ⟨"SurplusLand", "growerOf", "(II)I"⟩ ∈ tG := tG_of (inT4 (List.mem_of_getElem? (i := 200) rfl)) rfl
theorem tw_991 : Cond.methodLink "SurplusLandLaw" 97 ⟨"SurplusLand", "money", "(I)J"⟩ ∈ tG := tG_of (inT4 (List.mem_of_getElem? (i := 207) rfl)) rfl
theorem tw_992 : Cond.instanceMethod ⟨"SurplusLand", "money", "(I)J"⟩ ∈ tG := tG_of (inT4 (List.mem_of_getElem? (i := 208) rfl)) rfl
theorem tw_993 : Cond.selects "SurplusLand" ⟨"SurplusLand", "money", "(I)J"⟩ ⟨"SurplusLand", "money", "(I)J"⟩ ∈ tG := tG_of (inT4 (List.mem_of_getElem? (i := 209) rfl)) rfl
theorem tw_995 : Cond.methodLink "SurplusLandLaw" 102 ⟨"SurplusLand", "count", "(I)I"⟩ ∈ tG := tG_of (inT4 (List.mem_of_getElem? (i := 211) rfl)) rfl
theorem tw_996 : Cond.instanceMethod ⟨"SurplusLand", "count", "(I)I"⟩ ∈ tG := tG_of (inT4 (List.mem_of_getElem? (i := 212) rfl)) rfl
theorem tw_997 : Cond.selects "SurplusLand" ⟨"SurplusLand", "count", "(I)I"⟩ ⟨"SurplusLand", "count", "(I)I"⟩ ∈ tG := tG_of (inT4 (List.mem_of_getElem? (i := 213) rfl)) rfl
theorem tw_1005 : Cond.methodLink "SurplusLandLaw" 106 ⟨"SurplusLand", "sum", "(I)J"⟩ ∈ tG := tG_of (inT4 (List.mem_of_getElem? (i := 221) rfl)) rfl
theorem tw_1006 : Cond.instanceMethod ⟨"SurplusLand", "sum", "(I)J"⟩ ∈ tG := tG_of (inT4 (List.mem_of_getElem? (i := 222) rfl)) rfl
theorem tw_1007 : Cond.selects "SurplusLand" ⟨"SurplusLand", "sum", "(I)J"⟩ ⟨"SurplusLand", "sum", "(I)J"⟩ ∈ tG := tG_of (inT4 (List.mem_of_getElem? (i := 223) rfl)) rfl
theorem tw_1009 : Cond.methodLink "SurplusLandLaw" 110 ⟨"SurplusLand", "gains", "(II)J"⟩ ∈ tG := tG_of (inT4 (List.mem_of_getElem? (i := 225) rfl)) rfl
theorem tw_1010 : Cond.instanceMethod ⟨"SurplusLand", "gains", "(II)J"⟩ ∈ tG := tG_of (inT4 (List.mem_of_getElem? (i := 226) rfl)) rfl
theorem tw_1011 : Cond.selects "SurplusLand" ⟨"SurplusLand", "gains", "(II)J"⟩ ⟨"SurplusLand", "gains", "(II)J"⟩ ∈ tG := tG_of (inT4 (List.mem_of_getElem? (i := 227) rfl)) rfl
theorem tw_1013 : Cond.methodLink "SurplusLandLaw" 114 ⟨"SurplusLand", "beside", "(I)J"⟩ ∈ tG := tG_of (inT4 (List.mem_of_getElem? (i := 229) rfl)) rfl
theorem tw_1014 : Cond.instanceMethod ⟨"SurplusLand", "beside", "(I)J"⟩ ∈ tG := tG_of (inT4 (List.mem_of_getElem? (i := 230) rfl)) rfl
theorem tw_1015 : Cond.selects "SurplusLand" ⟨"SurplusLand", "beside", "(I)J"⟩ ⟨"SurplusLand", "beside", "(I)J"⟩ ∈ tG := tG_of (inT4 (List.mem_of_getElem? (i := 231) rfl)) rfl
theorem tw_1033 : Cond.methodLink "SurplusLandLaw" 118 ⟨"SurplusLand", "light", "(IIII)I"⟩ ∈ tG := tG_of (inT5 (List.mem_of_getElem? (i := 9) rfl)) rfl
theorem tw_1034 : Cond.instanceMethod ⟨"SurplusLand", "light", "(IIII)I"⟩ ∈ tG := tG_of (inT5 (List.mem_of_getElem? (i := 10) rfl)) rfl
theorem tw_1035 : Cond.selects "SurplusLand" ⟨"SurplusLand", "light", "(IIII)I"⟩ ⟨"SurplusLand", "light", "(IIII)I"⟩ ∈ tG := tG_of (inT5 (List.mem_of_getElem? (i := 11) rfl)) rfl
theorem tw_1046 : Cond.methodLink "SurplusLandLaw" 123 ⟨"SurplusLand", "row", "(III)I"⟩ ∈ tG := tG_of (inT5 (List.mem_of_getElem? (i := 22) rfl)) rfl
theorem tw_1047 : Cond.instanceMethod ⟨"SurplusLand", "row", "(III)I"⟩ ∈ tG := tG_of (inT5 (List.mem_of_getElem? (i := 23) rfl)) rfl
theorem tw_1048 : Cond.selects "SurplusLand" ⟨"SurplusLand", "row", "(III)I"⟩ ⟨"SurplusLand", "row", "(III)I"⟩ ∈ tG := tG_of (inT5 (List.mem_of_getElem? (i := 24) rfl)) rfl
theorem tw_1054 : Cond.methodLink "SurplusLandLaw" 127 ⟨"SurplusLand", "tear", "(I)Z"⟩ ∈ tG := tG_of (inT5 (List.mem_of_getElem? (i := 30) rfl)) rfl
theorem tw_1055 : Cond.instanceMethod ⟨"SurplusLand", "tear", "(I)Z"⟩ ∈ tG := tG_of (inT5 (List.mem_of_getElem? (i := 31) rfl)) rfl
theorem tw_1056 : Cond.selects "SurplusLand" ⟨"SurplusLand", "tear", "(I)Z"⟩ ⟨"SurplusLand", "tear", "(I)Z"⟩ ∈ tG := tG_of (inT5 (List.mem_of_getElem? (i := 32) rfl)) rfl
theorem tw_1058 : Cond.methodLink "SurplusLandLaw" 134 ⟨"SurplusLand", "write", "(IIJ)I"⟩ ∈ tG := tG_of (inT5 (List.mem_of_getElem? (i := 34) rfl)) rfl
theorem tw_1059 : Cond.instanceMethod ⟨"SurplusLand", "write", "(IIJ)I"⟩ ∈ tG := tG_of (inT5 (List.mem_of_getElem? (i := 35) rfl)) rfl
theorem tw_1060 : Cond.selects "SurplusLand" ⟨"SurplusLand", "write", "(IIJ)I"⟩ ⟨"SurplusLand", "write", "(IIJ)I"⟩ ∈ tG := tG_of (inT5 (List.mem_of_getElem? (i := 36) rfl)) rfl
theorem tw_1066 : Cond.methodLink "SurplusLandLaw" 139 ⟨"SurplusLand", "paste", "(IIIII)I"⟩ ∈ tG := tG_of (inT5 (List.mem_of_getElem? (i := 42) rfl)) rfl
theorem tw_1067 : Cond.instanceMethod ⟨"SurplusLand", "paste", "(IIIII)I"⟩ ∈ tG := tG_of (inT5 (List.mem_of_getElem? (i := 43) rfl)) rfl
theorem tw_1068 : Cond.selects "SurplusLand" ⟨"SurplusLand", "paste", "(IIIII)I"⟩ ⟨"SurplusLand", "paste", "(IIIII)I"⟩ ∈ tG := tG_of (inT5 (List.mem_of_getElem? (i := 44) rfl)) rfl
theorem tw_1079 : Cond.classLink "SurplusLandLaw" 10 "SurplusLandModel" ∈ tG := tG_of (inT5 (List.mem_of_getElem? (i := 55) rfl)) rfl
theorem tw_1080 : Cond.instantiable "SurplusLandModel" 66 ∈ tG := tG_of (inT5 (List.mem_of_getElem? (i := 56) rfl)) rfl
theorem tw_1081 : Cond.methodLink "SurplusLandLaw" 12 ⟨"SurplusLandModel", "<init>", "()V"⟩ ∈ tG := tG_of (inT5 (List.mem_of_getElem? (i := 57) rfl)) rfl
theorem tw_1082 : Cond.instanceMethod ⟨"SurplusLandModel", "<init>", "()V"⟩ ∈ tG := tG_of (inT5 (List.mem_of_getElem? (i := 58) rfl)) rfl
theorem tw_1284 : Cond.methodLink "SurplusLandLaw" 126 ⟨"SurplusLandModel", "row", "(III)I"⟩ ∈ tG := tG_of (inT6 (List.mem_of_getElem? (i := 20) rfl)) rfl
theorem tw_1285 : Cond.instanceMethod ⟨"SurplusLandModel", "row", "(III)I"⟩ ∈ tG := tG_of (inT6 (List.mem_of_getElem? (i := 21) rfl)) rfl
theorem tw_1286 : Cond.selects "SurplusLandModel" ⟨"SurplusLandModel", "row", "(III)I"⟩ ⟨"SurplusLandModel", "row", "(III)I"⟩ ∈ tG := tG_of (inT6 (List.mem_of_getElem? (i := 22) rfl)) rfl
theorem tw_1295 : Cond.methodLink "SurplusLandLaw" 131 ⟨"SurplusLandModel", "tear", "(I)Z"⟩ ∈ tG := tG_of (inT6 (List.mem_of_getElem? (i := 31) rfl)) rfl
theorem tw_1296 : Cond.instanceMethod ⟨"SurplusLandModel", "tear", "(I)Z"⟩ ∈ tG := tG_of (inT6 (List.mem_of_getElem? (i := 32) rfl)) rfl
theorem tw_1297 : Cond.selects "SurplusLandModel" ⟨"SurplusLandModel", "tear", "(I)Z"⟩ ⟨"SurplusLandModel", "tear", "(I)Z"⟩ ∈ tG := tG_of (inT6 (List.mem_of_getElem? (i := 33) rfl)) rfl
theorem tw_1299 : Cond.methodLink "SurplusLandLaw" 138 ⟨"SurplusLandModel", "write", "(IIJ)I"⟩ ∈ tG := tG_of (inT6 (List.mem_of_getElem? (i := 35) rfl)) rfl
theorem tw_1300 : Cond.instanceMethod ⟨"SurplusLandModel", "write", "(IIJ)I"⟩ ∈ tG := tG_of (inT6 (List.mem_of_getElem? (i := 36) rfl)) rfl
theorem tw_1301 : Cond.selects "SurplusLandModel" ⟨"SurplusLandModel", "write", "(IIJ)I"⟩ ⟨"SurplusLandModel", "write", "(IIJ)I"⟩ ∈ tG := tG_of (inT6 (List.mem_of_getElem? (i := 37) rfl)) rfl
theorem tw_1306 : Cond.methodLink "SurplusLandLaw" 142 ⟨"SurplusLandModel", "paste", "(IIIII)I"⟩ ∈ tG := tG_of (inT6 (List.mem_of_getElem? (i := 42) rfl)) rfl
theorem tw_1307 : Cond.instanceMethod ⟨"SurplusLandModel", "paste", "(IIIII)I"⟩ ∈ tG := tG_of (inT6 (List.mem_of_getElem? (i := 43) rfl)) rfl
theorem tw_1308 : Cond.selects "SurplusLandModel" ⟨"SurplusLandModel", "paste", "(IIIII)I"⟩ ⟨"SurplusLandModel", "paste", "(IIIII)I"⟩ ∈ tG := tG_of (inT6 (List.mem_of_getElem? (i := 44) rfl)) rfl
theorem tw_1310 : Cond.methodLink "SurplusLandLaw" 17 ⟨"SurplusLandModel", "terms", "(IIIIIII)I"⟩ ∈ tG := tG_of (inT6 (List.mem_of_getElem? (i := 46) rfl)) rfl
theorem tw_1311 : Cond.instanceMethod ⟨"SurplusLandModel", "terms", "(IIIIIII)I"⟩ ∈ tG := tG_of (inT6 (List.mem_of_getElem? (i := 47) rfl)) rfl
theorem tw_1312 : Cond.selects "SurplusLandModel" ⟨"SurplusLandModel", "terms", "(IIIIIII)I"⟩ ⟨"SurplusLandModel", "terms", "(IIIIIII)I"⟩ ∈ tG := tG_of (inT6 (List.mem_of_getElem? (i := 48) rfl)) rfl
theorem tw_1320 : Cond.methodLink "SurplusLandLaw" 22 ⟨"SurplusLandModel", "bank", "(III)I"⟩ ∈ tG := tG_of (inT6 (List.mem_of_getElem? (i := 56) rfl)) rfl
theorem tw_1321 : Cond.instanceMethod ⟨"SurplusLandModel", "bank", "(III)I"⟩ ∈ tG := tG_of (inT6 (List.mem_of_getElem? (i := 57) rfl)) rfl
theorem tw_1322 : Cond.selects "SurplusLandModel" ⟨"SurplusLandModel", "bank", "(III)I"⟩ ⟨"SurplusLandModel", "bank", "(III)I"⟩ ∈ tG := tG_of (inT6 (List.mem_of_getElem? (i := 58) rfl)) rfl
theorem tw_1325 : Cond.methodLink "SurplusLandLaw" 27 ⟨"SurplusLandModel", "grower", "(II)I"⟩ ∈ tG := tG_of (inT6 (List.mem_of_getElem? (i := 61) rfl)) rfl
theorem tw_1326 : Cond.instanceMethod ⟨"SurplusLandModel", "grower", "(II)I"⟩ ∈ tG := tG_of (inT6 (List.mem_of_getElem? (i := 62) rfl)) rfl
theorem tw_1327 : Cond.selects "SurplusLandModel" ⟨"SurplusLandModel", "grower", "(II)I"⟩ ⟨"SurplusLandModel", "grower", "(II)I"⟩ ∈ tG := tG_of (inT6 (List.mem_of_getElem? (i := 63) rfl)) rfl
theorem tw_1330 : Cond.methodLink "SurplusLandLaw" 32 ⟨"SurplusLandModel", "feed", "(IIIII)I"⟩ ∈ tG := tG_of (inT6 (List.mem_of_getElem? (i := 66) rfl)) rfl
theorem tw_1331 : Cond.instanceMethod ⟨"SurplusLandModel", "feed", "(IIIII)I"⟩ ∈ tG := tG_of (inT6 (List.mem_of_getElem? (i := 67) rfl)) rfl
theorem tw_1332 : Cond.selects "SurplusLandModel" ⟨"SurplusLandModel", "feed", "(IIIII)I"⟩ ⟨"SurplusLandModel", "feed", "(IIIII)I"⟩ ∈ tG := tG_of (inT6 (List.mem_of_getElem? (i := 68) rfl)) rfl
theorem tw_1334 : Cond.methodLink "SurplusLandLaw" 37 ⟨"SurplusLandModel", "end", "(I)I"⟩ ∈ tG := tG_of (inT6 (List.mem_of_getElem? (i := 70) rfl)) rfl
theorem tw_1335 : Cond.instanceMethod ⟨"SurplusLandModel", "end", "(I)I"⟩ ∈ tG := tG_of (inT6 (List.mem_of_getElem? (i := 71) rfl)) rfl
theorem tw_1336 : Cond.selects "SurplusLandModel" ⟨"SurplusLandModel", "end", "(I)I"⟩ ⟨"SurplusLandModel", "end", "(I)I"⟩ ∈ tG := tG_of (inT6 (List.mem_of_getElem? (i := 72) rfl)) rfl
theorem tw_1338 : Cond.methodLink "SurplusLandLaw" 41 ⟨"SurplusLandModel", "law", "(II)I"⟩ ∈ tG := tG_of (inT6 (List.mem_of_getElem? (i := 74) rfl)) rfl
theorem tw_1339 : Cond.instanceMethod ⟨"SurplusLandModel", "law", "(II)I"⟩ ∈ tG := tG_of (inT6 (List.mem_of_getElem? (i := 75) rfl)) rfl
theorem tw_1340 : Cond.selects "SurplusLandModel" ⟨"SurplusLandModel", "law", "(II)I"⟩ ⟨"SurplusLandModel", "law", "(II)I"⟩ ∈ tG := tG_of (inT6 (List.mem_of_getElem? (i := 76) rfl)) rfl
theorem tw_1420 : Cond.methodLink "SurplusLandLaw" 46 ⟨"SurplusLandModel", "fault", "()I"⟩ ∈ tG := tG_of (inT6 (List.mem_of_getElem? (i := 156) rfl)) rfl
theorem tw_1421 : Cond.instanceMethod ⟨"SurplusLandModel", "fault", "()I"⟩ ∈ tG := tG_of (inT6 (List.mem_of_getElem? (i := 157) rfl)) rfl
theorem tw_1422 : Cond.selects "SurplusLandModel" ⟨"SurplusLandModel", "fault", "()I"⟩ ⟨"SurplusLandModel", "fault", "()I"⟩ ∈ tG := tG_of (inT6 (List.mem_of_getElem? (i := 158) rfl)) rfl
theorem tw_1424 : Cond.methodLink "SurplusLandLaw" 50 ⟨"SurplusLandModel", "crop", "(II)I"⟩ ∈ tG := tG_of (inT6 (List.mem_of_getElem? (i := 160) rfl)) rfl
theorem tw_1425 : Cond.instanceMethod ⟨"SurplusLandModel", "crop", "(II)I"⟩ ∈ tG := tG_of (inT6 (List.mem_of_getElem? (i := 161) rfl)) rfl
theorem tw_1426 : Cond.selects "SurplusLandModel" ⟨"SurplusLandModel", "crop", "(II)I"⟩ ⟨"SurplusLandModel", "crop", "(II)I"⟩ ∈ tG := tG_of (inT6 (List.mem_of_getElem? (i := 162) rfl)) rfl
theorem tw_1433 : Cond.methodLink "SurplusLandLaw" 54 ⟨"SurplusLandModel", "crops", "(I)I"⟩ ∈ tG := tG_of (inT6 (List.mem_of_getElem? (i := 169) rfl)) rfl
theorem tw_1434 : Cond.instanceMethod ⟨"SurplusLandModel", "crops", "(I)I"⟩ ∈ tG := tG_of (inT6 (List.mem_of_getElem? (i := 170) rfl)) rfl
theorem tw_1435 : Cond.selects "SurplusLandModel" ⟨"SurplusLandModel", "crops", "(I)I"⟩ ⟨"SurplusLandModel", "crops", "(I)I"⟩ ∈ tG := tG_of (inT6 (List.mem_of_getElem? (i := 171) rfl)) rfl
theorem tw_1437 : Cond.methodLink "SurplusLandLaw" 58 ⟨"SurplusLandModel", "go", "(I)I"⟩ ∈ tG := tG_of (inT6 (List.mem_of_getElem? (i := 173) rfl)) rfl
theorem tw_1438 : Cond.instanceMethod ⟨"SurplusLandModel", "go", "(I)I"⟩ ∈ tG := tG_of (inT6 (List.mem_of_getElem? (i := 174) rfl)) rfl
theorem tw_1439 : Cond.selects "SurplusLandModel" ⟨"SurplusLandModel", "go", "(I)I"⟩ ⟨"SurplusLandModel", "go", "(I)I"⟩ ∈ tG := tG_of (inT6 (List.mem_of_getElem? (i := 175) rfl)) rfl
theorem tw_1495 : Cond.methodLink "SurplusLandLaw" 62 ⟨"SurplusLandModel", "right", "(III)I"⟩ ∈ tG := tG_of (inT6 (List.mem_of_getElem? (i := 231) rfl)) rfl
theorem tw_1496 : Cond.instanceMethod ⟨"SurplusLandModel", "right", "(III)I"⟩ ∈ tG := tG_of (inT6 (List.mem_of_getElem? (i := 232) rfl)) rfl
theorem tw_1497 : Cond.selects "SurplusLandModel" ⟨"SurplusLandModel", "right", "(III)I"⟩ ⟨"SurplusLandModel", "right", "(III)I"⟩ ∈ tG := tG_of (inT6 (List.mem_of_getElem? (i := 233) rfl)) rfl
theorem tw_1500 : Cond.methodLink "SurplusLandLaw" 66 ⟨"SurplusLandModel", "split", "(II)I"⟩ ∈ tG := tG_of (inT6 (List.mem_of_getElem? (i := 236) rfl)) rfl
theorem tw_1501 : Cond.instanceMethod ⟨"SurplusLandModel", "split", "(II)I"⟩ ∈ tG := tG_of (inT6 (List.mem_of_getElem? (i := 237) rfl)) rfl
theorem tw_1502 : Cond.selects "SurplusLandModel" ⟨"SurplusLandModel", "split", "(II)I"⟩ ⟨"SurplusLandModel", "split", "(II)I"⟩ ∈ tG := tG_of (inT6 (List.mem_of_getElem? (i := 238) rfl)) rfl
theorem tw_1512 : Cond.methodLink "SurplusLandLaw" 70 ⟨"SurplusLandModel", "give", "(II)I"⟩ ∈ tG := tG_of (inT7 (List.mem_of_getElem? (i := 8) rfl)) rfl
theorem tw_1513 : Cond.instanceMethod ⟨"SurplusLandModel", "give", "(II)I"⟩ ∈ tG := tG_of (inT7 (List.mem_of_getElem? (i := 9) rfl)) rfl
theorem tw_1514 : Cond.selects "SurplusLandModel" ⟨"SurplusLandModel", "give", "(II)I"⟩ ⟨"SurplusLandModel", "give", "(II)I"⟩ ∈ tG := tG_of (inT7 (List.mem_of_getElem? (i := 10) rfl)) rfl
theorem tw_1516 : Cond.methodLink "SurplusLandLaw" 75 ⟨"SurplusLandModel", "pledge", "(III)J"⟩ ∈ tG := tG_of (inT7 (List.mem_of_getElem? (i := 12) rfl)) rfl
theorem tw_1517 : Cond.instanceMethod ⟨"SurplusLandModel", "pledge", "(III)J"⟩ ∈ tG := tG_of (inT7 (List.mem_of_getElem? (i := 13) rfl)) rfl
theorem tw_1518 : Cond.selects "SurplusLandModel" ⟨"SurplusLandModel", "pledge", "(III)J"⟩ ⟨"SurplusLandModel", "pledge", "(III)J"⟩ ∈ tG := tG_of (inT7 (List.mem_of_getElem? (i := 14) rfl)) rfl
theorem tw_1524 : Cond.methodLink "SurplusLandLaw" 80 ⟨"SurplusLandModel", "pay", "(II)J"⟩ ∈ tG := tG_of (inT7 (List.mem_of_getElem? (i := 20) rfl)) rfl
theorem tw_1525 : Cond.instanceMethod ⟨"SurplusLandModel", "pay", "(II)J"⟩ ∈ tG := tG_of (inT7 (List.mem_of_getElem? (i := 21) rfl)) rfl
theorem tw_1526 : Cond.selects "SurplusLandModel" ⟨"SurplusLandModel", "pay", "(II)J"⟩ ⟨"SurplusLandModel", "pay", "(II)J"⟩ ∈ tG := tG_of (inT7 (List.mem_of_getElem? (i := 22) rfl)) rfl
theorem tw_1532 : Cond.methodLink "SurplusLandLaw" 84 ⟨"SurplusLandModel", "redeem", "(I)I"⟩ ∈ tG := tG_of (inT7 (List.mem_of_getElem? (i := 28) rfl)) rfl
theorem tw_1533 : Cond.instanceMethod ⟨"SurplusLandModel", "redeem", "(I)I"⟩ ∈ tG := tG_of (inT7 (List.mem_of_getElem? (i := 29) rfl)) rfl
theorem tw_1534 : Cond.selects "SurplusLandModel" ⟨"SurplusLandModel", "redeem", "(I)I"⟩ ⟨"SurplusLandModel", "redeem", "(I)I"⟩ ∈ tG := tG_of (inT7 (List.mem_of_getElem? (i := 30) rfl)) rfl
theorem tw_1536 : Cond.methodLink "SurplusLandLaw" 88 ⟨"SurplusLandModel", "receipt", "(II)I"⟩ ∈ tG := tG_of (inT7 (List.mem_of_getElem? (i := 32) rfl)) rfl
theorem tw_1537 : Cond.instanceMethod ⟨"SurplusLandModel", "receipt", "(II)I"⟩ ∈ tG := tG_of (inT7 (List.mem_of_getElem? (i := 33) rfl)) rfl
theorem tw_1538 : Cond.selects "SurplusLandModel" ⟨"SurplusLandModel", "receipt", "(II)I"⟩ ⟨"SurplusLandModel", "receipt", "(II)I"⟩ ∈ tG := tG_of (inT7 (List.mem_of_getElem? (i := 34) rfl)) rfl
theorem tw_1540 : Cond.methodLink "SurplusLandLaw" 92 ⟨"SurplusLandModel", "owed", "(II)J"⟩ ∈ tG := tG_of (inT7 (List.mem_of_getElem? (i := 36) rfl)) rfl
theorem tw_1541 : Cond.instanceMethod ⟨"SurplusLandModel", "owed", "(II)J"⟩ ∈ tG := tG_of (inT7 (List.mem_of_getElem? (i := 37) rfl)) rfl
theorem tw_1542 : Cond.selects "SurplusLandModel" ⟨"SurplusLandModel", "owed", "(II)J"⟩ ⟨"SurplusLandModel", "owed", "(II)J"⟩ ∈ tG := tG_of (inT7 (List.mem_of_getElem? (i := 38) rfl)) rfl
theorem tw_1544 : Cond.methodLink "SurplusLandLaw" 96 ⟨"SurplusLandModel", "growerOf", "(II)I"⟩ ∈ tG := tG_of (inT7 (List.mem_of_getElem? (i := 40) rfl)) rfl
theorem tw_1545 : Cond.instanceMethod ⟨"SurplusLandModel", "growerOf", "(II)I"⟩ ∈ tG := tG_of (inT7 (List.mem_of_getElem? (i := 41) rfl)) rfl
theorem tw_1546 : Cond.selects "SurplusLandModel" ⟨"SurplusLandModel", "growerOf", "(II)I"⟩ ⟨"SurplusLandModel", "growerOf", "(II)I"⟩ ∈ tG := tG_of (inT7 (List.mem_of_getElem? (i := 42) rfl)) rfl
theorem tw_1548 : Cond.methodLink "SurplusLandLaw" 101 ⟨"SurplusLandModel", "money", "(I)J"⟩ ∈ tG := tG_of (inT7 (List.mem_of_getElem? (i := 44) rfl)) rfl
theorem tw_1549 : Cond.instanceMethod ⟨"SurplusLandModel", "money", "(I)J"⟩ ∈ tG := tG_of (inT7 (List.mem_of_getElem? (i := 45) rfl)) rfl
theorem tw_1550 : Cond.selects "SurplusLandModel" ⟨"SurplusLandModel", "money", "(I)J"⟩ ⟨"SurplusLandModel", "money", "(I)J"⟩ ∈ tG := tG_of (inT7 (List.mem_of_getElem? (i := 46) rfl)) rfl
theorem tw_1554 : Cond.methodLink "SurplusLandLaw" 105 ⟨"SurplusLandModel", "count", "(I)I"⟩ ∈ tG := tG_of (inT7 (List.mem_of_getElem? (i := 50) rfl)) rfl
theorem tw_1555 : Cond.instanceMethod ⟨"SurplusLandModel", "count", "(I)I"⟩ ∈ tG := tG_of (inT7 (List.mem_of_getElem? (i := 51) rfl)) rfl
theorem tw_1556 : Cond.selects "SurplusLandModel" ⟨"SurplusLandModel", "count", "(I)I"⟩ ⟨"SurplusLandModel", "count", "(I)I"⟩ ∈ tG := tG_of (inT7 (List.mem_of_getElem? (i := 52) rfl)) rfl
theorem tw_1558 : Cond.methodLink "SurplusLandLaw" 109 ⟨"SurplusLandModel", "sum", "(I)J"⟩ ∈ tG := tG_of (inT7 (List.mem_of_getElem? (i := 54) rfl)) rfl
theorem tw_1559 : Cond.instanceMethod ⟨"SurplusLandModel", "sum", "(I)J"⟩ ∈ tG := tG_of (inT7 (List.mem_of_getElem? (i := 55) rfl)) rfl
theorem tw_1560 : Cond.selects "SurplusLandModel" ⟨"SurplusLandModel", "sum", "(I)J"⟩ ⟨"SurplusLandModel", "sum", "(I)J"⟩ ∈ tG := tG_of (inT7 (List.mem_of_getElem? (i := 56) rfl)) rfl
theorem tw_1562 : Cond.methodLink "SurplusLandLaw" 113 ⟨"SurplusLandModel", "gains", "(II)J"⟩ ∈ tG := tG_of (inT7 (List.mem_of_getElem? (i := 58) rfl)) rfl
theorem tw_1563 : Cond.instanceMethod ⟨"SurplusLandModel", "gains", "(II)J"⟩ ∈ tG := tG_of (inT7 (List.mem_of_getElem? (i := 59) rfl)) rfl
theorem tw_1564 : Cond.selects "SurplusLandModel" ⟨"SurplusLandModel", "gains", "(II)J"⟩ ⟨"SurplusLandModel", "gains", "(II)J"⟩ ∈ tG := tG_of (inT7 (List.mem_of_getElem? (i := 60) rfl)) rfl
theorem tw_1566 : Cond.methodLink "SurplusLandLaw" 117 ⟨"SurplusLandModel", "beside", "(I)J"⟩ ∈ tG := tG_of (inT7 (List.mem_of_getElem? (i := 62) rfl)) rfl
theorem tw_1567 : Cond.instanceMethod ⟨"SurplusLandModel", "beside", "(I)J"⟩ ∈ tG := tG_of (inT7 (List.mem_of_getElem? (i := 63) rfl)) rfl
theorem tw_1568 : Cond.selects "SurplusLandModel" ⟨"SurplusLandModel", "beside", "(I)J"⟩ ⟨"SurplusLandModel", "beside", "(I)J"⟩ ∈ tG := tG_of (inT7 (List.mem_of_getElem? (i := 64) rfl)) rfl
theorem tw_1572 : Cond.methodLink "SurplusLandLaw" 122 ⟨"SurplusLandModel", "light", "(IIII)I"⟩ ∈ tG := tG_of (inT7 (List.mem_of_getElem? (i := 68) rfl)) rfl
theorem tw_1573 : Cond.instanceMethod ⟨"SurplusLandModel", "light", "(IIII)I"⟩ ∈ tG := tG_of (inT7 (List.mem_of_getElem? (i := 69) rfl)) rfl
theorem tw_1574 : Cond.selects "SurplusLandModel" ⟨"SurplusLandModel", "light", "(IIII)I"⟩ ⟨"SurplusLandModel", "light", "(IIII)I"⟩ ∈ tG := tG_of (inT7 (List.mem_of_getElem? (i := 70) rfl)) rfl
theorem tw_1586 : Cond.constantLong "SurplusLandLaw" 132 4294967295 ∈ tG := tG_of (inT7 (List.mem_of_getElem? (i := 82) rfl)) rfl
def M_LW_law : Md := (⟨"SurplusLandLaw", "law", "([I)Z"⟩, code, 4, some .boolean)
set_option maxRecDepth 20000 in
set_option maxHeartbeats 4000000 in
theorem bk_LW_law_1232 (g : Gc) {lv : Nat} {l0 : Option Nat} {l1 : Option Nat} {l2 : Option Nat} {l3 : Int32} {m : Mm} {Q : Int32 → Mm → Prop} (h : At g M_LW_law (lv + 1) 18 [(0, va_rf (some (gb g))), (1, va_rf (l1)), (2, va_rf (l2)), (3, .int (l3 + (8 : Int32)))] [] m (QI Q)) : At g M_LW_law (lv + 1) 1232 [(0, va_rf (some (gb g))), (1, va_rf (l1)), (2, va_rf (l2)), (3, .int (l3))] [] m (QI Q) := by
  refine at_iinc (i := 3) (n := 8) (lc' := [(0, va_rf (some (gb g))), (1, va_rf (l1)), (2, va_rf (l2)), (3, .int (l3 + (8 : Int32)))]) (l3 + (8 : Int32)) 3 [1, 2, 3, 0] 1235 rfl (by decide +kernel) rfl (by rw [show Int32.ofInt 8 = (8 : Int32) from by decide +kernel]) (by decide +kernel) (by generalize l2 = rr; cases rr <;> rfl) ?_
  refine at_goto (off := (-1217)) 18 (by decide +kernel) (by decide +kernel) ?_
  exact h
set_option maxRecDepth 20000 in
set_option maxHeartbeats 4000000 in
theorem bk_LW_law_1169 (g : Gc) {lv : Nat} {l0 : Option Nat} {l1 : Option Nat} {l2 : Option Nat} {l3 : Int32} {m : Mm} {Q : Int32 → Mm → Prop} (h : vp_in (l3 + (1 : Int32)) (gn g) ∧ (vp_in (l3 + (2 : Int32)) (gn g) ∧ (vp_in (l3 + (3 : Int32)) (gn g) ∧ (vp_in (l3 + (4 : Int32)) (gn g) ∧ (vp_in (l3 + (5 : Int32)) (gn g) ∧ (∃ b6, l1 = some b6 ∧ (mK m b6 = 12 ∧ (CI g M_SL_paste lv [va_rf (some b6), .int (gx g (l3 + (1 : Int32)).toNatClampNeg), .int (gx g (l3 + (2 : Int32)).toNatClampNeg), .int (gx g (l3 + (3 : Int32)).toNatClampNeg), .int (gx g (l3 + (4 : Int32)).toNatClampNeg), .int (gx g (l3 + (5 : Int32)).toNatClampNeg)] m (fun x9 m10 => (vp_in (l3 + (1 : Int32)) (gn g) ∧ (vp_in (l3 + (2 : Int32)) (gn g) ∧ (vp_in (l3 + (3 : Int32)) (gn g) ∧ (vp_in (l3 + (4 : Int32)) (gn g) ∧ (vp_in (l3 + (5 : Int32)) (gn g) ∧ (∃ b18, l2 = some b18 ∧ (mK m10 b18 = 13 ∧ (CI g M_RF_paste lv [va_rf (some b18), .int (gx g (l3 + (1 : Int32)).toNatClampNeg), .int (gx g (l3 + (2 : Int32)).toNatClampNeg), .int (gx g (l3 + (3 : Int32)).toNatClampNeg), .int (gx g (l3 + (4 : Int32)).toNatClampNeg), .int (gx g (l3 + (5 : Int32)).toNatClampNeg)] m10 (fun x21 m22 => (if (x9) = (x21) then (At g M_LW_law (lv + 1) 1232 [(0, va_rf (some (gb g))), (1, va_rf (some b6)), (2, va_rf (some b18)), (3, .int (l3))] [] m22 (QI Q)) else (Q (0 : Int32) m22)))))))))))))))))))) : At g M_LW_law (lv + 1) 1169 [(0, va_rf (some (gb g))), (1, va_rf (l1)), (2, va_rf (l2)), (3, .int (l3))] [] m (QI Q) := by
  refine at_aload_n (i := 1) 1 1170 rfl (by decide +kernel) rfl ?_
  refine at_aload_n (i := 0) 0 1171 rfl (by decide +kernel) rfl ?_
  refine at_iload_n (i := 3) 3 1172 rfl (by decide +kernel) rfl ?_
  refine at_iconst (n := 1) (1 : Int32) 1173 rfl (by decide +kernel) (by decide +kernel) ?_
  refine at_iadd 1174 rfl (by decide +kernel) ?_
  obtain ⟨v1, h⟩ := h
  refine at_ialdX 1175 rfl (by decide +kernel) v1 ?_
  refine at_aload_n (i := 0) 0 1176 rfl (by decide +kernel) rfl ?_
  refine at_iload_n (i := 3) 3 1177 rfl (by decide +kernel) rfl ?_
  refine at_iconst (n := 2) (2 : Int32) 1178 rfl (by decide +kernel) (by decide +kernel) ?_
  refine at_iadd 1179 rfl (by decide +kernel) ?_
  obtain ⟨v2, h⟩ := h
  refine at_ialdX 1180 rfl (by decide +kernel) v2 ?_
  refine at_aload_n (i := 0) 0 1181 rfl (by decide +kernel) rfl ?_
  refine at_iload_n (i := 3) 3 1182 rfl (by decide +kernel) rfl ?_
  refine at_iconst (n := 3) (3 : Int32) 1183 rfl (by decide +kernel) (by decide +kernel) ?_
  refine at_iadd 1184 rfl (by decide +kernel) ?_
  obtain ⟨v3, h⟩ := h
  refine at_ialdX 1185 rfl (by decide +kernel) v3 ?_
  refine at_aload_n (i := 0) 0 1186 rfl (by decide +kernel) rfl ?_
  refine at_iload_n (i := 3) 3 1187 rfl (by decide +kernel) rfl ?_
  refine at_iconst (n := 4) (4 : Int32) 1188 rfl (by decide +kernel) (by decide +kernel) ?_
  refine at_iadd 1189 rfl (by decide +kernel) ?_
  obtain ⟨v4, h⟩ := h
  refine at_ialdX 1190 rfl (by decide +kernel) v4 ?_
  refine at_aload_n (i := 0) 0 1191 rfl (by decide +kernel) rfl ?_
  refine at_iload_n (i := 3) 3 1192 rfl (by decide +kernel) rfl ?_
  refine at_iconst (n := 5) (5 : Int32) 1193 rfl (by decide +kernel) (by decide +kernel) ?_
  refine at_iadd 1194 rfl (by decide +kernel) ?_
  obtain ⟨v5, h⟩ := h
  refine at_ialdX 1195 rfl (by decide +kernel) v5 ?_
  obtain ⟨b6, e7, h⟩ := h
  rw [e7]
  obtain ⟨k8, h⟩ := h
  refine at_callV mb_SL_paste tw_1067 tw_1068 cok11 k8 (index := 139) tw_1066 [.int (gx g (l3 + (1 : Int32)).toNatClampNeg), .int (gx g (l3 + (2 : Int32)).toNatClampNeg), .int (gx g (l3 + (3 : Int32)).toNatClampNeg), .int (gx g (l3 + (4 : Int32)).toNatClampNeg), .int (gx g (l3 + (5 : Int32)).toNatClampNeg)] [] rfl rfl (by decide) 1198 rfl (by decide +kernel) (Call.toI (CI.monoE h (fun x9 m10 h y11 => ?_)))
  have k12 : mK m10 b6 = 12 := y11.k k8 (by decide)
  refine at_aload_n (i := 2) 2 1199 rfl (by decide +kernel) rfl ?_
  refine at_aload_n (i := 0) 0 1200 rfl (by decide +kernel) rfl ?_
  refine at_iload_n (i := 3) 3 1201 rfl (by decide +kernel) rfl ?_
  refine at_iconst (n := 1) (1 : Int32) 1202 rfl (by decide +kernel) (by decide +kernel) ?_
  refine at_iadd 1203 rfl (by decide +kernel) ?_
  obtain ⟨v13, h⟩ := h
  refine at_ialdX 1204 rfl (by decide +kernel) v13 ?_
  refine at_aload_n (i := 0) 0 1205 rfl (by decide +kernel) rfl ?_
  refine at_iload_n (i := 3) 3 1206 rfl (by decide +kernel) rfl ?_
  refine at_iconst (n := 2) (2 : Int32) 1207 rfl (by decide +kernel) (by decide +kernel) ?_
  refine at_iadd 1208 rfl (by decide +kernel) ?_
  obtain ⟨v14, h⟩ := h
  refine at_ialdX 1209 rfl (by decide +kernel) v14 ?_
  refine at_aload_n (i := 0) 0 1210 rfl (by decide +kernel) rfl ?_
  refine at_iload_n (i := 3) 3 1211 rfl (by decide +kernel) rfl ?_
  refine at_iconst (n := 3) (3 : Int32) 1212 rfl (by decide +kernel) (by decide +kernel) ?_
  refine at_iadd 1213 rfl (by decide +kernel) ?_
  obtain ⟨v15, h⟩ := h
  refine at_ialdX 1214 rfl (by decide +kernel) v15 ?_
  refine at_aload_n (i := 0) 0 1215 rfl (by decide +kernel) rfl ?_
  refine at_iload_n (i := 3) 3 1216 rfl (by decide +kernel) rfl ?_
  refine at_iconst (n := 4) (4 : Int32) 1217 rfl (by decide +kernel) (by decide +kernel) ?_
  refine at_iadd 1218 rfl (by decide +kernel) ?_
  obtain ⟨v16, h⟩ := h
  refine at_ialdX 1219 rfl (by decide +kernel) v16 ?_
  refine at_aload_n (i := 0) 0 1220 rfl (by decide +kernel) rfl ?_
  refine at_iload_n (i := 3) 3 1221 rfl (by decide +kernel) rfl ?_
  refine at_iconst (n := 5) (5 : Int32) 1222 rfl (by decide +kernel) (by decide +kernel) ?_
  refine at_iadd 1223 rfl (by decide +kernel) ?_
  obtain ⟨v17, h⟩ := h
  refine at_ialdX 1224 rfl (by decide +kernel) v17 ?_
  obtain ⟨b18, e19, h⟩ := h
  rw [e19]
  obtain ⟨k20, h⟩ := h
  refine at_callV mb_RF_paste tw_1307 tw_1308 cok12 k20 (index := 142) tw_1306 [.int (gx g (l3 + (1 : Int32)).toNatClampNeg), .int (gx g (l3 + (2 : Int32)).toNatClampNeg), .int (gx g (l3 + (3 : Int32)).toNatClampNeg), .int (gx g (l3 + (4 : Int32)).toNatClampNeg), .int (gx g (l3 + (5 : Int32)).toNatClampNeg)] [.int (x9)] rfl rfl (by simp [va_rf_cat, cat_int, cat_long]) 1227 rfl (by decide +kernel) (Call.toI (CI.monoE h (fun x21 m22 h y23 => ?_)))
  have k24 : mK m22 b6 = 12 := y23.k k12 (by decide)
  have k25 : mK m22 b18 = 13 := y23.k k20 (by decide)
  refine at_icmp_eq (off := 5) 1232 1230 rfl (by decide +kernel) (by decide +kernel) (fun c26 => ?_) (fun c26 => ?_)
  · rw [if_pos c26] at h
    exact h
  · rw [if_neg c26] at h
    refine at_iconst (n := 0) (0 : Int32) 1231 rfl (by decide +kernel) (by decide +kernel) ?_
    exact at_zret rfl (by decide +kernel) (Or.inl rfl) h
set_option maxRecDepth 20000 in
set_option maxHeartbeats 4000000 in
theorem bk_LW_law_1096 (g : Gc) {lv : Nat} {l0 : Option Nat} {l1 : Option Nat} {l2 : Option Nat} {l3 : Int32} {m : Mm} {Q : Int32 → Mm → Prop} (h : vp_in (l3 + (1 : Int32)) (gn g) ∧ (vp_in (l3 + (2 : Int32)) (gn g) ∧ (vp_in (l3 + (3 : Int32)) (gn g) ∧ (vp_in (l3 + (4 : Int32)) (gn g) ∧ (∃ b5, l1 = some b5 ∧ (mK m b5 = 12 ∧ (CI g M_SL_write lv [va_rf (some b5), .int (gx g (l3 + (1 : Int32)).toNatClampNeg), .int (gx g (l3 + (2 : Int32)).toNatClampNeg), .long ((((gx g (l3 + (3 : Int32)).toNatClampNeg).toInt64) <<< ((32 : Int32).toInt64 &&& 63)) ||| (((gx g (l3 + (4 : Int32)).toNatClampNeg).toInt64) &&& (4294967295 : Int64)))] m (fun x8 m9 => (vp_in (l3 + (1 : Int32)) (gn g) ∧ (vp_in (l3 + (2 : Int32)) (gn g) ∧ (vp_in (l3 + (3 : Int32)) (gn g) ∧ (vp_in (l3 + (4 : Int32)) (gn g) ∧ (∃ b16, l2 = some b16 ∧ (mK m9 b16 = 13 ∧ (CI g M_RF_write lv [va_rf (some b16), .int (gx g (l3 + (1 : Int32)).toNatClampNeg), .int (gx g (l3 + (2 : Int32)).toNatClampNeg), .long ((((gx g (l3 + (3 : Int32)).toNatClampNeg).toInt64) <<< ((32 : Int32).toInt64 &&& 63)) ||| (((gx g (l3 + (4 : Int32)).toNatClampNeg).toInt64) &&& (4294967295 : Int64)))] m9 (fun x19 m20 => (if (x8) = (x19) then (At g M_LW_law (lv + 1) 1232 [(0, va_rf (some (gb g))), (1, va_rf (some b5)), (2, va_rf (some b16)), (3, .int (l3))] [] m20 (QI Q)) else (Q (0 : Int32) m20)))))))))))))))))) : At g M_LW_law (lv + 1) 1096 [(0, va_rf (some (gb g))), (1, va_rf (l1)), (2, va_rf (l2)), (3, .int (l3))] [] m (QI Q) := by
  refine at_aload_n (i := 1) 1 1097 rfl (by decide +kernel) rfl ?_
  refine at_aload_n (i := 0) 0 1098 rfl (by decide +kernel) rfl ?_
  refine at_iload_n (i := 3) 3 1099 rfl (by decide +kernel) rfl ?_
  refine at_iconst (n := 1) (1 : Int32) 1100 rfl (by decide +kernel) (by decide +kernel) ?_
  refine at_iadd 1101 rfl (by decide +kernel) ?_
  obtain ⟨v1, h⟩ := h
  refine at_ialdX 1102 rfl (by decide +kernel) v1 ?_
  refine at_aload_n (i := 0) 0 1103 rfl (by decide +kernel) rfl ?_
  refine at_iload_n (i := 3) 3 1104 rfl (by decide +kernel) rfl ?_
  refine at_iconst (n := 2) (2 : Int32) 1105 rfl (by decide +kernel) (by decide +kernel) ?_
  refine at_iadd 1106 rfl (by decide +kernel) ?_
  obtain ⟨v2, h⟩ := h
  refine at_ialdX 1107 rfl (by decide +kernel) v2 ?_
  refine at_aload_n (i := 0) 0 1108 rfl (by decide +kernel) rfl ?_
  refine at_iload_n (i := 3) 3 1109 rfl (by decide +kernel) rfl ?_
  refine at_iconst (n := 3) (3 : Int32) 1110 rfl (by decide +kernel) (by decide +kernel) ?_
  refine at_iadd 1111 rfl (by decide +kernel) ?_
  obtain ⟨v3, h⟩ := h
  refine at_ialdX 1112 rfl (by decide +kernel) v3 ?_
  refine at_i2l 1113 rfl (by decide +kernel) ?_
  refine at_bipush (n := 32) (32 : Int32) 1115 rfl (by decide +kernel) (by decide +kernel) ?_
  refine at_lshl 1116 rfl (by decide +kernel) ?_
  refine at_aload_n (i := 0) 0 1117 rfl (by decide +kernel) rfl ?_
  refine at_iload_n (i := 3) 3 1118 rfl (by decide +kernel) rfl ?_
  refine at_iconst (n := 4) (4 : Int32) 1119 rfl (by decide +kernel) (by decide +kernel) ?_
  refine at_iadd 1120 rfl (by decide +kernel) ?_
  obtain ⟨v4, h⟩ := h
  refine at_ialdX 1121 rfl (by decide +kernel) v4 ?_
  refine at_i2l 1122 rfl (by decide +kernel) ?_
  refine at_ldc2 (index := 132) (4294967295 : Int64) 1125 rfl (by decide +kernel) tw_1586 ?_
  refine at_land 1126 rfl (by decide +kernel) ?_
  refine at_lor 1127 rfl (by decide +kernel) ?_
  obtain ⟨b5, e6, h⟩ := h
  rw [e6]
  obtain ⟨k7, h⟩ := h
  refine at_callV mb_SL_write tw_1059 tw_1060 cok11 k7 (index := 134) tw_1058 [.int (gx g (l3 + (1 : Int32)).toNatClampNeg), .int (gx g (l3 + (2 : Int32)).toNatClampNeg), .long ((((gx g (l3 + (3 : Int32)).toNatClampNeg).toInt64) <<< ((32 : Int32).toInt64 &&& 63)) ||| (((gx g (l3 + (4 : Int32)).toNatClampNeg).toInt64) &&& (4294967295 : Int64)))] [] rfl rfl (by decide) 1130 rfl (by decide +kernel) (Call.toI (CI.monoE h (fun x8 m9 h y10 => ?_)))
  have k11 : mK m9 b5 = 12 := y10.k k7 (by decide)
  refine at_aload_n (i := 2) 2 1131 rfl (by decide +kernel) rfl ?_
  refine at_aload_n (i := 0) 0 1132 rfl (by decide +kernel) rfl ?_
  refine at_iload_n (i := 3) 3 1133 rfl (by decide +kernel) rfl ?_
  refine at_iconst (n := 1) (1 : Int32) 1134 rfl (by decide +kernel) (by decide +kernel) ?_
  refine at_iadd 1135 rfl (by decide +kernel) ?_
  obtain ⟨v12, h⟩ := h
  refine at_ialdX 1136 rfl (by decide +kernel) v12 ?_
  refine at_aload_n (i := 0) 0 1137 rfl (by decide +kernel) rfl ?_
  refine at_iload_n (i := 3) 3 1138 rfl (by decide +kernel) rfl ?_
  refine at_iconst (n := 2) (2 : Int32) 1139 rfl (by decide +kernel) (by decide +kernel) ?_
  refine at_iadd 1140 rfl (by decide +kernel) ?_
  obtain ⟨v13, h⟩ := h
  refine at_ialdX 1141 rfl (by decide +kernel) v13 ?_
  refine at_aload_n (i := 0) 0 1142 rfl (by decide +kernel) rfl ?_
  refine at_iload_n (i := 3) 3 1143 rfl (by decide +kernel) rfl ?_
  refine at_iconst (n := 3) (3 : Int32) 1144 rfl (by decide +kernel) (by decide +kernel) ?_
  refine at_iadd 1145 rfl (by decide +kernel) ?_
  obtain ⟨v14, h⟩ := h
  refine at_ialdX 1146 rfl (by decide +kernel) v14 ?_
  refine at_i2l 1147 rfl (by decide +kernel) ?_
  refine at_bipush (n := 32) (32 : Int32) 1149 rfl (by decide +kernel) (by decide +kernel) ?_
  refine at_lshl 1150 rfl (by decide +kernel) ?_
  refine at_aload_n (i := 0) 0 1151 rfl (by decide +kernel) rfl ?_
  refine at_iload_n (i := 3) 3 1152 rfl (by decide +kernel) rfl ?_
  refine at_iconst (n := 4) (4 : Int32) 1153 rfl (by decide +kernel) (by decide +kernel) ?_
  refine at_iadd 1154 rfl (by decide +kernel) ?_
  obtain ⟨v15, h⟩ := h
  refine at_ialdX 1155 rfl (by decide +kernel) v15 ?_
  refine at_i2l 1156 rfl (by decide +kernel) ?_
  refine at_ldc2 (index := 132) (4294967295 : Int64) 1159 rfl (by decide +kernel) tw_1586 ?_
  refine at_land 1160 rfl (by decide +kernel) ?_
  refine at_lor 1161 rfl (by decide +kernel) ?_
  obtain ⟨b16, e17, h⟩ := h
  rw [e17]
  obtain ⟨k18, h⟩ := h
  refine at_callV mb_RF_write tw_1300 tw_1301 cok12 k18 (index := 138) tw_1299 [.int (gx g (l3 + (1 : Int32)).toNatClampNeg), .int (gx g (l3 + (2 : Int32)).toNatClampNeg), .long ((((gx g (l3 + (3 : Int32)).toNatClampNeg).toInt64) <<< ((32 : Int32).toInt64 &&& 63)) ||| (((gx g (l3 + (4 : Int32)).toNatClampNeg).toInt64) &&& (4294967295 : Int64)))] [.int (x8)] rfl rfl (by simp [va_rf_cat, cat_int, cat_long]) 1164 rfl (by decide +kernel) (Call.toI (CI.monoE h (fun x19 m20 h y21 => ?_)))
  have k22 : mK m20 b5 = 12 := y21.k k11 (by decide)
  have k23 : mK m20 b16 = 13 := y21.k k18 (by decide)
  refine at_icmp_eq (off := 68) 1232 1167 rfl (by decide +kernel) (by decide +kernel) (fun c24 => ?_) (fun c24 => ?_)
  · rw [if_pos c24] at h
    exact h
  · rw [if_neg c24] at h
    refine at_iconst (n := 0) (0 : Int32) 1168 rfl (by decide +kernel) (by decide +kernel) ?_
    exact at_zret rfl (by decide +kernel) (Or.inl rfl) h
set_option maxRecDepth 20000 in
set_option maxHeartbeats 4000000 in
theorem bk_LW_law_1073 (g : Gc) {lv : Nat} {l0 : Option Nat} {l1 : Option Nat} {l2 : Option Nat} {l3 : Int32} {m : Mm} {Q : Int32 → Mm → Prop} (h : vp_in (l3 + (1 : Int32)) (gn g) ∧ (∃ b2, l1 = some b2 ∧ (mK m b2 = 12 ∧ (CI g M_SL_tear lv [va_rf (some b2), .int (gx g (l3 + (1 : Int32)).toNatClampNeg)] m (fun x5 m6 => (vp_in (l3 + (1 : Int32)) (gn g) ∧ (∃ b10, l2 = some b10 ∧ (mK m6 b10 = 13 ∧ (CI g M_RF_tear lv [va_rf (some b10), .int (gx g (l3 + (1 : Int32)).toNatClampNeg)] m6 (fun x13 m14 => (if (x5) = (x13) then (At g M_LW_law (lv + 1) 1232 [(0, va_rf (some (gb g))), (1, va_rf (some b2)), (2, va_rf (some b10)), (3, .int (l3))] [] m14 (QI Q)) else (Q (0 : Int32) m14)))))))))))) : At g M_LW_law (lv + 1) 1073 [(0, va_rf (some (gb g))), (1, va_rf (l1)), (2, va_rf (l2)), (3, .int (l3))] [] m (QI Q) := by
  refine at_aload_n (i := 1) 1 1074 rfl (by decide +kernel) rfl ?_
  refine at_aload_n (i := 0) 0 1075 rfl (by decide +kernel) rfl ?_
  refine at_iload_n (i := 3) 3 1076 rfl (by decide +kernel) rfl ?_
  refine at_iconst (n := 1) (1 : Int32) 1077 rfl (by decide +kernel) (by decide +kernel) ?_
  refine at_iadd 1078 rfl (by decide +kernel) ?_
  obtain ⟨v1, h⟩ := h
  refine at_ialdX 1079 rfl (by decide +kernel) v1 ?_
  obtain ⟨b2, e3, h⟩ := h
  rw [e3]
  obtain ⟨k4, h⟩ := h
  refine at_callV mb_SL_tear tw_1055 tw_1056 cok11 k4 (index := 127) tw_1054 [.int (gx g (l3 + (1 : Int32)).toNatClampNeg)] [] rfl rfl (by decide) 1082 rfl (by decide +kernel) (Call.toI (CI.monoE h (fun x5 m6 h y7 => ?_)))
  have k8 : mK m6 b2 = 12 := y7.k k4 (by decide)
  refine at_aload_n (i := 2) 2 1083 rfl (by decide +kernel) rfl ?_
  refine at_aload_n (i := 0) 0 1084 rfl (by decide +kernel) rfl ?_
  refine at_iload_n (i := 3) 3 1085 rfl (by decide +kernel) rfl ?_
  refine at_iconst (n := 1) (1 : Int32) 1086 rfl (by decide +kernel) (by decide +kernel) ?_
  refine at_iadd 1087 rfl (by decide +kernel) ?_
  obtain ⟨v9, h⟩ := h
  refine at_ialdX 1088 rfl (by decide +kernel) v9 ?_
  obtain ⟨b10, e11, h⟩ := h
  rw [e11]
  obtain ⟨k12, h⟩ := h
  refine at_callV mb_RF_tear tw_1296 tw_1297 cok12 k12 (index := 131) tw_1295 [.int (gx g (l3 + (1 : Int32)).toNatClampNeg)] [.int (x5)] rfl rfl (by simp [va_rf_cat, cat_int, cat_long]) 1091 rfl (by decide +kernel) (Call.toI (CI.monoE h (fun x13 m14 h y15 => ?_)))
  have k16 : mK m14 b2 = 12 := y15.k k8 (by decide)
  have k17 : mK m14 b10 = 13 := y15.k k12 (by decide)
  refine at_icmp_eq (off := 141) 1232 1094 rfl (by decide +kernel) (by decide +kernel) (fun c18 => ?_) (fun c18 => ?_)
  · rw [if_pos c18] at h
    exact h
  · rw [if_neg c18] at h
    refine at_iconst (n := 0) (0 : Int32) 1095 rfl (by decide +kernel) (by decide +kernel) ?_
    exact at_zret rfl (by decide +kernel) (Or.inl rfl) h
set_option maxRecDepth 20000 in
set_option maxHeartbeats 4000000 in
theorem bk_LW_law_1030 (g : Gc) {lv : Nat} {l0 : Option Nat} {l1 : Option Nat} {l2 : Option Nat} {l3 : Int32} {m : Mm} {Q : Int32 → Mm → Prop} (h : vp_in (l3 + (1 : Int32)) (gn g) ∧ (vp_in (l3 + (2 : Int32)) (gn g) ∧ (vp_in (l3 + (3 : Int32)) (gn g) ∧ (∃ b4, l1 = some b4 ∧ (mK m b4 = 12 ∧ (CI g M_SL_row lv [va_rf (some b4), .int (gx g (l3 + (1 : Int32)).toNatClampNeg), .int (gx g (l3 + (2 : Int32)).toNatClampNeg), .int (gx g (l3 + (3 : Int32)).toNatClampNeg)] m (fun x7 m8 => (vp_in (l3 + (1 : Int32)) (gn g) ∧ (vp_in (l3 + (2 : Int32)) (gn g) ∧ (vp_in (l3 + (3 : Int32)) (gn g) ∧ (∃ b14, l2 = some b14 ∧ (mK m8 b14 = 13 ∧ (CI g M_RF_row lv [va_rf (some b14), .int (gx g (l3 + (1 : Int32)).toNatClampNeg), .int (gx g (l3 + (2 : Int32)).toNatClampNeg), .int (gx g (l3 + (3 : Int32)).toNatClampNeg)] m8 (fun x17 m18 => (if (x7) = (x17) then (At g M_LW_law (lv + 1) 1232 [(0, va_rf (some (gb g))), (1, va_rf (some b4)), (2, va_rf (some b14)), (3, .int (l3))] [] m18 (QI Q)) else (Q (0 : Int32) m18)))))))))))))))) : At g M_LW_law (lv + 1) 1030 [(0, va_rf (some (gb g))), (1, va_rf (l1)), (2, va_rf (l2)), (3, .int (l3))] [] m (QI Q) := by
  refine at_aload_n (i := 1) 1 1031 rfl (by decide +kernel) rfl ?_
  refine at_aload_n (i := 0) 0 1032 rfl (by decide +kernel) rfl ?_
  refine at_iload_n (i := 3) 3 1033 rfl (by decide +kernel) rfl ?_
  refine at_iconst (n := 1) (1 : Int32) 1034 rfl (by decide +kernel) (by decide +kernel) ?_
  refine at_iadd 1035 rfl (by decide +kernel) ?_
  obtain ⟨v1, h⟩ := h
  refine at_ialdX 1036 rfl (by decide +kernel) v1 ?_
  refine at_aload_n (i := 0) 0 1037 rfl (by decide +kernel) rfl ?_
  refine at_iload_n (i := 3) 3 1038 rfl (by decide +kernel) rfl ?_
  refine at_iconst (n := 2) (2 : Int32) 1039 rfl (by decide +kernel) (by decide +kernel) ?_
  refine at_iadd 1040 rfl (by decide +kernel) ?_
  obtain ⟨v2, h⟩ := h
  refine at_ialdX 1041 rfl (by decide +kernel) v2 ?_
  refine at_aload_n (i := 0) 0 1042 rfl (by decide +kernel) rfl ?_
  refine at_iload_n (i := 3) 3 1043 rfl (by decide +kernel) rfl ?_
  refine at_iconst (n := 3) (3 : Int32) 1044 rfl (by decide +kernel) (by decide +kernel) ?_
  refine at_iadd 1045 rfl (by decide +kernel) ?_
  obtain ⟨v3, h⟩ := h
  refine at_ialdX 1046 rfl (by decide +kernel) v3 ?_
  obtain ⟨b4, e5, h⟩ := h
  rw [e5]
  obtain ⟨k6, h⟩ := h
  refine at_callV mb_SL_row tw_1047 tw_1048 cok11 k6 (index := 123) tw_1046 [.int (gx g (l3 + (1 : Int32)).toNatClampNeg), .int (gx g (l3 + (2 : Int32)).toNatClampNeg), .int (gx g (l3 + (3 : Int32)).toNatClampNeg)] [] rfl rfl (by decide) 1049 rfl (by decide +kernel) (Call.toI (CI.monoE h (fun x7 m8 h y9 => ?_)))
  have k10 : mK m8 b4 = 12 := y9.k k6 (by decide)
  refine at_aload_n (i := 2) 2 1050 rfl (by decide +kernel) rfl ?_
  refine at_aload_n (i := 0) 0 1051 rfl (by decide +kernel) rfl ?_
  refine at_iload_n (i := 3) 3 1052 rfl (by decide +kernel) rfl ?_
  refine at_iconst (n := 1) (1 : Int32) 1053 rfl (by decide +kernel) (by decide +kernel) ?_
  refine at_iadd 1054 rfl (by decide +kernel) ?_
  obtain ⟨v11, h⟩ := h
  refine at_ialdX 1055 rfl (by decide +kernel) v11 ?_
  refine at_aload_n (i := 0) 0 1056 rfl (by decide +kernel) rfl ?_
  refine at_iload_n (i := 3) 3 1057 rfl (by decide +kernel) rfl ?_
  refine at_iconst (n := 2) (2 : Int32) 1058 rfl (by decide +kernel) (by decide +kernel) ?_
  refine at_iadd 1059 rfl (by decide +kernel) ?_
  obtain ⟨v12, h⟩ := h
  refine at_ialdX 1060 rfl (by decide +kernel) v12 ?_
  refine at_aload_n (i := 0) 0 1061 rfl (by decide +kernel) rfl ?_
  refine at_iload_n (i := 3) 3 1062 rfl (by decide +kernel) rfl ?_
  refine at_iconst (n := 3) (3 : Int32) 1063 rfl (by decide +kernel) (by decide +kernel) ?_
  refine at_iadd 1064 rfl (by decide +kernel) ?_
  obtain ⟨v13, h⟩ := h
  refine at_ialdX 1065 rfl (by decide +kernel) v13 ?_
  obtain ⟨b14, e15, h⟩ := h
  rw [e15]
  obtain ⟨k16, h⟩ := h
  refine at_callV mb_RF_row tw_1285 tw_1286 cok12 k16 (index := 126) tw_1284 [.int (gx g (l3 + (1 : Int32)).toNatClampNeg), .int (gx g (l3 + (2 : Int32)).toNatClampNeg), .int (gx g (l3 + (3 : Int32)).toNatClampNeg)] [.int (x7)] rfl rfl (by simp [va_rf_cat, cat_int, cat_long]) 1068 rfl (by decide +kernel) (Call.toI (CI.monoE h (fun x17 m18 h y19 => ?_)))
  have k20 : mK m18 b4 = 12 := y19.k k10 (by decide)
  have k21 : mK m18 b14 = 13 := y19.k k16 (by decide)
  refine at_icmp_eq (off := 164) 1232 1071 rfl (by decide +kernel) (by decide +kernel) (fun c22 => ?_) (fun c22 => ?_)
  · rw [if_pos c22] at h
    exact h
  · rw [if_neg c22] at h
    refine at_iconst (n := 0) (0 : Int32) 1072 rfl (by decide +kernel) (by decide +kernel) ?_
    exact at_zret rfl (by decide +kernel) (Or.inl rfl) h
set_option maxRecDepth 20000 in
set_option maxHeartbeats 4000000 in
theorem bk_LW_law_977 (g : Gc) {lv : Nat} {l0 : Option Nat} {l1 : Option Nat} {l2 : Option Nat} {l3 : Int32} {m : Mm} {Q : Int32 → Mm → Prop} (h : vp_in (l3 + (1 : Int32)) (gn g) ∧ (vp_in (l3 + (2 : Int32)) (gn g) ∧ (vp_in (l3 + (3 : Int32)) (gn g) ∧ (vp_in (l3 + (4 : Int32)) (gn g) ∧ (∃ b5, l1 = some b5 ∧ (mK m b5 = 12 ∧ (CI g M_SL_light lv [va_rf (some b5), .int (gx g (l3 + (1 : Int32)).toNatClampNeg), .int (gx g (l3 + (2 : Int32)).toNatClampNeg), .int (gx g (l3 + (3 : Int32)).toNatClampNeg), .int (gx g (l3 + (4 : Int32)).toNatClampNeg)] m (fun x8 m9 => (vp_in (l3 + (1 : Int32)) (gn g) ∧ (vp_in (l3 + (2 : Int32)) (gn g) ∧ (vp_in (l3 + (3 : Int32)) (gn g) ∧ (vp_in (l3 + (4 : Int32)) (gn g) ∧ (∃ b16, l2 = some b16 ∧ (mK m9 b16 = 13 ∧ (CI g M_RF_light lv [va_rf (some b16), .int (gx g (l3 + (1 : Int32)).toNatClampNeg), .int (gx g (l3 + (2 : Int32)).toNatClampNeg), .int (gx g (l3 + (3 : Int32)).toNatClampNeg), .int (gx g (l3 + (4 : Int32)).toNatClampNeg)] m9 (fun x19 m20 => (if (x8) = (x19) then (At g M_LW_law (lv + 1) 1232 [(0, va_rf (some (gb g))), (1, va_rf (some b5)), (2, va_rf (some b16)), (3, .int (l3))] [] m20 (QI Q)) else (Q (0 : Int32) m20)))))))))))))))))) : At g M_LW_law (lv + 1) 977 [(0, va_rf (some (gb g))), (1, va_rf (l1)), (2, va_rf (l2)), (3, .int (l3))] [] m (QI Q) := by
  refine at_aload_n (i := 1) 1 978 rfl (by decide +kernel) rfl ?_
  refine at_aload_n (i := 0) 0 979 rfl (by decide +kernel) rfl ?_
  refine at_iload_n (i := 3) 3 980 rfl (by decide +kernel) rfl ?_
  refine at_iconst (n := 1) (1 : Int32) 981 rfl (by decide +kernel) (by decide +kernel) ?_
  refine at_iadd 982 rfl (by decide +kernel) ?_
  obtain ⟨v1, h⟩ := h
  refine at_ialdX 983 rfl (by decide +kernel) v1 ?_
  refine at_aload_n (i := 0) 0 984 rfl (by decide +kernel) rfl ?_
  refine at_iload_n (i := 3) 3 985 rfl (by decide +kernel) rfl ?_
  refine at_iconst (n := 2) (2 : Int32) 986 rfl (by decide +kernel) (by decide +kernel) ?_
  refine at_iadd 987 rfl (by decide +kernel) ?_
  obtain ⟨v2, h⟩ := h
  refine at_ialdX 988 rfl (by decide +kernel) v2 ?_
  refine at_aload_n (i := 0) 0 989 rfl (by decide +kernel) rfl ?_
  refine at_iload_n (i := 3) 3 990 rfl (by decide +kernel) rfl ?_
  refine at_iconst (n := 3) (3 : Int32) 991 rfl (by decide +kernel) (by decide +kernel) ?_
  refine at_iadd 992 rfl (by decide +kernel) ?_
  obtain ⟨v3, h⟩ := h
  refine at_ialdX 993 rfl (by decide +kernel) v3 ?_
  refine at_aload_n (i := 0) 0 994 rfl (by decide +kernel) rfl ?_
  refine at_iload_n (i := 3) 3 995 rfl (by decide +kernel) rfl ?_
  refine at_iconst (n := 4) (4 : Int32) 996 rfl (by decide +kernel) (by decide +kernel) ?_
  refine at_iadd 997 rfl (by decide +kernel) ?_
  obtain ⟨v4, h⟩ := h
  refine at_ialdX 998 rfl (by decide +kernel) v4 ?_
  obtain ⟨b5, e6, h⟩ := h
  rw [e6]
  obtain ⟨k7, h⟩ := h
  refine at_callV mb_SL_light tw_1034 tw_1035 cok11 k7 (index := 118) tw_1033 [.int (gx g (l3 + (1 : Int32)).toNatClampNeg), .int (gx g (l3 + (2 : Int32)).toNatClampNeg), .int (gx g (l3 + (3 : Int32)).toNatClampNeg), .int (gx g (l3 + (4 : Int32)).toNatClampNeg)] [] rfl rfl (by decide) 1001 rfl (by decide +kernel) (Call.toI (CI.monoE h (fun x8 m9 h y10 => ?_)))
  have k11 : mK m9 b5 = 12 := y10.k k7 (by decide)
  refine at_aload_n (i := 2) 2 1002 rfl (by decide +kernel) rfl ?_
  refine at_aload_n (i := 0) 0 1003 rfl (by decide +kernel) rfl ?_
  refine at_iload_n (i := 3) 3 1004 rfl (by decide +kernel) rfl ?_
  refine at_iconst (n := 1) (1 : Int32) 1005 rfl (by decide +kernel) (by decide +kernel) ?_
  refine at_iadd 1006 rfl (by decide +kernel) ?_
  obtain ⟨v12, h⟩ := h
  refine at_ialdX 1007 rfl (by decide +kernel) v12 ?_
  refine at_aload_n (i := 0) 0 1008 rfl (by decide +kernel) rfl ?_
  refine at_iload_n (i := 3) 3 1009 rfl (by decide +kernel) rfl ?_
  refine at_iconst (n := 2) (2 : Int32) 1010 rfl (by decide +kernel) (by decide +kernel) ?_
  refine at_iadd 1011 rfl (by decide +kernel) ?_
  obtain ⟨v13, h⟩ := h
  refine at_ialdX 1012 rfl (by decide +kernel) v13 ?_
  refine at_aload_n (i := 0) 0 1013 rfl (by decide +kernel) rfl ?_
  refine at_iload_n (i := 3) 3 1014 rfl (by decide +kernel) rfl ?_
  refine at_iconst (n := 3) (3 : Int32) 1015 rfl (by decide +kernel) (by decide +kernel) ?_
  refine at_iadd 1016 rfl (by decide +kernel) ?_
  obtain ⟨v14, h⟩ := h
  refine at_ialdX 1017 rfl (by decide +kernel) v14 ?_
  refine at_aload_n (i := 0) 0 1018 rfl (by decide +kernel) rfl ?_
  refine at_iload_n (i := 3) 3 1019 rfl (by decide +kernel) rfl ?_
  refine at_iconst (n := 4) (4 : Int32) 1020 rfl (by decide +kernel) (by decide +kernel) ?_
  refine at_iadd 1021 rfl (by decide +kernel) ?_
  obtain ⟨v15, h⟩ := h
  refine at_ialdX 1022 rfl (by decide +kernel) v15 ?_
  obtain ⟨b16, e17, h⟩ := h
  rw [e17]
  obtain ⟨k18, h⟩ := h
  refine at_callV mb_RF_light tw_1573 tw_1574 cok12 k18 (index := 122) tw_1572 [.int (gx g (l3 + (1 : Int32)).toNatClampNeg), .int (gx g (l3 + (2 : Int32)).toNatClampNeg), .int (gx g (l3 + (3 : Int32)).toNatClampNeg), .int (gx g (l3 + (4 : Int32)).toNatClampNeg)] [.int (x8)] rfl rfl (by simp [va_rf_cat, cat_int, cat_long]) 1025 rfl (by decide +kernel) (Call.toI (CI.monoE h (fun x19 m20 h y21 => ?_)))
  have k22 : mK m20 b5 = 12 := y21.k k11 (by decide)
  have k23 : mK m20 b16 = 13 := y21.k k18 (by decide)
  refine at_icmp_eq (off := 207) 1232 1028 rfl (by decide +kernel) (by decide +kernel) (fun c24 => ?_) (fun c24 => ?_)
  · rw [if_pos c24] at h
    exact h
  · rw [if_neg c24] at h
    refine at_iconst (n := 0) (0 : Int32) 1029 rfl (by decide +kernel) (by decide +kernel) ?_
    exact at_zret rfl (by decide +kernel) (Or.inl rfl) h
set_option maxRecDepth 20000 in
set_option maxHeartbeats 4000000 in
theorem bk_LW_law_953 (g : Gc) {lv : Nat} {l0 : Option Nat} {l1 : Option Nat} {l2 : Option Nat} {l3 : Int32} {m : Mm} {Q : Int32 → Mm → Prop} (h : vp_in (l3 + (1 : Int32)) (gn g) ∧ (∃ b2, l1 = some b2 ∧ (mK m b2 = 12 ∧ (CJ g M_SL_beside lv [va_rf (some b2), .int (gx g (l3 + (1 : Int32)).toNatClampNeg)] m (fun x5 m6 => (vp_in (l3 + (1 : Int32)) (gn g) ∧ (∃ b10, l2 = some b10 ∧ (mK m6 b10 = 13 ∧ (CJ g M_RF_beside lv [va_rf (some b10), .int (gx g (l3 + (1 : Int32)).toNatClampNeg)] m6 (fun x13 m14 => (if (x5) = (x13) then (At g M_LW_law (lv + 1) 1232 [(0, va_rf (some (gb g))), (1, va_rf (some b2)), (2, va_rf (some b10)), (3, .int (l3))] [] m14 (QI Q)) else (Q (0 : Int32) m14)))))))))))) : At g M_LW_law (lv + 1) 953 [(0, va_rf (some (gb g))), (1, va_rf (l1)), (2, va_rf (l2)), (3, .int (l3))] [] m (QI Q) := by
  refine at_aload_n (i := 1) 1 954 rfl (by decide +kernel) rfl ?_
  refine at_aload_n (i := 0) 0 955 rfl (by decide +kernel) rfl ?_
  refine at_iload_n (i := 3) 3 956 rfl (by decide +kernel) rfl ?_
  refine at_iconst (n := 1) (1 : Int32) 957 rfl (by decide +kernel) (by decide +kernel) ?_
  refine at_iadd 958 rfl (by decide +kernel) ?_
  obtain ⟨v1, h⟩ := h
  refine at_ialdX 959 rfl (by decide +kernel) v1 ?_
  obtain ⟨b2, e3, h⟩ := h
  rw [e3]
  obtain ⟨k4, h⟩ := h
  refine at_callV mb_SL_beside tw_1014 tw_1015 cok11 k4 (index := 114) tw_1013 [.int (gx g (l3 + (1 : Int32)).toNatClampNeg)] [] rfl rfl (by decide) 962 rfl (by decide +kernel) (Call.toJ (CJ.monoE h (fun x5 m6 h y7 => ?_)))
  have k8 : mK m6 b2 = 12 := y7.k k4 (by decide)
  refine at_aload_n (i := 2) 2 963 rfl (by decide +kernel) rfl ?_
  refine at_aload_n (i := 0) 0 964 rfl (by decide +kernel) rfl ?_
  refine at_iload_n (i := 3) 3 965 rfl (by decide +kernel) rfl ?_
  refine at_iconst (n := 1) (1 : Int32) 966 rfl (by decide +kernel) (by decide +kernel) ?_
  refine at_iadd 967 rfl (by decide +kernel) ?_
  obtain ⟨v9, h⟩ := h
  refine at_ialdX 968 rfl (by decide +kernel) v9 ?_
  obtain ⟨b10, e11, h⟩ := h
  rw [e11]
  obtain ⟨k12, h⟩ := h
  refine at_callV mb_RF_beside tw_1567 tw_1568 cok12 k12 (index := 117) tw_1566 [.int (gx g (l3 + (1 : Int32)).toNatClampNeg)] [.long (x5)] rfl rfl (by simp [va_rf_cat, cat_int, cat_long]) 971 rfl (by decide +kernel) (Call.toJ (CJ.monoE h (fun x13 m14 h y15 => ?_)))
  have k16 : mK m14 b2 = 12 := y15.k k8 (by decide)
  have k17 : mK m14 b10 = 13 := y15.k k12 (by decide)
  refine at_lif_eq (off := 260) 972 1232 975 rfl rfl (by decide +kernel) (by decide +kernel) (by decide +kernel) (fun c18 => ?_) (fun c18 => ?_)
  · rw [if_pos c18] at h
    exact h
  · rw [if_neg c18] at h
    refine at_iconst (n := 0) (0 : Int32) 976 rfl (by decide +kernel) (by decide +kernel) ?_
    exact at_zret rfl (by decide +kernel) (Or.inl rfl) h
set_option maxRecDepth 20000 in
set_option maxHeartbeats 4000000 in
theorem bk_LW_law_919 (g : Gc) {lv : Nat} {l0 : Option Nat} {l1 : Option Nat} {l2 : Option Nat} {l3 : Int32} {m : Mm} {Q : Int32 → Mm → Prop} (h : vp_in (l3 + (1 : Int32)) (gn g) ∧ (vp_in (l3 + (2 : Int32)) (gn g) ∧ (∃ b3, l1 = some b3 ∧ (mK m b3 = 12 ∧ (CJ g M_SL_gains lv [va_rf (some b3), .int (gx g (l3 + (1 : Int32)).toNatClampNeg), .int (gx g (l3 + (2 : Int32)).toNatClampNeg)] m (fun x6 m7 => (vp_in (l3 + (1 : Int32)) (gn g) ∧ (vp_in (l3 + (2 : Int32)) (gn g) ∧ (∃ b12, l2 = some b12 ∧ (mK m7 b12 = 13 ∧ (CJ g M_RF_gains lv [va_rf (some b12), .int (gx g (l3 + (1 : Int32)).toNatClampNeg), .int (gx g (l3 + (2 : Int32)).toNatClampNeg)] m7 (fun x15 m16 => (if (x6) = (x15) then (At g M_LW_law (lv + 1) 1232 [(0, va_rf (some (gb g))), (1, va_rf (some b3)), (2, va_rf (some b12)), (3, .int (l3))] [] m16 (QI Q)) else (Q (0 : Int32) m16)))))))))))))) : At g M_LW_law (lv + 1) 919 [(0, va_rf (some (gb g))), (1, va_rf (l1)), (2, va_rf (l2)), (3, .int (l3))] [] m (QI Q) := by
  refine at_aload_n (i := 1) 1 920 rfl (by decide +kernel) rfl ?_
  refine at_aload_n (i := 0) 0 921 rfl (by decide +kernel) rfl ?_
  refine at_iload_n (i := 3) 3 922 rfl (by decide +kernel) rfl ?_
  refine at_iconst (n := 1) (1 : Int32) 923 rfl (by decide +kernel) (by decide +kernel) ?_
  refine at_iadd 924 rfl (by decide +kernel) ?_
  obtain ⟨v1, h⟩ := h
  refine at_ialdX 925 rfl (by decide +kernel) v1 ?_
  refine at_aload_n (i := 0) 0 926 rfl (by decide +kernel) rfl ?_
  refine at_iload_n (i := 3) 3 927 rfl (by decide +kernel) rfl ?_
  refine at_iconst (n := 2) (2 : Int32) 928 rfl (by decide +kernel) (by decide +kernel) ?_
  refine at_iadd 929 rfl (by decide +kernel) ?_
  obtain ⟨v2, h⟩ := h
  refine at_ialdX 930 rfl (by decide +kernel) v2 ?_
  obtain ⟨b3, e4, h⟩ := h
  rw [e4]
  obtain ⟨k5, h⟩ := h
  refine at_callV mb_SL_gains tw_1010 tw_1011 cok11 k5 (index := 110) tw_1009 [.int (gx g (l3 + (1 : Int32)).toNatClampNeg), .int (gx g (l3 + (2 : Int32)).toNatClampNeg)] [] rfl rfl (by decide) 933 rfl (by decide +kernel) (Call.toJ (CJ.monoE h (fun x6 m7 h y8 => ?_)))
  have k9 : mK m7 b3 = 12 := y8.k k5 (by decide)
  refine at_aload_n (i := 2) 2 934 rfl (by decide +kernel) rfl ?_
  refine at_aload_n (i := 0) 0 935 rfl (by decide +kernel) rfl ?_
  refine at_iload_n (i := 3) 3 936 rfl (by decide +kernel) rfl ?_
  refine at_iconst (n := 1) (1 : Int32) 937 rfl (by decide +kernel) (by decide +kernel) ?_
  refine at_iadd 938 rfl (by decide +kernel) ?_
  obtain ⟨v10, h⟩ := h
  refine at_ialdX 939 rfl (by decide +kernel) v10 ?_
  refine at_aload_n (i := 0) 0 940 rfl (by decide +kernel) rfl ?_
  refine at_iload_n (i := 3) 3 941 rfl (by decide +kernel) rfl ?_
  refine at_iconst (n := 2) (2 : Int32) 942 rfl (by decide +kernel) (by decide +kernel) ?_
  refine at_iadd 943 rfl (by decide +kernel) ?_
  obtain ⟨v11, h⟩ := h
  refine at_ialdX 944 rfl (by decide +kernel) v11 ?_
  obtain ⟨b12, e13, h⟩ := h
  rw [e13]
  obtain ⟨k14, h⟩ := h
  refine at_callV mb_RF_gains tw_1563 tw_1564 cok12 k14 (index := 113) tw_1562 [.int (gx g (l3 + (1 : Int32)).toNatClampNeg), .int (gx g (l3 + (2 : Int32)).toNatClampNeg)] [.long (x6)] rfl rfl (by simp [va_rf_cat, cat_int, cat_long]) 947 rfl (by decide +kernel) (Call.toJ (CJ.monoE h (fun x15 m16 h y17 => ?_)))
  have k18 : mK m16 b3 = 12 := y17.k k9 (by decide)
  have k19 : mK m16 b12 = 13 := y17.k k14 (by decide)
  refine at_lif_eq (off := 284) 948 1232 951 rfl rfl (by decide +kernel) (by decide +kernel) (by decide +kernel) (fun c20 => ?_) (fun c20 => ?_)
  · rw [if_pos c20] at h
    exact h
  · rw [if_neg c20] at h
    refine at_iconst (n := 0) (0 : Int32) 952 rfl (by decide +kernel) (by decide +kernel) ?_
    exact at_zret rfl (by decide +kernel) (Or.inl rfl) h
set_option maxRecDepth 20000 in
set_option maxHeartbeats 4000000 in
theorem bk_LW_law_895 (g : Gc) {lv : Nat} {l0 : Option Nat} {l1 : Option Nat} {l2 : Option Nat} {l3 : Int32} {m : Mm} {Q : Int32 → Mm → Prop} (h : vp_in (l3 + (1 : Int32)) (gn g) ∧ (∃ b2, l1 = some b2 ∧ (mK m b2 = 12 ∧ (CJ g M_SL_sum lv [va_rf (some b2), .int (gx g (l3 + (1 : Int32)).toNatClampNeg)] m (fun x5 m6 => (vp_in (l3 + (1 : Int32)) (gn g) ∧ (∃ b10, l2 = some b10 ∧ (mK m6 b10 = 13 ∧ (CJ g M_RF_sum_I lv [va_rf (some b10), .int (gx g (l3 + (1 : Int32)).toNatClampNeg)] m6 (fun x13 m14 => (if (x5) = (x13) then (At g M_LW_law (lv + 1) 1232 [(0, va_rf (some (gb g))), (1, va_rf (some b2)), (2, va_rf (some b10)), (3, .int (l3))] [] m14 (QI Q)) else (Q (0 : Int32) m14)))))))))))) : At g M_LW_law (lv + 1) 895 [(0, va_rf (some (gb g))), (1, va_rf (l1)), (2, va_rf (l2)), (3, .int (l3))] [] m (QI Q) := by
  refine at_aload_n (i := 1) 1 896 rfl (by decide +kernel) rfl ?_
  refine at_aload_n (i := 0) 0 897 rfl (by decide +kernel) rfl ?_
  refine at_iload_n (i := 3) 3 898 rfl (by decide +kernel) rfl ?_
  refine at_iconst (n := 1) (1 : Int32) 899 rfl (by decide +kernel) (by decide +kernel) ?_
  refine at_iadd 900 rfl (by decide +kernel) ?_
  obtain ⟨v1, h⟩ := h
  refine at_ialdX 901 rfl (by decide +kernel) v1 ?_
  obtain ⟨b2, e3, h⟩ := h
  rw [e3]
  obtain ⟨k4, h⟩ := h
  refine at_callV mb_SL_sum tw_1006 tw_1007 cok11 k4 (index := 106) tw_1005 [.int (gx g (l3 + (1 : Int32)).toNatClampNeg)] [] rfl rfl (by decide) 904 rfl (by decide +kernel) (Call.toJ (CJ.monoE h (fun x5 m6 h y7 => ?_)))
  have k8 : mK m6 b2 = 12 := y7.k k4 (by decide)
  refine at_aload_n (i := 2) 2 905 rfl (by decide +kernel) rfl ?_
  refine at_aload_n (i := 0) 0 906 rfl (by decide +kernel) rfl ?_
  refine at_iload_n (i := 3) 3 907 rfl (by decide +kernel) rfl ?_
  refine at_iconst (n := 1) (1 : Int32) 908 rfl (by decide +kernel) (by decide +kernel) ?_
  refine at_iadd 909 rfl (by decide +kernel) ?_
  obtain ⟨v9, h⟩ := h
  refine at_ialdX 910 rfl (by decide +kernel) v9 ?_
  obtain ⟨b10, e11, h⟩ := h
  rw [e11]
  obtain ⟨k12, h⟩ := h
  refine at_callV mb_RF_sum_I tw_1559 tw_1560 cok12 k12 (index := 109) tw_1558 [.int (gx g (l3 + (1 : Int32)).toNatClampNeg)] [.long (x5)] rfl rfl (by simp [va_rf_cat, cat_int, cat_long]) 913 rfl (by decide +kernel) (Call.toJ (CJ.monoE h (fun x13 m14 h y15 => ?_)))
  have k16 : mK m14 b2 = 12 := y15.k k8 (by decide)
  have k17 : mK m14 b10 = 13 := y15.k k12 (by decide)
  refine at_lif_eq (off := 318) 914 1232 917 rfl rfl (by decide +kernel) (by decide +kernel) (by decide +kernel) (fun c18 => ?_) (fun c18 => ?_)
  · rw [if_pos c18] at h
    exact h
  · rw [if_neg c18] at h
    refine at_iconst (n := 0) (0 : Int32) 918 rfl (by decide +kernel) (by decide +kernel) ?_
    exact at_zret rfl (by decide +kernel) (Or.inl rfl) h
set_option maxRecDepth 20000 in
set_option maxHeartbeats 4000000 in
theorem bk_LW_law_872 (g : Gc) {lv : Nat} {l0 : Option Nat} {l1 : Option Nat} {l2 : Option Nat} {l3 : Int32} {m : Mm} {Q : Int32 → Mm → Prop} (h : vp_in (l3 + (1 : Int32)) (gn g) ∧ (∃ b2, l1 = some b2 ∧ (mK m b2 = 12 ∧ (CI g M_SL_count lv [va_rf (some b2), .int (gx g (l3 + (1 : Int32)).toNatClampNeg)] m (fun x5 m6 => (vp_in (l3 + (1 : Int32)) (gn g) ∧ (∃ b10, l2 = some b10 ∧ (mK m6 b10 = 13 ∧ (CI g M_RF_count lv [va_rf (some b10), .int (gx g (l3 + (1 : Int32)).toNatClampNeg)] m6 (fun x13 m14 => (if (x5) = (x13) then (At g M_LW_law (lv + 1) 1232 [(0, va_rf (some (gb g))), (1, va_rf (some b2)), (2, va_rf (some b10)), (3, .int (l3))] [] m14 (QI Q)) else (Q (0 : Int32) m14)))))))))))) : At g M_LW_law (lv + 1) 872 [(0, va_rf (some (gb g))), (1, va_rf (l1)), (2, va_rf (l2)), (3, .int (l3))] [] m (QI Q) := by
  refine at_aload_n (i := 1) 1 873 rfl (by decide +kernel) rfl ?_
  refine at_aload_n (i := 0) 0 874 rfl (by decide +kernel) rfl ?_
  refine at_iload_n (i := 3) 3 875 rfl (by decide +kernel) rfl ?_
  refine at_iconst (n := 1) (1 : Int32) 876 rfl (by decide +kernel) (by decide +kernel) ?_
  refine at_iadd 877 rfl (by decide +kernel) ?_
  obtain ⟨v1, h⟩ := h
  refine at_ialdX 878 rfl (by decide +kernel) v1 ?_
  obtain ⟨b2, e3, h⟩ := h
  rw [e3]
  obtain ⟨k4, h⟩ := h
  refine at_callV mb_SL_count tw_996 tw_997 cok11 k4 (index := 102) tw_995 [.int (gx g (l3 + (1 : Int32)).toNatClampNeg)] [] rfl rfl (by decide) 881 rfl (by decide +kernel) (Call.toI (CI.monoE h (fun x5 m6 h y7 => ?_)))
  have k8 : mK m6 b2 = 12 := y7.k k4 (by decide)
  refine at_aload_n (i := 2) 2 882 rfl (by decide +kernel) rfl ?_
  refine at_aload_n (i := 0) 0 883 rfl (by decide +kernel) rfl ?_
  refine at_iload_n (i := 3) 3 884 rfl (by decide +kernel) rfl ?_
  refine at_iconst (n := 1) (1 : Int32) 885 rfl (by decide +kernel) (by decide +kernel) ?_
  refine at_iadd 886 rfl (by decide +kernel) ?_
  obtain ⟨v9, h⟩ := h
  refine at_ialdX 887 rfl (by decide +kernel) v9 ?_
  obtain ⟨b10, e11, h⟩ := h
  rw [e11]
  obtain ⟨k12, h⟩ := h
  refine at_callV mb_RF_count tw_1555 tw_1556 cok12 k12 (index := 105) tw_1554 [.int (gx g (l3 + (1 : Int32)).toNatClampNeg)] [.int (x5)] rfl rfl (by simp [va_rf_cat, cat_int, cat_long]) 890 rfl (by decide +kernel) (Call.toI (CI.monoE h (fun x13 m14 h y15 => ?_)))
  have k16 : mK m14 b2 = 12 := y15.k k8 (by decide)
  have k17 : mK m14 b10 = 13 := y15.k k12 (by decide)
  refine at_icmp_eq (off := 342) 1232 893 rfl (by decide +kernel) (by decide +kernel) (fun c18 => ?_) (fun c18 => ?_)
  · rw [if_pos c18] at h
    exact h
  · rw [if_neg c18] at h
    refine at_iconst (n := 0) (0 : Int32) 894 rfl (by decide +kernel) (by decide +kernel) ?_
    exact at_zret rfl (by decide +kernel) (Or.inl rfl) h
set_option maxRecDepth 20000 in
set_option maxHeartbeats 4000000 in
theorem bk_LW_law_848 (g : Gc) {lv : Nat} {l0 : Option Nat} {l1 : Option Nat} {l2 : Option Nat} {l3 : Int32} {m : Mm} {Q : Int32 → Mm → Prop} (h : vp_in (l3 + (1 : Int32)) (gn g) ∧ (∃ b2, l1 = some b2 ∧ (mK m b2 = 12 ∧ (CJ g M_SL_money lv [va_rf (some b2), .int (gx g (l3 + (1 : Int32)).toNatClampNeg)] m (fun x5 m6 => (vp_in (l3 + (1 : Int32)) (gn g) ∧ (∃ b10, l2 = some b10 ∧ (mK m6 b10 = 13 ∧ (CJ g M_RF_money lv [va_rf (some b10), .int (gx g (l3 + (1 : Int32)).toNatClampNeg)] m6 (fun x13 m14 => (if (x5) = (x13) then (At g M_LW_law (lv + 1) 1232 [(0, va_rf (some (gb g))), (1, va_rf (some b2)), (2, va_rf (some b10)), (3, .int (l3))] [] m14 (QI Q)) else (Q (0 : Int32) m14)))))))))))) : At g M_LW_law (lv + 1) 848 [(0, va_rf (some (gb g))), (1, va_rf (l1)), (2, va_rf (l2)), (3, .int (l3))] [] m (QI Q) := by
  refine at_aload_n (i := 1) 1 849 rfl (by decide +kernel) rfl ?_
  refine at_aload_n (i := 0) 0 850 rfl (by decide +kernel) rfl ?_
  refine at_iload_n (i := 3) 3 851 rfl (by decide +kernel) rfl ?_
  refine at_iconst (n := 1) (1 : Int32) 852 rfl (by decide +kernel) (by decide +kernel) ?_
  refine at_iadd 853 rfl (by decide +kernel) ?_
  obtain ⟨v1, h⟩ := h
  refine at_ialdX 854 rfl (by decide +kernel) v1 ?_
  obtain ⟨b2, e3, h⟩ := h
  rw [e3]
  obtain ⟨k4, h⟩ := h
  refine at_callV mb_SL_money tw_992 tw_993 cok11 k4 (index := 97) tw_991 [.int (gx g (l3 + (1 : Int32)).toNatClampNeg)] [] rfl rfl (by decide) 857 rfl (by decide +kernel) (Call.toJ (CJ.monoE h (fun x5 m6 h y7 => ?_)))
  have k8 : mK m6 b2 = 12 := y7.k k4 (by decide)
  refine at_aload_n (i := 2) 2 858 rfl (by decide +kernel) rfl ?_
  refine at_aload_n (i := 0) 0 859 rfl (by decide +kernel) rfl ?_
  refine at_iload_n (i := 3) 3 860 rfl (by decide +kernel) rfl ?_
  refine at_iconst (n := 1) (1 : Int32) 861 rfl (by decide +kernel) (by decide +kernel) ?_
  refine at_iadd 862 rfl (by decide +kernel) ?_
  obtain ⟨v9, h⟩ := h
  refine at_ialdX 863 rfl (by decide +kernel) v9 ?_
  obtain ⟨b10, e11, h⟩ := h
  rw [e11]
  obtain ⟨k12, h⟩ := h
  refine at_callV mb_RF_money tw_1549 tw_1550 cok12 k12 (index := 101) tw_1548 [.int (gx g (l3 + (1 : Int32)).toNatClampNeg)] [.long (x5)] rfl rfl (by simp [va_rf_cat, cat_int, cat_long]) 866 rfl (by decide +kernel) (Call.toJ (CJ.monoE h (fun x13 m14 h y15 => ?_)))
  have k16 : mK m14 b2 = 12 := y15.k k8 (by decide)
  have k17 : mK m14 b10 = 13 := y15.k k12 (by decide)
  refine at_lif_eq (off := 365) 867 1232 870 rfl rfl (by decide +kernel) (by decide +kernel) (by decide +kernel) (fun c18 => ?_) (fun c18 => ?_)
  · rw [if_pos c18] at h
    exact h
  · rw [if_neg c18] at h
    refine at_iconst (n := 0) (0 : Int32) 871 rfl (by decide +kernel) (by decide +kernel) ?_
    exact at_zret rfl (by decide +kernel) (Or.inl rfl) h
set_option maxRecDepth 20000 in
set_option maxHeartbeats 4000000 in
theorem bk_LW_law_815 (g : Gc) {lv : Nat} {l0 : Option Nat} {l1 : Option Nat} {l2 : Option Nat} {l3 : Int32} {m : Mm} {Q : Int32 → Mm → Prop} (h : vp_in (l3 + (1 : Int32)) (gn g) ∧ (vp_in (l3 + (2 : Int32)) (gn g) ∧ (∃ b3, l1 = some b3 ∧ (mK m b3 = 12 ∧ (CI g M_SL_growerOf lv [va_rf (some b3), .int (gx g (l3 + (1 : Int32)).toNatClampNeg), .int (gx g (l3 + (2 : Int32)).toNatClampNeg)] m (fun x6 m7 => (vp_in (l3 + (1 : Int32)) (gn g) ∧ (vp_in (l3 + (2 : Int32)) (gn g) ∧ (∃ b12, l2 = some b12 ∧ (mK m7 b12 = 13 ∧ (CI g M_RF_growerOf lv [va_rf (some b12), .int (gx g (l3 + (1 : Int32)).toNatClampNeg), .int (gx g (l3 + (2 : Int32)).toNatClampNeg)] m7 (fun x15 m16 => (if (x6) = (x15) then (At g M_LW_law (lv + 1) 1232 [(0, va_rf (some (gb g))), (1, va_rf (some b3)), (2, va_rf (some b12)), (3, .int (l3))] [] m16 (QI Q)) else (Q (0 : Int32) m16)))))))))))))) : At g M_LW_law (lv + 1) 815 [(0, va_rf (some (gb g))), (1, va_rf (l1)), (2, va_rf (l2)), (3, .int (l3))] [] m (QI Q) := by
  refine at_aload_n (i := 1) 1 816 rfl (by decide +kernel) rfl ?_
  refine at_aload_n (i := 0) 0 817 rfl (by decide +kernel) rfl ?_
  refine at_iload_n (i := 3) 3 818 rfl (by decide +kernel) rfl ?_
  refine at_iconst (n := 1) (1 : Int32) 819 rfl (by decide +kernel) (by decide +kernel) ?_
  refine at_iadd 820 rfl (by decide +kernel) ?_
  obtain ⟨v1, h⟩ := h
  refine at_ialdX 821 rfl (by decide +kernel) v1 ?_
  refine at_aload_n (i := 0) 0 822 rfl (by decide +kernel) rfl ?_
  refine at_iload_n (i := 3) 3 823 rfl (by decide +kernel) rfl ?_
  refine at_iconst (n := 2) (2 : Int32) 824 rfl (by decide +kernel) (by decide +kernel) ?_
  refine at_iadd 825 rfl (by decide +kernel) ?_
  obtain ⟨v2, h⟩ := h
  refine at_ialdX 826 rfl (by decide +kernel) v2 ?_
  obtain ⟨b3, e4, h⟩ := h
  rw [e4]
  obtain ⟨k5, h⟩ := h
  refine at_callV mb_SL_growerOf tw_983 tw_984 cok11 k5 (index := 93) tw_982 [.int (gx g (l3 + (1 : Int32)).toNatClampNeg), .int (gx g (l3 + (2 : Int32)).toNatClampNeg)] [] rfl rfl (by decide) 829 rfl (by decide +kernel) (Call.toI (CI.monoE h (fun x6 m7 h y8 => ?_)))
  have k9 : mK m7 b3 = 12 := y8.k k5 (by decide)
  refine at_aload_n (i := 2) 2 830 rfl (by decide +kernel) rfl ?_
  refine at_aload_n (i := 0) 0 831 rfl (by decide +kernel) rfl ?_
  refine at_iload_n (i := 3) 3 832 rfl (by decide +kernel) rfl ?_
  refine at_iconst (n := 1) (1 : Int32) 833 rfl (by decide +kernel) (by decide +kernel) ?_
  refine at_iadd 834 rfl (by decide +kernel) ?_
  obtain ⟨v10, h⟩ := h
  refine at_ialdX 835 rfl (by decide +kernel) v10 ?_
  refine at_aload_n (i := 0) 0 836 rfl (by decide +kernel) rfl ?_
  refine at_iload_n (i := 3) 3 837 rfl (by decide +kernel) rfl ?_
  refine at_iconst (n := 2) (2 : Int32) 838 rfl (by decide +kernel) (by decide +kernel) ?_
  refine at_iadd 839 rfl (by decide +kernel) ?_
  obtain ⟨v11, h⟩ := h
  refine at_ialdX 840 rfl (by decide +kernel) v11 ?_
  obtain ⟨b12, e13, h⟩ := h
  rw [e13]
  obtain ⟨k14, h⟩ := h
  refine at_callV mb_RF_growerOf tw_1545 tw_1546 cok12 k14 (index := 96) tw_1544 [.int (gx g (l3 + (1 : Int32)).toNatClampNeg), .int (gx g (l3 + (2 : Int32)).toNatClampNeg)] [.int (x6)] rfl rfl (by simp [va_rf_cat, cat_int, cat_long]) 843 rfl (by decide +kernel) (Call.toI (CI.monoE h (fun x15 m16 h y17 => ?_)))
  have k18 : mK m16 b3 = 12 := y17.k k9 (by decide)
  have k19 : mK m16 b12 = 13 := y17.k k14 (by decide)
  refine at_icmp_eq (off := 389) 1232 846 rfl (by decide +kernel) (by decide +kernel) (fun c20 => ?_) (fun c20 => ?_)
  · rw [if_pos c20] at h
    exact h
  · rw [if_neg c20] at h
    refine at_iconst (n := 0) (0 : Int32) 847 rfl (by decide +kernel) (by decide +kernel) ?_
    exact at_zret rfl (by decide +kernel) (Or.inl rfl) h
set_option maxRecDepth 20000 in
set_option maxHeartbeats 4000000 in
theorem bk_LW_law_781 (g : Gc) {lv : Nat} {l0 : Option Nat} {l1 : Option Nat} {l2 : Option Nat} {l3 : Int32} {m : Mm} {Q : Int32 → Mm → Prop} (h : vp_in (l3 + (1 : Int32)) (gn g) ∧ (vp_in (l3 + (2 : Int32)) (gn g) ∧ (∃ b3, l1 = some b3 ∧ (mK m b3 = 12 ∧ (CJ g M_SL_owed lv [va_rf (some b3), .int (gx g (l3 + (1 : Int32)).toNatClampNeg), .int (gx g (l3 + (2 : Int32)).toNatClampNeg)] m (fun x6 m7 => (vp_in (l3 + (1 : Int32)) (gn g) ∧ (vp_in (l3 + (2 : Int32)) (gn g) ∧ (∃ b12, l2 = some b12 ∧ (mK m7 b12 = 13 ∧ (CJ g M_RF_owed lv [va_rf (some b12), .int (gx g (l3 + (1 : Int32)).toNatClampNeg), .int (gx g (l3 + (2 : Int32)).toNatClampNeg)] m7 (fun x15 m16 => (if (x6) = (x15) then (At g M_LW_law (lv + 1) 1232 [(0, va_rf (some (gb g))), (1, va_rf (some b3)), (2, va_rf (some b12)), (3, .int (l3))] [] m16 (QI Q)) else (Q (0 : Int32) m16)))))))))))))) : At g M_LW_law (lv + 1) 781 [(0, va_rf (some (gb g))), (1, va_rf (l1)), (2, va_rf (l2)), (3, .int (l3))] [] m (QI Q) := by
  refine at_aload_n (i := 1) 1 782 rfl (by decide +kernel) rfl ?_
  refine at_aload_n (i := 0) 0 783 rfl (by decide +kernel) rfl ?_
  refine at_iload_n (i := 3) 3 784 rfl (by decide +kernel) rfl ?_
  refine at_iconst (n := 1) (1 : Int32) 785 rfl (by decide +kernel) (by decide +kernel) ?_
  refine at_iadd 786 rfl (by decide +kernel) ?_
  obtain ⟨v1, h⟩ := h
  refine at_ialdX 787 rfl (by decide +kernel) v1 ?_
  refine at_aload_n (i := 0) 0 788 rfl (by decide +kernel) rfl ?_
  refine at_iload_n (i := 3) 3 789 rfl (by decide +kernel) rfl ?_
  refine at_iconst (n := 2) (2 : Int32) 790 rfl (by decide +kernel) (by decide +kernel) ?_
  refine at_iadd 791 rfl (by decide +kernel) ?_
  obtain ⟨v2, h⟩ := h
  refine at_ialdX 792 rfl (by decide +kernel) v2 ?_
  obtain ⟨b3, e4, h⟩ := h
  rw [e4]
  obtain ⟨k5, h⟩ := h
  refine at_callV mb_SL_owed tw_979 tw_980 cok11 k5 (index := 89) tw_978 [.int (gx g (l3 + (1 : Int32)).toNatClampNeg), .int (gx g (l3 + (2 : Int32)).toNatClampNeg)] [] rfl rfl (by decide) 795 rfl (by decide +kernel) (Call.toJ (CJ.monoE h (fun x6 m7 h y8 => ?_)))
  have k9 : mK m7 b3 = 12 := y8.k k5 (by decide)
  refine at_aload_n (i := 2) 2 796 rfl (by decide +kernel) rfl ?_
  refine at_aload_n (i := 0) 0 797 rfl (by decide +kernel) rfl ?_
  refine at_iload_n (i := 3) 3 798 rfl (by decide +kernel) rfl ?_
  refine at_iconst (n := 1) (1 : Int32) 799 rfl (by decide +kernel) (by decide +kernel) ?_
  refine at_iadd 800 rfl (by decide +kernel) ?_
  obtain ⟨v10, h⟩ := h
  refine at_ialdX 801 rfl (by decide +kernel) v10 ?_
  refine at_aload_n (i := 0) 0 802 rfl (by decide +kernel) rfl ?_
  refine at_iload_n (i := 3) 3 803 rfl (by decide +kernel) rfl ?_
  refine at_iconst (n := 2) (2 : Int32) 804 rfl (by decide +kernel) (by decide +kernel) ?_
  refine at_iadd 805 rfl (by decide +kernel) ?_
  obtain ⟨v11, h⟩ := h
  refine at_ialdX 806 rfl (by decide +kernel) v11 ?_
  obtain ⟨b12, e13, h⟩ := h
  rw [e13]
  obtain ⟨k14, h⟩ := h
  refine at_callV mb_RF_owed tw_1541 tw_1542 cok12 k14 (index := 92) tw_1540 [.int (gx g (l3 + (1 : Int32)).toNatClampNeg), .int (gx g (l3 + (2 : Int32)).toNatClampNeg)] [.long (x6)] rfl rfl (by simp [va_rf_cat, cat_int, cat_long]) 809 rfl (by decide +kernel) (Call.toJ (CJ.monoE h (fun x15 m16 h y17 => ?_)))
  have k18 : mK m16 b3 = 12 := y17.k k9 (by decide)
  have k19 : mK m16 b12 = 13 := y17.k k14 (by decide)
  refine at_lif_eq (off := 422) 810 1232 813 rfl rfl (by decide +kernel) (by decide +kernel) (by decide +kernel) (fun c20 => ?_) (fun c20 => ?_)
  · rw [if_pos c20] at h
    exact h
  · rw [if_neg c20] at h
    refine at_iconst (n := 0) (0 : Int32) 814 rfl (by decide +kernel) (by decide +kernel) ?_
    exact at_zret rfl (by decide +kernel) (Or.inl rfl) h
set_option maxRecDepth 20000 in
set_option maxHeartbeats 4000000 in
theorem bk_LW_law_748 (g : Gc) {lv : Nat} {l0 : Option Nat} {l1 : Option Nat} {l2 : Option Nat} {l3 : Int32} {m : Mm} {Q : Int32 → Mm → Prop} (h : vp_in (l3 + (1 : Int32)) (gn g) ∧ (vp_in (l3 + (2 : Int32)) (gn g) ∧ (∃ b3, l1 = some b3 ∧ (mK m b3 = 12 ∧ (CI g M_SL_receipt lv [va_rf (some b3), .int (gx g (l3 + (1 : Int32)).toNatClampNeg), .int (gx g (l3 + (2 : Int32)).toNatClampNeg)] m (fun x6 m7 => (vp_in (l3 + (1 : Int32)) (gn g) ∧ (vp_in (l3 + (2 : Int32)) (gn g) ∧ (∃ b12, l2 = some b12 ∧ (mK m7 b12 = 13 ∧ (CI g M_RF_receipt_II lv [va_rf (some b12), .int (gx g (l3 + (1 : Int32)).toNatClampNeg), .int (gx g (l3 + (2 : Int32)).toNatClampNeg)] m7 (fun x15 m16 => (if (x6) = (x15) then (At g M_LW_law (lv + 1) 1232 [(0, va_rf (some (gb g))), (1, va_rf (some b3)), (2, va_rf (some b12)), (3, .int (l3))] [] m16 (QI Q)) else (Q (0 : Int32) m16)))))))))))))) : At g M_LW_law (lv + 1) 748 [(0, va_rf (some (gb g))), (1, va_rf (l1)), (2, va_rf (l2)), (3, .int (l3))] [] m (QI Q) := by
  refine at_aload_n (i := 1) 1 749 rfl (by decide +kernel) rfl ?_
  refine at_aload_n (i := 0) 0 750 rfl (by decide +kernel) rfl ?_
  refine at_iload_n (i := 3) 3 751 rfl (by decide +kernel) rfl ?_
  refine at_iconst (n := 1) (1 : Int32) 752 rfl (by decide +kernel) (by decide +kernel) ?_
  refine at_iadd 753 rfl (by decide +kernel) ?_
  obtain ⟨v1, h⟩ := h
  refine at_ialdX 754 rfl (by decide +kernel) v1 ?_
  refine at_aload_n (i := 0) 0 755 rfl (by decide +kernel) rfl ?_
  refine at_iload_n (i := 3) 3 756 rfl (by decide +kernel) rfl ?_
  refine at_iconst (n := 2) (2 : Int32) 757 rfl (by decide +kernel) (by decide +kernel) ?_
  refine at_iadd 758 rfl (by decide +kernel) ?_
  obtain ⟨v2, h⟩ := h
  refine at_ialdX 759 rfl (by decide +kernel) v2 ?_
  obtain ⟨b3, e4, h⟩ := h
  rw [e4]
  obtain ⟨k5, h⟩ := h
  refine at_callV mb_SL_receipt tw_975 tw_976 cok11 k5 (index := 85) tw_974 [.int (gx g (l3 + (1 : Int32)).toNatClampNeg), .int (gx g (l3 + (2 : Int32)).toNatClampNeg)] [] rfl rfl (by decide) 762 rfl (by decide +kernel) (Call.toI (CI.monoE h (fun x6 m7 h y8 => ?_)))
  have k9 : mK m7 b3 = 12 := y8.k k5 (by decide)
  refine at_aload_n (i := 2) 2 763 rfl (by decide +kernel) rfl ?_
  refine at_aload_n (i := 0) 0 764 rfl (by decide +kernel) rfl ?_
  refine at_iload_n (i := 3) 3 765 rfl (by decide +kernel) rfl ?_
  refine at_iconst (n := 1) (1 : Int32) 766 rfl (by decide +kernel) (by decide +kernel) ?_
  refine at_iadd 767 rfl (by decide +kernel) ?_
  obtain ⟨v10, h⟩ := h
  refine at_ialdX 768 rfl (by decide +kernel) v10 ?_
  refine at_aload_n (i := 0) 0 769 rfl (by decide +kernel) rfl ?_
  refine at_iload_n (i := 3) 3 770 rfl (by decide +kernel) rfl ?_
  refine at_iconst (n := 2) (2 : Int32) 771 rfl (by decide +kernel) (by decide +kernel) ?_
  refine at_iadd 772 rfl (by decide +kernel) ?_
  obtain ⟨v11, h⟩ := h
  refine at_ialdX 773 rfl (by decide +kernel) v11 ?_
  obtain ⟨b12, e13, h⟩ := h
  rw [e13]
  obtain ⟨k14, h⟩ := h
  refine at_callV mb_RF_receipt_II tw_1537 tw_1538 cok12 k14 (index := 88) tw_1536 [.int (gx g (l3 + (1 : Int32)).toNatClampNeg), .int (gx g (l3 + (2 : Int32)).toNatClampNeg)] [.int (x6)] rfl rfl (by simp [va_rf_cat, cat_int, cat_long]) 776 rfl (by decide +kernel) (Call.toI (CI.monoE h (fun x15 m16 h y17 => ?_)))
  have k18 : mK m16 b3 = 12 := y17.k k9 (by decide)
  have k19 : mK m16 b12 = 13 := y17.k k14 (by decide)
  refine at_icmp_eq (off := 456) 1232 779 rfl (by decide +kernel) (by decide +kernel) (fun c20 => ?_) (fun c20 => ?_)
  · rw [if_pos c20] at h
    exact h
  · rw [if_neg c20] at h
    refine at_iconst (n := 0) (0 : Int32) 780 rfl (by decide +kernel) (by decide +kernel) ?_
    exact at_zret rfl (by decide +kernel) (Or.inl rfl) h
set_option maxRecDepth 20000 in
set_option maxHeartbeats 4000000 in
theorem bk_LW_law_725 (g : Gc) {lv : Nat} {l0 : Option Nat} {l1 : Option Nat} {l2 : Option Nat} {l3 : Int32} {m : Mm} {Q : Int32 → Mm → Prop} (h : vp_in (l3 + (1 : Int32)) (gn g) ∧ (∃ b2, l1 = some b2 ∧ (mK m b2 = 12 ∧ (CI g M_SL_redeem lv [va_rf (some b2), .int (gx g (l3 + (1 : Int32)).toNatClampNeg)] m (fun x5 m6 => (vp_in (l3 + (1 : Int32)) (gn g) ∧ (∃ b10, l2 = some b10 ∧ (mK m6 b10 = 13 ∧ (CI g M_RF_redeem lv [va_rf (some b10), .int (gx g (l3 + (1 : Int32)).toNatClampNeg)] m6 (fun x13 m14 => (if (x5) = (x13) then (At g M_LW_law (lv + 1) 1232 [(0, va_rf (some (gb g))), (1, va_rf (some b2)), (2, va_rf (some b10)), (3, .int (l3))] [] m14 (QI Q)) else (Q (0 : Int32) m14)))))))))))) : At g M_LW_law (lv + 1) 725 [(0, va_rf (some (gb g))), (1, va_rf (l1)), (2, va_rf (l2)), (3, .int (l3))] [] m (QI Q) := by
  refine at_aload_n (i := 1) 1 726 rfl (by decide +kernel) rfl ?_
  refine at_aload_n (i := 0) 0 727 rfl (by decide +kernel) rfl ?_
  refine at_iload_n (i := 3) 3 728 rfl (by decide +kernel) rfl ?_
  refine at_iconst (n := 1) (1 : Int32) 729 rfl (by decide +kernel) (by decide +kernel) ?_
  refine at_iadd 730 rfl (by decide +kernel) ?_
  obtain ⟨v1, h⟩ := h
  refine at_ialdX 731 rfl (by decide +kernel) v1 ?_
  obtain ⟨b2, e3, h⟩ := h
  rw [e3]
  obtain ⟨k4, h⟩ := h
  refine at_callV mb_SL_redeem tw_971 tw_972 cok11 k4 (index := 81) tw_970 [.int (gx g (l3 + (1 : Int32)).toNatClampNeg)] [] rfl rfl (by decide) 734 rfl (by decide +kernel) (Call.toI (CI.monoE h (fun x5 m6 h y7 => ?_)))
  have k8 : mK m6 b2 = 12 := y7.k k4 (by decide)
  refine at_aload_n (i := 2) 2 735 rfl (by decide +kernel) rfl ?_
  refine at_aload_n (i := 0) 0 736 rfl (by decide +kernel) rfl ?_
  refine at_iload_n (i := 3) 3 737 rfl (by decide +kernel) rfl ?_
  refine at_iconst (n := 1) (1 : Int32) 738 rfl (by decide +kernel) (by decide +kernel) ?_
  refine at_iadd 739 rfl (by decide +kernel) ?_
  obtain ⟨v9, h⟩ := h
  refine at_ialdX 740 rfl (by decide +kernel) v9 ?_
  obtain ⟨b10, e11, h⟩ := h
  rw [e11]
  obtain ⟨k12, h⟩ := h
  refine at_callV mb_RF_redeem tw_1533 tw_1534 cok12 k12 (index := 84) tw_1532 [.int (gx g (l3 + (1 : Int32)).toNatClampNeg)] [.int (x5)] rfl rfl (by simp [va_rf_cat, cat_int, cat_long]) 743 rfl (by decide +kernel) (Call.toI (CI.monoE h (fun x13 m14 h y15 => ?_)))
  have k16 : mK m14 b2 = 12 := y15.k k8 (by decide)
  have k17 : mK m14 b10 = 13 := y15.k k12 (by decide)
  refine at_icmp_eq (off := 489) 1232 746 rfl (by decide +kernel) (by decide +kernel) (fun c18 => ?_) (fun c18 => ?_)
  · rw [if_pos c18] at h
    exact h
  · rw [if_neg c18] at h
    refine at_iconst (n := 0) (0 : Int32) 747 rfl (by decide +kernel) (by decide +kernel) ?_
    exact at_zret rfl (by decide +kernel) (Or.inl rfl) h
set_option maxRecDepth 20000 in
set_option maxHeartbeats 4000000 in
theorem bk_LW_law_691 (g : Gc) {lv : Nat} {l0 : Option Nat} {l1 : Option Nat} {l2 : Option Nat} {l3 : Int32} {m : Mm} {Q : Int32 → Mm → Prop} (h : vp_in (l3 + (1 : Int32)) (gn g) ∧ (vp_in (l3 + (2 : Int32)) (gn g) ∧ (∃ b3, l1 = some b3 ∧ (mK m b3 = 12 ∧ (CJ g M_SL_pay lv [va_rf (some b3), .int (gx g (l3 + (1 : Int32)).toNatClampNeg), .int (gx g (l3 + (2 : Int32)).toNatClampNeg)] m (fun x6 m7 => (vp_in (l3 + (1 : Int32)) (gn g) ∧ (vp_in (l3 + (2 : Int32)) (gn g) ∧ (∃ b12, l2 = some b12 ∧ (mK m7 b12 = 13 ∧ (CJ g M_RF_pay lv [va_rf (some b12), .int (gx g (l3 + (1 : Int32)).toNatClampNeg), .int (gx g (l3 + (2 : Int32)).toNatClampNeg)] m7 (fun x15 m16 => (if (x6) = (x15) then (At g M_LW_law (lv + 1) 1232 [(0, va_rf (some (gb g))), (1, va_rf (some b3)), (2, va_rf (some b12)), (3, .int (l3))] [] m16 (QI Q)) else (Q (0 : Int32) m16)))))))))))))) : At g M_LW_law (lv + 1) 691 [(0, va_rf (some (gb g))), (1, va_rf (l1)), (2, va_rf (l2)), (3, .int (l3))] [] m (QI Q) := by
  refine at_aload_n (i := 1) 1 692 rfl (by decide +kernel) rfl ?_
  refine at_aload_n (i := 0) 0 693 rfl (by decide +kernel) rfl ?_
  refine at_iload_n (i := 3) 3 694 rfl (by decide +kernel) rfl ?_
  refine at_iconst (n := 1) (1 : Int32) 695 rfl (by decide +kernel) (by decide +kernel) ?_
  refine at_iadd 696 rfl (by decide +kernel) ?_
  obtain ⟨v1, h⟩ := h
  refine at_ialdX 697 rfl (by decide +kernel) v1 ?_
  refine at_aload_n (i := 0) 0 698 rfl (by decide +kernel) rfl ?_
  refine at_iload_n (i := 3) 3 699 rfl (by decide +kernel) rfl ?_
  refine at_iconst (n := 2) (2 : Int32) 700 rfl (by decide +kernel) (by decide +kernel) ?_
  refine at_iadd 701 rfl (by decide +kernel) ?_
  obtain ⟨v2, h⟩ := h
  refine at_ialdX 702 rfl (by decide +kernel) v2 ?_
  obtain ⟨b3, e4, h⟩ := h
  rw [e4]
  obtain ⟨k5, h⟩ := h
  refine at_callV mb_SL_pay tw_961 tw_962 cok11 k5 (index := 76) tw_960 [.int (gx g (l3 + (1 : Int32)).toNatClampNeg), .int (gx g (l3 + (2 : Int32)).toNatClampNeg)] [] rfl rfl (by decide) 705 rfl (by decide +kernel) (Call.toJ (CJ.monoE h (fun x6 m7 h y8 => ?_)))
  have k9 : mK m7 b3 = 12 := y8.k k5 (by decide)
  refine at_aload_n (i := 2) 2 706 rfl (by decide +kernel) rfl ?_
  refine at_aload_n (i := 0) 0 707 rfl (by decide +kernel) rfl ?_
  refine at_iload_n (i := 3) 3 708 rfl (by decide +kernel) rfl ?_
  refine at_iconst (n := 1) (1 : Int32) 709 rfl (by decide +kernel) (by decide +kernel) ?_
  refine at_iadd 710 rfl (by decide +kernel) ?_
  obtain ⟨v10, h⟩ := h
  refine at_ialdX 711 rfl (by decide +kernel) v10 ?_
  refine at_aload_n (i := 0) 0 712 rfl (by decide +kernel) rfl ?_
  refine at_iload_n (i := 3) 3 713 rfl (by decide +kernel) rfl ?_
  refine at_iconst (n := 2) (2 : Int32) 714 rfl (by decide +kernel) (by decide +kernel) ?_
  refine at_iadd 715 rfl (by decide +kernel) ?_
  obtain ⟨v11, h⟩ := h
  refine at_ialdX 716 rfl (by decide +kernel) v11 ?_
  obtain ⟨b12, e13, h⟩ := h
  rw [e13]
  obtain ⟨k14, h⟩ := h
  refine at_callV mb_RF_pay tw_1525 tw_1526 cok12 k14 (index := 80) tw_1524 [.int (gx g (l3 + (1 : Int32)).toNatClampNeg), .int (gx g (l3 + (2 : Int32)).toNatClampNeg)] [.long (x6)] rfl rfl (by simp [va_rf_cat, cat_int, cat_long]) 719 rfl (by decide +kernel) (Call.toJ (CJ.monoE h (fun x15 m16 h y17 => ?_)))
  have k18 : mK m16 b3 = 12 := y17.k k9 (by decide)
  have k19 : mK m16 b12 = 13 := y17.k k14 (by decide)
  refine at_lif_eq (off := 512) 720 1232 723 rfl rfl (by decide +kernel) (by decide +kernel) (by decide +kernel) (fun c20 => ?_) (fun c20 => ?_)
  · rw [if_pos c20] at h
    exact h
  · rw [if_neg c20] at h
    refine at_iconst (n := 0) (0 : Int32) 724 rfl (by decide +kernel) (by decide +kernel) ?_
    exact at_zret rfl (by decide +kernel) (Or.inl rfl) h
set_option maxRecDepth 20000 in
set_option maxHeartbeats 4000000 in
theorem bk_LW_law_647 (g : Gc) {lv : Nat} {l0 : Option Nat} {l1 : Option Nat} {l2 : Option Nat} {l3 : Int32} {m : Mm} {Q : Int32 → Mm → Prop} (h : vp_in (l3 + (1 : Int32)) (gn g) ∧ (vp_in (l3 + (2 : Int32)) (gn g) ∧ (vp_in (l3 + (3 : Int32)) (gn g) ∧ (∃ b4, l1 = some b4 ∧ (mK m b4 = 12 ∧ (CJ g M_SL_pledge lv [va_rf (some b4), .int (gx g (l3 + (1 : Int32)).toNatClampNeg), .int (gx g (l3 + (2 : Int32)).toNatClampNeg), .int (gx g (l3 + (3 : Int32)).toNatClampNeg)] m (fun x7 m8 => (vp_in (l3 + (1 : Int32)) (gn g) ∧ (vp_in (l3 + (2 : Int32)) (gn g) ∧ (vp_in (l3 + (3 : Int32)) (gn g) ∧ (∃ b14, l2 = some b14 ∧ (mK m8 b14 = 13 ∧ (CJ g M_RF_pledge lv [va_rf (some b14), .int (gx g (l3 + (1 : Int32)).toNatClampNeg), .int (gx g (l3 + (2 : Int32)).toNatClampNeg), .int (gx g (l3 + (3 : Int32)).toNatClampNeg)] m8 (fun x17 m18 => (if (x7) = (x17) then (At g M_LW_law (lv + 1) 1232 [(0, va_rf (some (gb g))), (1, va_rf (some b4)), (2, va_rf (some b14)), (3, .int (l3))] [] m18 (QI Q)) else (Q (0 : Int32) m18)))))))))))))))) : At g M_LW_law (lv + 1) 647 [(0, va_rf (some (gb g))), (1, va_rf (l1)), (2, va_rf (l2)), (3, .int (l3))] [] m (QI Q) := by
  refine at_aload_n (i := 1) 1 648 rfl (by decide +kernel) rfl ?_
  refine at_aload_n (i := 0) 0 649 rfl (by decide +kernel) rfl ?_
  refine at_iload_n (i := 3) 3 650 rfl (by decide +kernel) rfl ?_
  refine at_iconst (n := 1) (1 : Int32) 651 rfl (by decide +kernel) (by decide +kernel) ?_
  refine at_iadd 652 rfl (by decide +kernel) ?_
  obtain ⟨v1, h⟩ := h
  refine at_ialdX 653 rfl (by decide +kernel) v1 ?_
  refine at_aload_n (i := 0) 0 654 rfl (by decide +kernel) rfl ?_
  refine at_iload_n (i := 3) 3 655 rfl (by decide +kernel) rfl ?_
  refine at_iconst (n := 2) (2 : Int32) 656 rfl (by decide +kernel) (by decide +kernel) ?_
  refine at_iadd 657 rfl (by decide +kernel) ?_
  obtain ⟨v2, h⟩ := h
  refine at_ialdX 658 rfl (by decide +kernel) v2 ?_
  refine at_aload_n (i := 0) 0 659 rfl (by decide +kernel) rfl ?_
  refine at_iload_n (i := 3) 3 660 rfl (by decide +kernel) rfl ?_
  refine at_iconst (n := 3) (3 : Int32) 661 rfl (by decide +kernel) (by decide +kernel) ?_
  refine at_iadd 662 rfl (by decide +kernel) ?_
  obtain ⟨v3, h⟩ := h
  refine at_ialdX 663 rfl (by decide +kernel) v3 ?_
  obtain ⟨b4, e5, h⟩ := h
  rw [e5]
  obtain ⟨k6, h⟩ := h
  refine at_callV mb_SL_pledge tw_919 tw_920 cok11 k6 (index := 71) tw_918 [.int (gx g (l3 + (1 : Int32)).toNatClampNeg), .int (gx g (l3 + (2 : Int32)).toNatClampNeg), .int (gx g (l3 + (3 : Int32)).toNatClampNeg)] [] rfl rfl (by decide) 666 rfl (by decide +kernel) (Call.toJ (CJ.monoE h (fun x7 m8 h y9 => ?_)))
  have k10 : mK m8 b4 = 12 := y9.k k6 (by decide)
  refine at_aload_n (i := 2) 2 667 rfl (by decide +kernel) rfl ?_
  refine at_aload_n (i := 0) 0 668 rfl (by decide +kernel) rfl ?_
  refine at_iload_n (i := 3) 3 669 rfl (by decide +kernel) rfl ?_
  refine at_iconst (n := 1) (1 : Int32) 670 rfl (by decide +kernel) (by decide +kernel) ?_
  refine at_iadd 671 rfl (by decide +kernel) ?_
  obtain ⟨v11, h⟩ := h
  refine at_ialdX 672 rfl (by decide +kernel) v11 ?_
  refine at_aload_n (i := 0) 0 673 rfl (by decide +kernel) rfl ?_
  refine at_iload_n (i := 3) 3 674 rfl (by decide +kernel) rfl ?_
  refine at_iconst (n := 2) (2 : Int32) 675 rfl (by decide +kernel) (by decide +kernel) ?_
  refine at_iadd 676 rfl (by decide +kernel) ?_
  obtain ⟨v12, h⟩ := h
  refine at_ialdX 677 rfl (by decide +kernel) v12 ?_
  refine at_aload_n (i := 0) 0 678 rfl (by decide +kernel) rfl ?_
  refine at_iload_n (i := 3) 3 679 rfl (by decide +kernel) rfl ?_
  refine at_iconst (n := 3) (3 : Int32) 680 rfl (by decide +kernel) (by decide +kernel) ?_
  refine at_iadd 681 rfl (by decide +kernel) ?_
  obtain ⟨v13, h⟩ := h
  refine at_ialdX 682 rfl (by decide +kernel) v13 ?_
  obtain ⟨b14, e15, h⟩ := h
  rw [e15]
  obtain ⟨k16, h⟩ := h
  refine at_callV mb_RF_pledge tw_1517 tw_1518 cok12 k16 (index := 75) tw_1516 [.int (gx g (l3 + (1 : Int32)).toNatClampNeg), .int (gx g (l3 + (2 : Int32)).toNatClampNeg), .int (gx g (l3 + (3 : Int32)).toNatClampNeg)] [.long (x7)] rfl rfl (by simp [va_rf_cat, cat_int, cat_long]) 685 rfl (by decide +kernel) (Call.toJ (CJ.monoE h (fun x17 m18 h y19 => ?_)))
  have k20 : mK m18 b4 = 12 := y19.k k10 (by decide)
  have k21 : mK m18 b14 = 13 := y19.k k16 (by decide)
  refine at_lif_eq (off := 546) 686 1232 689 rfl rfl (by decide +kernel) (by decide +kernel) (by decide +kernel) (fun c22 => ?_) (fun c22 => ?_)
  · rw [if_pos c22] at h
    exact h
  · rw [if_neg c22] at h
    refine at_iconst (n := 0) (0 : Int32) 690 rfl (by decide +kernel) (by decide +kernel) ?_
    exact at_zret rfl (by decide +kernel) (Or.inl rfl) h
set_option maxRecDepth 20000 in
set_option maxHeartbeats 4000000 in
theorem bk_LW_law_614 (g : Gc) {lv : Nat} {l0 : Option Nat} {l1 : Option Nat} {l2 : Option Nat} {l3 : Int32} {m : Mm} {Q : Int32 → Mm → Prop} (h : vp_in (l3 + (1 : Int32)) (gn g) ∧ (vp_in (l3 + (2 : Int32)) (gn g) ∧ (∃ b3, l1 = some b3 ∧ (mK m b3 = 12 ∧ (CI g M_SL_give lv [va_rf (some b3), .int (gx g (l3 + (1 : Int32)).toNatClampNeg), .int (gx g (l3 + (2 : Int32)).toNatClampNeg)] m (fun x6 m7 => (vp_in (l3 + (1 : Int32)) (gn g) ∧ (vp_in (l3 + (2 : Int32)) (gn g) ∧ (∃ b12, l2 = some b12 ∧ (mK m7 b12 = 13 ∧ (CI g M_RF_give lv [va_rf (some b12), .int (gx g (l3 + (1 : Int32)).toNatClampNeg), .int (gx g (l3 + (2 : Int32)).toNatClampNeg)] m7 (fun x15 m16 => (if (x6) = (x15) then (At g M_LW_law (lv + 1) 1232 [(0, va_rf (some (gb g))), (1, va_rf (some b3)), (2, va_rf (some b12)), (3, .int (l3))] [] m16 (QI Q)) else (Q (0 : Int32) m16)))))))))))))) : At g M_LW_law (lv + 1) 614 [(0, va_rf (some (gb g))), (1, va_rf (l1)), (2, va_rf (l2)), (3, .int (l3))] [] m (QI Q) := by
  refine at_aload_n (i := 1) 1 615 rfl (by decide +kernel) rfl ?_
  refine at_aload_n (i := 0) 0 616 rfl (by decide +kernel) rfl ?_
  refine at_iload_n (i := 3) 3 617 rfl (by decide +kernel) rfl ?_
  refine at_iconst (n := 1) (1 : Int32) 618 rfl (by decide +kernel) (by decide +kernel) ?_
  refine at_iadd 619 rfl (by decide +kernel) ?_
  obtain ⟨v1, h⟩ := h
  refine at_ialdX 620 rfl (by decide +kernel) v1 ?_
  refine at_aload_n (i := 0) 0 621 rfl (by decide +kernel) rfl ?_
  refine at_iload_n (i := 3) 3 622 rfl (by decide +kernel) rfl ?_
  refine at_iconst (n := 2) (2 : Int32) 623 rfl (by decide +kernel) (by decide +kernel) ?_
  refine at_iadd 624 rfl (by decide +kernel) ?_
  obtain ⟨v2, h⟩ := h
  refine at_ialdX 625 rfl (by decide +kernel) v2 ?_
  obtain ⟨b3, e4, h⟩ := h
  rw [e4]
  obtain ⟨k5, h⟩ := h
  refine at_callV mb_SL_give tw_915 tw_916 cok11 k5 (index := 67) tw_914 [.int (gx g (l3 + (1 : Int32)).toNatClampNeg), .int (gx g (l3 + (2 : Int32)).toNatClampNeg)] [] rfl rfl (by decide) 628 rfl (by decide +kernel) (Call.toI (CI.monoE h (fun x6 m7 h y8 => ?_)))
  have k9 : mK m7 b3 = 12 := y8.k k5 (by decide)
  refine at_aload_n (i := 2) 2 629 rfl (by decide +kernel) rfl ?_
  refine at_aload_n (i := 0) 0 630 rfl (by decide +kernel) rfl ?_
  refine at_iload_n (i := 3) 3 631 rfl (by decide +kernel) rfl ?_
  refine at_iconst (n := 1) (1 : Int32) 632 rfl (by decide +kernel) (by decide +kernel) ?_
  refine at_iadd 633 rfl (by decide +kernel) ?_
  obtain ⟨v10, h⟩ := h
  refine at_ialdX 634 rfl (by decide +kernel) v10 ?_
  refine at_aload_n (i := 0) 0 635 rfl (by decide +kernel) rfl ?_
  refine at_iload_n (i := 3) 3 636 rfl (by decide +kernel) rfl ?_
  refine at_iconst (n := 2) (2 : Int32) 637 rfl (by decide +kernel) (by decide +kernel) ?_
  refine at_iadd 638 rfl (by decide +kernel) ?_
  obtain ⟨v11, h⟩ := h
  refine at_ialdX 639 rfl (by decide +kernel) v11 ?_
  obtain ⟨b12, e13, h⟩ := h
  rw [e13]
  obtain ⟨k14, h⟩ := h
  refine at_callV mb_RF_give tw_1513 tw_1514 cok12 k14 (index := 70) tw_1512 [.int (gx g (l3 + (1 : Int32)).toNatClampNeg), .int (gx g (l3 + (2 : Int32)).toNatClampNeg)] [.int (x6)] rfl rfl (by simp [va_rf_cat, cat_int, cat_long]) 642 rfl (by decide +kernel) (Call.toI (CI.monoE h (fun x15 m16 h y17 => ?_)))
  have k18 : mK m16 b3 = 12 := y17.k k9 (by decide)
  have k19 : mK m16 b12 = 13 := y17.k k14 (by decide)
  refine at_icmp_eq (off := 590) 1232 645 rfl (by decide +kernel) (by decide +kernel) (fun c20 => ?_) (fun c20 => ?_)
  · rw [if_pos c20] at h
    exact h
  · rw [if_neg c20] at h
    refine at_iconst (n := 0) (0 : Int32) 646 rfl (by decide +kernel) (by decide +kernel) ?_
    exact at_zret rfl (by decide +kernel) (Or.inl rfl) h
set_option maxRecDepth 20000 in
set_option maxHeartbeats 4000000 in
theorem bk_LW_law_581 (g : Gc) {lv : Nat} {l0 : Option Nat} {l1 : Option Nat} {l2 : Option Nat} {l3 : Int32} {m : Mm} {Q : Int32 → Mm → Prop} (h : vp_in (l3 + (1 : Int32)) (gn g) ∧ (vp_in (l3 + (2 : Int32)) (gn g) ∧ (∃ b3, l1 = some b3 ∧ (mK m b3 = 12 ∧ (CI g M_SL_split lv [va_rf (some b3), .int (gx g (l3 + (1 : Int32)).toNatClampNeg), .int (gx g (l3 + (2 : Int32)).toNatClampNeg)] m (fun x6 m7 => (vp_in (l3 + (1 : Int32)) (gn g) ∧ (vp_in (l3 + (2 : Int32)) (gn g) ∧ (∃ b12, l2 = some b12 ∧ (mK m7 b12 = 13 ∧ (CI g M_RF_split lv [va_rf (some b12), .int (gx g (l3 + (1 : Int32)).toNatClampNeg), .int (gx g (l3 + (2 : Int32)).toNatClampNeg)] m7 (fun x15 m16 => (if (x6) = (x15) then (At g M_LW_law (lv + 1) 1232 [(0, va_rf (some (gb g))), (1, va_rf (some b3)), (2, va_rf (some b12)), (3, .int (l3))] [] m16 (QI Q)) else (Q (0 : Int32) m16)))))))))))))) : At g M_LW_law (lv + 1) 581 [(0, va_rf (some (gb g))), (1, va_rf (l1)), (2, va_rf (l2)), (3, .int (l3))] [] m (QI Q) := by
  refine at_aload_n (i := 1) 1 582 rfl (by decide +kernel) rfl ?_
  refine at_aload_n (i := 0) 0 583 rfl (by decide +kernel) rfl ?_
  refine at_iload_n (i := 3) 3 584 rfl (by decide +kernel) rfl ?_
  refine at_iconst (n := 1) (1 : Int32) 585 rfl (by decide +kernel) (by decide +kernel) ?_
  refine at_iadd 586 rfl (by decide +kernel) ?_
  obtain ⟨v1, h⟩ := h
  refine at_ialdX 587 rfl (by decide +kernel) v1 ?_
  refine at_aload_n (i := 0) 0 588 rfl (by decide +kernel) rfl ?_
  refine at_iload_n (i := 3) 3 589 rfl (by decide +kernel) rfl ?_
  refine at_iconst (n := 2) (2 : Int32) 590 rfl (by decide +kernel) (by decide +kernel) ?_
  refine at_iadd 591 rfl (by decide +kernel) ?_
  obtain ⟨v2, h⟩ := h
  refine at_ialdX 592 rfl (by decide +kernel) v2 ?_
  obtain ⟨b3, e4, h⟩ := h
  rw [e4]
  obtain ⟨k5, h⟩ := h
  refine at_callV mb_SL_split tw_900 tw_901 cok11 k5 (index := 63) tw_899 [.int (gx g (l3 + (1 : Int32)).toNatClampNeg), .int (gx g (l3 + (2 : Int32)).toNatClampNeg)] [] rfl rfl (by decide) 595 rfl (by decide +kernel) (Call.toI (CI.monoE h (fun x6 m7 h y8 => ?_)))
  have k9 : mK m7 b3 = 12 := y8.k k5 (by decide)
  refine at_aload_n (i := 2) 2 596 rfl (by decide +kernel) rfl ?_
  refine at_aload_n (i := 0) 0 597 rfl (by decide +kernel) rfl ?_
  refine at_iload_n (i := 3) 3 598 rfl (by decide +kernel) rfl ?_
  refine at_iconst (n := 1) (1 : Int32) 599 rfl (by decide +kernel) (by decide +kernel) ?_
  refine at_iadd 600 rfl (by decide +kernel) ?_
  obtain ⟨v10, h⟩ := h
  refine at_ialdX 601 rfl (by decide +kernel) v10 ?_
  refine at_aload_n (i := 0) 0 602 rfl (by decide +kernel) rfl ?_
  refine at_iload_n (i := 3) 3 603 rfl (by decide +kernel) rfl ?_
  refine at_iconst (n := 2) (2 : Int32) 604 rfl (by decide +kernel) (by decide +kernel) ?_
  refine at_iadd 605 rfl (by decide +kernel) ?_
  obtain ⟨v11, h⟩ := h
  refine at_ialdX 606 rfl (by decide +kernel) v11 ?_
  obtain ⟨b12, e13, h⟩ := h
  rw [e13]
  obtain ⟨k14, h⟩ := h
  refine at_callV mb_RF_split tw_1501 tw_1502 cok12 k14 (index := 66) tw_1500 [.int (gx g (l3 + (1 : Int32)).toNatClampNeg), .int (gx g (l3 + (2 : Int32)).toNatClampNeg)] [.int (x6)] rfl rfl (by simp [va_rf_cat, cat_int, cat_long]) 609 rfl (by decide +kernel) (Call.toI (CI.monoE h (fun x15 m16 h y17 => ?_)))
  have k18 : mK m16 b3 = 12 := y17.k k9 (by decide)
  have k19 : mK m16 b12 = 13 := y17.k k14 (by decide)
  refine at_icmp_eq (off := 623) 1232 612 rfl (by decide +kernel) (by decide +kernel) (fun c20 => ?_) (fun c20 => ?_)
  · rw [if_pos c20] at h
    exact h
  · rw [if_neg c20] at h
    refine at_iconst (n := 0) (0 : Int32) 613 rfl (by decide +kernel) (by decide +kernel) ?_
    exact at_zret rfl (by decide +kernel) (Or.inl rfl) h
set_option maxRecDepth 20000 in
set_option maxHeartbeats 4000000 in
theorem bk_LW_law_538 (g : Gc) {lv : Nat} {l0 : Option Nat} {l1 : Option Nat} {l2 : Option Nat} {l3 : Int32} {m : Mm} {Q : Int32 → Mm → Prop} (h : vp_in (l3 + (1 : Int32)) (gn g) ∧ (vp_in (l3 + (2 : Int32)) (gn g) ∧ (vp_in (l3 + (3 : Int32)) (gn g) ∧ (∃ b4, l1 = some b4 ∧ (mK m b4 = 12 ∧ (CI g M_SL_right lv [va_rf (some b4), .int (gx g (l3 + (1 : Int32)).toNatClampNeg), .int (gx g (l3 + (2 : Int32)).toNatClampNeg), .int (gx g (l3 + (3 : Int32)).toNatClampNeg)] m (fun x7 m8 => (vp_in (l3 + (1 : Int32)) (gn g) ∧ (vp_in (l3 + (2 : Int32)) (gn g) ∧ (vp_in (l3 + (3 : Int32)) (gn g) ∧ (∃ b14, l2 = some b14 ∧ (mK m8 b14 = 13 ∧ (CI g M_RF_right lv [va_rf (some b14), .int (gx g (l3 + (1 : Int32)).toNatClampNeg), .int (gx g (l3 + (2 : Int32)).toNatClampNeg), .int (gx g (l3 + (3 : Int32)).toNatClampNeg)] m8 (fun x17 m18 => (if (x7) = (x17) then (At g M_LW_law (lv + 1) 1232 [(0, va_rf (some (gb g))), (1, va_rf (some b4)), (2, va_rf (some b14)), (3, .int (l3))] [] m18 (QI Q)) else (Q (0 : Int32) m18)))))))))))))))) : At g M_LW_law (lv + 1) 538 [(0, va_rf (some (gb g))), (1, va_rf (l1)), (2, va_rf (l2)), (3, .int (l3))] [] m (QI Q) := by
  refine at_aload_n (i := 1) 1 539 rfl (by decide +kernel) rfl ?_
  refine at_aload_n (i := 0) 0 540 rfl (by decide +kernel) rfl ?_
  refine at_iload_n (i := 3) 3 541 rfl (by decide +kernel) rfl ?_
  refine at_iconst (n := 1) (1 : Int32) 542 rfl (by decide +kernel) (by decide +kernel) ?_
  refine at_iadd 543 rfl (by decide +kernel) ?_
  obtain ⟨v1, h⟩ := h
  refine at_ialdX 544 rfl (by decide +kernel) v1 ?_
  refine at_aload_n (i := 0) 0 545 rfl (by decide +kernel) rfl ?_
  refine at_iload_n (i := 3) 3 546 rfl (by decide +kernel) rfl ?_
  refine at_iconst (n := 2) (2 : Int32) 547 rfl (by decide +kernel) (by decide +kernel) ?_
  refine at_iadd 548 rfl (by decide +kernel) ?_
  obtain ⟨v2, h⟩ := h
  refine at_ialdX 549 rfl (by decide +kernel) v2 ?_
  refine at_aload_n (i := 0) 0 550 rfl (by decide +kernel) rfl ?_
  refine at_iload_n (i := 3) 3 551 rfl (by decide +kernel) rfl ?_
  refine at_iconst (n := 3) (3 : Int32) 552 rfl (by decide +kernel) (by decide +kernel) ?_
  refine at_iadd 553 rfl (by decide +kernel) ?_
  obtain ⟨v3, h⟩ := h
  refine at_ialdX 554 rfl (by decide +kernel) v3 ?_
  obtain ⟨b4, e5, h⟩ := h
  rw [e5]
  obtain ⟨k6, h⟩ := h
  refine at_callV mb_SL_right tw_891 tw_892 cok11 k6 (index := 59) tw_890 [.int (gx g (l3 + (1 : Int32)).toNatClampNeg), .int (gx g (l3 + (2 : Int32)).toNatClampNeg), .int (gx g (l3 + (3 : Int32)).toNatClampNeg)] [] rfl rfl (by decide) 557 rfl (by decide +kernel) (Call.toI (CI.monoE h (fun x7 m8 h y9 => ?_)))
  have k10 : mK m8 b4 = 12 := y9.k k6 (by decide)
  refine at_aload_n (i := 2) 2 558 rfl (by decide +kernel) rfl ?_
  refine at_aload_n (i := 0) 0 559 rfl (by decide +kernel) rfl ?_
  refine at_iload_n (i := 3) 3 560 rfl (by decide +kernel) rfl ?_
  refine at_iconst (n := 1) (1 : Int32) 561 rfl (by decide +kernel) (by decide +kernel) ?_
  refine at_iadd 562 rfl (by decide +kernel) ?_
  obtain ⟨v11, h⟩ := h
  refine at_ialdX 563 rfl (by decide +kernel) v11 ?_
  refine at_aload_n (i := 0) 0 564 rfl (by decide +kernel) rfl ?_
  refine at_iload_n (i := 3) 3 565 rfl (by decide +kernel) rfl ?_
  refine at_iconst (n := 2) (2 : Int32) 566 rfl (by decide +kernel) (by decide +kernel) ?_
  refine at_iadd 567 rfl (by decide +kernel) ?_
  obtain ⟨v12, h⟩ := h
  refine at_ialdX 568 rfl (by decide +kernel) v12 ?_
  refine at_aload_n (i := 0) 0 569 rfl (by decide +kernel) rfl ?_
  refine at_iload_n (i := 3) 3 570 rfl (by decide +kernel) rfl ?_
  refine at_iconst (n := 3) (3 : Int32) 571 rfl (by decide +kernel) (by decide +kernel) ?_
  refine at_iadd 572 rfl (by decide +kernel) ?_
  obtain ⟨v13, h⟩ := h
  refine at_ialdX 573 rfl (by decide +kernel) v13 ?_
  obtain ⟨b14, e15, h⟩ := h
  rw [e15]
  obtain ⟨k16, h⟩ := h
  refine at_callV mb_RF_right tw_1496 tw_1497 cok12 k16 (index := 62) tw_1495 [.int (gx g (l3 + (1 : Int32)).toNatClampNeg), .int (gx g (l3 + (2 : Int32)).toNatClampNeg), .int (gx g (l3 + (3 : Int32)).toNatClampNeg)] [.int (x7)] rfl rfl (by simp [va_rf_cat, cat_int, cat_long]) 576 rfl (by decide +kernel) (Call.toI (CI.monoE h (fun x17 m18 h y19 => ?_)))
  have k20 : mK m18 b4 = 12 := y19.k k10 (by decide)
  have k21 : mK m18 b14 = 13 := y19.k k16 (by decide)
  refine at_icmp_eq (off := 656) 1232 579 rfl (by decide +kernel) (by decide +kernel) (fun c22 => ?_) (fun c22 => ?_)
  · rw [if_pos c22] at h
    exact h
  · rw [if_neg c22] at h
    refine at_iconst (n := 0) (0 : Int32) 580 rfl (by decide +kernel) (by decide +kernel) ?_
    exact at_zret rfl (by decide +kernel) (Or.inl rfl) h
set_option maxRecDepth 20000 in
set_option maxHeartbeats 4000000 in
theorem bk_LW_law_515 (g : Gc) {lv : Nat} {l0 : Option Nat} {l1 : Option Nat} {l2 : Option Nat} {l3 : Int32} {m : Mm} {Q : Int32 → Mm → Prop} (h : vp_in (l3 + (1 : Int32)) (gn g) ∧ (∃ b2, l1 = some b2 ∧ (mK m b2 = 12 ∧ (CI g M_SL_go lv [va_rf (some b2), .int (gx g (l3 + (1 : Int32)).toNatClampNeg)] m (fun x5 m6 => (vp_in (l3 + (1 : Int32)) (gn g) ∧ (∃ b10, l2 = some b10 ∧ (mK m6 b10 = 13 ∧ (CI g M_RF_go lv [va_rf (some b10), .int (gx g (l3 + (1 : Int32)).toNatClampNeg)] m6 (fun x13 m14 => (if (x5) = (x13) then (At g M_LW_law (lv + 1) 1232 [(0, va_rf (some (gb g))), (1, va_rf (some b2)), (2, va_rf (some b10)), (3, .int (l3))] [] m14 (QI Q)) else (Q (0 : Int32) m14)))))))))))) : At g M_LW_law (lv + 1) 515 [(0, va_rf (some (gb g))), (1, va_rf (l1)), (2, va_rf (l2)), (3, .int (l3))] [] m (QI Q) := by
  refine at_aload_n (i := 1) 1 516 rfl (by decide +kernel) rfl ?_
  refine at_aload_n (i := 0) 0 517 rfl (by decide +kernel) rfl ?_
  refine at_iload_n (i := 3) 3 518 rfl (by decide +kernel) rfl ?_
  refine at_iconst (n := 1) (1 : Int32) 519 rfl (by decide +kernel) (by decide +kernel) ?_
  refine at_iadd 520 rfl (by decide +kernel) ?_
  obtain ⟨v1, h⟩ := h
  refine at_ialdX 521 rfl (by decide +kernel) v1 ?_
  obtain ⟨b2, e3, h⟩ := h
  rw [e3]
  obtain ⟨k4, h⟩ := h
  refine at_callV mb_SL_go tw_690 tw_691 cok11 k4 (index := 55) tw_689 [.int (gx g (l3 + (1 : Int32)).toNatClampNeg)] [] rfl rfl (by decide) 524 rfl (by decide +kernel) (Call.toI (CI.monoE h (fun x5 m6 h y7 => ?_)))
  have k8 : mK m6 b2 = 12 := y7.k k4 (by decide)
  refine at_aload_n (i := 2) 2 525 rfl (by decide +kernel) rfl ?_
  refine at_aload_n (i := 0) 0 526 rfl (by decide +kernel) rfl ?_
  refine at_iload_n (i := 3) 3 527 rfl (by decide +kernel) rfl ?_
  refine at_iconst (n := 1) (1 : Int32) 528 rfl (by decide +kernel) (by decide +kernel) ?_
  refine at_iadd 529 rfl (by decide +kernel) ?_
  obtain ⟨v9, h⟩ := h
  refine at_ialdX 530 rfl (by decide +kernel) v9 ?_
  obtain ⟨b10, e11, h⟩ := h
  rw [e11]
  obtain ⟨k12, h⟩ := h
  refine at_callV mb_RF_go tw_1438 tw_1439 cok12 k12 (index := 58) tw_1437 [.int (gx g (l3 + (1 : Int32)).toNatClampNeg)] [.int (x5)] rfl rfl (by simp [va_rf_cat, cat_int, cat_long]) 533 rfl (by decide +kernel) (Call.toI (CI.monoE h (fun x13 m14 h y15 => ?_)))
  have k16 : mK m14 b2 = 12 := y15.k k8 (by decide)
  have k17 : mK m14 b10 = 13 := y15.k k12 (by decide)
  refine at_icmp_eq (off := 699) 1232 536 rfl (by decide +kernel) (by decide +kernel) (fun c18 => ?_) (fun c18 => ?_)
  · rw [if_pos c18] at h
    exact h
  · rw [if_neg c18] at h
    refine at_iconst (n := 0) (0 : Int32) 537 rfl (by decide +kernel) (by decide +kernel) ?_
    exact at_zret rfl (by decide +kernel) (Or.inl rfl) h
set_option maxRecDepth 20000 in
set_option maxHeartbeats 4000000 in
theorem bk_LW_law_492 (g : Gc) {lv : Nat} {l0 : Option Nat} {l1 : Option Nat} {l2 : Option Nat} {l3 : Int32} {m : Mm} {Q : Int32 → Mm → Prop} (h : vp_in (l3 + (1 : Int32)) (gn g) ∧ (∃ b2, l1 = some b2 ∧ (mK m b2 = 12 ∧ (CI g M_SL_crops lv [va_rf (some b2), .int (gx g (l3 + (1 : Int32)).toNatClampNeg)] m (fun x5 m6 => (vp_in (l3 + (1 : Int32)) (gn g) ∧ (∃ b10, l2 = some b10 ∧ (mK m6 b10 = 13 ∧ (CI g M_RF_crops lv [va_rf (some b10), .int (gx g (l3 + (1 : Int32)).toNatClampNeg)] m6 (fun x13 m14 => (if (x5) = (x13) then (At g M_LW_law (lv + 1) 1232 [(0, va_rf (some (gb g))), (1, va_rf (some b2)), (2, va_rf (some b10)), (3, .int (l3))] [] m14 (QI Q)) else (Q (0 : Int32) m14)))))))))))) : At g M_LW_law (lv + 1) 492 [(0, va_rf (some (gb g))), (1, va_rf (l1)), (2, va_rf (l2)), (3, .int (l3))] [] m (QI Q) := by
  refine at_aload_n (i := 1) 1 493 rfl (by decide +kernel) rfl ?_
  refine at_aload_n (i := 0) 0 494 rfl (by decide +kernel) rfl ?_
  refine at_iload_n (i := 3) 3 495 rfl (by decide +kernel) rfl ?_
  refine at_iconst (n := 1) (1 : Int32) 496 rfl (by decide +kernel) (by decide +kernel) ?_
  refine at_iadd 497 rfl (by decide +kernel) ?_
  obtain ⟨v1, h⟩ := h
  refine at_ialdX 498 rfl (by decide +kernel) v1 ?_
  obtain ⟨b2, e3, h⟩ := h
  rw [e3]
  obtain ⟨k4, h⟩ := h
  refine at_callV mb_SL_crops tw_676 tw_677 cok11 k4 (index := 51) tw_675 [.int (gx g (l3 + (1 : Int32)).toNatClampNeg)] [] rfl rfl (by decide) 501 rfl (by decide +kernel) (Call.toI (CI.monoE h (fun x5 m6 h y7 => ?_)))
  have k8 : mK m6 b2 = 12 := y7.k k4 (by decide)
  refine at_aload_n (i := 2) 2 502 rfl (by decide +kernel) rfl ?_
  refine at_aload_n (i := 0) 0 503 rfl (by decide +kernel) rfl ?_
  refine at_iload_n (i := 3) 3 504 rfl (by decide +kernel) rfl ?_
  refine at_iconst (n := 1) (1 : Int32) 505 rfl (by decide +kernel) (by decide +kernel) ?_
  refine at_iadd 506 rfl (by decide +kernel) ?_
  obtain ⟨v9, h⟩ := h
  refine at_ialdX 507 rfl (by decide +kernel) v9 ?_
  obtain ⟨b10, e11, h⟩ := h
  rw [e11]
  obtain ⟨k12, h⟩ := h
  refine at_callV mb_RF_crops tw_1434 tw_1435 cok12 k12 (index := 54) tw_1433 [.int (gx g (l3 + (1 : Int32)).toNatClampNeg)] [.int (x5)] rfl rfl (by simp [va_rf_cat, cat_int, cat_long]) 510 rfl (by decide +kernel) (Call.toI (CI.monoE h (fun x13 m14 h y15 => ?_)))
  have k16 : mK m14 b2 = 12 := y15.k k8 (by decide)
  have k17 : mK m14 b10 = 13 := y15.k k12 (by decide)
  refine at_icmp_eq (off := 722) 1232 513 rfl (by decide +kernel) (by decide +kernel) (fun c18 => ?_) (fun c18 => ?_)
  · rw [if_pos c18] at h
    exact h
  · rw [if_neg c18] at h
    refine at_iconst (n := 0) (0 : Int32) 514 rfl (by decide +kernel) (by decide +kernel) ?_
    exact at_zret rfl (by decide +kernel) (Or.inl rfl) h
set_option maxRecDepth 20000 in
set_option maxHeartbeats 4000000 in
theorem bk_LW_law_459 (g : Gc) {lv : Nat} {l0 : Option Nat} {l1 : Option Nat} {l2 : Option Nat} {l3 : Int32} {m : Mm} {Q : Int32 → Mm → Prop} (h : vp_in (l3 + (1 : Int32)) (gn g) ∧ (vp_in (l3 + (2 : Int32)) (gn g) ∧ (∃ b3, l1 = some b3 ∧ (mK m b3 = 12 ∧ (CI g M_SL_crop lv [va_rf (some b3), .int (gx g (l3 + (1 : Int32)).toNatClampNeg), .int (gx g (l3 + (2 : Int32)).toNatClampNeg)] m (fun x6 m7 => (vp_in (l3 + (1 : Int32)) (gn g) ∧ (vp_in (l3 + (2 : Int32)) (gn g) ∧ (∃ b12, l2 = some b12 ∧ (mK m7 b12 = 13 ∧ (CI g M_RF_crop lv [va_rf (some b12), .int (gx g (l3 + (1 : Int32)).toNatClampNeg), .int (gx g (l3 + (2 : Int32)).toNatClampNeg)] m7 (fun x15 m16 => (if (x6) = (x15) then (At g M_LW_law (lv + 1) 1232 [(0, va_rf (some (gb g))), (1, va_rf (some b3)), (2, va_rf (some b12)), (3, .int (l3))] [] m16 (QI Q)) else (Q (0 : Int32) m16)))))))))))))) : At g M_LW_law (lv + 1) 459 [(0, va_rf (some (gb g))), (1, va_rf (l1)), (2, va_rf (l2)), (3, .int (l3))] [] m (QI Q) := by
  refine at_aload_n (i := 1) 1 460 rfl (by decide +kernel) rfl ?_
  refine at_aload_n (i := 0) 0 461 rfl (by decide +kernel) rfl ?_
  refine at_iload_n (i := 3) 3 462 rfl (by decide +kernel) rfl ?_
  refine at_iconst (n := 1) (1 : Int32) 463 rfl (by decide +kernel) (by decide +kernel) ?_
  refine at_iadd 464 rfl (by decide +kernel) ?_
  obtain ⟨v1, h⟩ := h
  refine at_ialdX 465 rfl (by decide +kernel) v1 ?_
  refine at_aload_n (i := 0) 0 466 rfl (by decide +kernel) rfl ?_
  refine at_iload_n (i := 3) 3 467 rfl (by decide +kernel) rfl ?_
  refine at_iconst (n := 2) (2 : Int32) 468 rfl (by decide +kernel) (by decide +kernel) ?_
  refine at_iadd 469 rfl (by decide +kernel) ?_
  obtain ⟨v2, h⟩ := h
  refine at_ialdX 470 rfl (by decide +kernel) v2 ?_
  obtain ⟨b3, e4, h⟩ := h
  rw [e4]
  obtain ⟨k5, h⟩ := h
  refine at_callV mb_SL_crop tw_662 tw_663 cok11 k5 (index := 47) tw_661 [.int (gx g (l3 + (1 : Int32)).toNatClampNeg), .int (gx g (l3 + (2 : Int32)).toNatClampNeg)] [] rfl rfl (by decide) 473 rfl (by decide +kernel) (Call.toI (CI.monoE h (fun x6 m7 h y8 => ?_)))
  have k9 : mK m7 b3 = 12 := y8.k k5 (by decide)
  refine at_aload_n (i := 2) 2 474 rfl (by decide +kernel) rfl ?_
  refine at_aload_n (i := 0) 0 475 rfl (by decide +kernel) rfl ?_
  refine at_iload_n (i := 3) 3 476 rfl (by decide +kernel) rfl ?_
  refine at_iconst (n := 1) (1 : Int32) 477 rfl (by decide +kernel) (by decide +kernel) ?_
  refine at_iadd 478 rfl (by decide +kernel) ?_
  obtain ⟨v10, h⟩ := h
  refine at_ialdX 479 rfl (by decide +kernel) v10 ?_
  refine at_aload_n (i := 0) 0 480 rfl (by decide +kernel) rfl ?_
  refine at_iload_n (i := 3) 3 481 rfl (by decide +kernel) rfl ?_
  refine at_iconst (n := 2) (2 : Int32) 482 rfl (by decide +kernel) (by decide +kernel) ?_
  refine at_iadd 483 rfl (by decide +kernel) ?_
  obtain ⟨v11, h⟩ := h
  refine at_ialdX 484 rfl (by decide +kernel) v11 ?_
  obtain ⟨b12, e13, h⟩ := h
  rw [e13]
  obtain ⟨k14, h⟩ := h
  refine at_callV mb_RF_crop tw_1425 tw_1426 cok12 k14 (index := 50) tw_1424 [.int (gx g (l3 + (1 : Int32)).toNatClampNeg), .int (gx g (l3 + (2 : Int32)).toNatClampNeg)] [.int (x6)] rfl rfl (by simp [va_rf_cat, cat_int, cat_long]) 487 rfl (by decide +kernel) (Call.toI (CI.monoE h (fun x15 m16 h y17 => ?_)))
  have k18 : mK m16 b3 = 12 := y17.k k9 (by decide)
  have k19 : mK m16 b12 = 13 := y17.k k14 (by decide)
  refine at_icmp_eq (off := 745) 1232 490 rfl (by decide +kernel) (by decide +kernel) (fun c20 => ?_) (fun c20 => ?_)
  · rw [if_pos c20] at h
    exact h
  · rw [if_neg c20] at h
    refine at_iconst (n := 0) (0 : Int32) 491 rfl (by decide +kernel) (by decide +kernel) ?_
    exact at_zret rfl (by decide +kernel) (Or.inl rfl) h
set_option maxRecDepth 20000 in
set_option maxHeartbeats 4000000 in
theorem bk_LW_law_446 (g : Gc) {lv : Nat} {l0 : Option Nat} {l1 : Option Nat} {l2 : Option Nat} {l3 : Int32} {m : Mm} {Q : Int32 → Mm → Prop} (h : ∃ b1, l1 = some b1 ∧ (mK m b1 = 12 ∧ (CI g M_SL_fault lv [va_rf (some b1)] m (fun x4 m5 => (∃ b8, l2 = some b8 ∧ (mK m5 b8 = 13 ∧ (CI g M_RF_fault lv [va_rf (some b8)] m5 (fun x11 m12 => (if (x4) = (x11) then (At g M_LW_law (lv + 1) 1232 [(0, va_rf (some (gb g))), (1, va_rf (some b1)), (2, va_rf (some b8)), (3, .int (l3))] [] m12 (QI Q)) else (Q (0 : Int32) m12)))))))))) : At g M_LW_law (lv + 1) 446 [(0, va_rf (some (gb g))), (1, va_rf (l1)), (2, va_rf (l2)), (3, .int (l3))] [] m (QI Q) := by
  refine at_aload_n (i := 1) 1 447 rfl (by decide +kernel) rfl ?_
  obtain ⟨b1, e2, h⟩ := h
  rw [e2]
  obtain ⟨k3, h⟩ := h
  refine at_callV mb_SL_fault tw_658 tw_659 cok11 k3 (index := 42) tw_657 [] [] rfl rfl (by decide) 450 rfl (by decide +kernel) (Call.toI (CI.monoE h (fun x4 m5 h y6 => ?_)))
  have k7 : mK m5 b1 = 12 := y6.k k3 (by decide)
  refine at_aload_n (i := 2) 2 451 rfl (by decide +kernel) rfl ?_
  obtain ⟨b8, e9, h⟩ := h
  rw [e9]
  obtain ⟨k10, h⟩ := h
  refine at_callV mb_RF_fault tw_1421 tw_1422 cok12 k10 (index := 46) tw_1420 [] [.int (x4)] rfl rfl (by simp [va_rf_cat, cat_int, cat_long]) 454 rfl (by decide +kernel) (Call.toI (CI.monoE h (fun x11 m12 h y13 => ?_)))
  have k14 : mK m12 b1 = 12 := y13.k k7 (by decide)
  have k15 : mK m12 b8 = 13 := y13.k k10 (by decide)
  refine at_icmp_eq (off := 778) 1232 457 rfl (by decide +kernel) (by decide +kernel) (fun c16 => ?_) (fun c16 => ?_)
  · rw [if_pos c16] at h
    exact h
  · rw [if_neg c16] at h
    refine at_iconst (n := 0) (0 : Int32) 458 rfl (by decide +kernel) (by decide +kernel) ?_
    exact at_zret rfl (by decide +kernel) (Or.inl rfl) h
set_option maxRecDepth 20000 in
set_option maxHeartbeats 4000000 in
theorem bk_LW_law_413 (g : Gc) {lv : Nat} {l0 : Option Nat} {l1 : Option Nat} {l2 : Option Nat} {l3 : Int32} {m : Mm} {Q : Int32 → Mm → Prop} (h : vp_in (l3 + (1 : Int32)) (gn g) ∧ (vp_in (l3 + (2 : Int32)) (gn g) ∧ (∃ b3, l1 = some b3 ∧ (mK m b3 = 12 ∧ (CI g M_SL_law lv [va_rf (some b3), .int (gx g (l3 + (1 : Int32)).toNatClampNeg), .int (gx g (l3 + (2 : Int32)).toNatClampNeg)] m (fun x6 m7 => (vp_in (l3 + (1 : Int32)) (gn g) ∧ (vp_in (l3 + (2 : Int32)) (gn g) ∧ (∃ b12, l2 = some b12 ∧ (mK m7 b12 = 13 ∧ (CI g M_RF_law lv [va_rf (some b12), .int (gx g (l3 + (1 : Int32)).toNatClampNeg), .int (gx g (l3 + (2 : Int32)).toNatClampNeg)] m7 (fun x15 m16 => (if (x6) = (x15) then (At g M_LW_law (lv + 1) 1232 [(0, va_rf (some (gb g))), (1, va_rf (some b3)), (2, va_rf (some b12)), (3, .int (l3))] [] m16 (QI Q)) else (Q (0 : Int32) m16)))))))))))))) : At g M_LW_law (lv + 1) 413 [(0, va_rf (some (gb g))), (1, va_rf (l1)), (2, va_rf (l2)), (3, .int (l3))] [] m (QI Q) := by
  refine at_aload_n (i := 1) 1 414 rfl (by decide +kernel) rfl ?_
  refine at_aload_n (i := 0) 0 415 rfl (by decide +kernel) rfl ?_
  refine at_iload_n (i := 3) 3 416 rfl (by decide +kernel) rfl ?_
  refine at_iconst (n := 1) (1 : Int32) 417 rfl (by decide +kernel) (by decide +kernel) ?_
  refine at_iadd 418 rfl (by decide +kernel) ?_
  obtain ⟨v1, h⟩ := h
  refine at_ialdX 419 rfl (by decide +kernel) v1 ?_
  refine at_aload_n (i := 0) 0 420 rfl (by decide +kernel) rfl ?_
  refine at_iload_n (i := 3) 3 421 rfl (by decide +kernel) rfl ?_
  refine at_iconst (n := 2) (2 : Int32) 422 rfl (by decide +kernel) (by decide +kernel) ?_
  refine at_iadd 423 rfl (by decide +kernel) ?_
  obtain ⟨v2, h⟩ := h
  refine at_ialdX 424 rfl (by decide +kernel) v2 ?_
  obtain ⟨b3, e4, h⟩ := h
  rw [e4]
  obtain ⟨k5, h⟩ := h
  refine at_callV mb_SL_law tw_504 tw_505 cok11 k5 (index := 38) tw_503 [.int (gx g (l3 + (1 : Int32)).toNatClampNeg), .int (gx g (l3 + (2 : Int32)).toNatClampNeg)] [] rfl rfl (by decide) 427 rfl (by decide +kernel) (Call.toI (CI.monoE h (fun x6 m7 h y8 => ?_)))
  have k9 : mK m7 b3 = 12 := y8.k k5 (by decide)
  refine at_aload_n (i := 2) 2 428 rfl (by decide +kernel) rfl ?_
  refine at_aload_n (i := 0) 0 429 rfl (by decide +kernel) rfl ?_
  refine at_iload_n (i := 3) 3 430 rfl (by decide +kernel) rfl ?_
  refine at_iconst (n := 1) (1 : Int32) 431 rfl (by decide +kernel) (by decide +kernel) ?_
  refine at_iadd 432 rfl (by decide +kernel) ?_
  obtain ⟨v10, h⟩ := h
  refine at_ialdX 433 rfl (by decide +kernel) v10 ?_
  refine at_aload_n (i := 0) 0 434 rfl (by decide +kernel) rfl ?_
  refine at_iload_n (i := 3) 3 435 rfl (by decide +kernel) rfl ?_
  refine at_iconst (n := 2) (2 : Int32) 436 rfl (by decide +kernel) (by decide +kernel) ?_
  refine at_iadd 437 rfl (by decide +kernel) ?_
  obtain ⟨v11, h⟩ := h
  refine at_ialdX 438 rfl (by decide +kernel) v11 ?_
  obtain ⟨b12, e13, h⟩ := h
  rw [e13]
  obtain ⟨k14, h⟩ := h
  refine at_callV mb_RF_law tw_1339 tw_1340 cok12 k14 (index := 41) tw_1338 [.int (gx g (l3 + (1 : Int32)).toNatClampNeg), .int (gx g (l3 + (2 : Int32)).toNatClampNeg)] [.int (x6)] rfl rfl (by simp [va_rf_cat, cat_int, cat_long]) 441 rfl (by decide +kernel) (Call.toI (CI.monoE h (fun x15 m16 h y17 => ?_)))
  have k18 : mK m16 b3 = 12 := y17.k k9 (by decide)
  have k19 : mK m16 b12 = 13 := y17.k k14 (by decide)
  refine at_icmp_eq (off := 791) 1232 444 rfl (by decide +kernel) (by decide +kernel) (fun c20 => ?_) (fun c20 => ?_)
  · rw [if_pos c20] at h
    exact h
  · rw [if_neg c20] at h
    refine at_iconst (n := 0) (0 : Int32) 445 rfl (by decide +kernel) (by decide +kernel) ?_
    exact at_zret rfl (by decide +kernel) (Or.inl rfl) h
set_option maxRecDepth 20000 in
set_option maxHeartbeats 4000000 in
theorem bk_LW_law_390 (g : Gc) {lv : Nat} {l0 : Option Nat} {l1 : Option Nat} {l2 : Option Nat} {l3 : Int32} {m : Mm} {Q : Int32 → Mm → Prop} (h : vp_in (l3 + (1 : Int32)) (gn g) ∧ (∃ b2, l1 = some b2 ∧ (mK m b2 = 12 ∧ (CI g M_SL_end lv [va_rf (some b2), .int (gx g (l3 + (1 : Int32)).toNatClampNeg)] m (fun x5 m6 => (vp_in (l3 + (1 : Int32)) (gn g) ∧ (∃ b10, l2 = some b10 ∧ (mK m6 b10 = 13 ∧ (CI g M_RF_end lv [va_rf (some b10), .int (gx g (l3 + (1 : Int32)).toNatClampNeg)] m6 (fun x13 m14 => (if (x5) = (x13) then (At g M_LW_law (lv + 1) 1232 [(0, va_rf (some (gb g))), (1, va_rf (some b2)), (2, va_rf (some b10)), (3, .int (l3))] [] m14 (QI Q)) else (Q (0 : Int32) m14)))))))))))) : At g M_LW_law (lv + 1) 390 [(0, va_rf (some (gb g))), (1, va_rf (l1)), (2, va_rf (l2)), (3, .int (l3))] [] m (QI Q) := by
  refine at_aload_n (i := 1) 1 391 rfl (by decide +kernel) rfl ?_
  refine at_aload_n (i := 0) 0 392 rfl (by decide +kernel) rfl ?_
  refine at_iload_n (i := 3) 3 393 rfl (by decide +kernel) rfl ?_
  refine at_iconst (n := 1) (1 : Int32) 394 rfl (by decide +kernel) (by decide +kernel) ?_
  refine at_iadd 395 rfl (by decide +kernel) ?_
  obtain ⟨v1, h⟩ := h
  refine at_ialdX 396 rfl (by decide +kernel) v1 ?_
  obtain ⟨b2, e3, h⟩ := h
  rw [e3]
  obtain ⟨k4, h⟩ := h
  refine at_callV mb_SL_end tw_500 tw_501 cok11 k4 (index := 33) tw_499 [.int (gx g (l3 + (1 : Int32)).toNatClampNeg)] [] rfl rfl (by decide) 399 rfl (by decide +kernel) (Call.toI (CI.monoE h (fun x5 m6 h y7 => ?_)))
  have k8 : mK m6 b2 = 12 := y7.k k4 (by decide)
  refine at_aload_n (i := 2) 2 400 rfl (by decide +kernel) rfl ?_
  refine at_aload_n (i := 0) 0 401 rfl (by decide +kernel) rfl ?_
  refine at_iload_n (i := 3) 3 402 rfl (by decide +kernel) rfl ?_
  refine at_iconst (n := 1) (1 : Int32) 403 rfl (by decide +kernel) (by decide +kernel) ?_
  refine at_iadd 404 rfl (by decide +kernel) ?_
  obtain ⟨v9, h⟩ := h
  refine at_ialdX 405 rfl (by decide +kernel) v9 ?_
  obtain ⟨b10, e11, h⟩ := h
  rw [e11]
  obtain ⟨k12, h⟩ := h
  refine at_callV mb_RF_end tw_1335 tw_1336 cok12 k12 (index := 37) tw_1334 [.int (gx g (l3 + (1 : Int32)).toNatClampNeg)] [.int (x5)] rfl rfl (by simp [va_rf_cat, cat_int, cat_long]) 408 rfl (by decide +kernel) (Call.toI (CI.monoE h (fun x13 m14 h y15 => ?_)))
  have k16 : mK m14 b2 = 12 := y15.k k8 (by decide)
  have k17 : mK m14 b10 = 13 := y15.k k12 (by decide)
  refine at_icmp_eq (off := 824) 1232 411 rfl (by decide +kernel) (by decide +kernel) (fun c18 => ?_) (fun c18 => ?_)
  · rw [if_pos c18] at h
    exact h
  · rw [if_neg c18] at h
    refine at_iconst (n := 0) (0 : Int32) 412 rfl (by decide +kernel) (by decide +kernel) ?_
    exact at_zret rfl (by decide +kernel) (Or.inl rfl) h
set_option maxRecDepth 20000 in
set_option maxHeartbeats 4000000 in
theorem bk_LW_law_327 (g : Gc) {lv : Nat} {l0 : Option Nat} {l1 : Option Nat} {l2 : Option Nat} {l3 : Int32} {m : Mm} {Q : Int32 → Mm → Prop} (h : vp_in (l3 + (1 : Int32)) (gn g) ∧ (vp_in (l3 + (2 : Int32)) (gn g) ∧ (vp_in (l3 + (3 : Int32)) (gn g) ∧ (vp_in (l3 + (4 : Int32)) (gn g) ∧ (vp_in (l3 + (5 : Int32)) (gn g) ∧ (∃ b6, l1 = some b6 ∧ (mK m b6 = 12 ∧ (CI g M_SL_feed lv [va_rf (some b6), .int (gx g (l3 + (1 : Int32)).toNatClampNeg), .int (gx g (l3 + (2 : Int32)).toNatClampNeg), .int (gx g (l3 + (3 : Int32)).toNatClampNeg), .int (gx g (l3 + (4 : Int32)).toNatClampNeg), .int (gx g (l3 + (5 : Int32)).toNatClampNeg)] m (fun x9 m10 => (vp_in (l3 + (1 : Int32)) (gn g) ∧ (vp_in (l3 + (2 : Int32)) (gn g) ∧ (vp_in (l3 + (3 : Int32)) (gn g) ∧ (vp_in (l3 + (4 : Int32)) (gn g) ∧ (vp_in (l3 + (5 : Int32)) (gn g) ∧ (∃ b18, l2 = some b18 ∧ (mK m10 b18 = 13 ∧ (CI g M_RF_feed lv [va_rf (some b18), .int (gx g (l3 + (1 : Int32)).toNatClampNeg), .int (gx g (l3 + (2 : Int32)).toNatClampNeg), .int (gx g (l3 + (3 : Int32)).toNatClampNeg), .int (gx g (l3 + (4 : Int32)).toNatClampNeg), .int (gx g (l3 + (5 : Int32)).toNatClampNeg)] m10 (fun x21 m22 => (if (x9) = (x21) then (At g M_LW_law (lv + 1) 1232 [(0, va_rf (some (gb g))), (1, va_rf (some b6)), (2, va_rf (some b18)), (3, .int (l3))] [] m22 (QI Q)) else (Q (0 : Int32) m22)))))))))))))))))))) : At g M_LW_law (lv + 1) 327 [(0, va_rf (some (gb g))), (1, va_rf (l1)), (2, va_rf (l2)), (3, .int (l3))] [] m (QI Q) := by
  refine at_aload_n (i := 1) 1 328 rfl (by decide +kernel) rfl ?_
  refine at_aload_n (i := 0) 0 329 rfl (by decide +kernel) rfl ?_
  refine at_iload_n (i := 3) 3 330 rfl (by decide +kernel) rfl ?_
  refine at_iconst (n := 1) (1 : Int32) 331 rfl (by decide +kernel) (by decide +kernel) ?_
  refine at_iadd 332 rfl (by decide +kernel) ?_
  obtain ⟨v1, h⟩ := h
  refine at_ialdX 333 rfl (by decide +kernel) v1 ?_
  refine at_aload_n (i := 0) 0 334 rfl (by decide +kernel) rfl ?_
  refine at_iload_n (i := 3) 3 335 rfl (by decide +kernel) rfl ?_
  refine at_iconst (n := 2) (2 : Int32) 336 rfl (by decide +kernel) (by decide +kernel) ?_
  refine at_iadd 337 rfl (by decide +kernel) ?_
  obtain ⟨v2, h⟩ := h
  refine at_ialdX 338 rfl (by decide +kernel) v2 ?_
  refine at_aload_n (i := 0) 0 339 rfl (by decide +kernel) rfl ?_
  refine at_iload_n (i := 3) 3 340 rfl (by decide +kernel) rfl ?_
  refine at_iconst (n := 3) (3 : Int32) 341 rfl (by decide +kernel) (by decide +kernel) ?_
  refine at_iadd 342 rfl (by decide +kernel) ?_
  obtain ⟨v3, h⟩ := h
  refine at_ialdX 343 rfl (by decide +kernel) v3 ?_
  refine at_aload_n (i := 0) 0 344 rfl (by decide +kernel) rfl ?_
  refine at_iload_n (i := 3) 3 345 rfl (by decide +kernel) rfl ?_
  refine at_iconst (n := 4) (4 : Int32) 346 rfl (by decide +kernel) (by decide +kernel) ?_
  refine at_iadd 347 rfl (by decide +kernel) ?_
  obtain ⟨v4, h⟩ := h
  refine at_ialdX 348 rfl (by decide +kernel) v4 ?_
  refine at_aload_n (i := 0) 0 349 rfl (by decide +kernel) rfl ?_
  refine at_iload_n (i := 3) 3 350 rfl (by decide +kernel) rfl ?_
  refine at_iconst (n := 5) (5 : Int32) 351 rfl (by decide +kernel) (by decide +kernel) ?_
  refine at_iadd 352 rfl (by decide +kernel) ?_
  obtain ⟨v5, h⟩ := h
  refine at_ialdX 353 rfl (by decide +kernel) v5 ?_
  obtain ⟨b6, e7, h⟩ := h
  rw [e7]
  obtain ⟨k8, h⟩ := h
  refine at_callV mb_SL_feed tw_492 tw_493 cok11 k8 (index := 28) tw_491 [.int (gx g (l3 + (1 : Int32)).toNatClampNeg), .int (gx g (l3 + (2 : Int32)).toNatClampNeg), .int (gx g (l3 + (3 : Int32)).toNatClampNeg), .int (gx g (l3 + (4 : Int32)).toNatClampNeg), .int (gx g (l3 + (5 : Int32)).toNatClampNeg)] [] rfl rfl (by decide) 356 rfl (by decide +kernel) (Call.toI (CI.monoE h (fun x9 m10 h y11 => ?_)))
  have k12 : mK m10 b6 = 12 := y11.k k8 (by decide)
  refine at_aload_n (i := 2) 2 357 rfl (by decide +kernel) rfl ?_
  refine at_aload_n (i := 0) 0 358 rfl (by decide +kernel) rfl ?_
  refine at_iload_n (i := 3) 3 359 rfl (by decide +kernel) rfl ?_
  refine at_iconst (n := 1) (1 : Int32) 360 rfl (by decide +kernel) (by decide +kernel) ?_
  refine at_iadd 361 rfl (by decide +kernel) ?_
  obtain ⟨v13, h⟩ := h
  refine at_ialdX 362 rfl (by decide +kernel) v13 ?_
  refine at_aload_n (i := 0) 0 363 rfl (by decide +kernel) rfl ?_
  refine at_iload_n (i := 3) 3 364 rfl (by decide +kernel) rfl ?_
  refine at_iconst (n := 2) (2 : Int32) 365 rfl (by decide +kernel) (by decide +kernel) ?_
  refine at_iadd 366 rfl (by decide +kernel) ?_
  obtain ⟨v14, h⟩ := h
  refine at_ialdX 367 rfl (by decide +kernel) v14 ?_
  refine at_aload_n (i := 0) 0 368 rfl (by decide +kernel) rfl ?_
  refine at_iload_n (i := 3) 3 369 rfl (by decide +kernel) rfl ?_
  refine at_iconst (n := 3) (3 : Int32) 370 rfl (by decide +kernel) (by decide +kernel) ?_
  refine at_iadd 371 rfl (by decide +kernel) ?_
  obtain ⟨v15, h⟩ := h
  refine at_ialdX 372 rfl (by decide +kernel) v15 ?_
  refine at_aload_n (i := 0) 0 373 rfl (by decide +kernel) rfl ?_
  refine at_iload_n (i := 3) 3 374 rfl (by decide +kernel) rfl ?_
  refine at_iconst (n := 4) (4 : Int32) 375 rfl (by decide +kernel) (by decide +kernel) ?_
  refine at_iadd 376 rfl (by decide +kernel) ?_
  obtain ⟨v16, h⟩ := h
  refine at_ialdX 377 rfl (by decide +kernel) v16 ?_
  refine at_aload_n (i := 0) 0 378 rfl (by decide +kernel) rfl ?_
  refine at_iload_n (i := 3) 3 379 rfl (by decide +kernel) rfl ?_
  refine at_iconst (n := 5) (5 : Int32) 380 rfl (by decide +kernel) (by decide +kernel) ?_
  refine at_iadd 381 rfl (by decide +kernel) ?_
  obtain ⟨v17, h⟩ := h
  refine at_ialdX 382 rfl (by decide +kernel) v17 ?_
  obtain ⟨b18, e19, h⟩ := h
  rw [e19]
  obtain ⟨k20, h⟩ := h
  refine at_callV mb_RF_feed tw_1331 tw_1332 cok12 k20 (index := 32) tw_1330 [.int (gx g (l3 + (1 : Int32)).toNatClampNeg), .int (gx g (l3 + (2 : Int32)).toNatClampNeg), .int (gx g (l3 + (3 : Int32)).toNatClampNeg), .int (gx g (l3 + (4 : Int32)).toNatClampNeg), .int (gx g (l3 + (5 : Int32)).toNatClampNeg)] [.int (x9)] rfl rfl (by simp [va_rf_cat, cat_int, cat_long]) 385 rfl (by decide +kernel) (Call.toI (CI.monoE h (fun x21 m22 h y23 => ?_)))
  have k24 : mK m22 b6 = 12 := y23.k k12 (by decide)
  have k25 : mK m22 b18 = 13 := y23.k k20 (by decide)
  refine at_icmp_eq (off := 847) 1232 388 rfl (by decide +kernel) (by decide +kernel) (fun c26 => ?_) (fun c26 => ?_)
  · rw [if_pos c26] at h
    exact h
  · rw [if_neg c26] at h
    refine at_iconst (n := 0) (0 : Int32) 389 rfl (by decide +kernel) (by decide +kernel) ?_
    exact at_zret rfl (by decide +kernel) (Or.inl rfl) h
set_option maxRecDepth 20000 in
set_option maxHeartbeats 4000000 in
theorem bk_LW_law_294 (g : Gc) {lv : Nat} {l0 : Option Nat} {l1 : Option Nat} {l2 : Option Nat} {l3 : Int32} {m : Mm} {Q : Int32 → Mm → Prop} (h : vp_in (l3 + (1 : Int32)) (gn g) ∧ (vp_in (l3 + (2 : Int32)) (gn g) ∧ (∃ b3, l1 = some b3 ∧ (mK m b3 = 12 ∧ (CI g M_SL_grower lv [va_rf (some b3), .int (gx g (l3 + (1 : Int32)).toNatClampNeg), .int (gx g (l3 + (2 : Int32)).toNatClampNeg)] m (fun x6 m7 => (vp_in (l3 + (1 : Int32)) (gn g) ∧ (vp_in (l3 + (2 : Int32)) (gn g) ∧ (∃ b12, l2 = some b12 ∧ (mK m7 b12 = 13 ∧ (CI g M_RF_grower lv [va_rf (some b12), .int (gx g (l3 + (1 : Int32)).toNatClampNeg), .int (gx g (l3 + (2 : Int32)).toNatClampNeg)] m7 (fun x15 m16 => (if (x6) = (x15) then (At g M_LW_law (lv + 1) 1232 [(0, va_rf (some (gb g))), (1, va_rf (some b3)), (2, va_rf (some b12)), (3, .int (l3))] [] m16 (QI Q)) else (Q (0 : Int32) m16)))))))))))))) : At g M_LW_law (lv + 1) 294 [(0, va_rf (some (gb g))), (1, va_rf (l1)), (2, va_rf (l2)), (3, .int (l3))] [] m (QI Q) := by
  refine at_aload_n (i := 1) 1 295 rfl (by decide +kernel) rfl ?_
  refine at_aload_n (i := 0) 0 296 rfl (by decide +kernel) rfl ?_
  refine at_iload_n (i := 3) 3 297 rfl (by decide +kernel) rfl ?_
  refine at_iconst (n := 1) (1 : Int32) 298 rfl (by decide +kernel) (by decide +kernel) ?_
  refine at_iadd 299 rfl (by decide +kernel) ?_
  obtain ⟨v1, h⟩ := h
  refine at_ialdX 300 rfl (by decide +kernel) v1 ?_
  refine at_aload_n (i := 0) 0 301 rfl (by decide +kernel) rfl ?_
  refine at_iload_n (i := 3) 3 302 rfl (by decide +kernel) rfl ?_
  refine at_iconst (n := 2) (2 : Int32) 303 rfl (by decide +kernel) (by decide +kernel) ?_
  refine at_iadd 304 rfl (by decide +kernel) ?_
  obtain ⟨v2, h⟩ := h
  refine at_ialdX 305 rfl (by decide +kernel) v2 ?_
  obtain ⟨b3, e4, h⟩ := h
  rw [e4]
  obtain ⟨k5, h⟩ := h
  refine at_callV mb_SL_grower tw_479 tw_480 cok11 k5 (index := 23) tw_478 [.int (gx g (l3 + (1 : Int32)).toNatClampNeg), .int (gx g (l3 + (2 : Int32)).toNatClampNeg)] [] rfl rfl (by decide) 308 rfl (by decide +kernel) (Call.toI (CI.monoE h (fun x6 m7 h y8 => ?_)))
  have k9 : mK m7 b3 = 12 := y8.k k5 (by decide)
  refine at_aload_n (i := 2) 2 309 rfl (by decide +kernel) rfl ?_
  refine at_aload_n (i := 0) 0 310 rfl (by decide +kernel) rfl ?_
  refine at_iload_n (i := 3) 3 311 rfl (by decide +kernel) rfl ?_
  refine at_iconst (n := 1) (1 : Int32) 312 rfl (by decide +kernel) (by decide +kernel) ?_
  refine at_iadd 313 rfl (by decide +kernel) ?_
  obtain ⟨v10, h⟩ := h
  refine at_ialdX 314 rfl (by decide +kernel) v10 ?_
  refine at_aload_n (i := 0) 0 315 rfl (by decide +kernel) rfl ?_
  refine at_iload_n (i := 3) 3 316 rfl (by decide +kernel) rfl ?_
  refine at_iconst (n := 2) (2 : Int32) 317 rfl (by decide +kernel) (by decide +kernel) ?_
  refine at_iadd 318 rfl (by decide +kernel) ?_
  obtain ⟨v11, h⟩ := h
  refine at_ialdX 319 rfl (by decide +kernel) v11 ?_
  obtain ⟨b12, e13, h⟩ := h
  rw [e13]
  obtain ⟨k14, h⟩ := h
  refine at_callV mb_RF_grower tw_1326 tw_1327 cok12 k14 (index := 27) tw_1325 [.int (gx g (l3 + (1 : Int32)).toNatClampNeg), .int (gx g (l3 + (2 : Int32)).toNatClampNeg)] [.int (x6)] rfl rfl (by simp [va_rf_cat, cat_int, cat_long]) 322 rfl (by decide +kernel) (Call.toI (CI.monoE h (fun x15 m16 h y17 => ?_)))
  have k18 : mK m16 b3 = 12 := y17.k k9 (by decide)
  have k19 : mK m16 b12 = 13 := y17.k k14 (by decide)
  refine at_icmp_eq (off := 910) 1232 325 rfl (by decide +kernel) (by decide +kernel) (fun c20 => ?_) (fun c20 => ?_)
  · rw [if_pos c20] at h
    exact h
  · rw [if_neg c20] at h
    refine at_iconst (n := 0) (0 : Int32) 326 rfl (by decide +kernel) (by decide +kernel) ?_
    exact at_zret rfl (by decide +kernel) (Or.inl rfl) h
set_option maxRecDepth 20000 in
set_option maxHeartbeats 4000000 in
theorem bk_LW_law_251 (g : Gc) {lv : Nat} {l0 : Option Nat} {l1 : Option Nat} {l2 : Option Nat} {l3 : Int32} {m : Mm} {Q : Int32 → Mm → Prop} (h : vp_in (l3 + (1 : Int32)) (gn g) ∧ (vp_in (l3 + (2 : Int32)) (gn g) ∧ (vp_in (l3 + (3 : Int32)) (gn g) ∧ (∃ b4, l1 = some b4 ∧ (mK m b4 = 12 ∧ (CI g M_SL_bank lv [va_rf (some b4), .int (gx g (l3 + (1 : Int32)).toNatClampNeg), .int (gx g (l3 + (2 : Int32)).toNatClampNeg), .int (gx g (l3 + (3 : Int32)).toNatClampNeg)] m (fun x7 m8 => (vp_in (l3 + (1 : Int32)) (gn g) ∧ (vp_in (l3 + (2 : Int32)) (gn g) ∧ (vp_in (l3 + (3 : Int32)) (gn g) ∧ (∃ b14, l2 = some b14 ∧ (mK m8 b14 = 13 ∧ (CI g M_RF_bank lv [va_rf (some b14), .int (gx g (l3 + (1 : Int32)).toNatClampNeg), .int (gx g (l3 + (2 : Int32)).toNatClampNeg), .int (gx g (l3 + (3 : Int32)).toNatClampNeg)] m8 (fun x17 m18 => (if (x7) = (x17) then (At g M_LW_law (lv + 1) 1232 [(0, va_rf (some (gb g))), (1, va_rf (some b4)), (2, va_rf (some b14)), (3, .int (l3))] [] m18 (QI Q)) else (Q (0 : Int32) m18)))))))))))))))) : At g M_LW_law (lv + 1) 251 [(0, va_rf (some (gb g))), (1, va_rf (l1)), (2, va_rf (l2)), (3, .int (l3))] [] m (QI Q) := by
  refine at_aload_n (i := 1) 1 252 rfl (by decide +kernel) rfl ?_
  refine at_aload_n (i := 0) 0 253 rfl (by decide +kernel) rfl ?_
  refine at_iload_n (i := 3) 3 254 rfl (by decide +kernel) rfl ?_
  refine at_iconst (n := 1) (1 : Int32) 255 rfl (by decide +kernel) (by decide +kernel) ?_
  refine at_iadd 256 rfl (by decide +kernel) ?_
  obtain ⟨v1, h⟩ := h
  refine at_ialdX 257 rfl (by decide +kernel) v1 ?_
  refine at_aload_n (i := 0) 0 258 rfl (by decide +kernel) rfl ?_
  refine at_iload_n (i := 3) 3 259 rfl (by decide +kernel) rfl ?_
  refine at_iconst (n := 2) (2 : Int32) 260 rfl (by decide +kernel) (by decide +kernel) ?_
  refine at_iadd 261 rfl (by decide +kernel) ?_
  obtain ⟨v2, h⟩ := h
  refine at_ialdX 262 rfl (by decide +kernel) v2 ?_
  refine at_aload_n (i := 0) 0 263 rfl (by decide +kernel) rfl ?_
  refine at_iload_n (i := 3) 3 264 rfl (by decide +kernel) rfl ?_
  refine at_iconst (n := 3) (3 : Int32) 265 rfl (by decide +kernel) (by decide +kernel) ?_
  refine at_iadd 266 rfl (by decide +kernel) ?_
  obtain ⟨v3, h⟩ := h
  refine at_ialdX 267 rfl (by decide +kernel) v3 ?_
  obtain ⟨b4, e5, h⟩ := h
  rw [e5]
  obtain ⟨k6, h⟩ := h
  refine at_callV mb_SL_bank tw_475 tw_476 cok11 k6 (index := 18) tw_474 [.int (gx g (l3 + (1 : Int32)).toNatClampNeg), .int (gx g (l3 + (2 : Int32)).toNatClampNeg), .int (gx g (l3 + (3 : Int32)).toNatClampNeg)] [] rfl rfl (by decide) 270 rfl (by decide +kernel) (Call.toI (CI.monoE h (fun x7 m8 h y9 => ?_)))
  have k10 : mK m8 b4 = 12 := y9.k k6 (by decide)
  refine at_aload_n (i := 2) 2 271 rfl (by decide +kernel) rfl ?_
  refine at_aload_n (i := 0) 0 272 rfl (by decide +kernel) rfl ?_
  refine at_iload_n (i := 3) 3 273 rfl (by decide +kernel) rfl ?_
  refine at_iconst (n := 1) (1 : Int32) 274 rfl (by decide +kernel) (by decide +kernel) ?_
  refine at_iadd 275 rfl (by decide +kernel) ?_
  obtain ⟨v11, h⟩ := h
  refine at_ialdX 276 rfl (by decide +kernel) v11 ?_
  refine at_aload_n (i := 0) 0 277 rfl (by decide +kernel) rfl ?_
  refine at_iload_n (i := 3) 3 278 rfl (by decide +kernel) rfl ?_
  refine at_iconst (n := 2) (2 : Int32) 279 rfl (by decide +kernel) (by decide +kernel) ?_
  refine at_iadd 280 rfl (by decide +kernel) ?_
  obtain ⟨v12, h⟩ := h
  refine at_ialdX 281 rfl (by decide +kernel) v12 ?_
  refine at_aload_n (i := 0) 0 282 rfl (by decide +kernel) rfl ?_
  refine at_iload_n (i := 3) 3 283 rfl (by decide +kernel) rfl ?_
  refine at_iconst (n := 3) (3 : Int32) 284 rfl (by decide +kernel) (by decide +kernel) ?_
  refine at_iadd 285 rfl (by decide +kernel) ?_
  obtain ⟨v13, h⟩ := h
  refine at_ialdX 286 rfl (by decide +kernel) v13 ?_
  obtain ⟨b14, e15, h⟩ := h
  rw [e15]
  obtain ⟨k16, h⟩ := h
  refine at_callV mb_RF_bank tw_1321 tw_1322 cok12 k16 (index := 22) tw_1320 [.int (gx g (l3 + (1 : Int32)).toNatClampNeg), .int (gx g (l3 + (2 : Int32)).toNatClampNeg), .int (gx g (l3 + (3 : Int32)).toNatClampNeg)] [.int (x7)] rfl rfl (by simp [va_rf_cat, cat_int, cat_long]) 289 rfl (by decide +kernel) (Call.toI (CI.monoE h (fun x17 m18 h y19 => ?_)))
  have k20 : mK m18 b4 = 12 := y19.k k10 (by decide)
  have k21 : mK m18 b14 = 13 := y19.k k16 (by decide)
  refine at_icmp_eq (off := 943) 1232 292 rfl (by decide +kernel) (by decide +kernel) (fun c22 => ?_) (fun c22 => ?_)
  · rw [if_pos c22] at h
    exact h
  · rw [if_neg c22] at h
    refine at_iconst (n := 0) (0 : Int32) 293 rfl (by decide +kernel) (by decide +kernel) ?_
    exact at_zret rfl (by decide +kernel) (Or.inl rfl) h
set_option maxRecDepth 20000 in
set_option maxHeartbeats 4000000 in
theorem bk_LW_law_164 (g : Gc) {lv : Nat} {l0 : Option Nat} {l1 : Option Nat} {l2 : Option Nat} {l3 : Int32} {m : Mm} {Q : Int32 → Mm → Prop} (h : vp_in (l3 + (1 : Int32)) (gn g) ∧ (vp_in (l3 + (2 : Int32)) (gn g) ∧ (vp_in (l3 + (3 : Int32)) (gn g) ∧ (vp_in (l3 + (4 : Int32)) (gn g) ∧ (vp_in (l3 + (5 : Int32)) (gn g) ∧ (vp_in (l3 + (6 : Int32)) (gn g) ∧ (vp_in (l3 + (7 : Int32)) (gn g) ∧ (∃ b8, l1 = some b8 ∧ (mK m b8 = 12 ∧ (CI g M_SL_terms lv [va_rf (some b8), .int (gx g (l3 + (1 : Int32)).toNatClampNeg), .int (gx g (l3 + (2 : Int32)).toNatClampNeg), .int (gx g (l3 + (3 : Int32)).toNatClampNeg), .int (gx g (l3 + (4 : Int32)).toNatClampNeg), .int (gx g (l3 + (5 : Int32)).toNatClampNeg), .int (gx g (l3 + (6 : Int32)).toNatClampNeg), .int (gx g (l3 + (7 : Int32)).toNatClampNeg)] m (fun x11 m12 => (vp_in (l3 + (1 : Int32)) (gn g) ∧ (vp_in (l3 + (2 : Int32)) (gn g) ∧ (vp_in (l3 + (3 : Int32)) (gn g) ∧ (vp_in (l3 + (4 : Int32)) (gn g) ∧ (vp_in (l3 + (5 : Int32)) (gn g) ∧ (vp_in (l3 + (6 : Int32)) (gn g) ∧ (vp_in (l3 + (7 : Int32)) (gn g) ∧ (∃ b22, l2 = some b22 ∧ (mK m12 b22 = 13 ∧ (CI g M_RF_terms lv [va_rf (some b22), .int (gx g (l3 + (1 : Int32)).toNatClampNeg), .int (gx g (l3 + (2 : Int32)).toNatClampNeg), .int (gx g (l3 + (3 : Int32)).toNatClampNeg), .int (gx g (l3 + (4 : Int32)).toNatClampNeg), .int (gx g (l3 + (5 : Int32)).toNatClampNeg), .int (gx g (l3 + (6 : Int32)).toNatClampNeg), .int (gx g (l3 + (7 : Int32)).toNatClampNeg)] m12 (fun x25 m26 => (if (x11) = (x25) then (At g M_LW_law (lv + 1) 1232 [(0, va_rf (some (gb g))), (1, va_rf (some b8)), (2, va_rf (some b22)), (3, .int (l3))] [] m26 (QI Q)) else (Q (0 : Int32) m26)))))))))))))))))))))))) : At g M_LW_law (lv + 1) 164 [(0, va_rf (some (gb g))), (1, va_rf (l1)), (2, va_rf (l2)), (3, .int (l3))] [] m (QI Q) := by
  refine at_aload_n (i := 1) 1 165 rfl (by decide +kernel) rfl ?_
  refine at_aload_n (i := 0) 0 166 rfl (by decide +kernel) rfl ?_
  refine at_iload_n (i := 3) 3 167 rfl (by decide +kernel) rfl ?_
  refine at_iconst (n := 1) (1 : Int32) 168 rfl (by decide +kernel) (by decide +kernel) ?_
  refine at_iadd 169 rfl (by decide +kernel) ?_
  obtain ⟨v1, h⟩ := h
  refine at_ialdX 170 rfl (by decide +kernel) v1 ?_
  refine at_aload_n (i := 0) 0 171 rfl (by decide +kernel) rfl ?_
  refine at_iload_n (i := 3) 3 172 rfl (by decide +kernel) rfl ?_
  refine at_iconst (n := 2) (2 : Int32) 173 rfl (by decide +kernel) (by decide +kernel) ?_
  refine at_iadd 174 rfl (by decide +kernel) ?_
  obtain ⟨v2, h⟩ := h
  refine at_ialdX 175 rfl (by decide +kernel) v2 ?_
  refine at_aload_n (i := 0) 0 176 rfl (by decide +kernel) rfl ?_
  refine at_iload_n (i := 3) 3 177 rfl (by decide +kernel) rfl ?_
  refine at_iconst (n := 3) (3 : Int32) 178 rfl (by decide +kernel) (by decide +kernel) ?_
  refine at_iadd 179 rfl (by decide +kernel) ?_
  obtain ⟨v3, h⟩ := h
  refine at_ialdX 180 rfl (by decide +kernel) v3 ?_
  refine at_aload_n (i := 0) 0 181 rfl (by decide +kernel) rfl ?_
  refine at_iload_n (i := 3) 3 182 rfl (by decide +kernel) rfl ?_
  refine at_iconst (n := 4) (4 : Int32) 183 rfl (by decide +kernel) (by decide +kernel) ?_
  refine at_iadd 184 rfl (by decide +kernel) ?_
  obtain ⟨v4, h⟩ := h
  refine at_ialdX 185 rfl (by decide +kernel) v4 ?_
  refine at_aload_n (i := 0) 0 186 rfl (by decide +kernel) rfl ?_
  refine at_iload_n (i := 3) 3 187 rfl (by decide +kernel) rfl ?_
  refine at_iconst (n := 5) (5 : Int32) 188 rfl (by decide +kernel) (by decide +kernel) ?_
  refine at_iadd 189 rfl (by decide +kernel) ?_
  obtain ⟨v5, h⟩ := h
  refine at_ialdX 190 rfl (by decide +kernel) v5 ?_
  refine at_aload_n (i := 0) 0 191 rfl (by decide +kernel) rfl ?_
  refine at_iload_n (i := 3) 3 192 rfl (by decide +kernel) rfl ?_
  refine at_bipush (n := 6) (6 : Int32) 194 rfl (by decide +kernel) (by decide +kernel) ?_
  refine at_iadd 195 rfl (by decide +kernel) ?_
  obtain ⟨v6, h⟩ := h
  refine at_ialdX 196 rfl (by decide +kernel) v6 ?_
  refine at_aload_n (i := 0) 0 197 rfl (by decide +kernel) rfl ?_
  refine at_iload_n (i := 3) 3 198 rfl (by decide +kernel) rfl ?_
  refine at_bipush (n := 7) (7 : Int32) 200 rfl (by decide +kernel) (by decide +kernel) ?_
  refine at_iadd 201 rfl (by decide +kernel) ?_
  obtain ⟨v7, h⟩ := h
  refine at_ialdX 202 rfl (by decide +kernel) v7 ?_
  obtain ⟨b8, e9, h⟩ := h
  rw [e9]
  obtain ⟨k10, h⟩ := h
  refine at_callV mb_SL_terms tw_466 tw_467 cok11 k10 (index := 13) tw_465 [.int (gx g (l3 + (1 : Int32)).toNatClampNeg), .int (gx g (l3 + (2 : Int32)).toNatClampNeg), .int (gx g (l3 + (3 : Int32)).toNatClampNeg), .int (gx g (l3 + (4 : Int32)).toNatClampNeg), .int (gx g (l3 + (5 : Int32)).toNatClampNeg), .int (gx g (l3 + (6 : Int32)).toNatClampNeg), .int (gx g (l3 + (7 : Int32)).toNatClampNeg)] [] rfl rfl (by decide) 205 rfl (by decide +kernel) (Call.toI (CI.monoE h (fun x11 m12 h y13 => ?_)))
  have k14 : mK m12 b8 = 12 := y13.k k10 (by decide)
  refine at_aload_n (i := 2) 2 206 rfl (by decide +kernel) rfl ?_
  refine at_aload_n (i := 0) 0 207 rfl (by decide +kernel) rfl ?_
  refine at_iload_n (i := 3) 3 208 rfl (by decide +kernel) rfl ?_
  refine at_iconst (n := 1) (1 : Int32) 209 rfl (by decide +kernel) (by decide +kernel) ?_
  refine at_iadd 210 rfl (by decide +kernel) ?_
  obtain ⟨v15, h⟩ := h
  refine at_ialdX 211 rfl (by decide +kernel) v15 ?_
  refine at_aload_n (i := 0) 0 212 rfl (by decide +kernel) rfl ?_
  refine at_iload_n (i := 3) 3 213 rfl (by decide +kernel) rfl ?_
  refine at_iconst (n := 2) (2 : Int32) 214 rfl (by decide +kernel) (by decide +kernel) ?_
  refine at_iadd 215 rfl (by decide +kernel) ?_
  obtain ⟨v16, h⟩ := h
  refine at_ialdX 216 rfl (by decide +kernel) v16 ?_
  refine at_aload_n (i := 0) 0 217 rfl (by decide +kernel) rfl ?_
  refine at_iload_n (i := 3) 3 218 rfl (by decide +kernel) rfl ?_
  refine at_iconst (n := 3) (3 : Int32) 219 rfl (by decide +kernel) (by decide +kernel) ?_
  refine at_iadd 220 rfl (by decide +kernel) ?_
  obtain ⟨v17, h⟩ := h
  refine at_ialdX 221 rfl (by decide +kernel) v17 ?_
  refine at_aload_n (i := 0) 0 222 rfl (by decide +kernel) rfl ?_
  refine at_iload_n (i := 3) 3 223 rfl (by decide +kernel) rfl ?_
  refine at_iconst (n := 4) (4 : Int32) 224 rfl (by decide +kernel) (by decide +kernel) ?_
  refine at_iadd 225 rfl (by decide +kernel) ?_
  obtain ⟨v18, h⟩ := h
  refine at_ialdX 226 rfl (by decide +kernel) v18 ?_
  refine at_aload_n (i := 0) 0 227 rfl (by decide +kernel) rfl ?_
  refine at_iload_n (i := 3) 3 228 rfl (by decide +kernel) rfl ?_
  refine at_iconst (n := 5) (5 : Int32) 229 rfl (by decide +kernel) (by decide +kernel) ?_
  refine at_iadd 230 rfl (by decide +kernel) ?_
  obtain ⟨v19, h⟩ := h
  refine at_ialdX 231 rfl (by decide +kernel) v19 ?_
  refine at_aload_n (i := 0) 0 232 rfl (by decide +kernel) rfl ?_
  refine at_iload_n (i := 3) 3 233 rfl (by decide +kernel) rfl ?_
  refine at_bipush (n := 6) (6 : Int32) 235 rfl (by decide +kernel) (by decide +kernel) ?_
  refine at_iadd 236 rfl (by decide +kernel) ?_
  obtain ⟨v20, h⟩ := h
  refine at_ialdX 237 rfl (by decide +kernel) v20 ?_
  refine at_aload_n (i := 0) 0 238 rfl (by decide +kernel) rfl ?_
  refine at_iload_n (i := 3) 3 239 rfl (by decide +kernel) rfl ?_
  refine at_bipush (n := 7) (7 : Int32) 241 rfl (by decide +kernel) (by decide +kernel) ?_
  refine at_iadd 242 rfl (by decide +kernel) ?_
  obtain ⟨v21, h⟩ := h
  refine at_ialdX 243 rfl (by decide +kernel) v21 ?_
  obtain ⟨b22, e23, h⟩ := h
  rw [e23]
  obtain ⟨k24, h⟩ := h
  refine at_callV mb_RF_terms tw_1311 tw_1312 cok12 k24 (index := 17) tw_1310 [.int (gx g (l3 + (1 : Int32)).toNatClampNeg), .int (gx g (l3 + (2 : Int32)).toNatClampNeg), .int (gx g (l3 + (3 : Int32)).toNatClampNeg), .int (gx g (l3 + (4 : Int32)).toNatClampNeg), .int (gx g (l3 + (5 : Int32)).toNatClampNeg), .int (gx g (l3 + (6 : Int32)).toNatClampNeg), .int (gx g (l3 + (7 : Int32)).toNatClampNeg)] [.int (x11)] rfl rfl (by simp [va_rf_cat, cat_int, cat_long]) 246 rfl (by decide +kernel) (Call.toI (CI.monoE h (fun x25 m26 h y27 => ?_)))
  have k28 : mK m26 b8 = 12 := y27.k k14 (by decide)
  have k29 : mK m26 b22 = 13 := y27.k k24 (by decide)
  refine at_icmp_eq (off := 986) 1232 249 rfl (by decide +kernel) (by decide +kernel) (fun c30 => ?_) (fun c30 => ?_)
  · rw [if_pos c30] at h
    exact h
  · rw [if_neg c30] at h
    refine at_iconst (n := 0) (0 : Int32) 250 rfl (by decide +kernel) (by decide +kernel) ?_
    exact at_zret rfl (by decide +kernel) (Or.inl rfl) h
set_option maxRecDepth 20000 in
set_option maxHeartbeats 4000000 in
theorem bk_LW_law_18 (g : Gc) {lv : Nat} {l0 : Option Nat} {l1 : Option Nat} {l2 : Option Nat} {l3 : Int32} {m : Mm} {Q : Int32 → Mm → Prop} (h : if ((nI (gn g)) - (8 : Int32)) < (l3) then (Q (1 : Int32) m) else (vp_in l3 (gn g) ∧ (if ((gx g l3.toNatClampNeg) &&& (31 : Int32)) = (0 : Int32) then (At g M_LW_law (lv + 1) 164 [(0, va_rf (some (gb g))), (1, va_rf (l1)), (2, va_rf (l2)), (3, .int (l3))] [] m (QI Q)) else (if ((gx g l3.toNatClampNeg) &&& (31 : Int32)) = (1 : Int32) then (At g M_LW_law (lv + 1) 251 [(0, va_rf (some (gb g))), (1, va_rf (l1)), (2, va_rf (l2)), (3, .int (l3))] [] m (QI Q)) else (if ((gx g l3.toNatClampNeg) &&& (31 : Int32)) = (2 : Int32) then (At g M_LW_law (lv + 1) 294 [(0, va_rf (some (gb g))), (1, va_rf (l1)), (2, va_rf (l2)), (3, .int (l3))] [] m (QI Q)) else (if ((gx g l3.toNatClampNeg) &&& (31 : Int32)) = (3 : Int32) then (At g M_LW_law (lv + 1) 327 [(0, va_rf (some (gb g))), (1, va_rf (l1)), (2, va_rf (l2)), (3, .int (l3))] [] m (QI Q)) else (if ((gx g l3.toNatClampNeg) &&& (31 : Int32)) = (4 : Int32) then (At g M_LW_law (lv + 1) 390 [(0, va_rf (some (gb g))), (1, va_rf (l1)), (2, va_rf (l2)), (3, .int (l3))] [] m (QI Q)) else (if ((gx g l3.toNatClampNeg) &&& (31 : Int32)) = (5 : Int32) then (At g M_LW_law (lv + 1) 413 [(0, va_rf (some (gb g))), (1, va_rf (l1)), (2, va_rf (l2)), (3, .int (l3))] [] m (QI Q)) else (if ((gx g l3.toNatClampNeg) &&& (31 : Int32)) = (6 : Int32) then (At g M_LW_law (lv + 1) 446 [(0, va_rf (some (gb g))), (1, va_rf (l1)), (2, va_rf (l2)), (3, .int (l3))] [] m (QI Q)) else (if ((gx g l3.toNatClampNeg) &&& (31 : Int32)) = (7 : Int32) then (At g M_LW_law (lv + 1) 459 [(0, va_rf (some (gb g))), (1, va_rf (l1)), (2, va_rf (l2)), (3, .int (l3))] [] m (QI Q)) else (if ((gx g l3.toNatClampNeg) &&& (31 : Int32)) = (8 : Int32) then (At g M_LW_law (lv + 1) 492 [(0, va_rf (some (gb g))), (1, va_rf (l1)), (2, va_rf (l2)), (3, .int (l3))] [] m (QI Q)) else (if ((gx g l3.toNatClampNeg) &&& (31 : Int32)) = (9 : Int32) then (At g M_LW_law (lv + 1) 515 [(0, va_rf (some (gb g))), (1, va_rf (l1)), (2, va_rf (l2)), (3, .int (l3))] [] m (QI Q)) else (if ((gx g l3.toNatClampNeg) &&& (31 : Int32)) = (10 : Int32) then (At g M_LW_law (lv + 1) 538 [(0, va_rf (some (gb g))), (1, va_rf (l1)), (2, va_rf (l2)), (3, .int (l3))] [] m (QI Q)) else (if ((gx g l3.toNatClampNeg) &&& (31 : Int32)) = (11 : Int32) then (At g M_LW_law (lv + 1) 581 [(0, va_rf (some (gb g))), (1, va_rf (l1)), (2, va_rf (l2)), (3, .int (l3))] [] m (QI Q)) else (if ((gx g l3.toNatClampNeg) &&& (31 : Int32)) = (12 : Int32) then (At g M_LW_law (lv + 1) 614 [(0, va_rf (some (gb g))), (1, va_rf (l1)), (2, va_rf (l2)), (3, .int (l3))] [] m (QI Q)) else (if ((gx g l3.toNatClampNeg) &&& (31 : Int32)) = (13 : Int32) then (At g M_LW_law (lv + 1) 647 [(0, va_rf (some (gb g))), (1, va_rf (l1)), (2, va_rf (l2)), (3, .int (l3))] [] m (QI Q)) else (if ((gx g l3.toNatClampNeg) &&& (31 : Int32)) = (14 : Int32) then (At g M_LW_law (lv + 1) 691 [(0, va_rf (some (gb g))), (1, va_rf (l1)), (2, va_rf (l2)), (3, .int (l3))] [] m (QI Q)) else (if ((gx g l3.toNatClampNeg) &&& (31 : Int32)) = (15 : Int32) then (At g M_LW_law (lv + 1) 725 [(0, va_rf (some (gb g))), (1, va_rf (l1)), (2, va_rf (l2)), (3, .int (l3))] [] m (QI Q)) else (if ((gx g l3.toNatClampNeg) &&& (31 : Int32)) = (16 : Int32) then (At g M_LW_law (lv + 1) 748 [(0, va_rf (some (gb g))), (1, va_rf (l1)), (2, va_rf (l2)), (3, .int (l3))] [] m (QI Q)) else (if ((gx g l3.toNatClampNeg) &&& (31 : Int32)) = (17 : Int32) then (At g M_LW_law (lv + 1) 781 [(0, va_rf (some (gb g))), (1, va_rf (l1)), (2, va_rf (l2)), (3, .int (l3))] [] m (QI Q)) else (if ((gx g l3.toNatClampNeg) &&& (31 : Int32)) = (18 : Int32) then (At g M_LW_law (lv + 1) 815 [(0, va_rf (some (gb g))), (1, va_rf (l1)), (2, va_rf (l2)), (3, .int (l3))] [] m (QI Q)) else (if ((gx g l3.toNatClampNeg) &&& (31 : Int32)) = (19 : Int32) then (At g M_LW_law (lv + 1) 848 [(0, va_rf (some (gb g))), (1, va_rf (l1)), (2, va_rf (l2)), (3, .int (l3))] [] m (QI Q)) else (if ((gx g l3.toNatClampNeg) &&& (31 : Int32)) = (20 : Int32) then (At g M_LW_law (lv + 1) 872 [(0, va_rf (some (gb g))), (1, va_rf (l1)), (2, va_rf (l2)), (3, .int (l3))] [] m (QI Q)) else (if ((gx g l3.toNatClampNeg) &&& (31 : Int32)) = (21 : Int32) then (At g M_LW_law (lv + 1) 895 [(0, va_rf (some (gb g))), (1, va_rf (l1)), (2, va_rf (l2)), (3, .int (l3))] [] m (QI Q)) else (if ((gx g l3.toNatClampNeg) &&& (31 : Int32)) = (22 : Int32) then (At g M_LW_law (lv + 1) 919 [(0, va_rf (some (gb g))), (1, va_rf (l1)), (2, va_rf (l2)), (3, .int (l3))] [] m (QI Q)) else (if ((gx g l3.toNatClampNeg) &&& (31 : Int32)) = (23 : Int32) then (At g M_LW_law (lv + 1) 953 [(0, va_rf (some (gb g))), (1, va_rf (l1)), (2, va_rf (l2)), (3, .int (l3))] [] m (QI Q)) else (if ((gx g l3.toNatClampNeg) &&& (31 : Int32)) = (24 : Int32) then (At g M_LW_law (lv + 1) 977 [(0, va_rf (some (gb g))), (1, va_rf (l1)), (2, va_rf (l2)), (3, .int (l3))] [] m (QI Q)) else (if ((gx g l3.toNatClampNeg) &&& (31 : Int32)) = (25 : Int32) then (At g M_LW_law (lv + 1) 1030 [(0, va_rf (some (gb g))), (1, va_rf (l1)), (2, va_rf (l2)), (3, .int (l3))] [] m (QI Q)) else (if ((gx g l3.toNatClampNeg) &&& (31 : Int32)) = (26 : Int32) then (At g M_LW_law (lv + 1) 1073 [(0, va_rf (some (gb g))), (1, va_rf (l1)), (2, va_rf (l2)), (3, .int (l3))] [] m (QI Q)) else (if ((gx g l3.toNatClampNeg) &&& (31 : Int32)) = (27 : Int32) then (At g M_LW_law (lv + 1) 1096 [(0, va_rf (some (gb g))), (1, va_rf (l1)), (2, va_rf (l2)), (3, .int (l3))] [] m (QI Q)) else (if ((gx g l3.toNatClampNeg) &&& (31 : Int32)) = (28 : Int32) then (At g M_LW_law (lv + 1) 1169 [(0, va_rf (some (gb g))), (1, va_rf (l1)), (2, va_rf (l2)), (3, .int (l3))] [] m (QI Q)) else (At g M_LW_law (lv + 1) 1232 [(0, va_rf (some (gb g))), (1, va_rf (l1)), (2, va_rf (l2)), (3, .int (l3))] [] m (QI Q))))))))))))))))))))))))))))))))) : At g M_LW_law (lv + 1) 18 [(0, va_rf (some (gb g))), (1, va_rf (l1)), (2, va_rf (l2)), (3, .int (l3))] [] m (QI Q) := by
  refine at_iload_n (i := 3) 3 19 rfl (by decide +kernel) rfl ?_
  refine at_aload_n (i := 0) 0 20 rfl (by decide +kernel) rfl ?_
  refine at_alenX (ls0 := ()) 21 rfl (by decide +kernel) ?_
  refine at_bipush (n := 8) (8 : Int32) 23 rfl (by decide +kernel) (by decide +kernel) ?_
  refine at_isub 24 rfl (by decide +kernel) ?_
  refine at_icmp_gt (off := 1214) 1238 27 rfl (by decide +kernel) (by decide +kernel) (fun c1 => ?_) (fun c1 => ?_)
  · rw [if_pos c1] at h
    refine at_iconst (n := 1) (1 : Int32) 1239 rfl (by decide +kernel) (by decide +kernel) ?_
    exact at_zret rfl (by decide +kernel) (Or.inr rfl) h
  · rw [if_neg c1] at h
    refine at_aload_n (i := 0) 0 28 rfl (by decide +kernel) rfl ?_
    refine at_iload_n (i := 3) 3 29 rfl (by decide +kernel) rfl ?_
    obtain ⟨v2, h⟩ := h
    refine at_ialdX 30 rfl (by decide +kernel) v2 ?_
    refine at_bipush (n := 31) (31 : Int32) 32 rfl (by decide +kernel) (by decide +kernel) ?_
    refine at_iand 33 rfl (by decide +kernel) ?_
    by_cases c4 : ((gx g l3.toNatClampNeg) &&& (31 : Int32)) = (0 : Int32)
    · rw [if_pos c4] at h
      have w3 : ((gx g l3.toNatClampNeg) &&& (31 : Int32)).toInt = 0 := by rw [c4]; decide +kernel
      refine at_tabIn (dflt := 1199) (lo := 0) (hi := 28) (offs := #[131, 218, 261, 294, 357, 380, 413, 426, 459, 482, 505, 548, 581, 614, 658, 692, 715, 748, 782, 815, 839, 862, 886, 920, 944, 997, 1040, 1063, 1136]) (len := 131) (off := 131) 164 (by decide +kernel) (by rw [w3]; decide) (by rw [w3]; decide) (by rw [w3]; decide +kernel) (by decide +kernel) ?_
      exact h
    rw [if_neg c4] at h
    by_cases c5 : ((gx g l3.toNatClampNeg) &&& (31 : Int32)) = (1 : Int32)
    · rw [if_pos c5] at h
      have w3 : ((gx g l3.toNatClampNeg) &&& (31 : Int32)).toInt = 1 := by rw [c5]; decide +kernel
      refine at_tabIn (dflt := 1199) (lo := 0) (hi := 28) (offs := #[131, 218, 261, 294, 357, 380, 413, 426, 459, 482, 505, 548, 581, 614, 658, 692, 715, 748, 782, 815, 839, 862, 886, 920, 944, 997, 1040, 1063, 1136]) (len := 131) (off := 218) 251 (by decide +kernel) (by rw [w3]; decide) (by rw [w3]; decide) (by rw [w3]; decide +kernel) (by decide +kernel) ?_
      exact h
    rw [if_neg c5] at h
    by_cases c6 : ((gx g l3.toNatClampNeg) &&& (31 : Int32)) = (2 : Int32)
    · rw [if_pos c6] at h
      have w3 : ((gx g l3.toNatClampNeg) &&& (31 : Int32)).toInt = 2 := by rw [c6]; decide +kernel
      refine at_tabIn (dflt := 1199) (lo := 0) (hi := 28) (offs := #[131, 218, 261, 294, 357, 380, 413, 426, 459, 482, 505, 548, 581, 614, 658, 692, 715, 748, 782, 815, 839, 862, 886, 920, 944, 997, 1040, 1063, 1136]) (len := 131) (off := 261) 294 (by decide +kernel) (by rw [w3]; decide) (by rw [w3]; decide) (by rw [w3]; decide +kernel) (by decide +kernel) ?_
      exact h
    rw [if_neg c6] at h
    by_cases c7 : ((gx g l3.toNatClampNeg) &&& (31 : Int32)) = (3 : Int32)
    · rw [if_pos c7] at h
      have w3 : ((gx g l3.toNatClampNeg) &&& (31 : Int32)).toInt = 3 := by rw [c7]; decide +kernel
      refine at_tabIn (dflt := 1199) (lo := 0) (hi := 28) (offs := #[131, 218, 261, 294, 357, 380, 413, 426, 459, 482, 505, 548, 581, 614, 658, 692, 715, 748, 782, 815, 839, 862, 886, 920, 944, 997, 1040, 1063, 1136]) (len := 131) (off := 294) 327 (by decide +kernel) (by rw [w3]; decide) (by rw [w3]; decide) (by rw [w3]; decide +kernel) (by decide +kernel) ?_
      exact h
    rw [if_neg c7] at h
    by_cases c8 : ((gx g l3.toNatClampNeg) &&& (31 : Int32)) = (4 : Int32)
    · rw [if_pos c8] at h
      have w3 : ((gx g l3.toNatClampNeg) &&& (31 : Int32)).toInt = 4 := by rw [c8]; decide +kernel
      refine at_tabIn (dflt := 1199) (lo := 0) (hi := 28) (offs := #[131, 218, 261, 294, 357, 380, 413, 426, 459, 482, 505, 548, 581, 614, 658, 692, 715, 748, 782, 815, 839, 862, 886, 920, 944, 997, 1040, 1063, 1136]) (len := 131) (off := 357) 390 (by decide +kernel) (by rw [w3]; decide) (by rw [w3]; decide) (by rw [w3]; decide +kernel) (by decide +kernel) ?_
      exact h
    rw [if_neg c8] at h
    by_cases c9 : ((gx g l3.toNatClampNeg) &&& (31 : Int32)) = (5 : Int32)
    · rw [if_pos c9] at h
      have w3 : ((gx g l3.toNatClampNeg) &&& (31 : Int32)).toInt = 5 := by rw [c9]; decide +kernel
      refine at_tabIn (dflt := 1199) (lo := 0) (hi := 28) (offs := #[131, 218, 261, 294, 357, 380, 413, 426, 459, 482, 505, 548, 581, 614, 658, 692, 715, 748, 782, 815, 839, 862, 886, 920, 944, 997, 1040, 1063, 1136]) (len := 131) (off := 380) 413 (by decide +kernel) (by rw [w3]; decide) (by rw [w3]; decide) (by rw [w3]; decide +kernel) (by decide +kernel) ?_
      exact h
    rw [if_neg c9] at h
    by_cases c10 : ((gx g l3.toNatClampNeg) &&& (31 : Int32)) = (6 : Int32)
    · rw [if_pos c10] at h
      have w3 : ((gx g l3.toNatClampNeg) &&& (31 : Int32)).toInt = 6 := by rw [c10]; decide +kernel
      refine at_tabIn (dflt := 1199) (lo := 0) (hi := 28) (offs := #[131, 218, 261, 294, 357, 380, 413, 426, 459, 482, 505, 548, 581, 614, 658, 692, 715, 748, 782, 815, 839, 862, 886, 920, 944, 997, 1040, 1063, 1136]) (len := 131) (off := 413) 446 (by decide +kernel) (by rw [w3]; decide) (by rw [w3]; decide) (by rw [w3]; decide +kernel) (by decide +kernel) ?_
      exact h
    rw [if_neg c10] at h
    by_cases c11 : ((gx g l3.toNatClampNeg) &&& (31 : Int32)) = (7 : Int32)
    · rw [if_pos c11] at h
      have w3 : ((gx g l3.toNatClampNeg) &&& (31 : Int32)).toInt = 7 := by rw [c11]; decide +kernel
      refine at_tabIn (dflt := 1199) (lo := 0) (hi := 28) (offs := #[131, 218, 261, 294, 357, 380, 413, 426, 459, 482, 505, 548, 581, 614, 658, 692, 715, 748, 782, 815, 839, 862, 886, 920, 944, 997, 1040, 1063, 1136]) (len := 131) (off := 426) 459 (by decide +kernel) (by rw [w3]; decide) (by rw [w3]; decide) (by rw [w3]; decide +kernel) (by decide +kernel) ?_
      exact h
    rw [if_neg c11] at h
    by_cases c12 : ((gx g l3.toNatClampNeg) &&& (31 : Int32)) = (8 : Int32)
    · rw [if_pos c12] at h
      have w3 : ((gx g l3.toNatClampNeg) &&& (31 : Int32)).toInt = 8 := by rw [c12]; decide +kernel
      refine at_tabIn (dflt := 1199) (lo := 0) (hi := 28) (offs := #[131, 218, 261, 294, 357, 380, 413, 426, 459, 482, 505, 548, 581, 614, 658, 692, 715, 748, 782, 815, 839, 862, 886, 920, 944, 997, 1040, 1063, 1136]) (len := 131) (off := 459) 492 (by decide +kernel) (by rw [w3]; decide) (by rw [w3]; decide) (by rw [w3]; decide +kernel) (by decide +kernel) ?_
      exact h
    rw [if_neg c12] at h
    by_cases c13 : ((gx g l3.toNatClampNeg) &&& (31 : Int32)) = (9 : Int32)
    · rw [if_pos c13] at h
      have w3 : ((gx g l3.toNatClampNeg) &&& (31 : Int32)).toInt = 9 := by rw [c13]; decide +kernel
      refine at_tabIn (dflt := 1199) (lo := 0) (hi := 28) (offs := #[131, 218, 261, 294, 357, 380, 413, 426, 459, 482, 505, 548, 581, 614, 658, 692, 715, 748, 782, 815, 839, 862, 886, 920, 944, 997, 1040, 1063, 1136]) (len := 131) (off := 482) 515 (by decide +kernel) (by rw [w3]; decide) (by rw [w3]; decide) (by rw [w3]; decide +kernel) (by decide +kernel) ?_
      exact h
    rw [if_neg c13] at h
    by_cases c14 : ((gx g l3.toNatClampNeg) &&& (31 : Int32)) = (10 : Int32)
    · rw [if_pos c14] at h
      have w3 : ((gx g l3.toNatClampNeg) &&& (31 : Int32)).toInt = 10 := by rw [c14]; decide +kernel
      refine at_tabIn (dflt := 1199) (lo := 0) (hi := 28) (offs := #[131, 218, 261, 294, 357, 380, 413, 426, 459, 482, 505, 548, 581, 614, 658, 692, 715, 748, 782, 815, 839, 862, 886, 920, 944, 997, 1040, 1063, 1136]) (len := 131) (off := 505) 538 (by decide +kernel) (by rw [w3]; decide) (by rw [w3]; decide) (by rw [w3]; decide +kernel) (by decide +kernel) ?_
      exact h
    rw [if_neg c14] at h
    by_cases c15 : ((gx g l3.toNatClampNeg) &&& (31 : Int32)) = (11 : Int32)
    · rw [if_pos c15] at h
      have w3 : ((gx g l3.toNatClampNeg) &&& (31 : Int32)).toInt = 11 := by rw [c15]; decide +kernel
      refine at_tabIn (dflt := 1199) (lo := 0) (hi := 28) (offs := #[131, 218, 261, 294, 357, 380, 413, 426, 459, 482, 505, 548, 581, 614, 658, 692, 715, 748, 782, 815, 839, 862, 886, 920, 944, 997, 1040, 1063, 1136]) (len := 131) (off := 548) 581 (by decide +kernel) (by rw [w3]; decide) (by rw [w3]; decide) (by rw [w3]; decide +kernel) (by decide +kernel) ?_
      exact h
    rw [if_neg c15] at h
    by_cases c16 : ((gx g l3.toNatClampNeg) &&& (31 : Int32)) = (12 : Int32)
    · rw [if_pos c16] at h
      have w3 : ((gx g l3.toNatClampNeg) &&& (31 : Int32)).toInt = 12 := by rw [c16]; decide +kernel
      refine at_tabIn (dflt := 1199) (lo := 0) (hi := 28) (offs := #[131, 218, 261, 294, 357, 380, 413, 426, 459, 482, 505, 548, 581, 614, 658, 692, 715, 748, 782, 815, 839, 862, 886, 920, 944, 997, 1040, 1063, 1136]) (len := 131) (off := 581) 614 (by decide +kernel) (by rw [w3]; decide) (by rw [w3]; decide) (by rw [w3]; decide +kernel) (by decide +kernel) ?_
      exact h
    rw [if_neg c16] at h
    by_cases c17 : ((gx g l3.toNatClampNeg) &&& (31 : Int32)) = (13 : Int32)
    · rw [if_pos c17] at h
      have w3 : ((gx g l3.toNatClampNeg) &&& (31 : Int32)).toInt = 13 := by rw [c17]; decide +kernel
      refine at_tabIn (dflt := 1199) (lo := 0) (hi := 28) (offs := #[131, 218, 261, 294, 357, 380, 413, 426, 459, 482, 505, 548, 581, 614, 658, 692, 715, 748, 782, 815, 839, 862, 886, 920, 944, 997, 1040, 1063, 1136]) (len := 131) (off := 614) 647 (by decide +kernel) (by rw [w3]; decide) (by rw [w3]; decide) (by rw [w3]; decide +kernel) (by decide +kernel) ?_
      exact h
    rw [if_neg c17] at h
    by_cases c18 : ((gx g l3.toNatClampNeg) &&& (31 : Int32)) = (14 : Int32)
    · rw [if_pos c18] at h
      have w3 : ((gx g l3.toNatClampNeg) &&& (31 : Int32)).toInt = 14 := by rw [c18]; decide +kernel
      refine at_tabIn (dflt := 1199) (lo := 0) (hi := 28) (offs := #[131, 218, 261, 294, 357, 380, 413, 426, 459, 482, 505, 548, 581, 614, 658, 692, 715, 748, 782, 815, 839, 862, 886, 920, 944, 997, 1040, 1063, 1136]) (len := 131) (off := 658) 691 (by decide +kernel) (by rw [w3]; decide) (by rw [w3]; decide) (by rw [w3]; decide +kernel) (by decide +kernel) ?_
      exact h
    rw [if_neg c18] at h
    by_cases c19 : ((gx g l3.toNatClampNeg) &&& (31 : Int32)) = (15 : Int32)
    · rw [if_pos c19] at h
      have w3 : ((gx g l3.toNatClampNeg) &&& (31 : Int32)).toInt = 15 := by rw [c19]; decide +kernel
      refine at_tabIn (dflt := 1199) (lo := 0) (hi := 28) (offs := #[131, 218, 261, 294, 357, 380, 413, 426, 459, 482, 505, 548, 581, 614, 658, 692, 715, 748, 782, 815, 839, 862, 886, 920, 944, 997, 1040, 1063, 1136]) (len := 131) (off := 692) 725 (by decide +kernel) (by rw [w3]; decide) (by rw [w3]; decide) (by rw [w3]; decide +kernel) (by decide +kernel) ?_
      exact h
    rw [if_neg c19] at h
    by_cases c20 : ((gx g l3.toNatClampNeg) &&& (31 : Int32)) = (16 : Int32)
    · rw [if_pos c20] at h
      have w3 : ((gx g l3.toNatClampNeg) &&& (31 : Int32)).toInt = 16 := by rw [c20]; decide +kernel
      refine at_tabIn (dflt := 1199) (lo := 0) (hi := 28) (offs := #[131, 218, 261, 294, 357, 380, 413, 426, 459, 482, 505, 548, 581, 614, 658, 692, 715, 748, 782, 815, 839, 862, 886, 920, 944, 997, 1040, 1063, 1136]) (len := 131) (off := 715) 748 (by decide +kernel) (by rw [w3]; decide) (by rw [w3]; decide) (by rw [w3]; decide +kernel) (by decide +kernel) ?_
      exact h
    rw [if_neg c20] at h
    by_cases c21 : ((gx g l3.toNatClampNeg) &&& (31 : Int32)) = (17 : Int32)
    · rw [if_pos c21] at h
      have w3 : ((gx g l3.toNatClampNeg) &&& (31 : Int32)).toInt = 17 := by rw [c21]; decide +kernel
      refine at_tabIn (dflt := 1199) (lo := 0) (hi := 28) (offs := #[131, 218, 261, 294, 357, 380, 413, 426, 459, 482, 505, 548, 581, 614, 658, 692, 715, 748, 782, 815, 839, 862, 886, 920, 944, 997, 1040, 1063, 1136]) (len := 131) (off := 748) 781 (by decide +kernel) (by rw [w3]; decide) (by rw [w3]; decide) (by rw [w3]; decide +kernel) (by decide +kernel) ?_
      exact h
    rw [if_neg c21] at h
    by_cases c22 : ((gx g l3.toNatClampNeg) &&& (31 : Int32)) = (18 : Int32)
    · rw [if_pos c22] at h
      have w3 : ((gx g l3.toNatClampNeg) &&& (31 : Int32)).toInt = 18 := by rw [c22]; decide +kernel
      refine at_tabIn (dflt := 1199) (lo := 0) (hi := 28) (offs := #[131, 218, 261, 294, 357, 380, 413, 426, 459, 482, 505, 548, 581, 614, 658, 692, 715, 748, 782, 815, 839, 862, 886, 920, 944, 997, 1040, 1063, 1136]) (len := 131) (off := 782) 815 (by decide +kernel) (by rw [w3]; decide) (by rw [w3]; decide) (by rw [w3]; decide +kernel) (by decide +kernel) ?_
      exact h
    rw [if_neg c22] at h
    by_cases c23 : ((gx g l3.toNatClampNeg) &&& (31 : Int32)) = (19 : Int32)
    · rw [if_pos c23] at h
      have w3 : ((gx g l3.toNatClampNeg) &&& (31 : Int32)).toInt = 19 := by rw [c23]; decide +kernel
      refine at_tabIn (dflt := 1199) (lo := 0) (hi := 28) (offs := #[131, 218, 261, 294, 357, 380, 413, 426, 459, 482, 505, 548, 581, 614, 658, 692, 715, 748, 782, 815, 839, 862, 886, 920, 944, 997, 1040, 1063, 1136]) (len := 131) (off := 815) 848 (by decide +kernel) (by rw [w3]; decide) (by rw [w3]; decide) (by rw [w3]; decide +kernel) (by decide +kernel) ?_
      exact h
    rw [if_neg c23] at h
    by_cases c24 : ((gx g l3.toNatClampNeg) &&& (31 : Int32)) = (20 : Int32)
    · rw [if_pos c24] at h
      have w3 : ((gx g l3.toNatClampNeg) &&& (31 : Int32)).toInt = 20 := by rw [c24]; decide +kernel
      refine at_tabIn (dflt := 1199) (lo := 0) (hi := 28) (offs := #[131, 218, 261, 294, 357, 380, 413, 426, 459, 482, 505, 548, 581, 614, 658, 692, 715, 748, 782, 815, 839, 862, 886, 920, 944, 997, 1040, 1063, 1136]) (len := 131) (off := 839) 872 (by decide +kernel) (by rw [w3]; decide) (by rw [w3]; decide) (by rw [w3]; decide +kernel) (by decide +kernel) ?_
      exact h
    rw [if_neg c24] at h
    by_cases c25 : ((gx g l3.toNatClampNeg) &&& (31 : Int32)) = (21 : Int32)
    · rw [if_pos c25] at h
      have w3 : ((gx g l3.toNatClampNeg) &&& (31 : Int32)).toInt = 21 := by rw [c25]; decide +kernel
      refine at_tabIn (dflt := 1199) (lo := 0) (hi := 28) (offs := #[131, 218, 261, 294, 357, 380, 413, 426, 459, 482, 505, 548, 581, 614, 658, 692, 715, 748, 782, 815, 839, 862, 886, 920, 944, 997, 1040, 1063, 1136]) (len := 131) (off := 862) 895 (by decide +kernel) (by rw [w3]; decide) (by rw [w3]; decide) (by rw [w3]; decide +kernel) (by decide +kernel) ?_
      exact h
    rw [if_neg c25] at h
    by_cases c26 : ((gx g l3.toNatClampNeg) &&& (31 : Int32)) = (22 : Int32)
    · rw [if_pos c26] at h
      have w3 : ((gx g l3.toNatClampNeg) &&& (31 : Int32)).toInt = 22 := by rw [c26]; decide +kernel
      refine at_tabIn (dflt := 1199) (lo := 0) (hi := 28) (offs := #[131, 218, 261, 294, 357, 380, 413, 426, 459, 482, 505, 548, 581, 614, 658, 692, 715, 748, 782, 815, 839, 862, 886, 920, 944, 997, 1040, 1063, 1136]) (len := 131) (off := 886) 919 (by decide +kernel) (by rw [w3]; decide) (by rw [w3]; decide) (by rw [w3]; decide +kernel) (by decide +kernel) ?_
      exact h
    rw [if_neg c26] at h
    by_cases c27 : ((gx g l3.toNatClampNeg) &&& (31 : Int32)) = (23 : Int32)
    · rw [if_pos c27] at h
      have w3 : ((gx g l3.toNatClampNeg) &&& (31 : Int32)).toInt = 23 := by rw [c27]; decide +kernel
      refine at_tabIn (dflt := 1199) (lo := 0) (hi := 28) (offs := #[131, 218, 261, 294, 357, 380, 413, 426, 459, 482, 505, 548, 581, 614, 658, 692, 715, 748, 782, 815, 839, 862, 886, 920, 944, 997, 1040, 1063, 1136]) (len := 131) (off := 920) 953 (by decide +kernel) (by rw [w3]; decide) (by rw [w3]; decide) (by rw [w3]; decide +kernel) (by decide +kernel) ?_
      exact h
    rw [if_neg c27] at h
    by_cases c28 : ((gx g l3.toNatClampNeg) &&& (31 : Int32)) = (24 : Int32)
    · rw [if_pos c28] at h
      have w3 : ((gx g l3.toNatClampNeg) &&& (31 : Int32)).toInt = 24 := by rw [c28]; decide +kernel
      refine at_tabIn (dflt := 1199) (lo := 0) (hi := 28) (offs := #[131, 218, 261, 294, 357, 380, 413, 426, 459, 482, 505, 548, 581, 614, 658, 692, 715, 748, 782, 815, 839, 862, 886, 920, 944, 997, 1040, 1063, 1136]) (len := 131) (off := 944) 977 (by decide +kernel) (by rw [w3]; decide) (by rw [w3]; decide) (by rw [w3]; decide +kernel) (by decide +kernel) ?_
      exact h
    rw [if_neg c28] at h
    by_cases c29 : ((gx g l3.toNatClampNeg) &&& (31 : Int32)) = (25 : Int32)
    · rw [if_pos c29] at h
      have w3 : ((gx g l3.toNatClampNeg) &&& (31 : Int32)).toInt = 25 := by rw [c29]; decide +kernel
      refine at_tabIn (dflt := 1199) (lo := 0) (hi := 28) (offs := #[131, 218, 261, 294, 357, 380, 413, 426, 459, 482, 505, 548, 581, 614, 658, 692, 715, 748, 782, 815, 839, 862, 886, 920, 944, 997, 1040, 1063, 1136]) (len := 131) (off := 997) 1030 (by decide +kernel) (by rw [w3]; decide) (by rw [w3]; decide) (by rw [w3]; decide +kernel) (by decide +kernel) ?_
      exact h
    rw [if_neg c29] at h
    by_cases c30 : ((gx g l3.toNatClampNeg) &&& (31 : Int32)) = (26 : Int32)
    · rw [if_pos c30] at h
      have w3 : ((gx g l3.toNatClampNeg) &&& (31 : Int32)).toInt = 26 := by rw [c30]; decide +kernel
      refine at_tabIn (dflt := 1199) (lo := 0) (hi := 28) (offs := #[131, 218, 261, 294, 357, 380, 413, 426, 459, 482, 505, 548, 581, 614, 658, 692, 715, 748, 782, 815, 839, 862, 886, 920, 944, 997, 1040, 1063, 1136]) (len := 131) (off := 1040) 1073 (by decide +kernel) (by rw [w3]; decide) (by rw [w3]; decide) (by rw [w3]; decide +kernel) (by decide +kernel) ?_
      exact h
    rw [if_neg c30] at h
    by_cases c31 : ((gx g l3.toNatClampNeg) &&& (31 : Int32)) = (27 : Int32)
    · rw [if_pos c31] at h
      have w3 : ((gx g l3.toNatClampNeg) &&& (31 : Int32)).toInt = 27 := by rw [c31]; decide +kernel
      refine at_tabIn (dflt := 1199) (lo := 0) (hi := 28) (offs := #[131, 218, 261, 294, 357, 380, 413, 426, 459, 482, 505, 548, 581, 614, 658, 692, 715, 748, 782, 815, 839, 862, 886, 920, 944, 997, 1040, 1063, 1136]) (len := 131) (off := 1063) 1096 (by decide +kernel) (by rw [w3]; decide) (by rw [w3]; decide) (by rw [w3]; decide +kernel) (by decide +kernel) ?_
      exact h
    rw [if_neg c31] at h
    by_cases c32 : ((gx g l3.toNatClampNeg) &&& (31 : Int32)) = (28 : Int32)
    · rw [if_pos c32] at h
      have w3 : ((gx g l3.toNatClampNeg) &&& (31 : Int32)).toInt = 28 := by rw [c32]; decide +kernel
      refine at_tabIn (dflt := 1199) (lo := 0) (hi := 28) (offs := #[131, 218, 261, 294, 357, 380, 413, 426, 459, 482, 505, 548, 581, 614, 658, 692, 715, 748, 782, 815, 839, 862, 886, 920, 944, 997, 1040, 1063, 1136]) (len := 131) (off := 1136) 1169 (by decide +kernel) (by rw [w3]; decide) (by rw [w3]; decide) (by rw [w3]; decide +kernel) (by decide +kernel) ?_
      exact h
    rw [if_neg c32] at h
    have c4e : ((gx g l3.toNatClampNeg) &&& (31 : Int32)).toInt ≠ 0 := fun e => c4 (Int32.toInt_inj.mp (e.trans (by decide +kernel)))
    have c5e : ((gx g l3.toNatClampNeg) &&& (31 : Int32)).toInt ≠ 1 := fun e => c5 (Int32.toInt_inj.mp (e.trans (by decide +kernel)))
    have c6e : ((gx g l3.toNatClampNeg) &&& (31 : Int32)).toInt ≠ 2 := fun e => c6 (Int32.toInt_inj.mp (e.trans (by decide +kernel)))
    have c7e : ((gx g l3.toNatClampNeg) &&& (31 : Int32)).toInt ≠ 3 := fun e => c7 (Int32.toInt_inj.mp (e.trans (by decide +kernel)))
    have c8e : ((gx g l3.toNatClampNeg) &&& (31 : Int32)).toInt ≠ 4 := fun e => c8 (Int32.toInt_inj.mp (e.trans (by decide +kernel)))
    have c9e : ((gx g l3.toNatClampNeg) &&& (31 : Int32)).toInt ≠ 5 := fun e => c9 (Int32.toInt_inj.mp (e.trans (by decide +kernel)))
    have c10e : ((gx g l3.toNatClampNeg) &&& (31 : Int32)).toInt ≠ 6 := fun e => c10 (Int32.toInt_inj.mp (e.trans (by decide +kernel)))
    have c11e : ((gx g l3.toNatClampNeg) &&& (31 : Int32)).toInt ≠ 7 := fun e => c11 (Int32.toInt_inj.mp (e.trans (by decide +kernel)))
    have c12e : ((gx g l3.toNatClampNeg) &&& (31 : Int32)).toInt ≠ 8 := fun e => c12 (Int32.toInt_inj.mp (e.trans (by decide +kernel)))
    have c13e : ((gx g l3.toNatClampNeg) &&& (31 : Int32)).toInt ≠ 9 := fun e => c13 (Int32.toInt_inj.mp (e.trans (by decide +kernel)))
    have c14e : ((gx g l3.toNatClampNeg) &&& (31 : Int32)).toInt ≠ 10 := fun e => c14 (Int32.toInt_inj.mp (e.trans (by decide +kernel)))
    have c15e : ((gx g l3.toNatClampNeg) &&& (31 : Int32)).toInt ≠ 11 := fun e => c15 (Int32.toInt_inj.mp (e.trans (by decide +kernel)))
    have c16e : ((gx g l3.toNatClampNeg) &&& (31 : Int32)).toInt ≠ 12 := fun e => c16 (Int32.toInt_inj.mp (e.trans (by decide +kernel)))
    have c17e : ((gx g l3.toNatClampNeg) &&& (31 : Int32)).toInt ≠ 13 := fun e => c17 (Int32.toInt_inj.mp (e.trans (by decide +kernel)))
    have c18e : ((gx g l3.toNatClampNeg) &&& (31 : Int32)).toInt ≠ 14 := fun e => c18 (Int32.toInt_inj.mp (e.trans (by decide +kernel)))
    have c19e : ((gx g l3.toNatClampNeg) &&& (31 : Int32)).toInt ≠ 15 := fun e => c19 (Int32.toInt_inj.mp (e.trans (by decide +kernel)))
    have c20e : ((gx g l3.toNatClampNeg) &&& (31 : Int32)).toInt ≠ 16 := fun e => c20 (Int32.toInt_inj.mp (e.trans (by decide +kernel)))
    have c21e : ((gx g l3.toNatClampNeg) &&& (31 : Int32)).toInt ≠ 17 := fun e => c21 (Int32.toInt_inj.mp (e.trans (by decide +kernel)))
    have c22e : ((gx g l3.toNatClampNeg) &&& (31 : Int32)).toInt ≠ 18 := fun e => c22 (Int32.toInt_inj.mp (e.trans (by decide +kernel)))
    have c23e : ((gx g l3.toNatClampNeg) &&& (31 : Int32)).toInt ≠ 19 := fun e => c23 (Int32.toInt_inj.mp (e.trans (by decide +kernel)))
    have c24e : ((gx g l3.toNatClampNeg) &&& (31 : Int32)).toInt ≠ 20 := fun e => c24 (Int32.toInt_inj.mp (e.trans (by decide +kernel)))
    have c25e : ((gx g l3.toNatClampNeg) &&& (31 : Int32)).toInt ≠ 21 := fun e => c25 (Int32.toInt_inj.mp (e.trans (by decide +kernel)))
    have c26e : ((gx g l3.toNatClampNeg) &&& (31 : Int32)).toInt ≠ 22 := fun e => c26 (Int32.toInt_inj.mp (e.trans (by decide +kernel)))
    have c27e : ((gx g l3.toNatClampNeg) &&& (31 : Int32)).toInt ≠ 23 := fun e => c27 (Int32.toInt_inj.mp (e.trans (by decide +kernel)))
    have c28e : ((gx g l3.toNatClampNeg) &&& (31 : Int32)).toInt ≠ 24 := fun e => c28 (Int32.toInt_inj.mp (e.trans (by decide +kernel)))
    have c29e : ((gx g l3.toNatClampNeg) &&& (31 : Int32)).toInt ≠ 25 := fun e => c29 (Int32.toInt_inj.mp (e.trans (by decide +kernel)))
    have c30e : ((gx g l3.toNatClampNeg) &&& (31 : Int32)).toInt ≠ 26 := fun e => c30 (Int32.toInt_inj.mp (e.trans (by decide +kernel)))
    have c31e : ((gx g l3.toNatClampNeg) &&& (31 : Int32)).toInt ≠ 27 := fun e => c31 (Int32.toInt_inj.mp (e.trans (by decide +kernel)))
    have c32e : ((gx g l3.toNatClampNeg) &&& (31 : Int32)).toInt ≠ 28 := fun e => c32 (Int32.toInt_inj.mp (e.trans (by decide +kernel)))
    refine at_tabOut (dflt := 1199) (lo := 0) (hi := 28) (offs := #[131, 218, 261, 294, 357, 380, 413, 426, 459, 482, 505, 548, 581, 614, 658, 692, 715, 748, 782, 815, 839, 862, 886, 920, 944, 997, 1040, 1063, 1136]) (len := 131) 1232 (by decide +kernel) (by omega) (by decide +kernel) ?_
    exact h
set_option maxRecDepth 20000 in
set_option maxHeartbeats 4000000 in
theorem bk_LW_law_0 (g : Gc) {lv : Nat} {l0 : Option Nat} {m : Mm} {Q : Int32 → Mm → Prop} (h : mK m (gz g + mC m) = 0 ∧ (∀ q2 m3, q2 = gz g + mC m → m3 = nw m q2 12 0 8 → (CV g M_SL_init lv [va_rf (some q2)] m3 (fun m8 => (mK m8 (gz g + mC m8) = 0 ∧ (∀ q12 m13, q12 = gz g + mC m8 → m13 = nw m8 q12 13 0 66 → (CV g M_RF_init lv [va_rf (some q12)] m13 (fun m19 => (At g M_LW_law (lv + 1) 18 [(0, va_rf (some (gb g))), (1, va_rf (some q2)), (2, va_rf (some q12)), (3, .int ((0 : Int32)))] [] m19 (QI Q)))))))))) : At g M_LW_law (lv + 1) 0 [(0, va_rf (some (gb g)))] [] m (QI Q) := by
  obtain ⟨z1, h⟩ := h
  refine at_new (index := 7) cok11 3 rfl z1 (by decide +kernel) tw_85 tw_86 tw_65 (fun q2 m3 e4 e5 => ?_)
  replace h := h q2 m3 e4 e5
  have x6 : Ext m m3 := by rw [e5, e4]; exact Ext.nw z1 _ _ _
  have k7 : mK m3 q2 = 12 := by rw [e5]; exact if_pos rfl
  refine at_dup 4 rfl (by decide +kernel) (va_rf_cat _) ?_
  refine at_callI mb_SL_init tw_88 rfl rfl (index := 9) tw_87 [] [va_rf (some q2)] rfl rfl (by simp [va_rf_cat, cat_int, cat_long]) 7 rfl (by decide +kernel) (Call.toV (CV.monoE h (fun m8 h y9 => ?_)))
  have k10 : mK m8 q2 = 12 := y9.k k7 (by decide)
  refine at_astore_n (i := 1) (lc' := [(0, va_rf (some (gb g))), (1, va_rf (some q2))]) [1, 0] 8 rfl (by decide +kernel) (by decide +kernel) rfl ?_
  obtain ⟨z11, h⟩ := h
  refine at_new (index := 10) cok12 11 rfl z11 (by decide +kernel) tw_1079 tw_1080 tw_77 (fun q12 m13 e14 e15 => ?_)
  replace h := h q12 m13 e14 e15
  have x16 : Ext m8 m13 := by rw [e15, e14]; exact Ext.nw z11 _ _ _
  have k17 : mK m13 q2 = 12 := x16.k k10 (by decide)
  have k18 : mK m13 q12 = 13 := by rw [e15]; exact if_pos rfl
  refine at_dup 12 rfl (by decide +kernel) (va_rf_cat _) ?_
  refine at_callI mb_RF_init tw_1082 rfl rfl (index := 12) tw_1081 [] [va_rf (some q12)] rfl rfl (by simp [va_rf_cat, cat_int, cat_long]) 15 rfl (by decide +kernel) (Call.toV (CV.monoE h (fun m19 h y20 => ?_)))
  have k21 : mK m19 q2 = 12 := y20.k k17 (by decide)
  have k22 : mK m19 q12 = 13 := y20.k k18 (by decide)
  refine at_astore_n (i := 2) (lc' := [(0, va_rf (some (gb g))), (1, va_rf (some q2)), (2, va_rf (some q12))]) [1, 2, 0] 16 rfl (by decide +kernel) (by decide +kernel) rfl ?_
  refine at_iconst (n := 0) (0 : Int32) 17 rfl (by decide +kernel) (by decide +kernel) ?_
  refine at_istore_n (i := 3) (lc' := [(0, va_rf (some (gb g))), (1, va_rf (some q2)), (2, va_rf (some q12)), (3, .int ((0 : Int32)))]) [1, 2, 3, 0] 18 rfl (by decide +kernel) (by decide +kernel) rfl ?_
  exact h
