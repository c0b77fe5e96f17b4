abbrev ML_belief : mm_M := (yL_belief, cL_belief, 5, some .int, [(0, 10, 13, 18)])
theorem tw_1160 : Cond.methodLink "SootQueenLaw" 45 ⟨"SootQueen", "belief", "(II)I"⟩ ∈ lw_tbl := List.mem_append_right _ (List.mem_of_getElem? (i := 1160) (by decide +kernel))
theorem tw_1163 : Cond.code ⟨"SootQueen", "belief", "(II)I"⟩ prog_1_method_15_code 3 (some .int) ∈ lw_tbl := List.mem_append_right _ (List.mem_of_getElem? (i := 1163) (by decide +kernel))
theorem tw_1161 : Cond.instanceMethod ⟨"SootQueen", "belief", "(II)I"⟩ ∈ lw_tbl := List.mem_append_right _ (List.mem_of_getElem? (i := 1161) (by decide +kernel))
theorem tw_1162 : Cond.selects "SootQueen" ⟨"SootQueen", "belief", "(II)I"⟩ ⟨"SootQueen", "belief", "(II)I"⟩ ∈ lw_tbl := List.mem_append_right _ (List.mem_of_getElem? (i := 1162) (by decide +kernel))
theorem cw_L_45 : mm_CV RL 45 MX11_belief 11 2 := ⟨⟨Or.inl tw_1160, tw_1163, tw_1, ⟨by decide, by decide⟩, by decide +kernel, by decide⟩, tw_1161, by decide, (RX11, TX11, 19), rfl, tw_1162⟩
theorem tw_992 : Cond.classLink "SootQueenLaw" 18 "java/util/NoSuchElementException" ∈ lw_tbl := List.mem_append_right _ (List.mem_of_getElem? (i := 992) (by decide +kernel))
theorem tw_1009 : Cond.castable "java/util/NoSuchElementException" "java/util/NoSuchElementException" ∈ lw_tbl := List.mem_append_right _ (List.mem_of_getElem? (i := 1009) (by decide +kernel))
abbrev ML_blind : mm_M := (yL_blind, cL_blind, 6, some .int, [(0, 11, 14, 18), (0, 11, 18, 13)])
theorem tw_1118 : Cond.methodLink "SootQueenLaw" 37 ⟨"SootQueen", "blind", "(III)J"⟩ ∈ lw_tbl := List.mem_append_right _ (List.mem_of_getElem? (i := 1118) (by decide +kernel))
theorem tw_1121 : Cond.code ⟨"SootQueen", "blind", "(III)J"⟩ prog_1_method_13_code 6 (some .long) ∈ lw_tbl := List.mem_append_right _ (List.mem_of_getElem? (i := 1121) (by decide +kernel))
theorem tw_1119 : Cond.instanceMethod ⟨"SootQueen", "blind", "(III)J"⟩ ∈ lw_tbl := List.mem_append_right _ (List.mem_of_getElem? (i := 1119) (by decide +kernel))
theorem tw_1120 : Cond.selects "SootQueen" ⟨"SootQueen", "blind", "(III)J"⟩ ⟨"SootQueen", "blind", "(III)J"⟩ ∈ lw_tbl := List.mem_append_right _ (List.mem_of_getElem? (i := 1120) (by decide +kernel))
theorem cw_L_37 : mm_CV RL 37 MX11_blind 11 3 := ⟨⟨Or.inl tw_1118, tw_1121, tw_1, ⟨by decide, by decide⟩, by decide +kernel, by decide⟩, tw_1119, by decide, (RX11, TX11, 19), rfl, tw_1120⟩
theorem tw_713 : Cond.classLink "SootQueenLaw" 13 "java/lang/IllegalArgumentException" ∈ lw_tbl := List.mem_append_right _ (List.mem_of_getElem? (i := 713) (by decide +kernel))
theorem tw_720 : Cond.castable "java/lang/IllegalArgumentException" "java/lang/IllegalArgumentException" ∈ lw_tbl := List.mem_append_right _ (List.mem_of_getElem? (i := 720) (by decide +kernel))
abbrev ML_choose : mm_M := (yL_choose, cL_choose, 5, some .int, [(0, 10, 13, 18)])
theorem tw_1229 : Cond.methodLink "SootQueenLaw" 56 ⟨"SootQueen", "choose", "(II)I"⟩ ∈ lw_tbl := List.mem_append_right _ (List.mem_of_getElem? (i := 1229) (by decide +kernel))
theorem tw_1232 : Cond.code ⟨"SootQueen", "choose", "(II)I"⟩ prog_1_method_18_code 6 (some .int) ∈ lw_tbl := List.mem_append_right _ (List.mem_of_getElem? (i := 1232) (by decide +kernel))
theorem tw_1230 : Cond.instanceMethod ⟨"SootQueen", "choose", "(II)I"⟩ ∈ lw_tbl := List.mem_append_right _ (List.mem_of_getElem? (i := 1230) (by decide +kernel))
theorem tw_1231 : Cond.selects "SootQueen" ⟨"SootQueen", "choose", "(II)I"⟩ ⟨"SootQueen", "choose", "(II)I"⟩ ∈ lw_tbl := List.mem_append_right _ (List.mem_of_getElem? (i := 1231) (by decide +kernel))
theorem cw_L_56 : mm_CV RL 56 MX11_choose 11 2 := ⟨⟨Or.inl tw_1229, tw_1232, tw_1, ⟨by decide, by decide⟩, by decide +kernel, by decide⟩, tw_1230, by decide, (RX11, TX11, 19), rfl, tw_1231⟩
abbrev ML_count : mm_M := (yL_count, cL_count, 4, some .int, [(0, 9, 12, 18)])
theorem tw_993 : Cond.methodLink "SootQueenLaw" 15 ⟨"SootQueen", "count", "(I)I"⟩ ∈ lw_tbl := List.mem_append_right _ (List.mem_of_getElem? (i := 993) (by decide +kernel))
theorem tw_996 : Cond.code ⟨"SootQueen", "count", "(I)I"⟩ prog_1_method_5_code 2 (some .int) ∈ lw_tbl := List.mem_append_right _ (List.mem_of_getElem? (i := 996) (by decide +kernel))
theorem tw_994 : Cond.instanceMethod ⟨"SootQueen", "count", "(I)I"⟩ ∈ lw_tbl := List.mem_append_right _ (List.mem_of_getElem? (i := 994) (by decide +kernel))
theorem tw_995 : Cond.selects "SootQueen" ⟨"SootQueen", "count", "(I)I"⟩ ⟨"SootQueen", "count", "(I)I"⟩ ∈ lw_tbl := List.mem_append_right _ (List.mem_of_getElem? (i := 995) (by decide +kernel))
theorem cw_L_15 : mm_CV RL 15 MX11_count 11 1 := ⟨⟨Or.inl tw_993, tw_996, tw_1, ⟨by decide, by decide⟩, by decide +kernel, by decide⟩, tw_994, by decide, (RX11, TX11, 19), rfl, tw_995⟩
abbrev ML_ends : mm_M := (yL_ends, cL_ends, 4, some .int, [(0, 9, 12, 18)])
theorem tw_1075 : Cond.methodLink "SootQueenLaw" 30 ⟨"SootQueen", "ends", "(I)I"⟩ ∈ lw_tbl := List.mem_append_right _ (List.mem_of_getElem? (i := 1075) (by decide +kernel))
theorem tw_1078 : Cond.code ⟨"SootQueen", "ends", "(I)I"⟩ prog_1_method_11_code 2 (some .int) ∈ lw_tbl := List.mem_append_right _ (List.mem_of_getElem? (i := 1078) (by decide +kernel))
theorem tw_1076 : Cond.instanceMethod ⟨"SootQueen", "ends", "(I)I"⟩ ∈ lw_tbl := List.mem_append_right _ (List.mem_of_getElem? (i := 1076) (by decide +kernel))
theorem tw_1077 : Cond.selects "SootQueen" ⟨"SootQueen", "ends", "(I)I"⟩ ⟨"SootQueen", "ends", "(I)I"⟩ ∈ lw_tbl := List.mem_append_right _ (List.mem_of_getElem? (i := 1077) (by decide +kernel))
theorem cw_L_30 : mm_CV RL 30 MX11_ends 11 1 := ⟨⟨Or.inl tw_1075, tw_1078, tw_1, ⟨by decide, by decide⟩, by decide +kernel, by decide⟩, tw_1076, by decide, (RX11, TX11, 19), rfl, tw_1077⟩
abbrev ML_evenings : mm_M := (yL_evenings, cL_evenings, 8, some .int, [(0, 16, 19, 18), (0, 16, 23, 13)])
theorem tw_1284 : Cond.methodLink "SootQueenLaw" 62 ⟨"SootQueen", "evenings", "(IIIZI)I"⟩ ∈ lw_tbl := List.mem_append_right _ (List.mem_of_getElem? (i := 1284) (by decide +kernel))
theorem tw_1287 : Cond.code ⟨"SootQueen", "evenings", "(IIIZI)I"⟩ prog_1_method_20_code 7 (some .int) ∈ lw_tbl := List.mem_append_right _ (List.mem_of_getElem? (i := 1287) (by decide +kernel))
theorem tw_1285 : Cond.instanceMethod ⟨"SootQueen", "evenings", "(IIIZI)I"⟩ ∈ lw_tbl := List.mem_append_right _ (List.mem_of_getElem? (i := 1285) (by decide +kernel))
theorem tw_1286 : Cond.selects "SootQueen" ⟨"SootQueen", "evenings", "(IIIZI)I"⟩ ⟨"SootQueen", "evenings", "(IIIZI)I"⟩ ∈ lw_tbl := List.mem_append_right _ (List.mem_of_getElem? (i := 1286) (by decide +kernel))
theorem cw_L_62 : mm_CV RL 62 MX11_evenings 11 5 := ⟨⟨Or.inl tw_1284, tw_1287, tw_1, ⟨by decide, by decide⟩, by decide +kernel, by decide⟩, tw_1285, by decide, (RX11, TX11, 19), rfl, tw_1286⟩
abbrev ML_face : mm_M := (yL_face, cL_face, 6, some .int, [(0, 12, 15, 18), (0, 12, 19, 13)])
theorem tw_1343 : Cond.methodLink "SootQueenLaw" 78 ⟨"SootQueen", "face", "(III)I"⟩ ∈ lw_tbl := List.mem_append_right _ (List.mem_of_getElem? (i := 1343) (by decide +kernel))
theorem tw_1346 : Cond.code ⟨"SootQueen", "face", "(III)I"⟩ prog_1_method_25_code 4 (some .int) ∈ lw_tbl := List.mem_append_right _ (List.mem_of_getElem? (i := 1346) (by decide +kernel))
theorem tw_1344 : Cond.instanceMethod ⟨"SootQueen", "face", "(III)I"⟩ ∈ lw_tbl := List.mem_append_right _ (List.mem_of_getElem? (i := 1344) (by decide +kernel))
theorem tw_1345 : Cond.selects "SootQueen" ⟨"SootQueen", "face", "(III)I"⟩ ⟨"SootQueen", "face", "(III)I"⟩ ∈ lw_tbl := List.mem_append_right _ (List.mem_of_getElem? (i := 1345) (by decide +kernel))
theorem cw_L_78 : mm_CV RL 78 MX11_face 11 3 := ⟨⟨Or.inl tw_1343, tw_1346, tw_1, ⟨by decide, by decide⟩, by decide +kernel, by decide⟩, tw_1344, by decide, (RX11, TX11, 19), rfl, tw_1345⟩
abbrev ML_fan : mm_M := (yL_fan, cL_fan, 5, some .int, [(0, 10, 13, 18)])
theorem tw_1025 : Cond.methodLink "SootQueenLaw" 20 ⟨"SootQueen", "fan", "(II)I"⟩ ∈ lw_tbl := List.mem_append_right _ (List.mem_of_getElem? (i := 1025) (by decide +kernel))
theorem tw_1028 : Cond.code ⟨"SootQueen", "fan", "(II)I"⟩ prog_1_method_6_code 4 (some .int) ∈ lw_tbl := List.mem_append_right _ (List.mem_of_getElem? (i := 1028) (by decide +kernel))
theorem tw_1026 : Cond.instanceMethod ⟨"SootQueen", "fan", "(II)I"⟩ ∈ lw_tbl := List.mem_append_right _ (List.mem_of_getElem? (i := 1026) (by decide +kernel))
theorem tw_1027 : Cond.selects "SootQueen" ⟨"SootQueen", "fan", "(II)I"⟩ ⟨"SootQueen", "fan", "(II)I"⟩ ∈ lw_tbl := List.mem_append_right _ (List.mem_of_getElem? (i := 1027) (by decide +kernel))
theorem cw_L_20 : mm_CV RL 20 MX11_fan 11 2 := ⟨⟨Or.inl tw_1025, tw_1028, tw_1, ⟨by decide, by decide⟩, by decide +kernel, by decide⟩, tw_1026, by decide, (RX11, TX11, 19), rfl, tw_1027⟩
abbrev ML_habit : mm_M := (yL_habit, cL_habit, 5, some .int, [(0, 10, 13, 18)])
theorem tw_1327 : Cond.methodLink "SootQueenLaw" 75 ⟨"SootQueen", "habit", "(II)I"⟩ ∈ lw_tbl := List.mem_append_right _ (List.mem_of_getElem? (i := 1327) (by decide +kernel))
theorem tw_1330 : Cond.code ⟨"SootQueen", "habit", "(II)I"⟩ prog_1_method_24_code 6 (some .int) ∈ lw_tbl := List.mem_append_right _ (List.mem_of_getElem? (i := 1330) (by decide +kernel))
theorem tw_1328 : Cond.instanceMethod ⟨"SootQueen", "habit", "(II)I"⟩ ∈ lw_tbl := List.mem_append_right _ (List.mem_of_getElem? (i := 1328) (by decide +kernel))
theorem tw_1329 : Cond.selects "SootQueen" ⟨"SootQueen", "habit", "(II)I"⟩ ⟨"SootQueen", "habit", "(II)I"⟩ ∈ lw_tbl := List.mem_append_right _ (List.mem_of_getElem? (i := 1329) (by decide +kernel))
theorem cw_L_75 : mm_CV RL 75 MX11_habit 11 2 := ⟨⟨Or.inl tw_1327, tw_1330, tw_1, ⟨by decide, by decide⟩, by decide +kernel, by decide⟩, tw_1328, by decide, (RX11, TX11, 19), rfl, tw_1329⟩
abbrev ML_has : mm_M := (yL_has, cL_has, 5, some .int, [(0, 10, 13, 18)])
theorem tw_1107 : Cond.methodLink "SootQueenLaw" 33 ⟨"SootQueen", "has", "(IZ)I"⟩ ∈ lw_tbl := List.mem_append_right _ (List.mem_of_getElem? (i := 1107) (by decide +kernel))
theorem tw_1110 : Cond.code ⟨"SootQueen", "has", "(IZ)I"⟩ prog_1_method_12_code 3 (some .int) ∈ lw_tbl := List.mem_append_right _ (List.mem_of_getElem? (i := 1110) (by decide +kernel))
theorem tw_1108 : Cond.instanceMethod ⟨"SootQueen", "has", "(IZ)I"⟩ ∈ lw_tbl := List.mem_append_right _ (List.mem_of_getElem? (i := 1108) (by decide +kernel))
theorem tw_1109 : Cond.selects "SootQueen" ⟨"SootQueen", "has", "(IZ)I"⟩ ⟨"SootQueen", "has", "(IZ)I"⟩ ∈ lw_tbl := List.mem_append_right _ (List.mem_of_getElem? (i := 1109) (by decide +kernel))
theorem cw_L_33 : mm_CV RL 33 MX11_has 11 2 := ⟨⟨Or.inl tw_1107, tw_1110, tw_1, ⟨by decide, by decide⟩, by decide +kernel, by decide⟩, tw_1108, by decide, (RX11, TX11, 19), rfl, tw_1109⟩
abbrev ML_hold : mm_M := (yL_hold, cL_hold, 6, some .int, [(0, 12, 15, 18), (0, 12, 19, 13)])
theorem tw_1222 : Cond.methodLink "SootQueenLaw" 52 ⟨"SootQueen", "hold", "(III)I"⟩ ∈ lw_tbl := List.mem_append_right _ (List.mem_of_getElem? (i := 1222) (by decide +kernel))
theorem tw_1225 : Cond.code ⟨"SootQueen", "hold", "(III)I"⟩ prog_1_method_17_code 7 (some .int) ∈ lw_tbl := List.mem_append_right _ (List.mem_of_getElem? (i := 1225) (by decide +kernel))
theorem tw_1223 : Cond.instanceMethod ⟨"SootQueen", "hold", "(III)I"⟩ ∈ lw_tbl := List.mem_append_right _ (List.mem_of_getElem? (i := 1223) (by decide +kernel))
theorem tw_1224 : Cond.selects "SootQueen" ⟨"SootQueen", "hold", "(III)I"⟩ ⟨"SootQueen", "hold", "(III)I"⟩ ∈ lw_tbl := List.mem_append_right _ (List.mem_of_getElem? (i := 1224) (by decide +kernel))
theorem cw_L_52 : mm_CV RL 52 MX11_hold 11 3 := ⟨⟨Or.inl tw_1222, tw_1225, tw_1, ⟨by decide, by decide⟩, by decide +kernel, by decide⟩, tw_1223, by decide, (RX11, TX11, 19), rfl, tw_1224⟩
abbrev ML_isOut : mm_M := (yL_isOut, cL_isOut, 4, some .int, [(0, 9, 12, 18)])
theorem tw_1309 : Cond.methodLink "SootQueenLaw" 69 ⟨"SootQueen", "isOut", "(I)I"⟩ ∈ lw_tbl := List.mem_append_right _ (List.mem_of_getElem? (i := 1309) (by decide +kernel))
theorem tw_1312 : Cond.code ⟨"SootQueen", "isOut", "(I)I"⟩ prog_1_method_22_code 2 (some .int) ∈ lw_tbl := List.mem_append_right _ (List.mem_of_getElem? (i := 1312) (by decide +kernel))
theorem tw_1310 : Cond.instanceMethod ⟨"SootQueen", "isOut", "(I)I"⟩ ∈ lw_tbl := List.mem_append_right _ (List.mem_of_getElem? (i := 1310) (by decide +kernel))
theorem tw_1311 : Cond.selects "SootQueen" ⟨"SootQueen", "isOut", "(I)I"⟩ ⟨"SootQueen", "isOut", "(I)I"⟩ ∈ lw_tbl := List.mem_append_right _ (List.mem_of_getElem? (i := 1311) (by decide +kernel))
theorem cw_L_69 : mm_CV RL 69 MX11_isOut 11 1 := ⟨⟨Or.inl tw_1309, tw_1312, tw_1, ⟨by decide, by decide⟩, by decide +kernel, by decide⟩, tw_1310, by decide, (RX11, TX11, 19), rfl, tw_1311⟩
abbrev ML_peeped : mm_M := (yL_peeped, cL_peeped, 5, some .int, [(0, 9, 12, 18)])
theorem tw_1215 : Cond.methodLink "SootQueenLaw" 48 ⟨"SootQueen", "peeped", "(II)J"⟩ ∈ lw_tbl := List.mem_append_right _ (List.mem_of_getElem? (i := 1215) (by decide +kernel))
theorem tw_1218 : Cond.code ⟨"SootQueen", "peeped", "(II)J"⟩ prog_1_method_16_code 11 (some .long) ∈ lw_tbl := List.mem_append_right _ (List.mem_of_getElem? (i := 1218) (by decide +kernel))
theorem tw_1216 : Cond.instanceMethod ⟨"SootQueen", "peeped", "(II)J"⟩ ∈ lw_tbl := List.mem_append_right _ (List.mem_of_getElem? (i := 1216) (by decide +kernel))
theorem tw_1217 : Cond.selects "SootQueen" ⟨"SootQueen", "peeped", "(II)J"⟩ ⟨"SootQueen", "peeped", "(II)J"⟩ ∈ lw_tbl := List.mem_append_right _ (List.mem_of_getElem? (i := 1217) (by decide +kernel))
theorem cw_L_48 : mm_CV RL 48 MX11_peeped 11 2 := ⟨⟨Or.inl tw_1215, tw_1218, tw_1, ⟨by decide, by decide⟩, by decide +kernel, by decide⟩, tw_1216, by decide, (RX11, TX11, 19), rfl, tw_1217⟩
abbrev ML_person : mm_M := (yL_person, cL_person, 5, some .int, [(0, 10, 13, 18)])
theorem tw_1044 : Cond.methodLink "SootQueenLaw" 24 ⟨"SootQueen", "person", "(II)I"⟩ ∈ lw_tbl := List.mem_append_right _ (List.mem_of_getElem? (i := 1044) (by decide +kernel))
theorem tw_1047 : Cond.code ⟨"SootQueen", "person", "(II)I"⟩ prog_1_method_7_code 3 (some .int) ∈ lw_tbl := List.mem_append_right _ (List.mem_of_getElem? (i := 1047) (by decide +kernel))
theorem tw_1045 : Cond.instanceMethod ⟨"SootQueen", "person", "(II)I"⟩ ∈ lw_tbl := List.mem_append_right _ (List.mem_of_getElem? (i := 1045) (by decide +kernel))
theorem tw_1046 : Cond.selects "SootQueen" ⟨"SootQueen", "person", "(II)I"⟩ ⟨"SootQueen", "person", "(II)I"⟩ ∈ lw_tbl := List.mem_append_right _ (List.mem_of_getElem? (i := 1046) (by decide +kernel))
theorem cw_L_24 : mm_CV RL 24 MX11_person 11 2 := ⟨⟨Or.inl tw_1044, tw_1047, tw_1, ⟨by decide, by decide⟩, by decide +kernel, by decide⟩, tw_1045, by decide, (RX11, TX11, 19), rfl, tw_1046⟩
abbrev ML_play : mm_M := (yL_play, cL_play, 4, some .int, [(0, 9, 12, 13)])
theorem tw_1060 : Cond.methodLink "SootQueenLaw" 27 ⟨"SootQueen", "play", "(I)I"⟩ ∈ lw_tbl := List.mem_append_right _ (List.mem_of_getElem? (i := 1060) (by decide +kernel))
theorem tw_1063 : Cond.code ⟨"SootQueen", "play", "(I)I"⟩ prog_1_method_9_code 3 (some .int) ∈ lw_tbl := List.mem_append_right _ (List.mem_of_getElem? (i := 1063) (by decide +kernel))
theorem tw_1061 : Cond.instanceMethod ⟨"SootQueen", "play", "(I)I"⟩ ∈ lw_tbl := List.mem_append_right _ (List.mem_of_getElem? (i := 1061) (by decide +kernel))
theorem tw_1062 : Cond.selects "SootQueen" ⟨"SootQueen", "play", "(I)I"⟩ ⟨"SootQueen", "play", "(I)I"⟩ ∈ lw_tbl := List.mem_append_right _ (List.mem_of_getElem? (i := 1062) (by decide +kernel))
theorem cw_L_27 : mm_CV RL 27 MX11_play 11 1 := ⟨⟨Or.inl tw_1060, tw_1063, tw_1, ⟨by decide, by decide⟩, by decide +kernel, by decide⟩, tw_1061, by decide, (RX11, TX11, 19), rfl, tw_1062⟩
abbrev ML_rank : mm_M := (yL_rank, cL_rank, 4, some .int, [(0, 9, 12, 18)])
theorem tw_1320 : Cond.methodLink "SootQueenLaw" 72 ⟨"SootQueen", "rank", "(I)I"⟩ ∈ lw_tbl := List.mem_append_right _ (List.mem_of_getElem? (i := 1320) (by decide +kernel))
theorem tw_1323 : Cond.code ⟨"SootQueen", "rank", "(I)I"⟩ prog_1_method_23_code 6 (some .int) ∈ lw_tbl := List.mem_append_right _ (List.mem_of_getElem? (i := 1323) (by decide +kernel))
theorem tw_1321 : Cond.instanceMethod ⟨"SootQueen", "rank", "(I)I"⟩ ∈ lw_tbl := List.mem_append_right _ (List.mem_of_getElem? (i := 1321) (by decide +kernel))
theorem tw_1322 : Cond.selects "SootQueen" ⟨"SootQueen", "rank", "(I)I"⟩ ⟨"SootQueen", "rank", "(I)I"⟩ ∈ lw_tbl := List.mem_append_right _ (List.mem_of_getElem? (i := 1322) (by decide +kernel))
theorem cw_L_72 : mm_CV RL 72 MX11_rank 11 1 := ⟨⟨Or.inl tw_1320, tw_1323, tw_1, ⟨by decide, by decide⟩, by decide +kernel, by decide⟩, tw_1321, by decide, (RX11, TX11, 19), rfl, tw_1322⟩
abbrev ML_seats : mm_M := (yL_seats, cL_seats, 5, some .int, [(0, 10, 13, 18)])
theorem tw_1240 : Cond.methodLink "SootQueenLaw" 59 ⟨"SootQueen", "seats", "(II)I"⟩ ∈ lw_tbl := List.mem_append_right _ (List.mem_of_getElem? (i := 1240) (by decide +kernel))
theorem tw_1243 : Cond.code ⟨"SootQueen", "seats", "(II)I"⟩ prog_1_method_19_code 3 (some .int) ∈ lw_tbl := List.mem_append_right _ (List.mem_of_getElem? (i := 1243) (by decide +kernel))
theorem tw_1241 : Cond.instanceMethod ⟨"SootQueen", "seats", "(II)I"⟩ ∈ lw_tbl := List.mem_append_right _ (List.mem_of_getElem? (i := 1241) (by decide +kernel))
theorem tw_1242 : Cond.selects "SootQueen" ⟨"SootQueen", "seats", "(II)I"⟩ ⟨"SootQueen", "seats", "(II)I"⟩ ∈ lw_tbl := List.mem_append_right _ (List.mem_of_getElem? (i := 1242) (by decide +kernel))
theorem cw_L_59 : mm_CV RL 59 MX11_seats 11 2 := ⟨⟨Or.inl tw_1240, tw_1243, tw_1, ⟨by decide, by decide⟩, by decide +kernel, by decide⟩, tw_1241, by decide, (RX11, TX11, 19), rfl, tw_1242⟩
abbrev ML_table : mm_M := (yL_table, cL_table, 4, some .int, [(0, 9, 12, 13)])
theorem tw_714 : Cond.methodLink "SootQueenLaw" 7 ⟨"SootQueen", "table", "(I)I"⟩ ∈ lw_tbl := List.mem_append_right _ (List.mem_of_getElem? (i := 714) (by decide +kernel))
theorem tw_717 : Cond.code ⟨"SootQueen", "table", "(I)I"⟩ prog_1_method_3_code 4 (some .int) ∈ lw_tbl := List.mem_append_right _ (List.mem_of_getElem? (i := 717) (by decide +kernel))
theorem tw_715 : Cond.instanceMethod ⟨"SootQueen", "table", "(I)I"⟩ ∈ lw_tbl := List.mem_append_right _ (List.mem_of_getElem? (i := 715) (by decide +kernel))
theorem tw_716 : Cond.selects "SootQueen" ⟨"SootQueen", "table", "(I)I"⟩ ⟨"SootQueen", "table", "(I)I"⟩ ∈ lw_tbl := List.mem_append_right _ (List.mem_of_getElem? (i := 716) (by decide +kernel))
theorem cw_L_7 : mm_CV RL 7 MX11_table 11 1 := ⟨⟨Or.inl tw_714, tw_717, tw_1, ⟨by decide, by decide⟩, by decide +kernel, by decide⟩, tw_715, by decide, (RX11, TX11, 19), rfl, tw_716⟩
abbrev ML_two : mm_M := (yL_two, cL_two, 6, some .int, [(0, 11, 14, 18), (0, 11, 18, 13)])
theorem tw_1146 : Cond.methodLink "SootQueenLaw" 41 ⟨"SootQueen", "two", "(IZI)J"⟩ ∈ lw_tbl := List.mem_append_right _ (List.mem_of_getElem? (i := 1146) (by decide +kernel))
theorem tw_1149 : Cond.code ⟨"SootQueen", "two", "(IZI)J"⟩ prog_1_method_14_code 4 (some .long) ∈ lw_tbl := List.mem_append_right _ (List.mem_of_getElem? (i := 1149) (by decide +kernel))
theorem tw_1147 : Cond.instanceMethod ⟨"SootQueen", "two", "(IZI)J"⟩ ∈ lw_tbl := List.mem_append_right _ (List.mem_of_getElem? (i := 1147) (by decide +kernel))
theorem tw_1148 : Cond.selects "SootQueen" ⟨"SootQueen", "two", "(IZI)J"⟩ ⟨"SootQueen", "two", "(IZI)J"⟩ ∈ lw_tbl := List.mem_append_right _ (List.mem_of_getElem? (i := 1148) (by decide +kernel))
theorem cw_L_41 : mm_CV RL 41 MX11_two 11 3 := ⟨⟨Or.inl tw_1146, tw_1149, tw_1, ⟨by decide, by decide⟩, by decide +kernel, by decide⟩, tw_1147, by decide, (RX11, TX11, 19), rfl, tw_1148⟩
abbrev ML_wouldLose : mm_M := (yL_wouldLose, cL_wouldLose, 4, some .int, [(0, 9, 12, 18)])
theorem tw_1298 : Cond.methodLink "SootQueenLaw" 66 ⟨"SootQueen", "wouldLose", "(I)I"⟩ ∈ lw_tbl := List.mem_append_right _ (List.mem_of_getElem? (i := 1298) (by decide +kernel))
theorem tw_1301 : Cond.code ⟨"SootQueen", "wouldLose", "(I)I"⟩ prog_1_method_21_code 7 (some .int) ∈ lw_tbl := List.mem_append_right _ (List.mem_of_getElem? (i := 1301) (by decide +kernel))
theorem tw_1299 : Cond.instanceMethod ⟨"SootQueen", "wouldLose", "(I)I"⟩ ∈ lw_tbl := List.mem_append_right _ (List.mem_of_getElem? (i := 1299) (by decide +kernel))
theorem tw_1300 : Cond.selects "SootQueen" ⟨"SootQueen", "wouldLose", "(I)I"⟩ ⟨"SootQueen", "wouldLose", "(I)I"⟩ ∈ lw_tbl := List.mem_append_right _ (List.mem_of_getElem? (i := 1300) (by decide +kernel))
theorem cw_L_66 : mm_CV RL 66 MX11_wouldLose 11 1 := ⟨⟨Or.inl tw_1298, tw_1301, tw_1, ⟨by decide, by decide⟩, by decide +kernel, by decide⟩, tw_1299, by decide, (RX11, TX11, 19), rfl, tw_1300⟩
theorem dL_belief_0 : decode cL_belief 0 = .ok (.aload_n 3, 1) := by decide +kernel
theorem dL_belief_1 : decode cL_belief 1 = .ok (.iconst 0, 1) := by decide +kernel
theorem dL_belief_2 : decode cL_belief 2 = .ok (.aload_n 0, 1) := by decide +kernel
theorem dL_belief_3 : decode cL_belief 3 = .ok (.iload_n 1, 1) := by decide +kernel
theorem dL_belief_4 : decode cL_belief 4 = .ok (.iload_n 2, 1) := by decide +kernel
theorem dL_belief_5 : decode cL_belief 5 = .ok (.invokevirtual 45, 3) := by decide +kernel
theorem dL_belief_8 : decode cL_belief 8 = .ok (.i2l, 1) := by decide +kernel
theorem dL_belief_9 : decode cL_belief 9 = .ok (.lastore, 1) := by decide +kernel
theorem dL_belief_10 : decode cL_belief 10 = .ok (.goto 7, 3) := by decide +kernel
theorem dL_belief_13 : decode cL_belief 13 = .ok (.astore 4, 2) := by decide +kernel
theorem dL_belief_15 : decode cL_belief 15 = .ok (.iconst 1, 1) := by decide +kernel
theorem dL_belief_16 : decode cL_belief 16 = .ok (.ireturn, 1) := by decide +kernel
theorem dL_belief_17 : decode cL_belief 17 = .ok (.iconst 0, 1) := by decide +kernel
theorem dL_belief_18 : decode cL_belief 18 = .ok (.ireturn, 1) := by decide +kernel
def L_belief (e : mm_E) (a0 : Nat) (i1 : Int32) (i2 : Int32) (a3 : Nat) (m : mm_V) : Option (Int32 × mm_V) := mm_tr (X11_belief e a0 i1 i2 m) (fun rv => (mm_sj e.1 rv.2 a3 (0 : Int32) rv.1.toInt64).bind fun m2 => some ((0 : Int32), m2)) (fun q => if q.1 = "java/util/NoSuchElementException" then some ((1 : Int32), q.2) else none)
theorem L_belief_ok {K : mm_K} {e : mm_E} (hz : e.2.1 = K.2.2.2.2) (hnc : va_Nc "java/lang/IllegalArgumentException" "java/util/NoSuchElementException" K.2.1) {d : Nat} (hd : 256 ≤ d) {a0 : Nat} {i1 : Int32} {i2 : Int32} {a3 : Nat} (h0 : e.1 a0 = some (11, 19)) {m : mm_V} {r : Int32 × mm_V} (hr : L_belief e a0 i1 i2 a3 m = some r) : mm_CnW K ML_belief d (mm_Fw e.1 r) [.ref a0, .int i1, .int i2, .ref a3] (e.1, m) none := by
  obtain ⟨d, rfl⟩ : ∃ d', d = d' + 1 := ⟨d - 1, by omega⟩
  refine mm_entryW (by decide) (Nat.le_of_ble_eq_true rfl) (fun hok => ?_)
  unfold L_belief at hr
  refine mg_weak (L' := [some (.ref a0), some (.int i1), some (.int i2), some (.ref a3), none]) (mm_le_s (mm_le_s (mm_le_s (mm_le_s (mm_le_e mm_le_0))))) ?_
  refine ml_aload_n (pc := 0) dL_belief_0 rfl (mm_get_s (mm_get_s (mm_get_s mm_get_0))) ?_
  refine mg_iconst (pc := 1) dL_belief_1 kc_0 ?_
  refine ml_aload_n (pc := 2) dL_belief_2 rfl mm_get_0 ?_
  refine ml_iload_n (pc := 3) dL_belief_3 rfl (mm_get_s mm_get_0) ?_
  refine ml_iload_n (pc := 4) dL_belief_4 rfl (mm_get_s (mm_get_s mm_get_0)) ?_
  refine mb_tV (F := mm_Fw e.1 r) (cw := (fun v => some (.int v))) (pc := 5) (As := [.int i1, .int i2]) (rest := [.int (0 : Int32), .ref a3]) dL_belief_5 cw_L_45 h0 hr (fun v hv => X11_belief_ok hz (by omega) h0 hv) rfl (Nat.le_of_ble_eq_true rfl) (fun rv hr => ?_) (fun E m1 hr hc => ?_)
  · refine mg_i2l (pc := 8) dL_belief_8 ?_
    refine mb_sj (pc := 9) dL_belief_9 hr (fun m2 hr => ?_)
    refine mg_goto (pc := 10) 17 dL_belief_10 rfl ?_
    refine mg_iconst (pc := 17) dL_belief_17 kc_0 ?_
    exact mb_wret dL_belief_18 rfl (Nat.zero_le _) (Nat.zero_le _) hr
  · refine mb_ck hr (fun hE hr => ?_)
    subst hE
    refine mg_callVc (pc := 5) (As := [.int i1, .int i2]) (rest := [.int (0 : Int32), .ref a3]) (name := "java/util/NoSuchElementException") (pre := []) (x := ⟨0, 10, 13, 18⟩) (suf := []) dL_belief_5 cw_L_45 tw_1160 hc h0 rfl rfl (fun z hz => by cases hz) rfl (by decide) tw_992 tw_1009 rfl (Nat.le_of_ble_eq_true rfl) (Nat.le_refl _) (Nat.le_refl _) (fun q => ?_)
    refine ml_astore (pc := 13) dL_belief_13 (Nat.le_of_ble_eq_true rfl) (mm_st1_s (mm_st1_s (mm_st1_s mm_st1_r))) ?_
    refine mg_iconst (pc := 15) dL_belief_15 kc_1 ?_
    exact mb_wret dL_belief_16 rfl (Nat.le_refl _) (Nat.le_refl _) hr
theorem dL_blind_0 : decode cL_blind 0 = .ok (.aload 4, 2) := by decide +kernel
theorem dL_blind_2 : decode cL_blind 2 = .ok (.iconst 0, 1) := by decide +kernel
theorem dL_blind_3 : decode cL_blind 3 = .ok (.aload_n 0, 1) := by decide +kernel
theorem dL_blind_4 : decode cL_blind 4 = .ok (.iload_n 1, 1) := by decide +kernel
theorem dL_blind_5 : decode cL_blind 5 = .ok (.iload_n 2, 1) := by decide +kernel
theorem dL_blind_6 : decode cL_blind 6 = .ok (.iload_n 3, 1) := by decide +kernel
theorem dL_blind_7 : decode cL_blind 7 = .ok (.invokevirtual 37, 3) := by decide +kernel
theorem dL_blind_10 : decode cL_blind 10 = .ok (.lastore, 1) := by decide +kernel
theorem dL_blind_11 : decode cL_blind 11 = .ok (.goto 11, 3) := by decide +kernel
theorem dL_blind_14 : decode cL_blind 14 = .ok (.astore 5, 2) := by decide +kernel
theorem dL_blind_16 : decode cL_blind 16 = .ok (.iconst 1, 1) := by decide +kernel
theorem dL_blind_17 : decode cL_blind 17 = .ok (.ireturn, 1) := by decide +kernel
theorem dL_blind_18 : decode cL_blind 18 = .ok (.astore 5, 2) := by decide +kernel
theorem dL_blind_20 : decode cL_blind 20 = .ok (.iconst 2, 1) := by decide +kernel
theorem dL_blind_21 : decode cL_blind 21 = .ok (.ireturn, 1) := by decide +kernel
theorem dL_blind_22 : decode cL_blind 22 = .ok (.iconst 0, 1) := by decide +kernel
theorem dL_blind_23 : decode cL_blind 23 = .ok (.ireturn, 1) := by decide +kernel
def L_blind (e : mm_E) (a0 : Nat) (i1 : Int32) (i2 : Int32) (i3 : Int32) (a4 : Nat) (m : mm_V) : Option (Int32 × mm_V) := mm_tr (X11_blind e a0 i1 i2 i3 m) (fun rv => (mm_sj e.1 rv.2 a4 (0 : Int32) rv.1).bind fun m2 => some ((0 : Int32), m2)) (fun q => if q.1 = "java/util/NoSuchElementException" then some ((1 : Int32), q.2) else if q.1 = "java/lang/IllegalArgumentException" then some ((2 : Int32), q.2) else none)
theorem L_blind_ok {K : mm_K} {e : mm_E} (hz : e.2.1 = K.2.2.2.2) (hnc : va_Nc "java/lang/IllegalArgumentException" "java/util/NoSuchElementException" K.2.1) {d : Nat} (hd : 99 ≤ d) {a0 : Nat} {i1 : Int32} {i2 : Int32} {i3 : Int32} {a4 : Nat} (h0 : e.1 a0 = some (11, 19)) {m : mm_V} {r : Int32 × mm_V} (hr : L_blind e a0 i1 i2 i3 a4 m = some r) : mm_CnW K ML_blind d (mm_Fw e.1 r) [.ref a0, .int i1, .int i2, .int i3, .ref a4] (e.1, m) none := by
  obtain ⟨d, rfl⟩ : ∃ d', d = d' + 1 := ⟨d - 1, by omega⟩
  refine mm_entryW (by decide) (Nat.le_of_ble_eq_true rfl) (fun hok => ?_)
  unfold L_blind at hr
  refine mg_weak (L' := [some (.ref a0), some (.int i1), some (.int i2), some (.int i3), some (.ref a4), none]) (mm_le_s (mm_le_s (mm_le_s (mm_le_s (mm_le_s (mm_le_e mm_le_0)))))) ?_
  refine ml_aload (pc := 0) dL_blind_0 (mm_get_s (mm_get_s (mm_get_s (mm_get_s mm_get_0)))) ?_
  refine mg_iconst (pc := 2) dL_blind_2 kc_0 ?_
  refine ml_aload_n (pc := 3) dL_blind_3 rfl mm_get_0 ?_
  refine ml_iload_n (pc := 4) dL_blind_4 rfl (mm_get_s mm_get_0) ?_
  refine ml_iload_n (pc := 5) dL_blind_5 rfl (mm_get_s (mm_get_s mm_get_0)) ?_
  refine ml_iload_n (pc := 6) dL_blind_6 rfl (mm_get_s (mm_get_s (mm_get_s mm_get_0))) ?_
  refine mb_tV (F := mm_Fw e.1 r) (cw := (fun v => some (.long v))) (pc := 7) (As := [.int i1, .int i2, .int i3]) (rest := [.int (0 : Int32), .ref a4]) dL_blind_7 cw_L_37 h0 hr (fun v hv => X11_blind_ok hz (by omega) h0 hv) rfl (Nat.le_of_ble_eq_true rfl) (fun rv hr => ?_) (fun E m1 hr hc => ?_)
  · refine mb_sj (pc := 10) dL_blind_10 hr (fun m2 hr => ?_)
    refine mg_goto (pc := 11) 22 dL_blind_11 rfl ?_
    refine mg_iconst (pc := 22) dL_blind_22 kc_0 ?_
    exact mb_wret dL_blind_23 rfl (Nat.zero_le _) (Nat.zero_le _) hr
  · refine mb_ite hr (fun hE hr => ?_) (fun hE2 hr => ?_)
    · subst hE
      refine mg_callVc (pc := 7) (As := [.int i1, .int i2, .int i3]) (rest := [.int (0 : Int32), .ref a4]) (name := "java/util/NoSuchElementException") (pre := []) (x := ⟨0, 11, 14, 18⟩) (suf := [⟨0, 11, 18, 13⟩]) dL_blind_7 cw_L_37 tw_1118 hc h0 rfl rfl (fun z hz => by cases hz) rfl (by decide) tw_992 tw_1009 rfl (Nat.le_of_ble_eq_true rfl) (Nat.le_refl _) (Nat.le_refl _) (fun q => ?_)
      refine ml_astore (pc := 14) dL_blind_14 (Nat.le_of_ble_eq_true rfl) (mm_st1_s (mm_st1_s (mm_st1_s (mm_st1_s mm_st1_r)))) ?_
      refine mg_iconst (pc := 16) dL_blind_16 kc_1 ?_
      exact mb_wret dL_blind_17 rfl (Nat.le_refl _) (Nat.le_refl _) hr
    refine mb_ck hr (fun hE hr => ?_)
    subst hE
    refine mg_callVc (pc := 7) (As := [.int i1, .int i2, .int i3]) (rest := [.int (0 : Int32), .ref a4]) (name := "java/lang/IllegalArgumentException") (pre := [⟨0, 11, 14, 18⟩]) (x := ⟨0, 11, 18, 13⟩) (suf := []) dL_blind_7 cw_L_37 tw_1118 hc h0 rfl rfl (fun z hz => by cases List.mem_singleton.mp hz; exact Or.inr ⟨by decide, "java/util/NoSuchElementException", tw_992, hnc⟩) rfl (by decide) tw_713 tw_720 rfl (Nat.le_of_ble_eq_true rfl) (Nat.le_refl _) (Nat.le_refl _) (fun q => ?_)
    refine ml_astore (pc := 18) dL_blind_18 (Nat.le_of_ble_eq_true rfl) (mm_st1_s (mm_st1_s (mm_st1_s (mm_st1_s mm_st1_r)))) ?_
    refine mg_iconst (pc := 20) dL_blind_20 kc_2 ?_
    exact mb_wret dL_blind_21 rfl (Nat.le_refl _) (Nat.le_refl _) hr
theorem dL_choose_0 : decode cL_choose 0 = .ok (.aload_n 3, 1) := by decide +kernel
theorem dL_choose_1 : decode cL_choose 1 = .ok (.iconst 0, 1) := by decide +kernel
theorem dL_choose_2 : decode cL_choose 2 = .ok (.aload_n 0, 1) := by decide +kernel
theorem dL_choose_3 : decode cL_choose 3 = .ok (.iload_n 1, 1) := by decide +kernel
theorem dL_choose_4 : decode cL_choose 4 = .ok (.iload_n 2, 1) := by decide +kernel
theorem dL_choose_5 : decode cL_choose 5 = .ok (.invokevirtual 56, 3) := by decide +kernel
theorem dL_choose_8 : decode cL_choose 8 = .ok (.i2l, 1) := by decide +kernel
theorem dL_choose_9 : decode cL_choose 9 = .ok (.lastore, 1) := by decide +kernel
theorem dL_choose_10 : decode cL_choose 10 = .ok (.goto 7, 3) := by decide +kernel
theorem dL_choose_13 : decode cL_choose 13 = .ok (.astore 4, 2) := by decide +kernel
theorem dL_choose_15 : decode cL_choose 15 = .ok (.iconst 1, 1) := by decide +kernel
theorem dL_choose_16 : decode cL_choose 16 = .ok (.ireturn, 1) := by decide +kernel
theorem dL_choose_17 : decode cL_choose 17 = .ok (.iconst 0, 1) := by decide +kernel
theorem dL_choose_18 : decode cL_choose 18 = .ok (.ireturn, 1) := by decide +kernel
def L_choose (e : mm_E) (a0 : Nat) (i1 : Int32) (i2 : Int32) (a3 : Nat) (m : mm_V) : Option (Int32 × mm_V) := mm_tr (X11_choose e a0 i1 i2 m) (fun rv => (mm_sj e.1 rv.2 a3 (0 : Int32) rv.1.toInt64).bind fun m2 => some ((0 : Int32), m2)) (fun q => if q.1 = "java/util/NoSuchElementException" then some ((1 : Int32), q.2) else none)
theorem L_choose_ok {K : mm_K} {e : mm_E} (hz : e.2.1 = K.2.2.2.2) (hnc : va_Nc "java/lang/IllegalArgumentException" "java/util/NoSuchElementException" K.2.1) {d : Nat} (hd : 256 ≤ d) {a0 : Nat} {i1 : Int32} {i2 : Int32} {a3 : Nat} (h0 : e.1 a0 = some (11, 19)) {m : mm_V} {r : Int32 × mm_V} (hr : L_choose e a0 i1 i2 a3 m = some r) : mm_CnW K ML_choose d (mm_Fw e.1 r) [.ref a0, .int i1, .int i2, .ref a3] (e.1, m) none := by
  obtain ⟨d, rfl⟩ : ∃ d', d = d' + 1 := ⟨d - 1, by omega⟩
  refine mm_entryW (by decide) (Nat.le_of_ble_eq_true rfl) (fun hok => ?_)
  unfold L_choose at hr
  refine mg_weak (L' := [some (.ref a0), some (.int i1), some (.int i2), some (.ref a3), none]) (mm_le_s (mm_le_s (mm_le_s (mm_le_s (mm_le_e mm_le_0))))) ?_
  refine ml_aload_n (pc := 0) dL_choose_0 rfl (mm_get_s (mm_get_s (mm_get_s mm_get_0))) ?_
  refine mg_iconst (pc := 1) dL_choose_1 kc_0 ?_
  refine ml_aload_n (pc := 2) dL_choose_2 rfl mm_get_0 ?_
  refine ml_iload_n (pc := 3) dL_choose_3 rfl (mm_get_s mm_get_0) ?_
  refine ml_iload_n (pc := 4) dL_choose_4 rfl (mm_get_s (mm_get_s mm_get_0)) ?_
  refine mb_tV (F := mm_Fw e.1 r) (cw := (fun v => some (.int v))) (pc := 5) (As := [.int i1, .int i2]) (rest := [.int (0 : Int32), .ref a3]) dL_choose_5 cw_L_56 h0 hr (fun v hv => X11_choose_ok hz (by omega) h0 hv) rfl (Nat.le_of_ble_eq_true rfl) (fun rv hr => ?_) (fun E m1 hr hc => ?_)
  · refine mg_i2l (pc := 8) dL_choose_8 ?_
    refine mb_sj (pc := 9) dL_choose_9 hr (fun m2 hr => ?_)
    refine mg_goto (pc := 10) 17 dL_choose_10 rfl ?_
    refine mg_iconst (pc := 17) dL_choose_17 kc_0 ?_
    exact mb_wret dL_choose_18 rfl (Nat.zero_le _) (Nat.zero_le _) hr
  · refine mb_ck hr (fun hE hr => ?_)
    subst hE
    refine mg_callVc (pc := 5) (As := [.int i1, .int i2]) (rest := [.int (0 : Int32), .ref a3]) (name := "java/util/NoSuchElementException") (pre := []) (x := ⟨0, 10, 13, 18⟩) (suf := []) dL_choose_5 cw_L_56 tw_1229 hc h0 rfl rfl (fun z hz => by cases hz) rfl (by decide) tw_992 tw_1009 rfl (Nat.le_of_ble_eq_true rfl) (Nat.le_refl _) (Nat.le_refl _) (fun q => ?_)
    refine ml_astore (pc := 13) dL_choose_13 (Nat.le_of_ble_eq_true rfl) (mm_st1_s (mm_st1_s (mm_st1_s mm_st1_r))) ?_
    refine mg_iconst (pc := 15) dL_choose_15 kc_1 ?_
    exact mb_wret dL_choose_16 rfl (Nat.le_refl _) (Nat.le_refl _) hr
theorem dL_count_0 : decode cL_count 0 = .ok (.aload_n 2, 1) := by decide +kernel
theorem dL_count_1 : decode cL_count 1 = .ok (.iconst 0, 1) := by decide +kernel
theorem dL_count_2 : decode cL_count 2 = .ok (.aload_n 0, 1) := by decide +kernel
theorem dL_count_3 : decode cL_count 3 = .ok (.iload_n 1, 1) := by decide +kernel
theorem dL_count_4 : decode cL_count 4 = .ok (.invokevirtual 15, 3) := by decide +kernel
theorem dL_count_7 : decode cL_count 7 = .ok (.i2l, 1) := by decide +kernel
theorem dL_count_8 : decode cL_count 8 = .ok (.lastore, 1) := by decide +kernel
theorem dL_count_9 : decode cL_count 9 = .ok (.goto 6, 3) := by decide +kernel
theorem dL_count_12 : decode cL_count 12 = .ok (.astore_n 3, 1) := by decide +kernel
theorem dL_count_13 : decode cL_count 13 = .ok (.iconst 1, 1) := by decide +kernel
theorem dL_count_14 : decode cL_count 14 = .ok (.ireturn, 1) := by decide +kernel
theorem dL_count_15 : decode cL_count 15 = .ok (.iconst 0, 1) := by decide +kernel
theorem dL_count_16 : decode cL_count 16 = .ok (.ireturn, 1) := by decide +kernel
def L_count (e : mm_E) (a0 : Nat) (i1 : Int32) (a2 : Nat) (m : mm_V) : Option (Int32 × mm_V) := mm_tr (X11_count e a0 i1 m) (fun rv => (mm_sj e.1 rv.2 a2 (0 : Int32) rv.1.toInt64).bind fun m2 => some ((0 : Int32), m2)) (fun q => if q.1 = "java/util/NoSuchElementException" then some ((1 : Int32), q.2) else none)
theorem L_count_ok {K : mm_K} {e : mm_E} (hz : e.2.1 = K.2.2.2.2) (hnc : va_Nc "java/lang/IllegalArgumentException" "java/util/NoSuchElementException" K.2.1) {d : Nat} (hd : 10 ≤ d) {a0 : Nat} {i1 : Int32} {a2 : Nat} (h0 : e.1 a0 = some (11, 19)) {m : mm_V} {r : Int32 × mm_V} (hr : L_count e a0 i1 a2 m = some r) : mm_CnW K ML_count d (mm_Fw e.1 r) [.ref a0, .int i1, .ref a2] (e.1, m) none := by
  obtain ⟨d, rfl⟩ : ∃ d', d = d' + 1 := ⟨d - 1, by omega⟩
  refine mm_entryW (by decide) (Nat.le_of_ble_eq_true rfl) (fun hok => ?_)
  unfold L_count at hr
  refine mg_weak (L' := [some (.ref a0), some (.int i1), some (.ref a2), none]) (mm_le_s (mm_le_s (mm_le_s (mm_le_e mm_le_0)))) ?_
  refine ml_aload_n (pc := 0) dL_count_0 rfl (mm_get_s (mm_get_s mm_get_0)) ?_
  refine mg_iconst (pc := 1) dL_count_1 kc_0 ?_
  refine ml_aload_n (pc := 2) dL_count_2 rfl mm_get_0 ?_
  refine ml_iload_n (pc := 3) dL_count_3 rfl (mm_get_s mm_get_0) ?_
  refine mb_tV (F := mm_Fw e.1 r) (cw := (fun v => some (.int v))) (pc := 4) (As := [.int i1]) (rest := [.int (0 : Int32), .ref a2]) dL_count_4 cw_L_15 h0 hr (fun v hv => X11_count_ok hz (by omega) h0 hv) rfl (Nat.le_of_ble_eq_true rfl) (fun rv hr => ?_) (fun E m1 hr hc => ?_)
  · refine mg_i2l (pc := 7) dL_count_7 ?_
    refine mb_sj (pc := 8) dL_count_8 hr (fun m2 hr => ?_)
    refine mg_goto (pc := 9) 15 dL_count_9 rfl ?_
    refine mg_iconst (pc := 15) dL_count_15 kc_0 ?_
    exact mb_wret dL_count_16 rfl (Nat.zero_le _) (Nat.zero_le _) hr
  · refine mb_ck hr (fun hE hr => ?_)
    subst hE
    refine mg_callVc (pc := 4) (As := [.int i1]) (rest := [.int (0 : Int32), .ref a2]) (name := "java/util/NoSuchElementException") (pre := []) (x := ⟨0, 9, 12, 18⟩) (suf := []) dL_count_4 cw_L_15 tw_993 hc h0 rfl rfl (fun z hz => by cases hz) rfl (by decide) tw_992 tw_1009 rfl (Nat.le_of_ble_eq_true rfl) (Nat.le_refl _) (Nat.le_refl _) (fun q => ?_)
    refine ml_astore_n (pc := 12) dL_count_12 rfl (Nat.le_of_ble_eq_true rfl) (mm_st1_s (mm_st1_s mm_st1_r)) ?_
    refine mg_iconst (pc := 13) dL_count_13 kc_1 ?_
    exact mb_wret dL_count_14 rfl (Nat.le_refl _) (Nat.le_refl _) hr
theorem dL_ends_0 : decode cL_ends 0 = .ok (.aload_n 2, 1) := by decide +kernel
theorem dL_ends_1 : decode cL_ends 1 = .ok (.iconst 0, 1) := by decide +kernel
theorem dL_ends_2 : decode cL_ends 2 = .ok (.aload_n 0, 1) := by decide +kernel
theorem dL_ends_3 : decode cL_ends 3 = .ok (.iload_n 1, 1) := by decide +kernel
theorem dL_ends_4 : decode cL_ends 4 = .ok (.invokevirtual 30, 3) := by decide +kernel
theorem dL_ends_7 : decode cL_ends 7 = .ok (.i2l, 1) := by decide +kernel
theorem dL_ends_8 : decode cL_ends 8 = .ok (.lastore, 1) := by decide +kernel
theorem dL_ends_9 : decode cL_ends 9 = .ok (.goto 6, 3) := by decide +kernel
theorem dL_ends_12 : decode cL_ends 12 = .ok (.astore_n 3, 1) := by decide +kernel
theorem dL_ends_13 : decode cL_ends 13 = .ok (.iconst 1, 1) := by decide +kernel
theorem dL_ends_14 : decode cL_ends 14 = .ok (.ireturn, 1) := by decide +kernel
theorem dL_ends_15 : decode cL_ends 15 = .ok (.iconst 0, 1) := by decide +kernel
theorem dL_ends_16 : decode cL_ends 16 = .ok (.ireturn, 1) := by decide +kernel
def L_ends (e : mm_E) (a0 : Nat) (i1 : Int32) (a2 : Nat) (m : mm_V) : Option (Int32 × mm_V) := mm_tr (X11_ends e a0 i1 m) (fun rv => (mm_sj e.1 rv.2 a2 (0 : Int32) rv.1.toInt64).bind fun m2 => some ((0 : Int32), m2)) (fun q => if q.1 = "java/util/NoSuchElementException" then some ((1 : Int32), q.2) else none)
theorem L_ends_ok {K : mm_K} {e : mm_E} (hz : e.2.1 = K.2.2.2.2) (hnc : va_Nc "java/lang/IllegalArgumentException" "java/util/NoSuchElementException" K.2.1) {d : Nat} (hd : 11 ≤ d) {a0 : Nat} {i1 : Int32} {a2 : Nat} (h0 : e.1 a0 = some (11, 19)) {m : mm_V} {r : Int32 × mm_V} (hr : L_ends e a0 i1 a2 m = some r) : mm_CnW K ML_ends d (mm_Fw e.1 r) [.ref a0, .int i1, .ref a2] (e.1, m) none := by
  obtain ⟨d, rfl⟩ : ∃ d', d = d' + 1 := ⟨d - 1, by omega⟩
  refine mm_entryW (by decide) (Nat.le_of_ble_eq_true rfl) (fun hok => ?_)
  unfold L_ends at hr
  refine mg_weak (L' := [some (.ref a0), some (.int i1), some (.ref a2), none]) (mm_le_s (mm_le_s (mm_le_s (mm_le_e mm_le_0)))) ?_
  refine ml_aload_n (pc := 0) dL_ends_0 rfl (mm_get_s (mm_get_s mm_get_0)) ?_
  refine mg_iconst (pc := 1) dL_ends_1 kc_0 ?_
  refine ml_aload_n (pc := 2) dL_ends_2 rfl mm_get_0 ?_
  refine ml_iload_n (pc := 3) dL_ends_3 rfl (mm_get_s mm_get_0) ?_
  refine mb_tV (F := mm_Fw e.1 r) (cw := (fun v => some (.int v))) (pc := 4) (As := [.int i1]) (rest := [.int (0 : Int32), .ref a2]) dL_ends_4 cw_L_30 h0 hr (fun v hv => X11_ends_ok hz (by omega) h0 hv) rfl (Nat.le_of_ble_eq_true rfl) (fun rv hr => ?_) (fun E m1 hr hc => ?_)
  · refine mg_i2l (pc := 7) dL_ends_7 ?_
    refine mb_sj (pc := 8) dL_ends_8 hr (fun m2 hr => ?_)
    refine mg_goto (pc := 9) 15 dL_ends_9 rfl ?_
    refine mg_iconst (pc := 15) dL_ends_15 kc_0 ?_
    exact mb_wret dL_ends_16 rfl (Nat.zero_le _) (Nat.zero_le _) hr
  · refine mb_ck hr (fun hE hr => ?_)
    subst hE
    refine mg_callVc (pc := 4) (As := [.int i1]) (rest := [.int (0 : Int32), .ref a2]) (name := "java/util/NoSuchElementException") (pre := []) (x := ⟨0, 9, 12, 18⟩) (suf := []) dL_ends_4 cw_L_30 tw_1075 hc h0 rfl rfl (fun z hz => by cases hz) rfl (by decide) tw_992 tw_1009 rfl (Nat.le_of_ble_eq_true rfl) (Nat.le_refl _) (Nat.le_refl _) (fun q => ?_)
    refine ml_astore_n (pc := 12) dL_ends_12 rfl (Nat.le_of_ble_eq_true rfl) (mm_st1_s (mm_st1_s mm_st1_r)) ?_
    refine mg_iconst (pc := 13) dL_ends_13 kc_1 ?_
    exact mb_wret dL_ends_14 rfl (Nat.le_refl _) (Nat.le_refl _) hr
theorem dL_evenings_0 : decode cL_evenings 0 = .ok (.aload 6, 2) := by decide +kernel
theorem dL_evenings_2 : decode cL_evenings 2 = .ok (.iconst 0, 1) := by decide +kernel
theorem dL_evenings_3 : decode cL_evenings 3 = .ok (.aload_n 0, 1) := by decide +kernel
theorem dL_evenings_4 : decode cL_evenings 4 = .ok (.iload_n 1, 1) := by decide +kernel
theorem dL_evenings_5 : decode cL_evenings 5 = .ok (.iload_n 2, 1) := by decide +kernel
theorem dL_evenings_6 : decode cL_evenings 6 = .ok (.iload_n 3, 1) := by decide +kernel
theorem dL_evenings_7 : decode cL_evenings 7 = .ok (.iload 4, 2) := by decide +kernel
theorem dL_evenings_9 : decode cL_evenings 9 = .ok (.iload 5, 2) := by decide +kernel
theorem dL_evenings_11 : decode cL_evenings 11 = .ok (.invokevirtual 62, 3) := by decide +kernel
theorem dL_evenings_14 : decode cL_evenings 14 = .ok (.i2l, 1) := by decide +kernel
theorem dL_evenings_15 : decode cL_evenings 15 = .ok (.lastore, 1) := by decide +kernel
theorem dL_evenings_16 : decode cL_evenings 16 = .ok (.goto 11, 3) := by decide +kernel
theorem dL_evenings_19 : decode cL_evenings 19 = .ok (.astore 7, 2) := by decide +kernel
theorem dL_evenings_21 : decode cL_evenings 21 = .ok (.iconst 1, 1) := by decide +kernel
theorem dL_evenings_22 : decode cL_evenings 22 = .ok (.ireturn, 1) := by decide +kernel
theorem dL_evenings_23 : decode cL_evenings 23 = .ok (.astore 7, 2) := by decide +kernel
theorem dL_evenings_25 : decode cL_evenings 25 = .ok (.iconst 2, 1) := by decide +kernel
theorem dL_evenings_26 : decode cL_evenings 26 = .ok (.ireturn, 1) := by decide +kernel
theorem dL_evenings_27 : decode cL_evenings 27 = .ok (.iconst 0, 1) := by decide +kernel
theorem dL_evenings_28 : decode cL_evenings 28 = .ok (.ireturn, 1) := by decide +kernel
def L_evenings (e : mm_E) (a0 : Nat) (i1 : Int32) (i2 : Int32) (i3 : Int32) (i4 : Int32) (i5 : Int32) (a6 : Nat) (m : mm_V) : Option (Int32 × mm_V) := mm_tr (X11_evenings e a0 i1 i2 i3 i4 i5 m) (fun rv => (mm_sj e.1 rv.2 a6 (0 : Int32) rv.1.toInt64).bind fun m2 => some ((0 : Int32), m2)) (fun q => if q.1 = "java/util/NoSuchElementException" then some ((1 : Int32), q.2) else if q.1 = "java/lang/IllegalArgumentException" then some ((2 : Int32), q.2) else none)
theorem L_evenings_ok {K : mm_K} {e : mm_E} (hz : e.2.1 = K.2.2.2.2) (hnc : va_Nc "java/lang/IllegalArgumentException" "java/util/NoSuchElementException" K.2.1) {d : Nat} (hd : 11 ≤ d) {a0 : Nat} {i1 : Int32} {i2 : Int32} {i3 : Int32} {i4 : Int32} {i5 : Int32} {a6 : Nat} (h0 : e.1 a0 = some (11, 19)) {m : mm_V} {r : Int32 × mm_V} (hr : L_evenings e a0 i1 i2 i3 i4 i5 a6 m = some r) : mm_CnW K ML_evenings d (mm_Fw e.1 r) [.ref a0, .int i1, .int i2, .int i3, .int i4, .int i5, .ref a6] (e.1, m) none := by
  obtain ⟨d, rfl⟩ : ∃ d', d = d' + 1 := ⟨d - 1, by omega⟩
  refine mm_entryW (by decide) (Nat.le_of_ble_eq_true rfl) (fun hok => ?_)
  unfold L_evenings at hr
  refine mg_weak (L' := [some (.ref a0), some (.int i1), some (.int i2), some (.int i3), some (.int i4), some (.int i5), some (.ref a6), none]) (mm_le_s (mm_le_s (mm_le_s (mm_le_s (mm_le_s (mm_le_s (mm_le_s (mm_le_e mm_le_0)))))))) ?_
  refine ml_aload (pc := 0) dL_evenings_0 (mm_get_s (mm_get_s (mm_get_s (mm_get_s (mm_get_s (mm_get_s mm_get_0)))))) ?_
  refine mg_iconst (pc := 2) dL_evenings_2 kc_0 ?_
  refine ml_aload_n (pc := 3) dL_evenings_3 rfl mm_get_0 ?_
  refine ml_iload_n (pc := 4) dL_evenings_4 rfl (mm_get_s mm_get_0) ?_
  refine ml_iload_n (pc := 5) dL_evenings_5 rfl (mm_get_s (mm_get_s mm_get_0)) ?_
  refine ml_iload_n (pc := 6) dL_evenings_6 rfl (mm_get_s (mm_get_s (mm_get_s mm_get_0))) ?_
  refine ml_iload (pc := 7) dL_evenings_7 (mm_get_s (mm_get_s (mm_get_s (mm_get_s mm_get_0)))) ?_
  refine ml_iload (pc := 9) dL_evenings_9 (mm_get_s (mm_get_s (mm_get_s (mm_get_s (mm_get_s mm_get_0))))) ?_
  refine mb_tV (F := mm_Fw e.1 r) (cw := (fun v => some (.int v))) (pc := 11) (As := [.int i1, .int i2, .int i3, .int i4, .int i5]) (rest := [.int (0 : Int32), .ref a6]) dL_evenings_11 cw_L_62 h0 hr (fun v hv => X11_evenings_ok hz (by omega) h0 hv) rfl (Nat.le_of_ble_eq_true rfl) (fun rv hr => ?_) (fun E m1 hr hc => ?_)
  · refine mg_i2l (pc := 14) dL_evenings_14 ?_
    refine mb_sj (pc := 15) dL_evenings_15 hr (fun m2 hr => ?_)
    refine mg_goto (pc := 16) 27 dL_evenings_16 rfl ?_
    refine mg_iconst (pc := 27) dL_evenings_27 kc_0 ?_
    exact mb_wret dL_evenings_28 rfl (Nat.zero_le _) (Nat.zero_le _) hr
  · refine mb_ite hr (fun hE hr => ?_) (fun hE2 hr => ?_)
    · subst hE
      refine mg_callVc (pc := 11) (As := [.int i1, .int i2, .int i3, .int i4, .int i5]) (rest := [.int (0 : Int32), .ref a6]) (name := "java/util/NoSuchElementException") (pre := []) (x := ⟨0, 16, 19, 18⟩) (suf := [⟨0, 16, 23, 13⟩]) dL_evenings_11 cw_L_62 tw_1284 hc h0 rfl rfl (fun z hz => by cases hz) rfl (by decide) tw_992 tw_1009 rfl (Nat.le_of_ble_eq_true rfl) (Nat.le_refl _) (Nat.le_refl _) (fun q => ?_)
      refine ml_astore (pc := 19) dL_evenings_19 (Nat.le_of_ble_eq_true rfl) (mm_st1_s (mm_st1_s (mm_st1_s (mm_st1_s (mm_st1_s (mm_st1_s mm_st1_r)))))) ?_
      refine mg_iconst (pc := 21) dL_evenings_21 kc_1 ?_
      exact mb_wret dL_evenings_22 rfl (Nat.le_refl _) (Nat.le_refl _) hr
    refine mb_ck hr (fun hE hr => ?_)
    subst hE
    refine mg_callVc (pc := 11) (As := [.int i1, .int i2, .int i3, .int i4, .int i5]) (rest := [.int (0 : Int32), .ref a6]) (name := "java/lang/IllegalArgumentException") (pre := [⟨0, 16, 19, 18⟩]) (x := ⟨0, 16, 23, 13⟩) (suf := []) dL_evenings_11 cw_L_62 tw_1284 hc h0 rfl rfl (fun z hz => by cases List.mem_singleton.mp hz; exact Or.inr ⟨by decide, "java/util/NoSuchElementException", tw_992, hnc⟩) rfl (by decide) tw_713 tw_720 rfl (Nat.le_of_ble_eq_true rfl) (Nat.le_refl _) (Nat.le_refl _) (fun q => ?_)
    refine ml_astore (pc := 23) dL_evenings_23 (Nat.le_of_ble_eq_true rfl) (mm_st1_s (mm_st1_s (mm_st1_s (mm_st1_s (mm_st1_s (mm_st1_s mm_st1_r)))))) ?_
    refine mg_iconst (pc := 25) dL_evenings_25 kc_2 ?_
    exact mb_wret dL_evenings_26 rfl (Nat.le_refl _) (Nat.le_refl _) hr
theorem dL_face_0 : decode cL_face 0 = .ok (.aload 4, 2) := by decide +kernel
theorem dL_face_2 : decode cL_face 2 = .ok (.iconst 0, 1) := by decide +kernel
theorem dL_face_3 : decode cL_face 3 = .ok (.aload_n 0, 1) := by decide +kernel
theorem dL_face_4 : decode cL_face 4 = .ok (.iload_n 1, 1) := by decide +kernel
theorem dL_face_5 : decode cL_face 5 = .ok (.iload_n 2, 1) := by decide +kernel
theorem dL_face_6 : decode cL_face 6 = .ok (.iload_n 3, 1) := by decide +kernel
theorem dL_face_7 : decode cL_face 7 = .ok (.invokevirtual 78, 3) := by decide +kernel
theorem dL_face_10 : decode cL_face 10 = .ok (.i2l, 1) := by decide +kernel
theorem dL_face_11 : decode cL_face 11 = .ok (.lastore, 1) := by decide +kernel
theorem dL_face_12 : decode cL_face 12 = .ok (.goto 11, 3) := by decide +kernel
theorem dL_face_15 : decode cL_face 15 = .ok (.astore 5, 2) := by decide +kernel
theorem dL_face_17 : decode cL_face 17 = .ok (.iconst 1, 1) := by decide +kernel
theorem dL_face_18 : decode cL_face 18 = .ok (.ireturn, 1) := by decide +kernel
theorem dL_face_19 : decode cL_face 19 = .ok (.astore 5, 2) := by decide +kernel
theorem dL_face_21 : decode cL_face 21 = .ok (.iconst 2, 1) := by decide +kernel
theorem dL_face_22 : decode cL_face 22 = .ok (.ireturn, 1) := by decide +kernel
theorem dL_face_23 : decode cL_face 23 = .ok (.iconst 0, 1) := by decide +kernel
theorem dL_face_24 : decode cL_face 24 = .ok (.ireturn, 1) := by decide +kernel
def L_face (e : mm_E) (a0 : Nat) (i1 : Int32) (i2 : Int32) (i3 : Int32) (a4 : Nat) (m : mm_V) : Option (Int32 × mm_V) := mm_tr (X11_face e a0 i1 i2 i3 m) (fun rv => (mm_sj e.1 rv.2 a4 (0 : Int32) rv.1.toInt64).bind fun m2 => some ((0 : Int32), m2)) (fun q => if q.1 = "java/util/NoSuchElementException" then some ((1 : Int32), q.2) else if q.1 = "java/lang/IllegalArgumentException" then some ((2 : Int32), q.2) else none)
theorem L_face_ok {K : mm_K} {e : mm_E} (hz : e.2.1 = K.2.2.2.2) (hnc : va_Nc "java/lang/IllegalArgumentException" "java/util/NoSuchElementException" K.2.1) {d : Nat} (hd : 11 ≤ d) {a0 : Nat} {i1 : Int32} {i2 : Int32} {i3 : Int32} {a4 : Nat} (h0 : e.1 a0 = some (11, 19)) {m : mm_V} {r : Int32 × mm_V} (hr : L_face e a0 i1 i2 i3 a4 m = some r) : mm_CnW K ML_face d (mm_Fw e.1 r) [.ref a0, .int i1, .int i2, .int i3, .ref a4] (e.1, m) none := by
  obtain ⟨d, rfl⟩ : ∃ d', d = d' + 1 := ⟨d - 1, by omega⟩
  refine mm_entryW (by decide) (Nat.le_of_ble_eq_true rfl) (fun hok => ?_)
  unfold L_face at hr
  refine mg_weak (L' := [some (.ref a0), some (.int i1), some (.int i2), some (.int i3), some (.ref a4), none]) (mm_le_s (mm_le_s (mm_le_s (mm_le_s (mm_le_s (mm_le_e mm_le_0)))))) ?_
  refine ml_aload (pc := 0) dL_face_0 (mm_get_s (mm_get_s (mm_get_s (mm_get_s mm_get_0)))) ?_
  refine mg_iconst (pc := 2) dL_face_2 kc_0 ?_
  refine ml_aload_n (pc := 3) dL_face_3 rfl mm_get_0 ?_
  refine ml_iload_n (pc := 4) dL_face_4 rfl (mm_get_s mm_get_0) ?_
  refine ml_iload_n (pc := 5) dL_face_5 rfl (mm_get_s (mm_get_s mm_get_0)) ?_
  refine ml_iload_n (pc := 6) dL_face_6 rfl (mm_get_s (mm_get_s (mm_get_s mm_get_0))) ?_
  refine mb_tV (F := mm_Fw e.1 r) (cw := (fun v => some (.int v))) (pc := 7) (As := [.int i1, .int i2, .int i3]) (rest := [.int (0 : Int32), .ref a4]) dL_face_7 cw_L_78 h0 hr (fun v hv => X11_face_ok hz (by omega) h0 hv) rfl (Nat.le_of_ble_eq_true rfl) (fun rv hr => ?_) (fun E m1 hr hc => ?_)
  · refine mg_i2l (pc := 10) dL_face_10 ?_
    refine mb_sj (pc := 11) dL_face_11 hr (fun m2 hr => ?_)
    refine mg_goto (pc := 12) 23 dL_face_12 rfl ?_
    refine mg_iconst (pc := 23) dL_face_23 kc_0 ?_
    exact mb_wret dL_face_24 rfl (Nat.zero_le _) (Nat.zero_le _) hr
  · refine mb_ite hr (fun hE hr => ?_) (fun hE2 hr => ?_)
    · subst hE
      refine mg_callVc (pc := 7) (As := [.int i1, .int i2, .int i3]) (rest := [.int (0 : Int32), .ref a4]) (name := "java/util/NoSuchElementException") (pre := []) (x := ⟨0, 12, 15, 18⟩) (suf := [⟨0, 12, 19, 13⟩]) dL_face_7 cw_L_78 tw_1343 hc h0 rfl rfl (fun z hz => by cases hz) rfl (by decide) tw_992 tw_1009 rfl (Nat.le_of_ble_eq_true rfl) (Nat.le_refl _) (Nat.le_refl _) (fun q => ?_)
      refine ml_astore (pc := 15) dL_face_15 (Nat.le_of_ble_eq_true rfl) (mm_st1_s (mm_st1_s (mm_st1_s (mm_st1_s mm_st1_r)))) ?_
      refine mg_iconst (pc := 17) dL_face_17 kc_1 ?_
      exact mb_wret dL_face_18 rfl (Nat.le_refl _) (Nat.le_refl _) hr
    refine mb_ck hr (fun hE hr => ?_)
    subst hE
    refine mg_callVc (pc := 7) (As := [.int i1, .int i2, .int i3]) (rest := [.int (0 : Int32), .ref a4]) (name := "java/lang/IllegalArgumentException") (pre := [⟨0, 12, 15, 18⟩]) (x := ⟨0, 12, 19, 13⟩) (suf := []) dL_face_7 cw_L_78 tw_1343 hc h0 rfl rfl (fun z hz => by cases List.mem_singleton.mp hz; exact Or.inr ⟨by decide, "java/util/NoSuchElementException", tw_992, hnc⟩) rfl (by decide) tw_713 tw_720 rfl (Nat.le_of_ble_eq_true rfl) (Nat.le_refl _) (Nat.le_refl _) (fun q => ?_)
    refine ml_astore (pc := 19) dL_face_19 (Nat.le_of_ble_eq_true rfl) (mm_st1_s (mm_st1_s (mm_st1_s (mm_st1_s mm_st1_r)))) ?_
    refine mg_iconst (pc := 21) dL_face_21 kc_2 ?_
    exact mb_wret dL_face_22 rfl (Nat.le_refl _) (Nat.le_refl _) hr
theorem dL_fan_0 : decode cL_fan 0 = .ok (.aload_n 3, 1) := by decide +kernel
theorem dL_fan_1 : decode cL_fan 1 = .ok (.iconst 0, 1) := by decide +kernel
theorem dL_fan_2 : decode cL_fan 2 = .ok (.aload_n 0, 1) := by decide +kernel
theorem dL_fan_3 : decode cL_fan 3 = .ok (.iload_n 1, 1) := by decide +kernel
theorem dL_fan_4 : decode cL_fan 4 = .ok (.iload_n 2, 1) := by decide +kernel
theorem dL_fan_5 : decode cL_fan 5 = .ok (.invokevirtual 20, 3) := by decide +kernel
theorem dL_fan_8 : decode cL_fan 8 = .ok (.i2l, 1) := by decide +kernel
theorem dL_fan_9 : decode cL_fan 9 = .ok (.lastore, 1) := by decide +kernel
theorem dL_fan_10 : decode cL_fan 10 = .ok (.goto 7, 3) := by decide +kernel
theorem dL_fan_13 : decode cL_fan 13 = .ok (.astore 4, 2) := by decide +kernel
theorem dL_fan_15 : decode cL_fan 15 = .ok (.iconst 1, 1) := by decide +kernel
theorem dL_fan_16 : decode cL_fan 16 = .ok (.ireturn, 1) := by decide +kernel
theorem dL_fan_17 : decode cL_fan 17 = .ok (.iconst 0, 1) := by decide +kernel
theorem dL_fan_18 : decode cL_fan 18 = .ok (.ireturn, 1) := by decide +kernel
def L_fan (e : mm_E) (a0 : Nat) (i1 : Int32) (i2 : Int32) (a3 : Nat) (m : mm_V) : Option (Int32 × mm_V) := mm_tr (X11_fan e a0 i1 i2 m) (fun rv => (mm_sj e.1 rv.2 a3 (0 : Int32) rv.1.toInt64).bind fun m2 => some ((0 : Int32), m2)) (fun q => if q.1 = "java/util/NoSuchElementException" then some ((1 : Int32), q.2) else none)
theorem L_fan_ok {K : mm_K} {e : mm_E} (hz : e.2.1 = K.2.2.2.2) (hnc : va_Nc "java/lang/IllegalArgumentException" "java/util/NoSuchElementException" K.2.1) {d : Nat} (hd : 12 ≤ d) {a0 : Nat} {i1 : Int32} {i2 : Int32} {a3 : Nat} (h0 : e.1 a0 = some (11, 19)) {m : mm_V} {r : Int32 × mm_V} (hr : L_fan e a0 i1 i2 a3 m = some r) : mm_CnW K ML_fan d (mm_Fw e.1 r) [.ref a0, .int i1, .int i2, .ref a3] (e.1, m) none := by
  obtain ⟨d, rfl⟩ : ∃ d', d = d' + 1 := ⟨d - 1, by omega⟩
  refine mm_entryW (by decide) (Nat.le_of_ble_eq_true rfl) (fun hok => ?_)
  unfold L_fan at hr
  refine mg_weak (L' := [some (.ref a0), some (.int i1), some (.int i2), some (.ref a3), none]) (mm_le_s (mm_le_s (mm_le_s (mm_le_s (mm_le_e mm_le_0))))) ?_
  refine ml_aload_n (pc := 0) dL_fan_0 rfl (mm_get_s (mm_get_s (mm_get_s mm_get_0))) ?_
  refine mg_iconst (pc := 1) dL_fan_1 kc_0 ?_
  refine ml_aload_n (pc := 2) dL_fan_2 rfl mm_get_0 ?_
  refine ml_iload_n (pc := 3) dL_fan_3 rfl (mm_get_s mm_get_0) ?_
  refine ml_iload_n (pc := 4) dL_fan_4 rfl (mm_get_s (mm_get_s mm_get_0)) ?_
  refine mb_tV (F := mm_Fw e.1 r) (cw := (fun v => some (.int v))) (pc := 5) (As := [.int i1, .int i2]) (rest := [.int (0 : Int32), .ref a3]) dL_fan_5 cw_L_20 h0 hr (fun v hv => X11_fan_ok hz (by omega) h0 hv) rfl (Nat.le_of_ble_eq_true rfl) (fun rv hr => ?_) (fun E m1 hr hc => ?_)
  · refine mg_i2l (pc := 8) dL_fan_8 ?_
    refine mb_sj (pc := 9) dL_fan_9 hr (fun m2 hr => ?_)
    refine mg_goto (pc := 10) 17 dL_fan_10 rfl ?_
    refine mg_iconst (pc := 17) dL_fan_17 kc_0 ?_
    exact mb_wret dL_fan_18 rfl (Nat.zero_le _) (Nat.zero_le _) hr
  · refine mb_ck hr (fun hE hr => ?_)
    subst hE
    refine mg_callVc (pc := 5) (As := [.int i1, .int i2]) (rest := [.int (0 : Int32), .ref a3]) (name := "java/util/NoSuchElementException") (pre := []) (x := ⟨0, 10, 13, 18⟩) (suf := []) dL_fan_5 cw_L_20 tw_1025 hc h0 rfl rfl (fun z hz => by cases hz) rfl (by decide) tw_992 tw_1009 rfl (Nat.le_of_ble_eq_true rfl) (Nat.le_refl _) (Nat.le_refl _) (fun q => ?_)
    refine ml_astore (pc := 13) dL_fan_13 (Nat.le_of_ble_eq_true rfl) (mm_st1_s (mm_st1_s (mm_st1_s mm_st1_r))) ?_
    refine mg_iconst (pc := 15) dL_fan_15 kc_1 ?_
    exact mb_wret dL_fan_16 rfl (Nat.le_refl _) (Nat.le_refl _) hr
theorem dL_habit_0 : decode cL_habit 0 = .ok (.aload_n 3, 1) := by decide +kernel
theorem dL_habit_1 : decode cL_habit 1 = .ok (.iconst 0, 1) := by decide +kernel
theorem dL_habit_2 : decode cL_habit 2 = .ok (.aload_n 0, 1) := by decide +kernel
theorem dL_habit_3 : decode cL_habit 3 = .ok (.iload_n 1, 1) := by decide +kernel
theorem dL_habit_4 : decode cL_habit 4 = .ok (.iload_n 2, 1) := by decide +kernel
theorem dL_habit_5 : decode cL_habit 5 = .ok (.invokevirtual 75, 3) := by decide +kernel
theorem dL_habit_8 : decode cL_habit 8 = .ok (.i2l, 1) := by decide +kernel
theorem dL_habit_9 : decode cL_habit 9 = .ok (.lastore, 1) := by decide +kernel
theorem dL_habit_10 : decode cL_habit 10 = .ok (.goto 7, 3) := by decide +kernel
theorem dL_habit_13 : decode cL_habit 13 = .ok (.astore 4, 2) := by decide +kernel
theorem dL_habit_15 : decode cL_habit 15 = .ok (.iconst 1, 1) := by decide +kernel
theorem dL_habit_16 : decode cL_habit 16 = .ok (.ireturn, 1) := by decide +kernel
theorem dL_habit_17 : decode cL_habit 17 = .ok (.iconst 0, 1) := by decide +kernel
theorem dL_habit_18 : decode cL_habit 18 = .ok (.ireturn, 1) := by decide +kernel
def L_habit (e : mm_E) (a0 : Nat) (i1 : Int32) (i2 : Int32) (a3 : Nat) (m : mm_V) : Option (Int32 × mm_V) := mm_tr (X11_habit e a0 i1 i2 m) (fun rv => (mm_sj e.1 rv.2 a3 (0 : Int32) rv.1.toInt64).bind fun m2 => some ((0 : Int32), m2)) (fun q => if q.1 = "java/util/NoSuchElementException" then some ((1 : Int32), q.2) else none)
theorem L_habit_ok {K : mm_K} {e : mm_E} (hz : e.2.1 = K.2.2.2.2) (hnc : va_Nc "java/lang/IllegalArgumentException" "java/util/NoSuchElementException" K.2.1) {d : Nat} (hd : 12 ≤ d) {a0 : Nat} {i1 : Int32} {i2 : Int32} {a3 : Nat} (h0 : e.1 a0 = some (11, 19)) {m : mm_V} {r : Int32 × mm_V} (hr : L_habit e a0 i1 i2 a3 m = some r) : mm_CnW K ML_habit d (mm_Fw e.1 r) [.ref a0, .int i1, .int i2, .ref a3] (e.1, m) none := by
  obtain ⟨d, rfl⟩ : ∃ d', d = d' + 1 := ⟨d - 1, by omega⟩
  refine mm_entryW (by decide) (Nat.le_of_ble_eq_true rfl) (fun hok => ?_)
  unfold L_habit at hr
  refine mg_weak (L' := [some (.ref a0), some (.int i1), some (.int i2), some (.ref a3), none]) (mm_le_s (mm_le_s (mm_le_s (mm_le_s (mm_le_e mm_le_0))))) ?_
  refine ml_aload_n (pc := 0) dL_habit_0 rfl (mm_get_s (mm_get_s (mm_get_s mm_get_0))) ?_
  refine mg_iconst (pc := 1) dL_habit_1 kc_0 ?_
  refine ml_aload_n (pc := 2) dL_habit_2 rfl mm_get_0 ?_
  refine ml_iload_n (pc := 3) dL_habit_3 rfl (mm_get_s mm_get_0) ?_
  refine ml_iload_n (pc := 4) dL_habit_4 rfl (mm_get_s (mm_get_s mm_get_0)) ?_
  refine mb_tV (F := mm_Fw e.1 r) (cw := (fun v => some (.int v))) (pc := 5) (As := [.int i1, .int i2]) (rest := [.int (0 : Int32), .ref a3]) dL_habit_5 cw_L_75 h0 hr (fun v hv => X11_habit_ok hz (by omega) h0 hv) rfl (Nat.le_of_ble_eq_true rfl) (fun rv hr => ?_) (fun E m1 hr hc => ?_)
  · refine mg_i2l (pc := 8) dL_habit_8 ?_
    refine mb_sj (pc := 9) dL_habit_9 hr (fun m2 hr => ?_)
    refine mg_goto (pc := 10) 17 dL_habit_10 rfl ?_
    refine mg_iconst (pc := 17) dL_habit_17 kc_0 ?_
    exact mb_wret dL_habit_18 rfl (Nat.zero_le _) (Nat.zero_le _) hr
  · refine mb_ck hr (fun hE hr => ?_)
    subst hE
    refine mg_callVc (pc := 5) (As := [.int i1, .int i2]) (rest := [.int (0 : Int32), .ref a3]) (name := "java/util/NoSuchElementException") (pre := []) (x := ⟨0, 10, 13, 18⟩) (suf := []) dL_habit_5 cw_L_75 tw_1327 hc h0 rfl rfl (fun z hz => by cases hz) rfl (by decide) tw_992 tw_1009 rfl (Nat.le_of_ble_eq_true rfl) (Nat.le_refl _) (Nat.le_refl _) (fun q => ?_)
    refine ml_astore (pc := 13) dL_habit_13 (Nat.le_of_ble_eq_true rfl) (mm_st1_s (mm_st1_s (mm_st1_s mm_st1_r))) ?_
    refine mg_iconst (pc := 15) dL_habit_15 kc_1 ?_
    exact mb_wret dL_habit_16 rfl (Nat.le_refl _) (Nat.le_refl _) hr
theorem dL_has_0 : decode cL_has 0 = .ok (.aload_n 3, 1) := by decide +kernel
theorem dL_has_1 : decode cL_has 1 = .ok (.iconst 0, 1) := by decide +kernel
theorem dL_has_2 : decode cL_has 2 = .ok (.aload_n 0, 1) := by decide +kernel
theorem dL_has_3 : decode cL_has 3 = .ok (.iload_n 1, 1) := by decide +kernel
theorem dL_has_4 : decode cL_has 4 = .ok (.iload_n 2, 1) := by decide +kernel
theorem dL_has_5 : decode cL_has 5 = .ok (.invokevirtual 33, 3) := by decide +kernel
theorem dL_has_8 : decode cL_has 8 = .ok (.i2l, 1) := by decide +kernel
theorem dL_has_9 : decode cL_has 9 = .ok (.lastore, 1) := by decide +kernel
theorem dL_has_10 : decode cL_has 10 = .ok (.goto 7, 3) := by decide +kernel
theorem dL_has_13 : decode cL_has 13 = .ok (.astore 4, 2) := by decide +kernel
theorem dL_has_15 : decode cL_has 15 = .ok (.iconst 1, 1) := by decide +kernel
theorem dL_has_16 : decode cL_has 16 = .ok (.ireturn, 1) := by decide +kernel
theorem dL_has_17 : decode cL_has 17 = .ok (.iconst 0, 1) := by decide +kernel
theorem dL_has_18 : decode cL_has 18 = .ok (.ireturn, 1) := by decide +kernel
def L_has (e : mm_E) (a0 : Nat) (i1 : Int32) (i2 : Int32) (a3 : Nat) (m : mm_V) : Option (Int32 × mm_V) := mm_tr (X11_has e a0 i1 i2 m) (fun rv => (mm_sj e.1 rv.2 a3 (0 : Int32) rv.1.toInt64).bind fun m2 => some ((0 : Int32), m2)) (fun q => if q.1 = "java/util/NoSuchElementException" then some ((1 : Int32), q.2) else none)
theorem L_has_ok {K : mm_K} {e : mm_E} (hz : e.2.1 = K.2.2.2.2) (hnc : va_Nc "java/lang/IllegalArgumentException" "java/util/NoSuchElementException" K.2.1) {d : Nat} (hd : 12 ≤ d) {a0 : Nat} {i1 : Int32} {i2 : Int32} {a3 : Nat} (h0 : e.1 a0 = some (11, 19)) {m : mm_V} {r : Int32 × mm_V} (hr : L_has e a0 i1 i2 a3 m = some r) : mm_CnW K ML_has d (mm_Fw e.1 r) [.ref a0, .int i1, .int i2, .ref a3] (e.1, m) none := by
  obtain ⟨d, rfl⟩ : ∃ d', d = d' + 1 := ⟨d - 1, by omega⟩
  refine mm_entryW (by decide) (Nat.le_of_ble_eq_true rfl) (fun hok => ?_)
  unfold L_has at hr
  refine mg_weak (L' := [some (.ref a0), some (.int i1), some (.int i2), some (.ref a3), none]) (mm_le_s (mm_le_s (mm_le_s (mm_le_s (mm_le_e mm_le_0))))) ?_
  refine ml_aload_n (pc := 0) dL_has_0 rfl (mm_get_s (mm_get_s (mm_get_s mm_get_0))) ?_
  refine mg_iconst (pc := 1) dL_has_1 kc_0 ?_
  refine ml_aload_n (pc := 2) dL_has_2 rfl mm_get_0 ?_
  refine ml_iload_n (pc := 3) dL_has_3 rfl (mm_get_s mm_get_0) ?_
  refine ml_iload_n (pc := 4) dL_has_4 rfl (mm_get_s (mm_get_s mm_get_0)) ?_
  refine mb_tV (F := mm_Fw e.1 r) (cw := (fun v => some (.int v))) (pc := 5) (As := [.int i1, .int i2]) (rest := [.int (0 : Int32), .ref a3]) dL_has_5 cw_L_33 h0 hr (fun v hv => X11_has_ok hz (by omega) h0 hv) rfl (Nat.le_of_ble_eq_true rfl) (fun rv hr => ?_) (fun E m1 hr hc => ?_)
  · refine mg_i2l (pc := 8) dL_has_8 ?_
    refine mb_sj (pc := 9) dL_has_9 hr (fun m2 hr => ?_)
    refine mg_goto (pc := 10) 17 dL_has_10 rfl ?_
    refine mg_iconst (pc := 17) dL_has_17 kc_0 ?_
    exact mb_wret dL_has_18 rfl (Nat.zero_le _) (Nat.zero_le _) hr
  · refine mb_ck hr (fun hE hr => ?_)
    subst hE
    refine mg_callVc (pc := 5) (As := [.int i1, .int i2]) (rest := [.int (0 : Int32), .ref a3]) (name := "java/util/NoSuchElementException") (pre := []) (x := ⟨0, 10, 13, 18⟩) (suf := []) dL_has_5 cw_L_33 tw_1107 hc h0 rfl rfl (fun z hz => by cases hz) rfl (by decide) tw_992 tw_1009 rfl (Nat.le_of_ble_eq_true rfl) (Nat.le_refl _) (Nat.le_refl _) (fun q => ?_)
    refine ml_astore (pc := 13) dL_has_13 (Nat.le_of_ble_eq_true rfl) (mm_st1_s (mm_st1_s (mm_st1_s mm_st1_r))) ?_
    refine mg_iconst (pc := 15) dL_has_15 kc_1 ?_
    exact mb_wret dL_has_16 rfl (Nat.le_refl _) (Nat.le_refl _) hr
theorem dL_hold_0 : decode cL_hold 0 = .ok (.aload 4, 2) := by decide +kernel
theorem dL_hold_2 : decode cL_hold 2 = .ok (.iconst 0, 1) := by decide +kernel
theorem dL_hold_3 : decode cL_hold 3 = .ok (.aload_n 0, 1) := by decide +kernel
theorem dL_hold_4 : decode cL_hold 4 = .ok (.iload_n 1, 1) := by decide +kernel
theorem dL_hold_5 : decode cL_hold 5 = .ok (.iload_n 2, 1) := by decide +kernel
theorem dL_hold_6 : decode cL_hold 6 = .ok (.iload_n 3, 1) := by decide +kernel
theorem dL_hold_7 : decode cL_hold 7 = .ok (.invokevirtual 52, 3) := by decide +kernel
theorem dL_hold_10 : decode cL_hold 10 = .ok (.i2l, 1) := by decide +kernel
theorem dL_hold_11 : decode cL_hold 11 = .ok (.lastore, 1) := by decide +kernel
theorem dL_hold_12 : decode cL_hold 12 = .ok (.goto 11, 3) := by decide +kernel
theorem dL_hold_15 : decode cL_hold 15 = .ok (.astore 5, 2) := by decide +kernel
theorem dL_hold_17 : decode cL_hold 17 = .ok (.iconst 1, 1) := by decide +kernel
theorem dL_hold_18 : decode cL_hold 18 = .ok (.ireturn, 1) := by decide +kernel
theorem dL_hold_19 : decode cL_hold 19 = .ok (.astore 5, 2) := by decide +kernel
theorem dL_hold_21 : decode cL_hold 21 = .ok (.iconst 2, 1) := by decide +kernel
theorem dL_hold_22 : decode cL_hold 22 = .ok (.ireturn, 1) := by decide +kernel
theorem dL_hold_23 : decode cL_hold 23 = .ok (.iconst 0, 1) := by decide +kernel
theorem dL_hold_24 : decode cL_hold 24 = .ok (.ireturn, 1) := by decide +kernel
def L_hold (e : mm_E) (a0 : Nat) (i1 : Int32) (i2 : Int32) (i3 : Int32) (a4 : Nat) (m : mm_V) : Option (Int32 × mm_V) := mm_tr (X11_hold e a0 i1 i2 i3 m) (fun rv => (mm_sj e.1 rv.2 a4 (0 : Int32) rv.1.toInt64).bind fun m2 => some ((0 : Int32), m2)) (fun q => if q.1 = "java/util/NoSuchElementException" then some ((1 : Int32), q.2) else if q.1 = "java/lang/IllegalArgumentException" then some ((2 : Int32), q.2) else none)
theorem L_hold_ok {K : mm_K} {e : mm_E} (hz : e.2.1 = K.2.2.2.2) (hnc : va_Nc "java/lang/IllegalArgumentException" "java/util/NoSuchElementException" K.2.1) {d : Nat} (hd : 12 ≤ d) {a0 : Nat} {i1 : Int32} {i2 : Int32} {i3 : Int32} {a4 : Nat} (h0 : e.1 a0 = some (11, 19)) {m : mm_V} {r : Int32 × mm_V} (hr : L_hold e a0 i1 i2 i3 a4 m = some r) : mm_CnW K ML_hold d (mm_Fw e.1 r) [.ref a0, .int i1, .int i2, .int i3, .ref a4] (e.1, m) none := by
  obtain ⟨d, rfl⟩ : ∃ d', d = d' + 1 := ⟨d - 1, by omega⟩
  refine mm_entryW (by decide) (Nat.le_of_ble_eq_true rfl) (fun hok => ?_)
  unfold L_hold at hr
  refine mg_weak (L' := [some (.ref a0), some (.int i1), some (.int i2), some (.int i3), some (.ref a4), none]) (mm_le_s (mm_le_s (mm_le_s (mm_le_s (mm_le_s (mm_le_e mm_le_0)))))) ?_
  refine ml_aload (pc := 0) dL_hold_0 (mm_get_s (mm_get_s (mm_get_s (mm_get_s mm_get_0)))) ?_
  refine mg_iconst (pc := 2) dL_hold_2 kc_0 ?_
  refine ml_aload_n (pc := 3) dL_hold_3 rfl mm_get_0 ?_
  refine ml_iload_n (pc := 4) dL_hold_4 rfl (mm_get_s mm_get_0) ?_
  refine ml_iload_n (pc := 5) dL_hold_5 rfl (mm_get_s (mm_get_s mm_get_0)) ?_
  refine ml_iload_n (pc := 6) dL_hold_6 rfl (mm_get_s (mm_get_s (mm_get_s mm_get_0))) ?_
  refine mb_tV (F := mm_Fw e.1 r) (cw := (fun v => some (.int v))) (pc := 7) (As := [.int i1, .int i2, .int i3]) (rest := [.int (0 : Int32), .ref a4]) dL_hold_7 cw_L_52 h0 hr (fun v hv => X11_hold_ok hz (by omega) h0 hv) rfl (Nat.le_of_ble_eq_true rfl) (fun rv hr => ?_) (fun E m1 hr hc => ?_)
  · refine mg_i2l (pc := 10) dL_hold_10 ?_
    refine mb_sj (pc := 11) dL_hold_11 hr (fun m2 hr => ?_)
    refine mg_goto (pc := 12) 23 dL_hold_12 rfl ?_
    refine mg_iconst (pc := 23) dL_hold_23 kc_0 ?_
    exact mb_wret dL_hold_24 rfl (Nat.zero_le _) (Nat.zero_le _) hr
  · refine mb_ite hr (fun hE hr => ?_) (fun hE2 hr => ?_)
    · subst hE
      refine mg_callVc (pc := 7) (As := [.int i1, .int i2, .int i3]) (rest := [.int (0 : Int32), .ref a4]) (name := "java/util/NoSuchElementException") (pre := []) (x := ⟨0, 12, 15, 18⟩) (suf := [⟨0, 12, 19, 13⟩]) dL_hold_7 cw_L_52 tw_1222 hc h0 rfl rfl (fun z hz => by cases hz) rfl (by decide) tw_992 tw_1009 rfl (Nat.le_of_ble_eq_true rfl) (Nat.le_refl _) (Nat.le_refl _) (fun q => ?_)
      refine ml_astore (pc := 15) dL_hold_15 (Nat.le_of_ble_eq_true rfl) (mm_st1_s (mm_st1_s (mm_st1_s (mm_st1_s mm_st1_r)))) ?_
      refine mg_iconst (pc := 17) dL_hold_17 kc_1 ?_
      exact mb_wret dL_hold_18 rfl (Nat.le_refl _) (Nat.le_refl _) hr
    refine mb_ck hr (fun hE hr => ?_)
    subst hE
    refine mg_callVc (pc := 7) (As := [.int i1, .int i2, .int i3]) (rest := [.int (0 : Int32), .ref a4]) (name := "java/lang/IllegalArgumentException") (pre := [⟨0, 12, 15, 18⟩]) (x := ⟨0, 12, 19, 13⟩) (suf := []) dL_hold_7 cw_L_52 tw_1222 hc h0 rfl rfl (fun z hz => by cases List.mem_singleton.mp hz; exact Or.inr ⟨by decide, "java/util/NoSuchElementException", tw_992, hnc⟩) rfl (by decide) tw_713 tw_720 rfl (Nat.le_of_ble_eq_true rfl) (Nat.le_refl _) (Nat.le_refl _) (fun q => ?_)
    refine ml_astore (pc := 19) dL_hold_19 (Nat.le_of_ble_eq_true rfl) (mm_st1_s (mm_st1_s (mm_st1_s (mm_st1_s mm_st1_r)))) ?_
    refine mg_iconst (pc := 21) dL_hold_21 kc_2 ?_
    exact mb_wret dL_hold_22 rfl (Nat.le_refl _) (Nat.le_refl _) hr
theorem dL_isOut_0 : decode cL_isOut 0 = .ok (.aload_n 2, 1) := by decide +kernel
theorem dL_isOut_1 : decode cL_isOut 1 = .ok (.iconst 0, 1) := by decide +kernel
theorem dL_isOut_2 : decode cL_isOut 2 = .ok (.aload_n 0, 1) := by decide +kernel
theorem dL_isOut_3 : decode cL_isOut 3 = .ok (.iload_n 1, 1) := by decide +kernel
theorem dL_isOut_4 : decode cL_isOut 4 = .ok (.invokevirtual 69, 3) := by decide +kernel
theorem dL_isOut_7 : decode cL_isOut 7 = .ok (.i2l, 1) := by decide +kernel
theorem dL_isOut_8 : decode cL_isOut 8 = .ok (.lastore, 1) := by decide +kernel
theorem dL_isOut_9 : decode cL_isOut 9 = .ok (.goto 6, 3) := by decide +kernel
theorem dL_isOut_12 : decode cL_isOut 12 = .ok (.astore_n 3, 1) := by decide +kernel
theorem dL_isOut_13 : decode cL_isOut 13 = .ok (.iconst 1, 1) := by decide +kernel
theorem dL_isOut_14 : decode cL_isOut 14 = .ok (.ireturn, 1) := by decide +kernel
theorem dL_isOut_15 : decode cL_isOut 15 = .ok (.iconst 0, 1) := by decide +kernel
theorem dL_isOut_16 : decode cL_isOut 16 = .ok (.ireturn, 1) := by decide +kernel
def L_isOut (e : mm_E) (a0 : Nat) (i1 : Int32) (a2 : Nat) (m : mm_V) : Option (Int32 × mm_V) := mm_tr (X11_isOut e a0 i1 m) (fun rv => (mm_sj e.1 rv.2 a2 (0 : Int32) rv.1.toInt64).bind fun m2 => some ((0 : Int32), m2)) (fun q => if q.1 = "java/util/NoSuchElementException" then some ((1 : Int32), q.2) else none)
theorem L_isOut_ok {K : mm_K} {e : mm_E} (hz : e.2.1 = K.2.2.2.2) (hnc : va_Nc "java/lang/IllegalArgumentException" "java/util/NoSuchElementException" K.2.1) {d : Nat} (hd : 12 ≤ d) {a0 : Nat} {i1 : Int32} {a2 : Nat} (h0 : e.1 a0 = some (11, 19)) {m : mm_V} {r : Int32 × mm_V} (hr : L_isOut e a0 i1 a2 m = some r) : mm_CnW K ML_isOut d (mm_Fw e.1 r) [.ref a0, .int i1, .ref a2] (e.1, m) none := by
  obtain ⟨d, rfl⟩ : ∃ d', d = d' + 1 := ⟨d - 1, by omega⟩
  refine mm_entryW (by decide) (Nat.le_of_ble_eq_true rfl) (fun hok => ?_)
  unfold L_isOut at hr
  refine mg_weak (L' := [some (.ref a0), some (.int i1), some (.ref a2), none]) (mm_le_s (mm_le_s (mm_le_s (mm_le_e mm_le_0)))) ?_
  refine ml_aload_n (pc := 0) dL_isOut_0 rfl (mm_get_s (mm_get_s mm_get_0)) ?_
  refine mg_iconst (pc := 1) dL_isOut_1 kc_0 ?_
  refine ml_aload_n (pc := 2) dL_isOut_2 rfl mm_get_0 ?_
  refine ml_iload_n (pc := 3) dL_isOut_3 rfl (mm_get_s mm_get_0) ?_
  refine mb_tV (F := mm_Fw e.1 r) (cw := (fun v => some (.int v))) (pc := 4) (As := [.int i1]) (rest := [.int (0 : Int32), .ref a2]) dL_isOut_4 cw_L_69 h0 hr (fun v hv => X11_isOut_ok hz (by omega) h0 hv) rfl (Nat.le_of_ble_eq_true rfl) (fun rv hr => ?_) (fun E m1 hr hc => ?_)
  · refine mg_i2l (pc := 7) dL_isOut_7 ?_
    refine mb_sj (pc := 8) dL_isOut_8 hr (fun m2 hr => ?_)
    refine mg_goto (pc := 9) 15 dL_isOut_9 rfl ?_
    refine mg_iconst (pc := 15) dL_isOut_15 kc_0 ?_
    exact mb_wret dL_isOut_16 rfl (Nat.zero_le _) (Nat.zero_le _) hr
  · refine mb_ck hr (fun hE hr => ?_)
    subst hE
    refine mg_callVc (pc := 4) (As := [.int i1]) (rest := [.int (0 : Int32), .ref a2]) (name := "java/util/NoSuchElementException") (pre := []) (x := ⟨0, 9, 12, 18⟩) (suf := []) dL_isOut_4 cw_L_69 tw_1309 hc h0 rfl rfl (fun z hz => by cases hz) rfl (by decide) tw_992 tw_1009 rfl (Nat.le_of_ble_eq_true rfl) (Nat.le_refl _) (Nat.le_refl _) (fun q => ?_)
    refine ml_astore_n (pc := 12) dL_isOut_12 rfl (Nat.le_of_ble_eq_true rfl) (mm_st1_s (mm_st1_s mm_st1_r)) ?_
    refine mg_iconst (pc := 13) dL_isOut_13 kc_1 ?_
    exact mb_wret dL_isOut_14 rfl (Nat.le_refl _) (Nat.le_refl _) hr
theorem dL_peeped_0 : decode cL_peeped 0 = .ok (.aload_n 3, 1) := by decide +kernel
theorem dL_peeped_1 : decode cL_peeped 1 = .ok (.iconst 0, 1) := by decide +kernel
theorem dL_peeped_2 : decode cL_peeped 2 = .ok (.aload_n 0, 1) := by decide +kernel
theorem dL_peeped_3 : decode cL_peeped 3 = .ok (.iload_n 1, 1) := by decide +kernel
theorem dL_peeped_4 : decode cL_peeped 4 = .ok (.iload_n 2, 1) := by decide +kernel
theorem dL_peeped_5 : decode cL_peeped 5 = .ok (.invokevirtual 48, 3) := by decide +kernel
theorem dL_peeped_8 : decode cL_peeped 8 = .ok (.lastore, 1) := by decide +kernel
theorem dL_peeped_9 : decode cL_peeped 9 = .ok (.goto 7, 3) := by decide +kernel
theorem dL_peeped_12 : decode cL_peeped 12 = .ok (.astore 4, 2) := by decide +kernel
theorem dL_peeped_14 : decode cL_peeped 14 = .ok (.iconst 1, 1) := by decide +kernel
theorem dL_peeped_15 : decode cL_peeped 15 = .ok (.ireturn, 1) := by decide +kernel
theorem dL_peeped_16 : decode cL_peeped 16 = .ok (.iconst 0, 1) := by decide +kernel
theorem dL_peeped_17 : decode cL_peeped 17 = .ok (.ireturn, 1) := by decide +kernel
def L_peeped (e : mm_E) (a0 : Nat) (i1 : Int32) (i2 : Int32) (a3 : Nat) (m : mm_V) : Option (Int32 × mm_V) := mm_tr (X11_peeped e a0 i1 i2 m) (fun rv => (mm_sj e.1 rv.2 a3 (0 : Int32) rv.1).bind fun m2 => some ((0 : Int32), m2)) (fun q => if q.1 = "java/util/NoSuchElementException" then some ((1 : Int32), q.2) else none)
theorem L_peeped_ok {K : mm_K} {e : mm_E} (hz : e.2.1 = K.2.2.2.2) (hnc : va_Nc "java/lang/IllegalArgumentException" "java/util/NoSuchElementException" K.2.1) {d : Nat} (hd : 12 ≤ d) {a0 : Nat} {i1 : Int32} {i2 : Int32} {a3 : Nat} (h0 : e.1 a0 = some (11, 19)) {m : mm_V} {r : Int32 × mm_V} (hr : L_peeped e a0 i1 i2 a3 m = some r) : mm_CnW K ML_peeped d (mm_Fw e.1 r) [.ref a0, .int i1, .int i2, .ref a3] (e.1, m) none := by
  obtain ⟨d, rfl⟩ : ∃ d', d = d' + 1 := ⟨d - 1, by omega⟩
  refine mm_entryW (by decide) (Nat.le_of_ble_eq_true rfl) (fun hok => ?_)
  unfold L_peeped at hr
  refine mg_weak (L' := [some (.ref a0), some (.int i1), some (.int i2), some (.ref a3), none]) (mm_le_s (mm_le_s (mm_le_s (mm_le_s (mm_le_e mm_le_0))))) ?_
  refine ml_aload_n (pc := 0) dL_peeped_0 rfl (mm_get_s (mm_get_s (mm_get_s mm_get_0))) ?_
  refine mg_iconst (pc := 1) dL_peeped_1 kc_0 ?_
  refine ml_aload_n (pc := 2) dL_peeped_2 rfl mm_get_0 ?_
  refine ml_iload_n (pc := 3) dL_peeped_3 rfl (mm_get_s mm_get_0) ?_
  refine ml_iload_n (pc := 4) dL_peeped_4 rfl (mm_get_s (mm_get_s mm_get_0)) ?_
  refine mb_tV (F := mm_Fw e.1 r) (cw := (fun v => some (.long v))) (pc := 5) (As := [.int i1, .int i2]) (rest := [.int (0 : Int32), .ref a3]) dL_peeped_5 cw_L_48 h0 hr (fun v hv => X11_peeped_ok hz (by omega) h0 hv) rfl (Nat.le_of_ble_eq_true rfl) (fun rv hr => ?_) (fun E m1 hr hc => ?_)
  · refine mb_sj (pc := 8) dL_peeped_8 hr (fun m2 hr => ?_)
    refine mg_goto (pc := 9) 16 dL_peeped_9 rfl ?_
    refine mg_iconst (pc := 16) dL_peeped_16 kc_0 ?_
    exact mb_wret dL_peeped_17 rfl (Nat.zero_le _) (Nat.zero_le _) hr
  · refine mb_ck hr (fun hE hr => ?_)
    subst hE
    refine mg_callVc (pc := 5) (As := [.int i1, .int i2]) (rest := [.int (0 : Int32), .ref a3]) (name := "java/util/NoSuchElementException") (pre := []) (x := ⟨0, 9, 12, 18⟩) (suf := []) dL_peeped_5 cw_L_48 tw_1215 hc h0 rfl rfl (fun z hz => by cases hz) rfl (by decide) tw_992 tw_1009 rfl (Nat.le_of_ble_eq_true rfl) (Nat.le_refl _) (Nat.le_refl _) (fun q => ?_)
    refine ml_astore (pc := 12) dL_peeped_12 (Nat.le_of_ble_eq_true rfl) (mm_st1_s (mm_st1_s (mm_st1_s mm_st1_r))) ?_
    refine mg_iconst (pc := 14) dL_peeped_14 kc_1 ?_
    exact mb_wret dL_peeped_15 rfl (Nat.le_refl _) (Nat.le_refl _) hr
theorem dL_person_0 : decode cL_person 0 = .ok (.aload_n 3, 1) := by decide +kernel
theorem dL_person_1 : decode cL_person 1 = .ok (.iconst 0, 1) := by decide +kernel
theorem dL_person_2 : decode cL_person 2 = .ok (.aload_n 0, 1) := by decide +kernel
theorem dL_person_3 : decode cL_person 3 = .ok (.iload_n 1, 1) := by decide +kernel
theorem dL_person_4 : decode cL_person 4 = .ok (.iload_n 2, 1) := by decide +kernel
theorem dL_person_5 : decode cL_person 5 = .ok (.invokevirtual 24, 3) := by decide +kernel
theorem dL_person_8 : decode cL_person 8 = .ok (.i2l, 1) := by decide +kernel
theorem dL_person_9 : decode cL_person 9 = .ok (.lastore, 1) := by decide +kernel
theorem dL_person_10 : decode cL_person 10 = .ok (.goto 7, 3) := by decide +kernel
theorem dL_person_13 : decode cL_person 13 = .ok (.astore 4, 2) := by decide +kernel
theorem dL_person_15 : decode cL_person 15 = .ok (.iconst 1, 1) := by decide +kernel
theorem dL_person_16 : decode cL_person 16 = .ok (.ireturn, 1) := by decide +kernel
theorem dL_person_17 : decode cL_person 17 = .ok (.iconst 0, 1) := by decide +kernel
theorem dL_person_18 : decode cL_person 18 = .ok (.ireturn, 1) := by decide +kernel
def L_person (e : mm_E) (a0 : Nat) (i1 : Int32) (i2 : Int32) (a3 : Nat) (m : mm_V) : Option (Int32 × mm_V) := mm_tr (X11_person e a0 i1 i2 m) (fun rv => (mm_sj e.1 rv.2 a3 (0 : Int32) rv.1.toInt64).bind fun m2 => some ((0 : Int32), m2)) (fun q => if q.1 = "java/util/NoSuchElementException" then some ((1 : Int32), q.2) else none)
theorem L_person_ok {K : mm_K} {e : mm_E} (hz : e.2.1 = K.2.2.2.2) (hnc : va_Nc "java/lang/IllegalArgumentException" "java/util/NoSuchElementException" K.2.1) {d : Nat} (hd : 12 ≤ d) {a0 : Nat} {i1 : Int32} {i2 : Int32} {a3 : Nat} (h0 : e.1 a0 = some (11, 19)) {m : mm_V} {r : Int32 × mm_V} (hr : L_person e a0 i1 i2 a3 m = some r) : mm_CnW K ML_person d (mm_Fw e.1 r) [.ref a0, .int i1, .int i2, .ref a3] (e.1, m) none := by
  obtain ⟨d, rfl⟩ : ∃ d', d = d' + 1 := ⟨d - 1, by omega⟩
  refine mm_entryW (by decide) (Nat.le_of_ble_eq_true rfl) (fun hok => ?_)
  unfold L_person at hr
  refine mg_weak (L' := [some (.ref a0), some (.int i1), some (.int i2), some (.ref a3), none]) (mm_le_s (mm_le_s (mm_le_s (mm_le_s (mm_le_e mm_le_0))))) ?_
  refine ml_aload_n (pc := 0) dL_person_0 rfl (mm_get_s (mm_get_s (mm_get_s mm_get_0))) ?_
  refine mg_iconst (pc := 1) dL_person_1 kc_0 ?_
  refine ml_aload_n (pc := 2) dL_person_2 rfl mm_get_0 ?_
  refine ml_iload_n (pc := 3) dL_person_3 rfl (mm_get_s mm_get_0) ?_
  refine ml_iload_n (pc := 4) dL_person_4 rfl (mm_get_s (mm_get_s mm_get_0)) ?_
  refine mb_tV (F := mm_Fw e.1 r) (cw := (fun v => some (.int v))) (pc := 5) (As := [.int i1, .int i2]) (rest := [.int (0 : Int32), .ref a3]) dL_person_5 cw_L_24 h0 hr (fun v hv => X11_person_ok hz (by omega) h0 hv) rfl (Nat.le_of_ble_eq_true rfl) (fun rv hr => ?_) (fun E m1 hr hc => ?_)
  · refine mg_i2l (pc := 8) dL_person_8 ?_
    refine mb_sj (pc := 9) dL_person_9 hr (fun m2 hr => ?_)
    refine mg_goto (pc := 10) 17 dL_person_10 rfl ?_
    refine mg_iconst (pc := 17) dL_person_17 kc_0 ?_
    exact mb_wret dL_person_18 rfl (Nat.zero_le _) (Nat.zero_le _) hr
  · refine mb_ck hr (fun hE hr => ?_)
    subst hE
    refine mg_callVc (pc := 5) (As := [.int i1, .int i2]) (rest := [.int (0 : Int32), .ref a3]) (name := "java/util/NoSuchElementException") (pre := []) (x := ⟨0, 10, 13, 18⟩) (suf := []) dL_person_5 cw_L_24 tw_1044 hc h0 rfl rfl (fun z hz => by cases hz) rfl (by decide) tw_992 tw_1009 rfl (Nat.le_of_ble_eq_true rfl) (Nat.le_refl _) (Nat.le_refl _) (fun q => ?_)
    refine ml_astore (pc := 13) dL_person_13 (Nat.le_of_ble_eq_true rfl) (mm_st1_s (mm_st1_s (mm_st1_s mm_st1_r))) ?_
    refine mg_iconst (pc := 15) dL_person_15 kc_1 ?_
    exact mb_wret dL_person_16 rfl (Nat.le_refl _) (Nat.le_refl _) hr
theorem dL_play_0 : decode cL_play 0 = .ok (.aload_n 2, 1) := by decide +kernel
theorem dL_play_1 : decode cL_play 1 = .ok (.iconst 0, 1) := by decide +kernel
theorem dL_play_2 : decode cL_play 2 = .ok (.aload_n 0, 1) := by decide +kernel
theorem dL_play_3 : decode cL_play 3 = .ok (.iload_n 1, 1) := by decide +kernel
theorem dL_play_4 : decode cL_play 4 = .ok (.invokevirtual 27, 3) := by decide +kernel
theorem dL_play_7 : decode cL_play 7 = .ok (.i2l, 1) := by decide +kernel
theorem dL_play_8 : decode cL_play 8 = .ok (.lastore, 1) := by decide +kernel
theorem dL_play_9 : decode cL_play 9 = .ok (.goto 6, 3) := by decide +kernel
theorem dL_play_12 : decode cL_play 12 = .ok (.astore_n 3, 1) := by decide +kernel
theorem dL_play_13 : decode cL_play 13 = .ok (.iconst 1, 1) := by decide +kernel
theorem dL_play_14 : decode cL_play 14 = .ok (.ireturn, 1) := by decide +kernel
theorem dL_play_15 : decode cL_play 15 = .ok (.iconst 0, 1) := by decide +kernel
theorem dL_play_16 : decode cL_play 16 = .ok (.ireturn, 1) := by decide +kernel
def L_play (e : mm_E) (a0 : Nat) (i1 : Int32) (a2 : Nat) (m : mm_V) : Option (Int32 × mm_V) := mm_tr (X11_play e a0 i1 m) (fun rv => (mm_sj e.1 rv.2 a2 (0 : Int32) rv.1.toInt64).bind fun m2 => some ((0 : Int32), m2)) (fun q => if q.1 = "java/lang/IllegalArgumentException" then some ((1 : Int32), q.2) else none)
theorem L_play_ok {K : mm_K} {e : mm_E} (hz : e.2.1 = K.2.2.2.2) (hnc : va_Nc "java/lang/IllegalArgumentException" "java/util/NoSuchElementException" K.2.1) {d : Nat} (hd : 11 ≤ d) {a0 : Nat} {i1 : Int32} {a2 : Nat} (h0 : e.1 a0 = some (11, 19)) {m : mm_V} {r : Int32 × mm_V} (hr : L_play e a0 i1 a2 m = some r) : mm_CnW K ML_play d (mm_Fw e.1 r) [.ref a0, .int i1, .ref a2] (e.1, m) none := by
  obtain ⟨d, rfl⟩ : ∃ d', d = d' + 1 := ⟨d - 1, by omega⟩
  refine mm_entryW (by decide) (Nat.le_of_ble_eq_true rfl) (fun hok => ?_)
  unfold L_play at hr
  refine mg_weak (L' := [some (.ref a0), some (.int i1), some (.ref a2), none]) (mm_le_s (mm_le_s (mm_le_s (mm_le_e mm_le_0)))) ?_
  refine ml_aload_n (pc := 0) dL_play_0 rfl (mm_get_s (mm_get_s mm_get_0)) ?_
  refine mg_iconst (pc := 1) dL_play_1 kc_0 ?_
  refine ml_aload_n (pc := 2) dL_play_2 rfl mm_get_0 ?_
  refine ml_iload_n (pc := 3) dL_play_3 rfl (mm_get_s mm_get_0) ?_
  refine mb_tV (F := mm_Fw e.1 r) (cw := (fun v => some (.int v))) (pc := 4) (As := [.int i1]) (rest := [.int (0 : Int32), .ref a2]) dL_play_4 cw_L_27 h0 hr (fun v hv => X11_play_ok hz (by omega) h0 hv) rfl (Nat.le_of_ble_eq_true rfl) (fun rv hr => ?_) (fun E m1 hr hc => ?_)
  · refine mg_i2l (pc := 7) dL_play_7 ?_
    refine mb_sj (pc := 8) dL_play_8 hr (fun m2 hr => ?_)
    refine mg_goto (pc := 9) 15 dL_play_9 rfl ?_
    refine mg_iconst (pc := 15) dL_play_15 kc_0 ?_
    exact mb_wret dL_play_16 rfl (Nat.zero_le _) (Nat.zero_le _) hr
  · refine mb_ck hr (fun hE hr => ?_)
    subst hE
    refine mg_callVc (pc := 4) (As := [.int i1]) (rest := [.int (0 : Int32), .ref a2]) (name := "java/lang/IllegalArgumentException") (pre := []) (x := ⟨0, 9, 12, 13⟩) (suf := []) dL_play_4 cw_L_27 tw_1060 hc h0 rfl rfl (fun z hz => by cases hz) rfl (by decide) tw_713 tw_720 rfl (Nat.le_of_ble_eq_true rfl) (Nat.le_refl _) (Nat.le_refl _) (fun q => ?_)
    refine ml_astore_n (pc := 12) dL_play_12 rfl (Nat.le_of_ble_eq_true rfl) (mm_st1_s (mm_st1_s mm_st1_r)) ?_
    refine mg_iconst (pc := 13) dL_play_13 kc_1 ?_
    exact mb_wret dL_play_14 rfl (Nat.le_refl _) (Nat.le_refl _) hr
theorem dL_rank_0 : decode cL_rank 0 = .ok (.aload_n 2, 1) := by decide +kernel
theorem dL_rank_1 : decode cL_rank 1 = .ok (.iconst 0, 1) := by decide +kernel
theorem dL_rank_2 : decode cL_rank 2 = .ok (.aload_n 0, 1) := by decide +kernel
theorem dL_rank_3 : decode cL_rank 3 = .ok (.iload_n 1, 1) := by decide +kernel
theorem dL_rank_4 : decode cL_rank 4 = .ok (.invokevirtual 72, 3) := by decide +kernel
theorem dL_rank_7 : decode cL_rank 7 = .ok (.i2l, 1) := by decide +kernel
theorem dL_rank_8 : decode cL_rank 8 = .ok (.lastore, 1) := by decide +kernel
theorem dL_rank_9 : decode cL_rank 9 = .ok (.goto 6, 3) := by decide +kernel
theorem dL_rank_12 : decode cL_rank 12 = .ok (.astore_n 3, 1) := by decide +kernel
theorem dL_rank_13 : decode cL_rank 13 = .ok (.iconst 1, 1) := by decide +kernel
theorem dL_rank_14 : decode cL_rank 14 = .ok (.ireturn, 1) := by decide +kernel
theorem dL_rank_15 : decode cL_rank 15 = .ok (.iconst 0, 1) := by decide +kernel
theorem dL_rank_16 : decode cL_rank 16 = .ok (.ireturn, 1) := by decide +kernel
def L_rank (e : mm_E) (a0 : Nat) (i1 : Int32) (a2 : Nat) (m : mm_V) : Option (Int32 × mm_V) := mm_tr (X11_rank e a0 i1 m) (fun rv => (mm_sj e.1 rv.2 a2 (0 : Int32) rv.1.toInt64).bind fun m2 => some ((0 : Int32), m2)) (fun q => if q.1 = "java/util/NoSuchElementException" then some ((1 : Int32), q.2) else none)
theorem L_rank_ok {K : mm_K} {e : mm_E} (hz : e.2.1 = K.2.2.2.2) (hnc : va_Nc "java/lang/IllegalArgumentException" "java/util/NoSuchElementException" K.2.1) {d : Nat} (hd : 12 ≤ d) {a0 : Nat} {i1 : Int32} {a2 : Nat} (h0 : e.1 a0 = some (11, 19)) {m : mm_V} {r : Int32 × mm_V} (hr : L_rank e a0 i1 a2 m = some r) : mm_CnW K ML_rank d (mm_Fw e.1 r) [.ref a0, .int i1, .ref a2] (e.1, m) none := by
  obtain ⟨d, rfl⟩ : ∃ d', d = d' + 1 := ⟨d - 1, by omega⟩
  refine mm_entryW (by decide) (Nat.le_of_ble_eq_true rfl) (fun hok => ?_)
  unfold L_rank at hr
  refine mg_weak (L' := [some (.ref a0), some (.int i1), some (.ref a2), none]) (mm_le_s (mm_le_s (mm_le_s (mm_le_e mm_le_0)))) ?_
  refine ml_aload_n (pc := 0) dL_rank_0 rfl (mm_get_s (mm_get_s mm_get_0)) ?_
  refine mg_iconst (pc := 1) dL_rank_1 kc_0 ?_
  refine ml_aload_n (pc := 2) dL_rank_2 rfl mm_get_0 ?_
  refine ml_iload_n (pc := 3) dL_rank_3 rfl (mm_get_s mm_get_0) ?_
  refine mb_tV (F := mm_Fw e.1 r) (cw := (fun v => some (.int v))) (pc := 4) (As := [.int i1]) (rest := [.int (0 : Int32), .ref a2]) dL_rank_4 cw_L_72 h0 hr (fun v hv => X11_rank_ok hz (by omega) h0 hv) rfl (Nat.le_of_ble_eq_true rfl) (fun rv hr => ?_) (fun E m1 hr hc => ?_)
  · refine mg_i2l (pc := 7) dL_rank_7 ?_
    refine mb_sj (pc := 8) dL_rank_8 hr (fun m2 hr => ?_)
    refine mg_goto (pc := 9) 15 dL_rank_9 rfl ?_
    refine mg_iconst (pc := 15) dL_rank_15 kc_0 ?_
    exact mb_wret dL_rank_16 rfl (Nat.zero_le _) (Nat.zero_le _) hr
  · refine mb_ck hr (fun hE hr => ?_)
    subst hE
    refine mg_callVc (pc := 4) (As := [.int i1]) (rest := [.int (0 : Int32), .ref a2]) (name := "java/util/NoSuchElementException") (pre := []) (x := ⟨0, 9, 12, 18⟩) (suf := []) dL_rank_4 cw_L_72 tw_1320 hc h0 rfl rfl (fun z hz => by cases hz) rfl (by decide) tw_992 tw_1009 rfl (Nat.le_of_ble_eq_true rfl) (Nat.le_refl _) (Nat.le_refl _) (fun q => ?_)
    refine ml_astore_n (pc := 12) dL_rank_12 rfl (Nat.le_of_ble_eq_true rfl) (mm_st1_s (mm_st1_s mm_st1_r)) ?_
    refine mg_iconst (pc := 13) dL_rank_13 kc_1 ?_
    exact mb_wret dL_rank_14 rfl (Nat.le_refl _) (Nat.le_refl _) hr
theorem dL_seats_0 : decode cL_seats 0 = .ok (.aload_n 3, 1) := by decide +kernel
theorem dL_seats_1 : decode cL_seats 1 = .ok (.iconst 0, 1) := by decide +kernel
theorem dL_seats_2 : decode cL_seats 2 = .ok (.aload_n 0, 1) := by decide +kernel
theorem dL_seats_3 : decode cL_seats 3 = .ok (.iload_n 1, 1) := by decide +kernel
theorem dL_seats_4 : decode cL_seats 4 = .ok (.iload_n 2, 1) := by decide +kernel
theorem dL_seats_5 : decode cL_seats 5 = .ok (.invokevirtual 59, 3) := by decide +kernel
theorem dL_seats_8 : decode cL_seats 8 = .ok (.i2l, 1) := by decide +kernel
theorem dL_seats_9 : decode cL_seats 9 = .ok (.lastore, 1) := by decide +kernel
theorem dL_seats_10 : decode cL_seats 10 = .ok (.goto 7, 3) := by decide +kernel
theorem dL_seats_13 : decode cL_seats 13 = .ok (.astore 4, 2) := by decide +kernel
theorem dL_seats_15 : decode cL_seats 15 = .ok (.iconst 1, 1) := by decide +kernel
theorem dL_seats_16 : decode cL_seats 16 = .ok (.ireturn, 1) := by decide +kernel
theorem dL_seats_17 : decode cL_seats 17 = .ok (.iconst 0, 1) := by decide +kernel
theorem dL_seats_18 : decode cL_seats 18 = .ok (.ireturn, 1) := by decide +kernel
def L_seats (e : mm_E) (a0 : Nat) (i1 : Int32) (i2 : Int32) (a3 : Nat) (m : mm_V) : Option (Int32 × mm_V) := mm_tr (X11_seats e a0 i1 i2 m) (fun rv => (mm_sj e.1 rv.2 a3 (0 : Int32) rv.1.toInt64).bind fun m2 => some ((0 : Int32), m2)) (fun q => if q.1 = "java/util/NoSuchElementException" then some ((1 : Int32), q.2) else none)
theorem L_seats_ok {K : mm_K} {e : mm_E} (hz : e.2.1 = K.2.2.2.2) (hnc : va_Nc "java/lang/IllegalArgumentException" "java/util/NoSuchElementException" K.2.1) {d : Nat} (hd : 12 ≤ d) {a0 : Nat} {i1 : Int32} {i2 : Int32} {a3 : Nat} (h0 : e.1 a0 = some (11, 19)) {m : mm_V} {r : Int32 × mm_V} (hr : L_seats e a0 i1 i2 a3 m = some r) : mm_CnW K ML_seats d (mm_Fw e.1 r) [.ref a0, .int i1, .int i2, .ref a3] (e.1, m) none := by
  obtain ⟨d, rfl⟩ : ∃ d', d = d' + 1 := ⟨d - 1, by omega⟩
  refine mm_entryW (by decide) (Nat.le_of_ble_eq_true rfl) (fun hok => ?_)
  unfold L_seats at hr
  refine mg_weak (L' := [some (.ref a0), some (.int i1), some (.int i2), some (.ref a3), none]) (mm_le_s (mm_le_s (mm_le_s (mm_le_s (mm_le_e mm_le_0))))) ?_
  refine ml_aload_n (pc := 0) dL_seats_0 rfl (mm_get_s (mm_get_s (mm_get_s mm_get_0))) ?_
  refine mg_iconst (pc := 1) dL_seats_1 kc_0 ?_
  refine ml_aload_n (pc := 2) dL_seats_2 rfl mm_get_0 ?_
  refine ml_iload_n (pc := 3) dL_seats_3 rfl (mm_get_s mm_get_0) ?_
  refine ml_iload_n (pc := 4) dL_seats_4 rfl (mm_get_s (mm_get_s mm_get_0)) ?_
  refine mb_tV (F := mm_Fw e.1 r) (cw := (fun v => some (.int v))) (pc := 5) (As := [.int i1, .int i2]) (rest := [.int (0 : Int32), .ref a3]) dL_seats_5 cw_L_59 h0 hr (fun v hv => X11_seats_ok hz (by omega) h0 hv) rfl (Nat.le_of_ble_eq_true rfl) (fun rv hr => ?_) (fun E m1 hr hc => ?_)
  · refine mg_i2l (pc := 8) dL_seats_8 ?_
    refine mb_sj (pc := 9) dL_seats_9 hr (fun m2 hr => ?_)
    refine mg_goto (pc := 10) 17 dL_seats_10 rfl ?_
    refine mg_iconst (pc := 17) dL_seats_17 kc_0 ?_
    exact mb_wret dL_seats_18 rfl (Nat.zero_le _) (Nat.zero_le _) hr
  · refine mb_ck hr (fun hE hr => ?_)
    subst hE
    refine mg_callVc (pc := 5) (As := [.int i1, .int i2]) (rest := [.int (0 : Int32), .ref a3]) (name := "java/util/NoSuchElementException") (pre := []) (x := ⟨0, 10, 13, 18⟩) (suf := []) dL_seats_5 cw_L_59 tw_1240 hc h0 rfl rfl (fun z hz => by cases hz) rfl (by decide) tw_992 tw_1009 rfl (Nat.le_of_ble_eq_true rfl) (Nat.le_refl _) (Nat.le_refl _) (fun q => ?_)
    refine ml_astore (pc := 13) dL_seats_13 (Nat.le_of_ble_eq_true rfl) (mm_st1_s (mm_st1_s (mm_st1_s mm_st1_r))) ?_
    refine mg_iconst (pc := 15) dL_seats_15 kc_1 ?_
    exact mb_wret dL_seats_16 rfl (Nat.le_refl _) (Nat.le_refl _) hr
theorem dL_table_0 : decode cL_table 0 = .ok (.aload_n 2, 1) := by decide +kernel
theorem dL_table_1 : decode cL_table 1 = .ok (.iconst 0, 1) := by decide +kernel
theorem dL_table_2 : decode cL_table 2 = .ok (.aload_n 0, 1) := by decide +kernel
theorem dL_table_3 : decode cL_table 3 = .ok (.iload_n 1, 1) := by decide +kernel
theorem dL_table_4 : decode cL_table 4 = .ok (.invokevirtual 7, 3) := by decide +kernel
theorem dL_table_7 : decode cL_table 7 = .ok (.i2l, 1) := by decide +kernel
theorem dL_table_8 : decode cL_table 8 = .ok (.lastore, 1) := by decide +kernel
theorem dL_table_9 : decode cL_table 9 = .ok (.goto 6, 3) := by decide +kernel
theorem dL_table_12 : decode cL_table 12 = .ok (.astore_n 3, 1) := by decide +kernel
theorem dL_table_13 : decode cL_table 13 = .ok (.iconst 1, 1) := by decide +kernel
theorem dL_table_14 : decode cL_table 14 = .ok (.ireturn, 1) := by decide +kernel
theorem dL_table_15 : decode cL_table 15 = .ok (.iconst 0, 1) := by decide +kernel
theorem dL_table_16 : decode cL_table 16 = .ok (.ireturn, 1) := by decide +kernel
def L_table (e : mm_E) (a0 : Nat) (i1 : Int32) (a2 : Nat) (m : mm_V) : Option (Int32 × mm_V) := mm_tr (X11_table e a0 i1 m) (fun rv => (mm_sj e.1 rv.2 a2 (0 : Int32) rv.1.toInt64).bind fun m2 => some ((0 : Int32), m2)) (fun q => if q.1 = "java/lang/IllegalArgumentException" then some ((1 : Int32), q.2) else none)
theorem L_table_ok {K : mm_K} {e : mm_E} (hz : e.2.1 = K.2.2.2.2) (hnc : va_Nc "java/lang/IllegalArgumentException" "java/util/NoSuchElementException" K.2.1) {d : Nat} (hd : 16 ≤ d) {a0 : Nat} {i1 : Int32} {a2 : Nat} (h0 : e.1 a0 = some (11, 19)) {m : mm_V} {r : Int32 × mm_V} (hr : L_table e a0 i1 a2 m = some r) : mm_CnW K ML_table d (mm_Fw e.1 r) [.ref a0, .int i1, .ref a2] (e.1, m) none := by
  obtain ⟨d, rfl⟩ : ∃ d', d = d' + 1 := ⟨d - 1, by omega⟩
  refine mm_entryW (by decide) (Nat.le_of_ble_eq_true rfl) (fun hok => ?_)
  unfold L_table at hr
  refine mg_weak (L' := [some (.ref a0), some (.int i1), some (.ref a2), none]) (mm_le_s (mm_le_s (mm_le_s (mm_le_e mm_le_0)))) ?_
  refine ml_aload_n (pc := 0) dL_table_0 rfl (mm_get_s (mm_get_s mm_get_0)) ?_
  refine mg_iconst (pc := 1) dL_table_1 kc_0 ?_
  refine ml_aload_n (pc := 2) dL_table_2 rfl mm_get_0 ?_
  refine ml_iload_n (pc := 3) dL_table_3 rfl (mm_get_s mm_get_0) ?_
  refine mb_tV (F := mm_Fw e.1 r) (cw := (fun v => some (.int v))) (pc := 4) (As := [.int i1]) (rest := [.int (0 : Int32), .ref a2]) dL_table_4 cw_L_7 h0 hr (fun v hv => X11_table_ok hz (by omega) h0 hv) rfl (Nat.le_of_ble_eq_true rfl) (fun rv hr => ?_) (fun E m1 hr hc => ?_)
  · refine mg_i2l (pc := 7) dL_table_7 ?_
    refine mb_sj (pc := 8) dL_table_8 hr (fun m2 hr => ?_)
    refine mg_goto (pc := 9) 15 dL_table_9 rfl ?_
    refine mg_iconst (pc := 15) dL_table_15 kc_0 ?_
    exact mb_wret dL_table_16 rfl (Nat.zero_le _) (Nat.zero_le _) hr
  · refine mb_ck hr (fun hE hr => ?_)
    subst hE
    refine mg_callVc (pc := 4) (As := [.int i1]) (rest := [.int (0 : Int32), .ref a2]) (name := "java/lang/IllegalArgumentException") (pre := []) (x := ⟨0, 9, 12, 13⟩) (suf := []) dL_table_4 cw_L_7 tw_714 hc h0 rfl rfl (fun z hz => by cases hz) rfl (by decide) tw_713 tw_720 rfl (Nat.le_of_ble_eq_true rfl) (Nat.le_refl _) (Nat.le_refl _) (fun q => ?_)
    refine ml_astore_n (pc := 12) dL_table_12 rfl (Nat.le_of_ble_eq_true rfl) (mm_st1_s (mm_st1_s mm_st1_r)) ?_
    refine mg_iconst (pc := 13) dL_table_13 kc_1 ?_
    exact mb_wret dL_table_14 rfl (Nat.le_refl _) (Nat.le_refl _) hr
theorem dL_two_0 : decode cL_two 0 = .ok (.aload 4, 2) := by decide +kernel
theorem dL_two_2 : decode cL_two 2 = .ok (.iconst 0, 1) := by decide +kernel
theorem dL_two_3 : decode cL_two 3 = .ok (.aload_n 0, 1) := by decide +kernel
theorem dL_two_4 : decode cL_two 4 = .ok (.iload_n 1, 1) := by decide +kernel
theorem dL_two_5 : decode cL_two 5 = .ok (.iload_n 2, 1) := by decide +kernel
theorem dL_two_6 : decode cL_two 6 = .ok (.iload_n 3, 1) := by decide +kernel
theorem dL_two_7 : decode cL_two 7 = .ok (.invokevirtual 41, 3) := by decide +kernel
theorem dL_two_10 : decode cL_two 10 = .ok (.lastore, 1) := by decide +kernel
theorem dL_two_11 : decode cL_two 11 = .ok (.goto 11, 3) := by decide +kernel
theorem dL_two_14 : decode cL_two 14 = .ok (.astore 5, 2) := by decide +kernel
theorem dL_two_16 : decode cL_two 16 = .ok (.iconst 1, 1) := by decide +kernel
theorem dL_two_17 : decode cL_two 17 = .ok (.ireturn, 1) := by decide +kernel
theorem dL_two_18 : decode cL_two 18 = .ok (.astore 5, 2) := by decide +kernel
theorem dL_two_20 : decode cL_two 20 = .ok (.iconst 2, 1) := by decide +kernel
theorem dL_two_21 : decode cL_two 21 = .ok (.ireturn, 1) := by decide +kernel
theorem dL_two_22 : decode cL_two 22 = .ok (.iconst 0, 1) := by decide +kernel
theorem dL_two_23 : decode cL_two 23 = .ok (.ireturn, 1) := by decide +kernel
def L_two (e : mm_E) (a0 : Nat) (i1 : Int32) (i2 : Int32) (i3 : Int32) (a4 : Nat) (m : mm_V) : Option (Int32 × mm_V) := mm_tr (X11_two e a0 i1 i2 i3 m) (fun rv => (mm_sj e.1 rv.2 a4 (0 : Int32) rv.1).bind fun m2 => some ((0 : Int32), m2)) (fun q => if q.1 = "java/util/NoSuchElementException" then some ((1 : Int32), q.2) else if q.1 = "java/lang/IllegalArgumentException" then some ((2 : Int32), q.2) else none)
theorem L_two_ok {K : mm_K} {e : mm_E} (hz : e.2.1 = K.2.2.2.2) (hnc : va_Nc "java/lang/IllegalArgumentException" "java/util/NoSuchElementException" K.2.1) {d : Nat} (hd : 11 ≤ d) {a0 : Nat} {i1 : Int32} {i2 : Int32} {i3 : Int32} {a4 : Nat} (h0 : e.1 a0 = some (11, 19)) {m : mm_V} {r : Int32 × mm_V} (hr : L_two e a0 i1 i2 i3 a4 m = some r) : mm_CnW K ML_two d (mm_Fw e.1 r) [.ref a0, .int i1, .int i2, .int i3, .ref a4] (e.1, m) none := by
  obtain ⟨d, rfl⟩ : ∃ d', d = d' + 1 := ⟨d - 1, by omega⟩
  refine mm_entryW (by decide) (Nat.le_of_ble_eq_true rfl) (fun hok => ?_)
  unfold L_two at hr
  refine mg_weak (L' := [some (.ref a0), some (.int i1), some (.int i2), some (.int i3), some (.ref a4), none]) (mm_le_s (mm_le_s (mm_le_s (mm_le_s (mm_le_s (mm_le_e mm_le_0)))))) ?_
  refine ml_aload (pc := 0) dL_two_0 (mm_get_s (mm_get_s (mm_get_s (mm_get_s mm_get_0)))) ?_
  refine mg_iconst (pc := 2) dL_two_2 kc_0 ?_
  refine ml_aload_n (pc := 3) dL_two_3 rfl mm_get_0 ?_
  refine ml_iload_n (pc := 4) dL_two_4 rfl (mm_get_s mm_get_0) ?_
  refine ml_iload_n (pc := 5) dL_two_5 rfl (mm_get_s (mm_get_s mm_get_0)) ?_
  refine ml_iload_n (pc := 6) dL_two_6 rfl (mm_get_s (mm_get_s (mm_get_s mm_get_0))) ?_
  refine mb_tV (F := mm_Fw e.1 r) (cw := (fun v => some (.long v))) (pc := 7) (As := [.int i1, .int i2, .int i3]) (rest := [.int (0 : Int32), .ref a4]) dL_two_7 cw_L_41 h0 hr (fun v hv => X11_two_ok hz (by omega) h0 hv) rfl (Nat.le_of_ble_eq_true rfl) (fun rv hr => ?_) (fun E m1 hr hc => ?_)
  · refine mb_sj (pc := 10) dL_two_10 hr (fun m2 hr => ?_)
    refine mg_goto (pc := 11) 22 dL_two_11 rfl ?_
    refine mg_iconst (pc := 22) dL_two_22 kc_0 ?_
    exact mb_wret dL_two_23 rfl (Nat.zero_le _) (Nat.zero_le _) hr
  · refine mb_ite hr (fun hE hr => ?_) (fun hE2 hr => ?_)
    · subst hE
      refine mg_callVc (pc := 7) (As := [.int i1, .int i2, .int i3]) (rest := [.int (0 : Int32), .ref a4]) (name := "java/util/NoSuchElementException") (pre := []) (x := ⟨0, 11, 14, 18⟩) (suf := [⟨0, 11, 18, 13⟩]) dL_two_7 cw_L_41 tw_1146 hc h0 rfl rfl (fun z hz => by cases hz) rfl (by decide) tw_992 tw_1009 rfl (Nat.le_of_ble_eq_true rfl) (Nat.le_refl _) (Nat.le_refl _) (fun q => ?_)
      refine ml_astore (pc := 14) dL_two_14 (Nat.le_of_ble_eq_true rfl) (mm_st1_s (mm_st1_s (mm_st1_s (mm_st1_s mm_st1_r)))) ?_
      refine mg_iconst (pc := 16) dL_two_16 kc_1 ?_
      exact mb_wret dL_two_17 rfl (Nat.le_refl _) (Nat.le_refl _) hr
    refine mb_ck hr (fun hE hr => ?_)
    subst hE
    refine mg_callVc (pc := 7) (As := [.int i1, .int i2, .int i3]) (rest := [.int (0 : Int32), .ref a4]) (name := "java/lang/IllegalArgumentException") (pre := [⟨0, 11, 14, 18⟩]) (x := ⟨0, 11, 18, 13⟩) (suf := []) dL_two_7 cw_L_41 tw_1146 hc h0 rfl rfl (fun z hz => by cases List.mem_singleton.mp hz; exact Or.inr ⟨by decide, "java/util/NoSuchElementException", tw_992, hnc⟩) rfl (by decide) tw_713 tw_720 rfl (Nat.le_of_ble_eq_true rfl) (Nat.le_refl _) (Nat.le_refl _) (fun q => ?_)
    refine ml_astore (pc := 18) dL_two_18 (Nat.le_of_ble_eq_true rfl) (mm_st1_s (mm_st1_s (mm_st1_s (mm_st1_s mm_st1_r)))) ?_
    refine mg_iconst (pc := 20) dL_two_20 kc_2 ?_
    exact mb_wret dL_two_21 rfl (Nat.le_refl _) (Nat.le_refl _) hr
theorem dL_wouldLose_0 : decode cL_wouldLose 0 = .ok (.aload_n 2, 1) := by decide +kernel
theorem dL_wouldLose_1 : decode cL_wouldLose 1 = .ok (.iconst 0, 1) := by decide +kernel
theorem dL_wouldLose_2 : decode cL_wouldLose 2 = .ok (.aload_n 0, 1) := by decide +kernel
theorem dL_wouldLose_3 : decode cL_wouldLose 3 = .ok (.iload_n 1, 1) := by decide +kernel
theorem dL_wouldLose_4 : decode cL_wouldLose 4 = .ok (.invokevirtual 66, 3) := by decide +kernel
theorem dL_wouldLose_7 : decode cL_wouldLose 7 = .ok (.i2l, 1) := by decide +kernel
theorem dL_wouldLose_8 : decode cL_wouldLose 8 = .ok (.lastore, 1) := by decide +kernel
theorem dL_wouldLose_9 : decode cL_wouldLose 9 = .ok (.goto 6, 3) := by decide +kernel
theorem dL_wouldLose_12 : decode cL_wouldLose 12 = .ok (.astore_n 3, 1) := by decide +kernel
theorem dL_wouldLose_13 : decode cL_wouldLose 13 = .ok (.iconst 1, 1) := by decide +kernel
theorem dL_wouldLose_14 : decode cL_wouldLose 14 = .ok (.ireturn, 1) := by decide +kernel
theorem dL_wouldLose_15 : decode cL_wouldLose 15 = .ok (.iconst 0, 1) := by decide +kernel
theorem dL_wouldLose_16 : decode cL_wouldLose 16 = .ok (.ireturn, 1) := by decide +kernel
def L_wouldLose (e : mm_E) (a0 : Nat) (i1 : Int32) (a2 : Nat) (m : mm_V) : Option (Int32 × mm_V) := mm_tr (X11_wouldLose e a0 i1 m) (fun rv => (mm_sj e.1 rv.2 a2 (0 : Int32) rv.1.toInt64).bind fun m2 => some ((0 : Int32), m2)) (fun q => if q.1 = "java/util/NoSuchElementException" then some ((1 : Int32), q.2) else none)
theorem L_wouldLose_ok {K : mm_K} {e : mm_E} (hz : e.2.1 = K.2.2.2.2) (hnc : va_Nc "java/lang/IllegalArgumentException" "java/util/NoSuchElementException" K.2.1) {d : Nat} (hd : 11 ≤ d) {a0 : Nat} {i1 : Int32} {a2 : Nat} (h0 : e.1 a0 = some (11, 19)) {m : mm_V} {r : Int32 × mm_V} (hr : L_wouldLose e a0 i1 a2 m = some r) : mm_CnW K ML_wouldLose d (mm_Fw e.1 r) [.ref a0, .int i1, .ref a2] (e.1, m) none := by
  obtain ⟨d, rfl⟩ : ∃ d', d = d' + 1 := ⟨d - 1, by omega⟩
  refine mm_entryW (by decide) (Nat.le_of_ble_eq_true rfl) (fun hok => ?_)
  unfold L_wouldLose at hr
  refine mg_weak (L' := [some (.ref a0), some (.int i1), some (.ref a2), none]) (mm_le_s (mm_le_s (mm_le_s (mm_le_e mm_le_0)))) ?_
  refine ml_aload_n (pc := 0) dL_wouldLose_0 rfl (mm_get_s (mm_get_s mm_get_0)) ?_
  refine mg_iconst (pc := 1) dL_wouldLose_1 kc_0 ?_
  refine ml_aload_n (pc := 2) dL_wouldLose_2 rfl mm_get_0 ?_
  refine ml_iload_n (pc := 3) dL_wouldLose_3 rfl (mm_get_s mm_get_0) ?_
  refine mb_tV (F := mm_Fw e.1 r) (cw := (fun v => some (.int v))) (pc := 4) (As := [.int i1]) (rest := [.int (0 : Int32), .ref a2]) dL_wouldLose_4 cw_L_66 h0 hr (fun v hv => X11_wouldLose_ok hz (by omega) h0 hv) rfl (Nat.le_of_ble_eq_true rfl) (fun rv hr => ?_) (fun E m1 hr hc => ?_)
  · refine mg_i2l (pc := 7) dL_wouldLose_7 ?_
    refine mb_sj (pc := 8) dL_wouldLose_8 hr (fun m2 hr => ?_)
    refine mg_goto (pc := 9) 15 dL_wouldLose_9 rfl ?_
    refine mg_iconst (pc := 15) dL_wouldLose_15 kc_0 ?_
    exact mb_wret dL_wouldLose_16 rfl (Nat.zero_le _) (Nat.zero_le _) hr
  · refine mb_ck hr (fun hE hr => ?_)
    subst hE
    refine mg_callVc (pc := 4) (As := [.int i1]) (rest := [.int (0 : Int32), .ref a2]) (name := "java/util/NoSuchElementException") (pre := []) (x := ⟨0, 9, 12, 18⟩) (suf := []) dL_wouldLose_4 cw_L_66 tw_1298 hc h0 rfl rfl (fun z hz => by cases hz) rfl (by decide) tw_992 tw_1009 rfl (Nat.le_of_ble_eq_true rfl) (Nat.le_refl _) (Nat.le_refl _) (fun q => ?_)
    refine ml_astore_n (pc := 12) dL_wouldLose_12 rfl (Nat.le_of_ble_eq_true rfl) (mm_st1_s (mm_st1_s mm_st1_r)) ?_
    refine mg_iconst (pc := 13) dL_wouldLose_13 kc_1 ?_
    exact mb_wret dL_wouldLose_14 rfl (Nat.le_refl _) (Nat.le_refl _) hr
