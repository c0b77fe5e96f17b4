theorem tw_379 : Cond.fieldLink "SootQueen$Outlook" 20 "SootQueen$Outlook" "played" "LSootQueen$Played;" ∈ lw_tbl := List.mem_append_right _ (List.mem_of_getElem? (i := 379) (by decide +kernel))
theorem fl_X6_20 : mm_FL RX6 20 6 1 12 := ⟨(RX6, TX6, 12), rfl, rfl, by decide, by decide, Or.inl tw_379⟩
theorem tw_1262 : Cond.methodLink "SootQueen$Outlook" 106 ⟨"SootQueen$Played", "watch", "(LSootQueen$Game;)V"⟩ ∈ lw_tbl := List.mem_append_right _ (List.mem_of_getElem? (i := 1262) (by decide +kernel))
theorem tw_1086 : Cond.code ⟨"SootQueen$Played", "watch", "(LSootQueen$Game;)V"⟩ prog_9_method_2_code 3 none ∈ lw_tbl := List.mem_append_right _ (List.mem_of_getElem? (i := 1086) (by decide +kernel))
theorem tw_1084 : Cond.instanceMethod ⟨"SootQueen$Played", "watch", "(LSootQueen$Game;)V"⟩ ∈ lw_tbl := List.mem_append_right _ (List.mem_of_getElem? (i := 1084) (by decide +kernel))
theorem tw_1085 : Cond.selects "SootQueen$Played" ⟨"SootQueen$Played", "watch", "(LSootQueen$Game;)V"⟩ ⟨"SootQueen$Played", "watch", "(LSootQueen$Game;)V"⟩ ∈ lw_tbl := List.mem_append_right _ (List.mem_of_getElem? (i := 1085) (by decide +kernel))
theorem cw_X6_106 : mm_CV RX6 106 MX7_watch 7 1 := ⟨⟨Or.inl tw_1262, tw_1086, tw_10, ⟨by decide, by decide⟩, by decide +kernel, by decide⟩, tw_1084, by decide, (RX7, TX7, 8), rfl, tw_1085⟩
theorem tw_344 : Cond.fieldLinkNest "SootQueen$Outlook" 109 "SootQueen$Played" "draws" "I" "SootQueen" ∈ lw_tbl := List.mem_append_right _ (List.mem_of_getElem? (i := 344) (by decide +kernel))
theorem fl_X6_109 : mm_FL RX6 109 7 5 8 := ⟨(RX7, TX7, 8), rfl, rfl, by decide, by decide, Or.inr ⟨_, tw_344⟩⟩
theorem tw_1263 : Cond.methodLink "SootQueen$Outlook" 112 ⟨"java/lang/Math", "max", "(II)I"⟩ ∈ lw_tbl := List.mem_append_right _ (List.mem_of_getElem? (i := 1263) (by decide +kernel))
theorem cw_X6_112 : mm_CS RX6 112 MJ9_max_7cf53 2 := ⟨⟨Or.inl tw_1263, tw_1098, tw_13, ⟨by decide, by decide⟩, by decide +kernel, by decide⟩, tw_1097⟩
theorem tw_341 : Cond.fieldLinkNest "SootQueen$Outlook" 118 "SootQueen$Played" "loser" "I" "SootQueen" ∈ lw_tbl := List.mem_append_right _ (List.mem_of_getElem? (i := 341) (by decide +kernel))
theorem fl_X6_118 : mm_FL RX6 118 7 4 8 := ⟨(RX7, TX7, 8), rfl, rfl, by decide, by decide, Or.inr ⟨_, tw_341⟩⟩
theorem tw_1264 : Cond.methodLink "SootQueen$Outlook" 120 ⟨"SootQueen$Game", "sitterAt", "(I)I"⟩ ∈ lw_tbl := List.mem_append_right _ (List.mem_of_getElem? (i := 1264) (by decide +kernel))
theorem cw_X6_120 : mm_CV RX6 120 MX4_sitterAt 4 1 := ⟨⟨Or.inl tw_1264, tw_663, tw_9, ⟨by decide, by decide⟩, by decide +kernel, by decide⟩, tw_661, by decide, (RX4, TX4, 12), rfl, tw_662⟩
theorem tw_381 : Cond.fieldLink "SootQueen$Outlook" 31 "SootQueen$Outlook" "order" "[I" ∈ lw_tbl := List.mem_append_right _ (List.mem_of_getElem? (i := 381) (by decide +kernel))
theorem fl_X6_31 : mm_FL RX6 31 6 3 12 := ⟨(RX6, TX6, 12), rfl, rfl, by decide, by decide, Or.inl tw_381⟩
theorem tw_1273 : Cond.methodLink "SootQueen$Outlook" 155 ⟨"SootQueen$Outlook", "swap", "(II)V"⟩ ∈ lw_tbl := List.mem_append_right _ (List.mem_of_getElem? (i := 1273) (by decide +kernel))
theorem tw_1276 : Cond.code ⟨"SootQueen$Outlook", "swap", "(II)V"⟩ prog_8_method_9_code 4 none ∈ lw_tbl := List.mem_append_right _ (List.mem_of_getElem? (i := 1276) (by decide +kernel))
theorem tw_1275 : Cond.instanceMethod ⟨"SootQueen$Outlook", "swap", "(II)V"⟩ ∈ lw_tbl := List.mem_append_right _ (List.mem_of_getElem? (i := 1275) (by decide +kernel))
theorem sw_48 : Cond.selects "SootQueen$Outlook" ⟨"SootQueen$Outlook", "swap", "(II)V"⟩ ⟨"SootQueen$Outlook", "swap", "(II)V"⟩ ∈ lw_tbl := List.mem_append_left _ (List.mem_of_getElem? (i := 48) (by decide +kernel))
theorem cw_X6_155 : mm_CV RX6 155 MX6_swap 6 2 := ⟨⟨Or.inl tw_1273, tw_1276, tw_11, ⟨by decide, by decide⟩, by decide +kernel, by decide⟩, tw_1275, by decide, (RX6, TX6, 12), rfl, sw_48⟩
theorem tw_1269 : Cond.methodLink "SootQueen$Outlook" 152 ⟨"SootQueen$Outlook", "nextOrder", "(I)Z"⟩ ∈ lw_tbl := List.mem_append_right _ (List.mem_of_getElem? (i := 1269) (by decide +kernel))
theorem tw_1272 : Cond.code ⟨"SootQueen$Outlook", "nextOrder", "(I)Z"⟩ prog_8_method_8_code 6 (some .boolean) ∈ lw_tbl := List.mem_append_right _ (List.mem_of_getElem? (i := 1272) (by decide +kernel))
theorem tw_1271 : Cond.instanceMethod ⟨"SootQueen$Outlook", "nextOrder", "(I)Z"⟩ ∈ lw_tbl := List.mem_append_right _ (List.mem_of_getElem? (i := 1271) (by decide +kernel))
theorem sw_47 : Cond.selects "SootQueen$Outlook" ⟨"SootQueen$Outlook", "nextOrder", "(I)Z"⟩ ⟨"SootQueen$Outlook", "nextOrder", "(I)Z"⟩ ∈ lw_tbl := List.mem_append_left _ (List.mem_of_getElem? (i := 47) (by decide +kernel))
theorem cw_X6_152 : mm_CV RX6 152 MX6_nextOrder 6 1 := ⟨⟨Or.inl tw_1269, tw_1272, tw_11, ⟨by decide, by decide⟩, by decide +kernel, by decide⟩, tw_1271, by decide, (RX6, TX6, 12), rfl, sw_47⟩
theorem kb_120 : (Int8.ofInt (120)).toInt32 = (120 : Int32) := by decide
theorem tw_1253 : Cond.methodLink "SootQueen$Outlook" 141 ⟨"SootQueen$Game", "sitDown", "(LSootQueen$Game;[I)V"⟩ ∈ lw_tbl := List.mem_append_right _ (List.mem_of_getElem? (i := 1253) (by decide +kernel))
theorem tw_1256 : Cond.code ⟨"SootQueen$Game", "sitDown", "(LSootQueen$Game;[I)V"⟩ prog_6_method_7_code 4 none ∈ lw_tbl := List.mem_append_right _ (List.mem_of_getElem? (i := 1256) (by decide +kernel))
theorem tw_1254 : Cond.instanceMethod ⟨"SootQueen$Game", "sitDown", "(LSootQueen$Game;[I)V"⟩ ∈ lw_tbl := List.mem_append_right _ (List.mem_of_getElem? (i := 1254) (by decide +kernel))
theorem tw_1255 : Cond.selects "SootQueen$Game" ⟨"SootQueen$Game", "sitDown", "(LSootQueen$Game;[I)V"⟩ ⟨"SootQueen$Game", "sitDown", "(LSootQueen$Game;[I)V"⟩ ∈ lw_tbl := List.mem_append_right _ (List.mem_of_getElem? (i := 1255) (by decide +kernel))
theorem cw_X6_141 : mm_CV RX6 141 MX4_sitDown 4 2 := ⟨⟨Or.inl tw_1253, tw_1256, tw_9, ⟨by decide, by decide⟩, by decide +kernel, by decide⟩, tw_1254, by decide, (RX4, TX4, 12), rfl, tw_1255⟩
theorem tw_1258 : Cond.methodLink "SootQueen$Outlook" 145 ⟨"SootQueen$Outlook", "playOut", "(LSootQueen$Game;)I"⟩ ∈ lw_tbl := List.mem_append_right _ (List.mem_of_getElem? (i := 1258) (by decide +kernel))
theorem tw_1261 : Cond.code ⟨"SootQueen$Outlook", "playOut", "(LSootQueen$Game;)I"⟩ prog_8_method_5_code 3 (some .int) ∈ lw_tbl := List.mem_append_right _ (List.mem_of_getElem? (i := 1261) (by decide +kernel))
theorem tw_1259 : Cond.instanceMethod ⟨"SootQueen$Outlook", "playOut", "(LSootQueen$Game;)I"⟩ ∈ lw_tbl := List.mem_append_right _ (List.mem_of_getElem? (i := 1259) (by decide +kernel))
theorem tw_1260 : Cond.selects "SootQueen$Outlook" ⟨"SootQueen$Outlook", "playOut", "(LSootQueen$Game;)I"⟩ ⟨"SootQueen$Outlook", "playOut", "(LSootQueen$Game;)I"⟩ ∈ lw_tbl := List.mem_append_right _ (List.mem_of_getElem? (i := 1260) (by decide +kernel))
theorem cw_X6_145 : mm_CV RX6 145 MX6_playOut 6 1 := ⟨⟨Or.inl tw_1258, tw_1261, tw_11, ⟨by decide, by decide⟩, by decide +kernel, by decide⟩, tw_1259, by decide, (RX6, TX6, 12), rfl, tw_1260⟩
theorem tw_387 : Cond.fieldLink "SootQueen$Outlook" 126 "SootQueen$Outlook" "firstOrder" "I" ∈ lw_tbl := List.mem_append_right _ (List.mem_of_getElem? (i := 387) (by decide +kernel))
theorem fl_X6_126 : mm_FL RX6 126 6 7 12 := ⟨(RX6, TX6, 12), rfl, rfl, by decide, by decide, Or.inl tw_387⟩
theorem tw_1265 : Cond.methodLink "SootQueen$Outlook" 149 ⟨"SootQueen$Outlook", "orderAsNumber", "(I)I"⟩ ∈ lw_tbl := List.mem_append_right _ (List.mem_of_getElem? (i := 1265) (by decide +kernel))
theorem tw_1268 : Cond.code ⟨"SootQueen$Outlook", "orderAsNumber", "(I)I"⟩ prog_8_method_7_code 4 (some .int) ∈ lw_tbl := List.mem_append_right _ (List.mem_of_getElem? (i := 1268) (by decide +kernel))
theorem tw_1267 : Cond.instanceMethod ⟨"SootQueen$Outlook", "orderAsNumber", "(I)I"⟩ ∈ lw_tbl := List.mem_append_right _ (List.mem_of_getElem? (i := 1267) (by decide +kernel))
theorem sw_46 : Cond.selects "SootQueen$Outlook" ⟨"SootQueen$Outlook", "orderAsNumber", "(I)I"⟩ ⟨"SootQueen$Outlook", "orderAsNumber", "(I)I"⟩ ∈ lw_tbl := List.mem_append_left _ (List.mem_of_getElem? (i := 46) (by decide +kernel))
theorem cw_X6_149 : mm_CV RX6 149 MX6_orderAsNumber 6 1 := ⟨⟨Or.inl tw_1265, tw_1268, tw_11, ⟨by decide, by decide⟩, by decide +kernel, by decide⟩, tw_1267, by decide, (RX6, TX6, 12), rfl, sw_46⟩
theorem fp_X6_126 : mm_FP RX6 126 6 7 12 .int := ⟨fl_X6_126, (RX6, TX6, 12), rfl, rfl, by decide +kernel⟩
theorem tw_292 : Cond.fieldLinkNest "SootQueen$Outlook" 129 "SootQueen$Game" "told" "LSootQueen$Told;" "SootQueen" ∈ lw_tbl := List.mem_append_right _ (List.mem_of_getElem? (i := 292) (by decide +kernel))
theorem fl_X6_129 : mm_FL RX6 129 4 6 12 := ⟨(RX4, TX4, 12), rfl, rfl, by decide, by decide, Or.inr ⟨_, tw_292⟩⟩
theorem tw_78 : Cond.fieldLinkNest "SootQueen$Outlook" 133 "SootQueen$Told" "people" "I" "SootQueen" ∈ lw_tbl := List.mem_append_right _ (List.mem_of_getElem? (i := 78) (by decide +kernel))
theorem fl_X6_133 : mm_FL RX6 133 10 6 11 := ⟨(RX10, TX10, 11), rfl, rfl, by decide, by decide, Or.inr ⟨_, tw_78⟩⟩
theorem tw_1252 : Cond.methodLink "SootQueen$Outlook" 138 ⟨"java/lang/Math", "min", "(II)I"⟩ ∈ lw_tbl := List.mem_append_right _ (List.mem_of_getElem? (i := 1252) (by decide +kernel))
theorem cw_X6_138 : mm_CS RX6 138 MJ9_min_7cf53 2 := ⟨⟨Or.inl tw_1252, tw_510, tw_13, ⟨by decide, by decide⟩, by decide +kernel, by decide⟩, tw_509⟩
theorem tw_1248 : Cond.methodLink "SootQueen$Outlook" 123 ⟨"SootQueen$Outlook", "begin", "()V"⟩ ∈ lw_tbl := List.mem_append_right _ (List.mem_of_getElem? (i := 1248) (by decide +kernel))
theorem tw_1251 : Cond.code ⟨"SootQueen$Outlook", "begin", "()V"⟩ prog_8_method_4_code 2 none ∈ lw_tbl := List.mem_append_right _ (List.mem_of_getElem? (i := 1251) (by decide +kernel))
theorem tw_1249 : Cond.instanceMethod ⟨"SootQueen$Outlook", "begin", "()V"⟩ ∈ lw_tbl := List.mem_append_right _ (List.mem_of_getElem? (i := 1249) (by decide +kernel))
theorem tw_1250 : Cond.selects "SootQueen$Outlook" ⟨"SootQueen$Outlook", "begin", "()V"⟩ ⟨"SootQueen$Outlook", "begin", "()V"⟩ ∈ lw_tbl := List.mem_append_right _ (List.mem_of_getElem? (i := 1250) (by decide +kernel))
theorem cw_X6_123 : mm_CV RX6 123 MX6_begin 6 0 := ⟨⟨Or.inl tw_1248, tw_1251, tw_11, ⟨by decide, by decide⟩, by decide +kernel, by decide⟩, tw_1249, by decide, (RX6, TX6, 12), rfl, tw_1250⟩
theorem tw_1294 : Cond.methodLink "SootQueen$Outlook" 159 ⟨"SootQueen$Outlook", "losses", "(I)I"⟩ ∈ lw_tbl := List.mem_append_right _ (List.mem_of_getElem? (i := 1294) (by decide +kernel))
theorem tw_1280 : Cond.code ⟨"SootQueen$Outlook", "losses", "(I)I"⟩ prog_8_method_10_code 2 (some .int) ∈ lw_tbl := List.mem_append_right _ (List.mem_of_getElem? (i := 1280) (by decide +kernel))
theorem tw_1278 : Cond.instanceMethod ⟨"SootQueen$Outlook", "losses", "(I)I"⟩ ∈ lw_tbl := List.mem_append_right _ (List.mem_of_getElem? (i := 1278) (by decide +kernel))
theorem tw_1279 : Cond.selects "SootQueen$Outlook" ⟨"SootQueen$Outlook", "losses", "(I)I"⟩ ⟨"SootQueen$Outlook", "losses", "(I)I"⟩ ∈ lw_tbl := List.mem_append_right _ (List.mem_of_getElem? (i := 1279) (by decide +kernel))
theorem cw_X6_159 : mm_CV RX6 159 MX6_losses 6 1 := ⟨⟨Or.inl tw_1294, tw_1280, tw_11, ⟨by decide, by decide⟩, by decide +kernel, by decide⟩, tw_1278, by decide, (RX6, TX6, 12), rfl, tw_1279⟩
theorem tw_69 : Cond.fieldLink "SootQueen$Told" 17 "SootQueen$Told" "weights" "[I" ∈ lw_tbl := List.mem_append_right _ (List.mem_of_getElem? (i := 69) (by decide +kernel))
theorem fl_X10_17 : mm_FL RX10 17 10 1 11 := ⟨(RX10, TX10, 11), rfl, rfl, by decide, by decide, Or.inl tw_69⟩
theorem tw_66 : Cond.fieldLink "SootQueen$Told" 11 "SootQueen$Told" "fans" "[LSootQueen$Fan;" ∈ lw_tbl := List.mem_append_right _ (List.mem_of_getElem? (i := 66) (by decide +kernel))
theorem fl_X10_11 : mm_FL RX10 11 10 0 11 := ⟨(RX10, TX10, 11), rfl, rfl, by decide, by decide, Or.inl tw_66⟩
theorem tw_62 : Cond.methodLink "SootQueen$Told" 54 ⟨"SootQueen$Fan", "clear", "()V"⟩ ∈ lw_tbl := List.mem_append_right _ (List.mem_of_getElem? (i := 62) (by decide +kernel))
theorem cw_X10_54 : mm_CV RX10 54 MX3_clear 3 0 := ⟨⟨Or.inl tw_62, tw_65, tw_3, ⟨by decide, by decide⟩, by decide +kernel, by decide⟩, tw_63, by decide, (RX3, TX3, 2), rfl, tw_64⟩
theorem tw_74 : Cond.fieldLink "SootQueen$Told" 37 "SootQueen$Told" "people" "I" ∈ lw_tbl := List.mem_append_right _ (List.mem_of_getElem? (i := 74) (by decide +kernel))
theorem fl_X10_37 : mm_FL RX10 37 10 6 11 := ⟨(RX10, TX10, 11), rfl, rfl, by decide, by decide, Or.inl tw_74⟩
theorem fp_X10_37 : mm_FP RX10 37 10 6 11 .int := ⟨fl_X10_37, (RX10, TX10, 11), rfl, rfl, by decide +kernel⟩
theorem tw_79 : Cond.fieldLink "SootQueen$Told" 41 "SootQueen$Told" "pairs" "I" ∈ lw_tbl := List.mem_append_right _ (List.mem_of_getElem? (i := 79) (by decide +kernel))
theorem fl_X10_41 : mm_FL RX10 41 10 7 11 := ⟨(RX10, TX10, 11), rfl, rfl, by decide, by decide, Or.inl tw_79⟩
theorem fp_X10_41 : mm_FP RX10 41 10 7 11 .int := ⟨fl_X10_41, (RX10, TX10, 11), rfl, rfl, by decide +kernel⟩
theorem tw_83 : Cond.fieldLink "SootQueen$Told" 44 "SootQueen$Told" "seed" "I" ∈ lw_tbl := List.mem_append_right _ (List.mem_of_getElem? (i := 83) (by decide +kernel))
theorem fl_X10_44 : mm_FL RX10 44 10 8 11 := ⟨(RX10, TX10, 11), rfl, rfl, by decide, by decide, Or.inl tw_83⟩
theorem fp_X10_44 : mm_FP RX10 44 10 8 11 .int := ⟨fl_X10_44, (RX10, TX10, 11), rfl, rfl, by decide +kernel⟩
theorem tw_88 : Cond.fieldLink "SootQueen$Told" 50 "SootQueen$Told" "fansTold" "Z" ∈ lw_tbl := List.mem_append_right _ (List.mem_of_getElem? (i := 88) (by decide +kernel))
theorem fl_X10_50 : mm_FL RX10 50 10 10 11 := ⟨(RX10, TX10, 11), rfl, rfl, by decide, by decide, Or.inl tw_88⟩
theorem fp_X10_50 : mm_FP RX10 50 10 10 11 .boolean := ⟨fl_X10_50, (RX10, TX10, 11), rfl, rfl, by decide +kernel⟩
theorem tw_179 : Cond.fieldLink "SootQueen$Reader" 22 "SootQueen$Reader" "lineTold" "[Z" ∈ lw_tbl := List.mem_append_right _ (List.mem_of_getElem? (i := 179) (by decide +kernel))
theorem fl_X8_22 : mm_FL RX8 22 8 3 7 := ⟨(RX8, TX8, 7), rfl, rfl, by decide, by decide, Or.inl tw_179⟩
theorem tw_178 : Cond.fieldLink "SootQueen$Reader" 18 "SootQueen$Reader" "cardsTold" "[I" ∈ lw_tbl := List.mem_append_right _ (List.mem_of_getElem? (i := 178) (by decide +kernel))
theorem fl_X8_18 : mm_FL RX8 18 8 2 7 := ⟨(RX8, TX8, 7), rfl, rfl, by decide, by decide, Or.inl tw_178⟩
theorem tw_181 : Cond.fieldLink "SootQueen$Reader" 83 "SootQueen$Reader" "personTold" "Z" ∈ lw_tbl := List.mem_append_right _ (List.mem_of_getElem? (i := 181) (by decide +kernel))
theorem fl_X8_83 : mm_FL RX8 83 8 5 7 := ⟨(RX8, TX8, 7), rfl, rfl, by decide, by decide, Or.inl tw_181⟩
theorem fp_X8_83 : mm_FP RX8 83 8 5 7 .boolean := ⟨fl_X8_83, (RX8, TX8, 7), rfl, rfl, by decide +kernel⟩
theorem fp_X9_9 : mm_FP RX9 9 9 0 6 (.array .int) := ⟨fl_X9_9, (RX9, TX9, 6), rfl, rfl, by decide +kernel⟩
theorem tw_793 : Cond.methodLink "SootQueen$Tokens" 19 ⟨"java/lang/Math", "min", "(II)I"⟩ ∈ lw_tbl := List.mem_append_right _ (List.mem_of_getElem? (i := 793) (by decide +kernel))
theorem cw_X9_19 : mm_CS RX9 19 MJ9_min_7cf53 2 := ⟨⟨Or.inl tw_793, tw_510, tw_13, ⟨by decide, by decide⟩, by decide +kernel, by decide⟩, tw_509⟩
theorem fp_X9_25 : mm_FP RX9 25 9 1 6 .int := ⟨fl_X9_25, (RX9, TX9, 6), rfl, rfl, by decide +kernel⟩
theorem tw_794 : Cond.methodLink "SootQueen$Tokens" 31 ⟨"SootQueen$Tokens", "next", "()V"⟩ ∈ lw_tbl := List.mem_append_right _ (List.mem_of_getElem? (i := 794) (by decide +kernel))
theorem cw_X9_31 : mm_CV RX9 31 MX9_next 9 0 := ⟨⟨Or.inl tw_794, tw_797, tw_5, ⟨by decide, by decide⟩, by decide +kernel, by decide⟩, tw_795, by decide, (RX9, TX9, 6), rfl, tw_796⟩
theorem tw_176 : Cond.fieldLink "SootQueen$Reader" 12 "SootQueen$Reader" "tokens" "LSootQueen$Tokens;" ∈ lw_tbl := List.mem_append_right _ (List.mem_of_getElem? (i := 176) (by decide +kernel))
theorem fl_X8_12 : mm_FL RX8 12 8 0 7 := ⟨(RX8, TX8, 7), rfl, rfl, by decide, by decide, Or.inl tw_176⟩
theorem tw_820 : Cond.methodLink "SootQueen$Reader" 88 ⟨"SootQueen$Tokens", "isWord", "(Ljava/lang/String;)Z"⟩ ∈ lw_tbl := List.mem_append_right _ (List.mem_of_getElem? (i := 820) (by decide +kernel))
theorem cw_X8_88 : mm_CV RX8 88 MX9_isWord 9 1 := ⟨⟨Or.inl tw_820, tw_823, tw_5, ⟨by decide, by decide⟩, by decide +kernel, by decide⟩, tw_821, by decide, (RX9, TX9, 6), rfl, tw_822⟩
theorem tw_132 : Cond.fieldLinkNest "SootQueen$Reader" 51 "SootQueen$Tokens" "kind" "I" "SootQueen" ∈ lw_tbl := List.mem_append_right _ (List.mem_of_getElem? (i := 132) (by decide +kernel))
theorem fl_X8_51 : mm_FL RX8 51 9 4 6 := ⟨(RX9, TX9, 6), rfl, rfl, by decide, by decide, Or.inr ⟨_, tw_132⟩⟩
theorem tw_891 : Cond.methodLink "SootQueen$Reader" 159 ⟨"SootQueen$Tokens", "isTooLong", "()Z"⟩ ∈ lw_tbl := List.mem_append_right _ (List.mem_of_getElem? (i := 891) (by decide +kernel))
theorem cw_X8_159 : mm_CV RX8 159 MX9_isTooLong 9 0 := ⟨⟨Or.inl tw_891, tw_894, tw_5, ⟨by decide, by decide⟩, by decide +kernel, by decide⟩, tw_892, by decide, (RX9, TX9, 6), rfl, tw_893⟩
theorem tw_135 : Cond.fieldLinkNest "SootQueen$Reader" 112 "SootQueen$Tokens" "number" "I" "SootQueen" ∈ lw_tbl := List.mem_append_right _ (List.mem_of_getElem? (i := 135) (by decide +kernel))
theorem fl_X8_112 : mm_FL RX8 112 9 5 6 := ⟨(RX9, TX9, 6), rfl, rfl, by decide, by decide, Or.inr ⟨_, tw_135⟩⟩
theorem tw_886 : Cond.methodLink "SootQueen$Reader" 72 ⟨"SootQueen$Tokens", "next", "()V"⟩ ∈ lw_tbl := List.mem_append_right _ (List.mem_of_getElem? (i := 886) (by decide +kernel))
theorem cw_X8_72 : mm_CV RX8 72 MX9_next 9 0 := ⟨⟨Or.inl tw_886, tw_797, tw_5, ⟨by decide, by decide⟩, by decide +kernel, by decide⟩, tw_795, by decide, (RX9, TX9, 6), rfl, tw_796⟩
theorem tw_895 : Cond.methodLink "SootQueen$Reader" 121 ⟨"SootQueen$Reader", "endFault", "()I"⟩ ∈ lw_tbl := List.mem_append_right _ (List.mem_of_getElem? (i := 895) (by decide +kernel))
theorem tw_898 : Cond.code ⟨"SootQueen$Reader", "endFault", "()I"⟩ prog_10_method_12_code 1 (some .int) ∈ lw_tbl := List.mem_append_right _ (List.mem_of_getElem? (i := 898) (by decide +kernel))
theorem tw_4 : Cond.initialized "SootQueen$Reader" ∈ lw_tbl := List.mem_append_right _ (List.mem_of_getElem? (i := 4) (by decide +kernel))
theorem tw_897 : Cond.instanceMethod ⟨"SootQueen$Reader", "endFault", "()I"⟩ ∈ lw_tbl := List.mem_append_right _ (List.mem_of_getElem? (i := 897) (by decide +kernel))
theorem sw_18 : Cond.selects "SootQueen$Reader" ⟨"SootQueen$Reader", "endFault", "()I"⟩ ⟨"SootQueen$Reader", "endFault", "()I"⟩ ∈ lw_tbl := List.mem_append_left _ (List.mem_of_getElem? (i := 18) (by decide +kernel))
theorem cw_X8_121 : mm_CV RX8 121 MX8_endFault 8 0 := ⟨⟨Or.inl tw_895, tw_898, tw_4, ⟨by decide, by decide⟩, by decide +kernel, by decide⟩, tw_897, by decide, (RX8, TX8, 7), rfl, sw_18⟩
theorem tw_887 : Cond.methodLink "SootQueen$Reader" 108 ⟨"SootQueen$Reader", "numberFault", "(II)I"⟩ ∈ lw_tbl := List.mem_append_right _ (List.mem_of_getElem? (i := 887) (by decide +kernel))
theorem tw_890 : Cond.code ⟨"SootQueen$Reader", "numberFault", "(II)I"⟩ prog_10_method_11_code 4 (some .int) ∈ lw_tbl := List.mem_append_right _ (List.mem_of_getElem? (i := 890) (by decide +kernel))
theorem tw_889 : Cond.instanceMethod ⟨"SootQueen$Reader", "numberFault", "(II)I"⟩ ∈ lw_tbl := List.mem_append_right _ (List.mem_of_getElem? (i := 889) (by decide +kernel))
theorem sw_17 : Cond.selects "SootQueen$Reader" ⟨"SootQueen$Reader", "numberFault", "(II)I"⟩ ⟨"SootQueen$Reader", "numberFault", "(II)I"⟩ ∈ lw_tbl := List.mem_append_left _ (List.mem_of_getElem? (i := 17) (by decide +kernel))
theorem cw_X8_108 : mm_CV RX8 108 MX8_numberFault 8 2 := ⟨⟨Or.inl tw_887, tw_890, tw_4, ⟨by decide, by decide⟩, by decide +kernel, by decide⟩, tw_889, by decide, (RX8, TX8, 7), rfl, sw_17⟩
theorem tw_180 : Cond.fieldLink "SootQueen$Reader" 26 "SootQueen$Reader" "told" "LSootQueen$Told;" ∈ lw_tbl := List.mem_append_right _ (List.mem_of_getElem? (i := 180) (by decide +kernel))
theorem fl_X8_26 : mm_FL RX8 26 8 4 7 := ⟨(RX8, TX8, 7), rfl, rfl, by decide, by decide, Or.inl tw_180⟩
theorem tw_77 : Cond.fieldLinkNest "SootQueen$Reader" 115 "SootQueen$Told" "people" "I" "SootQueen" ∈ lw_tbl := List.mem_append_right _ (List.mem_of_getElem? (i := 77) (by decide +kernel))
theorem fl_X8_115 : mm_FL RX8 115 10 6 11 := ⟨(RX10, TX10, 11), rfl, rfl, by decide, by decide, Or.inr ⟨_, tw_77⟩⟩
theorem fp_X8_115 : mm_FP RX8 115 10 6 11 .int := ⟨fl_X8_115, (RX10, TX10, 11), rfl, rfl, by decide +kernel⟩
theorem tw_82 : Cond.fieldLinkNest "SootQueen$Reader" 117 "SootQueen$Told" "pairs" "I" "SootQueen" ∈ lw_tbl := List.mem_append_right _ (List.mem_of_getElem? (i := 82) (by decide +kernel))
theorem fl_X8_117 : mm_FL RX8 117 10 7 11 := ⟨(RX10, TX10, 11), rfl, rfl, by decide, by decide, Or.inr ⟨_, tw_82⟩⟩
theorem fp_X8_117 : mm_FP RX8 117 10 7 11 .int := ⟨fl_X8_117, (RX10, TX10, 11), rfl, rfl, by decide +kernel⟩
theorem tw_85 : Cond.fieldLinkNest "SootQueen$Reader" 119 "SootQueen$Told" "seed" "I" "SootQueen" ∈ lw_tbl := List.mem_append_right _ (List.mem_of_getElem? (i := 85) (by decide +kernel))
theorem fl_X8_119 : mm_FL RX8 119 10 8 11 := ⟨(RX10, TX10, 11), rfl, rfl, by decide, by decide, Or.inr ⟨_, tw_85⟩⟩
theorem fp_X8_119 : mm_FP RX8 119 10 8 11 .int := ⟨fl_X8_119, (RX10, TX10, 11), rfl, rfl, by decide +kernel⟩
theorem ks_9999 : (Int16.ofInt (9999)).toInt32 = (9999 : Int32) := by decide
theorem tw_882 : Cond.methodLink "SootQueen$Reader" 104 ⟨"SootQueen$Reader", "isTold", "(II)Z"⟩ ∈ lw_tbl := List.mem_append_right _ (List.mem_of_getElem? (i := 882) (by decide +kernel))
theorem tw_885 : Cond.code ⟨"SootQueen$Reader", "isTold", "(II)Z"⟩ prog_10_method_7_code 4 (some .boolean) ∈ lw_tbl := List.mem_append_right _ (List.mem_of_getElem? (i := 885) (by decide +kernel))
theorem tw_884 : Cond.instanceMethod ⟨"SootQueen$Reader", "isTold", "(II)Z"⟩ ∈ lw_tbl := List.mem_append_right _ (List.mem_of_getElem? (i := 884) (by decide +kernel))
theorem sw_16 : Cond.selects "SootQueen$Reader" ⟨"SootQueen$Reader", "isTold", "(II)Z"⟩ ⟨"SootQueen$Reader", "isTold", "(II)Z"⟩ ∈ lw_tbl := List.mem_append_left _ (List.mem_of_getElem? (i := 16) (by decide +kernel))
theorem cw_X8_104 : mm_CV RX8 104 MX8_isTold 8 2 := ⟨⟨Or.inl tw_882, tw_885, tw_4, ⟨by decide, by decide⟩, by decide +kernel, by decide⟩, tw_884, by decide, (RX8, TX8, 7), rfl, sw_16⟩
theorem tw_912 : Cond.methodLink "SootQueen$Reader" 143 ⟨"SootQueen$Fan", "placeOf", "(I)I"⟩ ∈ lw_tbl := List.mem_append_right _ (List.mem_of_getElem? (i := 912) (by decide +kernel))
theorem cw_X8_143 : mm_CV RX8 143 MX3_placeOf 3 1 := ⟨⟨Or.inl tw_912, tw_523, tw_3, ⟨by decide, by decide⟩, by decide +kernel, by decide⟩, tw_521, by decide, (RX3, TX3, 2), rfl, tw_522⟩
theorem tw_51 : Cond.fieldLinkNest "SootQueen$Reader" 148 "SootQueen$Fan" "size" "I" "SootQueen" ∈ lw_tbl := List.mem_append_right _ (List.mem_of_getElem? (i := 51) (by decide +kernel))
theorem fl_X8_148 : mm_FL RX8 148 3 1 2 := ⟨(RX3, TX3, 2), rfl, rfl, by decide, by decide, Or.inr ⟨_, tw_51⟩⟩
theorem tw_913 : Cond.methodLink "SootQueen$Reader" 151 ⟨"SootQueen$Fan", "putIn", "(II)V"⟩ ∈ lw_tbl := List.mem_append_right _ (List.mem_of_getElem? (i := 913) (by decide +kernel))
theorem cw_X8_151 : mm_CV RX8 151 MX3_putIn 3 2 := ⟨⟨Or.inl tw_913, tw_527, tw_3, ⟨by decide, by decide⟩, by decide +kernel, by decide⟩, tw_525, by decide, (RX3, TX3, 2), rfl, tw_526⟩
theorem tw_68 : Cond.fieldLinkNest "SootQueen$Reader" 139 "SootQueen$Told" "fans" "[LSootQueen$Fan;" "SootQueen" ∈ lw_tbl := List.mem_append_right _ (List.mem_of_getElem? (i := 68) (by decide +kernel))
theorem fl_X8_139 : mm_FL RX8 139 10 0 11 := ⟨(RX10, TX10, 11), rfl, rfl, by decide, by decide, Or.inr ⟨_, tw_68⟩⟩
theorem tw_908 : Cond.methodLink "SootQueen$Reader" 136 ⟨"SootQueen$Reader", "cardFault", "(II)I"⟩ ∈ lw_tbl := List.mem_append_right _ (List.mem_of_getElem? (i := 908) (by decide +kernel))
theorem tw_911 : Cond.code ⟨"SootQueen$Reader", "cardFault", "(II)I"⟩ prog_10_method_9_code 5 (some .int) ∈ lw_tbl := List.mem_append_right _ (List.mem_of_getElem? (i := 911) (by decide +kernel))
theorem tw_910 : Cond.instanceMethod ⟨"SootQueen$Reader", "cardFault", "(II)I"⟩ ∈ lw_tbl := List.mem_append_right _ (List.mem_of_getElem? (i := 910) (by decide +kernel))
theorem sw_21 : Cond.selects "SootQueen$Reader" ⟨"SootQueen$Reader", "cardFault", "(II)I"⟩ ⟨"SootQueen$Reader", "cardFault", "(II)I"⟩ ∈ lw_tbl := List.mem_append_left _ (List.mem_of_getElem? (i := 21) (by decide +kernel))
theorem cw_X8_136 : mm_CV RX8 136 MX8_cardFault 8 2 := ⟨⟨Or.inl tw_908, tw_911, tw_4, ⟨by decide, by decide⟩, by decide +kernel, by decide⟩, tw_910, by decide, (RX8, TX8, 7), rfl, sw_21⟩
theorem tw_89 : Cond.fieldLinkNest "SootQueen$Reader" 75 "SootQueen$Told" "fansTold" "Z" "SootQueen" ∈ lw_tbl := List.mem_append_right _ (List.mem_of_getElem? (i := 89) (by decide +kernel))
theorem fl_X8_75 : mm_FL RX8 75 10 10 11 := ⟨(RX10, TX10, 11), rfl, rfl, by decide, by decide, Or.inr ⟨_, tw_89⟩⟩
theorem fp_X8_75 : mm_FP RX8 75 10 10 11 .boolean := ⟨fl_X8_75, (RX10, TX10, 11), rfl, rfl, by decide +kernel⟩
theorem kb_99 : (Int8.ofInt (99)).toInt32 = (99 : Int32) := by decide
theorem tw_980 : Cond.methodLink "SootQueen$Reader" 155 ⟨"SootQueen$Told", "setWeight", "(III)V"⟩ ∈ lw_tbl := List.mem_append_right _ (List.mem_of_getElem? (i := 980) (by decide +kernel))
theorem tw_983 : Cond.code ⟨"SootQueen$Told", "setWeight", "(III)V"⟩ prog_12_method_4_code 5 none ∈ lw_tbl := List.mem_append_right _ (List.mem_of_getElem? (i := 983) (by decide +kernel))
theorem tw_981 : Cond.instanceMethod ⟨"SootQueen$Told", "setWeight", "(III)V"⟩ ∈ lw_tbl := List.mem_append_right _ (List.mem_of_getElem? (i := 981) (by decide +kernel))
theorem tw_982 : Cond.selects "SootQueen$Told" ⟨"SootQueen$Told", "setWeight", "(III)V"⟩ ⟨"SootQueen$Told", "setWeight", "(III)V"⟩ ∈ lw_tbl := List.mem_append_right _ (List.mem_of_getElem? (i := 982) (by decide +kernel))
theorem cw_X8_155 : mm_CV RX8 155 MX10_setWeight 10 3 := ⟨⟨Or.inl tw_980, tw_983, tw_2, ⟨by decide, by decide⟩, by decide +kernel, by decide⟩, tw_981, by decide, (RX10, TX10, 11), rfl, tw_982⟩
theorem tw_903 : Cond.methodLink "SootQueen$Reader" 124 ⟨"SootQueen$Reader", "cards", "(I)I"⟩ ∈ lw_tbl := List.mem_append_right _ (List.mem_of_getElem? (i := 903) (by decide +kernel))
theorem tw_906 : Cond.code ⟨"SootQueen$Reader", "cards", "(I)I"⟩ prog_10_method_8_code 5 (some .int) ∈ lw_tbl := List.mem_append_right _ (List.mem_of_getElem? (i := 906) (by decide +kernel))
theorem tw_905 : Cond.instanceMethod ⟨"SootQueen$Reader", "cards", "(I)I"⟩ ∈ lw_tbl := List.mem_append_right _ (List.mem_of_getElem? (i := 905) (by decide +kernel))
theorem sw_20 : Cond.selects "SootQueen$Reader" ⟨"SootQueen$Reader", "cards", "(I)I"⟩ ⟨"SootQueen$Reader", "cards", "(I)I"⟩ ∈ lw_tbl := List.mem_append_left _ (List.mem_of_getElem? (i := 20) (by decide +kernel))
theorem cw_X8_124 : mm_CV RX8 124 MX8_cards 8 1 := ⟨⟨Or.inl tw_903, tw_906, tw_4, ⟨by decide, by decide⟩, by decide +kernel, by decide⟩, tw_905, by decide, (RX8, TX8, 7), rfl, sw_20⟩
theorem tw_177 : Cond.fieldLink "SootQueen$Reader" 35 "SootQueen$Reader" "compiler" "LSootQueen$Compiler;" ∈ lw_tbl := List.mem_append_right _ (List.mem_of_getElem? (i := 177) (by decide +kernel))
theorem fl_X8_35 : mm_FL RX8 35 8 1 7 := ⟨(RX8, TX8, 7), rfl, rfl, by decide, by decide, Or.inl tw_177⟩
theorem tw_914 : Cond.methodLink "SootQueen$Reader" 127 ⟨"SootQueen$Compiler", "compile", "(LSootQueen$Told;I)I"⟩ ∈ lw_tbl := List.mem_append_right _ (List.mem_of_getElem? (i := 914) (by decide +kernel))
theorem tw_917 : Cond.code ⟨"SootQueen$Compiler", "compile", "(LSootQueen$Told;I)I"⟩ prog_3_method_2_code 6 (some .int) ∈ lw_tbl := List.mem_append_right _ (List.mem_of_getElem? (i := 917) (by decide +kernel))
theorem tw_915 : Cond.instanceMethod ⟨"SootQueen$Compiler", "compile", "(LSootQueen$Told;I)I"⟩ ∈ lw_tbl := List.mem_append_right _ (List.mem_of_getElem? (i := 915) (by decide +kernel))
theorem tw_916 : Cond.selects "SootQueen$Compiler" ⟨"SootQueen$Compiler", "compile", "(LSootQueen$Told;I)I"⟩ ⟨"SootQueen$Compiler", "compile", "(LSootQueen$Told;I)I"⟩ ∈ lw_tbl := List.mem_append_right _ (List.mem_of_getElem? (i := 916) (by decide +kernel))
theorem cw_X8_127 : mm_CV RX8 127 MX1_compile 1 2 := ⟨⟨Or.inl tw_914, tw_917, tw_6, ⟨by decide, by decide⟩, by decide +kernel, by decide⟩, tw_915, by decide, (RX1, TX1, 6), rfl, tw_916⟩
theorem tw_976 : Cond.methodLink "SootQueen$Reader" 131 ⟨"SootQueen$Reader", "weights", "(I)I"⟩ ∈ lw_tbl := List.mem_append_right _ (List.mem_of_getElem? (i := 976) (by decide +kernel))
theorem tw_979 : Cond.code ⟨"SootQueen$Reader", "weights", "(I)I"⟩ prog_10_method_10_code 4 (some .int) ∈ lw_tbl := List.mem_append_right _ (List.mem_of_getElem? (i := 979) (by decide +kernel))
theorem tw_978 : Cond.instanceMethod ⟨"SootQueen$Reader", "weights", "(I)I"⟩ ∈ lw_tbl := List.mem_append_right _ (List.mem_of_getElem? (i := 978) (by decide +kernel))
theorem sw_30 : Cond.selects "SootQueen$Reader" ⟨"SootQueen$Reader", "weights", "(I)I"⟩ ⟨"SootQueen$Reader", "weights", "(I)I"⟩ ∈ lw_tbl := List.mem_append_left _ (List.mem_of_getElem? (i := 30) (by decide +kernel))
theorem cw_X8_131 : mm_CV RX8 131 MX8_weights 8 1 := ⟨⟨Or.inl tw_976, tw_979, tw_4, ⟨by decide, by decide⟩, by decide +kernel, by decide⟩, tw_978, by decide, (RX8, TX8, 7), rfl, sw_30⟩
theorem tw_182 : Cond.fieldLink "SootQueen$Reader" 69 "SootQueen$Reader" "place" "I" ∈ lw_tbl := List.mem_append_right _ (List.mem_of_getElem? (i := 182) (by decide +kernel))
theorem fl_X8_69 : mm_FL RX8 69 8 6 7 := ⟨(RX8, TX8, 7), rfl, rfl, by decide, by decide, Or.inl tw_182⟩
theorem fp_X8_69 : mm_FP RX8 69 8 6 7 .int := ⟨fl_X8_69, (RX8, TX8, 7), rfl, rfl, by decide +kernel⟩
theorem tw_984 : Cond.methodLink "SootQueen$Reader" 79 ⟨"SootQueen$Reader", "allCardsTold", "()Z"⟩ ∈ lw_tbl := List.mem_append_right _ (List.mem_of_getElem? (i := 984) (by decide +kernel))
theorem tw_987 : Cond.code ⟨"SootQueen$Reader", "allCardsTold", "()Z"⟩ prog_10_method_13_code 2 (some .boolean) ∈ lw_tbl := List.mem_append_right _ (List.mem_of_getElem? (i := 987) (by decide +kernel))
theorem tw_986 : Cond.instanceMethod ⟨"SootQueen$Reader", "allCardsTold", "()Z"⟩ ∈ lw_tbl := List.mem_append_right _ (List.mem_of_getElem? (i := 986) (by decide +kernel))
theorem sw_31 : Cond.selects "SootQueen$Reader" ⟨"SootQueen$Reader", "allCardsTold", "()Z"⟩ ⟨"SootQueen$Reader", "allCardsTold", "()Z"⟩ ∈ lw_tbl := List.mem_append_left _ (List.mem_of_getElem? (i := 31) (by decide +kernel))
theorem cw_X8_79 : mm_CV RX8 79 MX8_allCardsTold 8 0 := ⟨⟨Or.inl tw_984, tw_987, tw_4, ⟨by decide, by decide⟩, by decide +kernel, by decide⟩, tw_986, by decide, (RX8, TX8, 7), rfl, sw_31⟩
theorem tw_128 : Cond.fieldLinkNest "SootQueen$Reader" 66 "SootQueen$Tokens" "start" "I" "SootQueen" ∈ lw_tbl := List.mem_append_right _ (List.mem_of_getElem? (i := 128) (by decide +kernel))
theorem fl_X8_66 : mm_FL RX8 66 9 2 6 := ⟨(RX9, TX9, 6), rfl, rfl, by decide, by decide, Or.inr ⟨_, tw_128⟩⟩
theorem tw_815 : Cond.methodLink "SootQueen$Reader" 55 ⟨"SootQueen$Reader", "lineKind", "()I"⟩ ∈ lw_tbl := List.mem_append_right _ (List.mem_of_getElem? (i := 815) (by decide +kernel))
theorem tw_818 : Cond.code ⟨"SootQueen$Reader", "lineKind", "()I"⟩ prog_10_method_4_code 1 (some .int) ∈ lw_tbl := List.mem_append_right _ (List.mem_of_getElem? (i := 818) (by decide +kernel))
theorem tw_817 : Cond.instanceMethod ⟨"SootQueen$Reader", "lineKind", "()I"⟩ ∈ lw_tbl := List.mem_append_right _ (List.mem_of_getElem? (i := 817) (by decide +kernel))
theorem sw_14 : Cond.selects "SootQueen$Reader" ⟨"SootQueen$Reader", "lineKind", "()I"⟩ ⟨"SootQueen$Reader", "lineKind", "()I"⟩ ∈ lw_tbl := List.mem_append_left _ (List.mem_of_getElem? (i := 14) (by decide +kernel))
theorem cw_X8_55 : mm_CV RX8 55 MX8_lineKind 8 0 := ⟨⟨Or.inl tw_815, tw_818, tw_4, ⟨by decide, by decide⟩, by decide +kernel, by decide⟩, tw_817, by decide, (RX8, TX8, 7), rfl, sw_14⟩
theorem tw_899 : Cond.methodLink "SootQueen$Reader" 63 ⟨"SootQueen$Reader", "personLine", "(I)I"⟩ ∈ lw_tbl := List.mem_append_right _ (List.mem_of_getElem? (i := 899) (by decide +kernel))
theorem tw_902 : Cond.code ⟨"SootQueen$Reader", "personLine", "(I)I"⟩ prog_10_method_6_code 4 (some .int) ∈ lw_tbl := List.mem_append_right _ (List.mem_of_getElem? (i := 902) (by decide +kernel))
theorem tw_901 : Cond.instanceMethod ⟨"SootQueen$Reader", "personLine", "(I)I"⟩ ∈ lw_tbl := List.mem_append_right _ (List.mem_of_getElem? (i := 901) (by decide +kernel))
theorem sw_19 : Cond.selects "SootQueen$Reader" ⟨"SootQueen$Reader", "personLine", "(I)I"⟩ ⟨"SootQueen$Reader", "personLine", "(I)I"⟩ ∈ lw_tbl := List.mem_append_left _ (List.mem_of_getElem? (i := 19) (by decide +kernel))
theorem cw_X8_63 : mm_CV RX8 63 MX8_personLine 8 1 := ⟨⟨Or.inl tw_899, tw_902, tw_4, ⟨by decide, by decide⟩, by decide +kernel, by decide⟩, tw_901, by decide, (RX8, TX8, 7), rfl, sw_19⟩
theorem tw_878 : Cond.methodLink "SootQueen$Reader" 59 ⟨"SootQueen$Reader", "numberLine", "(I)I"⟩ ∈ lw_tbl := List.mem_append_right _ (List.mem_of_getElem? (i := 878) (by decide +kernel))
theorem tw_881 : Cond.code ⟨"SootQueen$Reader", "numberLine", "(I)I"⟩ prog_10_method_5_code 5 (some .int) ∈ lw_tbl := List.mem_append_right _ (List.mem_of_getElem? (i := 881) (by decide +kernel))
theorem tw_880 : Cond.instanceMethod ⟨"SootQueen$Reader", "numberLine", "(I)I"⟩ ∈ lw_tbl := List.mem_append_right _ (List.mem_of_getElem? (i := 880) (by decide +kernel))
theorem sw_15 : Cond.selects "SootQueen$Reader" ⟨"SootQueen$Reader", "numberLine", "(I)I"⟩ ⟨"SootQueen$Reader", "numberLine", "(I)I"⟩ ∈ lw_tbl := List.mem_append_left _ (List.mem_of_getElem? (i := 15) (by decide +kernel))
theorem cw_X8_59 : mm_CV RX8 59 MX8_numberLine 8 1 := ⟨⟨Or.inl tw_878, tw_881, tw_4, ⟨by decide, by decide⟩, by decide +kernel, by decide⟩, tw_880, by decide, (RX8, TX8, 7), rfl, sw_15⟩
theorem fp_X8_26 : mm_FP RX8 26 8 4 7 (.object "SootQueen$Told") := ⟨fl_X8_26, (RX8, TX8, 7), rfl, rfl, by decide +kernel⟩
theorem tw_784 : Cond.methodLink "SootQueen$Reader" 39 ⟨"SootQueen$Told", "clear", "()V"⟩ ∈ lw_tbl := List.mem_append_right _ (List.mem_of_getElem? (i := 784) (by decide +kernel))
theorem tw_61 : Cond.code ⟨"SootQueen$Told", "clear", "()V"⟩ prog_12_method_2_code 2 none ∈ lw_tbl := List.mem_append_right _ (List.mem_of_getElem? (i := 61) (by decide +kernel))
theorem tw_59 : Cond.instanceMethod ⟨"SootQueen$Told", "clear", "()V"⟩ ∈ lw_tbl := List.mem_append_right _ (List.mem_of_getElem? (i := 59) (by decide +kernel))
theorem tw_60 : Cond.selects "SootQueen$Told" ⟨"SootQueen$Told", "clear", "()V"⟩ ⟨"SootQueen$Told", "clear", "()V"⟩ ∈ lw_tbl := List.mem_append_right _ (List.mem_of_getElem? (i := 60) (by decide +kernel))
theorem cw_X8_39 : mm_CV RX8 39 MX10_clear 10 0 := ⟨⟨Or.inl tw_784, tw_61, tw_2, ⟨by decide, by decide⟩, by decide +kernel, by decide⟩, tw_59, by decide, (RX10, TX10, 11), rfl, tw_60⟩
theorem tw_785 : Cond.methodLink "SootQueen$Reader" 44 ⟨"SootQueen$Reader", "forget", "()V"⟩ ∈ lw_tbl := List.mem_append_right _ (List.mem_of_getElem? (i := 785) (by decide +kernel))
theorem tw_788 : Cond.code ⟨"SootQueen$Reader", "forget", "()V"⟩ prog_10_method_3_code 2 none ∈ lw_tbl := List.mem_append_right _ (List.mem_of_getElem? (i := 788) (by decide +kernel))
theorem tw_787 : Cond.instanceMethod ⟨"SootQueen$Reader", "forget", "()V"⟩ ∈ lw_tbl := List.mem_append_right _ (List.mem_of_getElem? (i := 787) (by decide +kernel))
theorem sw_11 : Cond.selects "SootQueen$Reader" ⟨"SootQueen$Reader", "forget", "()V"⟩ ⟨"SootQueen$Reader", "forget", "()V"⟩ ∈ lw_tbl := List.mem_append_left _ (List.mem_of_getElem? (i := 11) (by decide +kernel))
theorem cw_X8_44 : mm_CV RX8 44 MX8_forget 8 0 := ⟨⟨Or.inl tw_785, tw_788, tw_4, ⟨by decide, by decide⟩, by decide +kernel, by decide⟩, tw_787, by decide, (RX8, TX8, 7), rfl, sw_11⟩
theorem tw_789 : Cond.methodLink "SootQueen$Reader" 47 ⟨"SootQueen$Tokens", "open", "([II)V"⟩ ∈ lw_tbl := List.mem_append_right _ (List.mem_of_getElem? (i := 789) (by decide +kernel))
theorem tw_792 : Cond.code ⟨"SootQueen$Tokens", "open", "([II)V"⟩ prog_11_method_2_code 3 none ∈ lw_tbl := List.mem_append_right _ (List.mem_of_getElem? (i := 792) (by decide +kernel))
theorem tw_790 : Cond.instanceMethod ⟨"SootQueen$Tokens", "open", "([II)V"⟩ ∈ lw_tbl := List.mem_append_right _ (List.mem_of_getElem? (i := 790) (by decide +kernel))
theorem tw_791 : Cond.selects "SootQueen$Tokens" ⟨"SootQueen$Tokens", "open", "([II)V"⟩ ⟨"SootQueen$Tokens", "open", "([II)V"⟩ ∈ lw_tbl := List.mem_append_right _ (List.mem_of_getElem? (i := 791) (by decide +kernel))
theorem cw_X8_47 : mm_CV RX8 47 MX9_open 9 2 := ⟨⟨Or.inl tw_789, tw_792, tw_5, ⟨by decide, by decide⟩, by decide +kernel, by decide⟩, tw_790, by decide, (RX9, TX9, 6), rfl, tw_791⟩
theorem dX6_playOut_0 : decode cX6_playOut 0 = .ok (.aload_n 0, 1) := by decide +kernel
theorem dX6_playOut_1 : decode cX6_playOut 1 = .ok (.getfield 20, 3) := by decide +kernel
theorem dX6_playOut_4 : decode cX6_playOut 4 = .ok (.aload_n 1, 1) := by decide +kernel
theorem dX6_playOut_5 : decode cX6_playOut 5 = .ok (.invokevirtual 106, 3) := by decide +kernel
theorem dX6_playOut_8 : decode cX6_playOut 8 = .ok (.aload_n 0, 1) := by decide +kernel
theorem dX6_playOut_9 : decode cX6_playOut 9 = .ok (.aload_n 0, 1) := by decide +kernel
theorem dX6_playOut_10 : decode cX6_playOut 10 = .ok (.getfield 103, 3) := by decide +kernel
theorem dX6_playOut_13 : decode cX6_playOut 13 = .ok (.aload_n 0, 1) := by decide +kernel
theorem dX6_playOut_14 : decode cX6_playOut 14 = .ok (.getfield 20, 3) := by decide +kernel
theorem dX6_playOut_17 : decode cX6_playOut 17 = .ok (.getfield 109, 3) := by decide +kernel
theorem dX6_playOut_20 : decode cX6_playOut 20 = .ok (.invokestatic 112, 3) := by decide +kernel
theorem dX6_playOut_23 : decode cX6_playOut 23 = .ok (.putfield 103, 3) := by decide +kernel
theorem dX6_playOut_26 : decode cX6_playOut 26 = .ok (.aload_n 1, 1) := by decide +kernel
theorem dX6_playOut_27 : decode cX6_playOut 27 = .ok (.aload_n 0, 1) := by decide +kernel
theorem dX6_playOut_28 : decode cX6_playOut 28 = .ok (.getfield 20, 3) := by decide +kernel
theorem dX6_playOut_31 : decode cX6_playOut 31 = .ok (.getfield 118, 3) := by decide +kernel
theorem dX6_playOut_34 : decode cX6_playOut 34 = .ok (.invokevirtual 120, 3) := by decide +kernel
theorem dX6_playOut_37 : decode cX6_playOut 37 = .ok (.istore_n 2, 1) := by decide +kernel
theorem dX6_playOut_38 : decode cX6_playOut 38 = .ok (.iload_n 2, 1) := by decide +kernel
theorem dX6_playOut_39 : decode cX6_playOut 39 = .ok (.ifCond .lt 22, 3) := by decide +kernel
theorem dX6_playOut_42 : decode cX6_playOut 42 = .ok (.iload_n 2, 1) := by decide +kernel
theorem dX6_playOut_43 : decode cX6_playOut 43 = .ok (.bipush 6, 2) := by decide +kernel
theorem dX6_playOut_45 : decode cX6_playOut 45 = .ok (.if_icmp .ge 16, 3) := by decide +kernel
theorem dX6_playOut_48 : decode cX6_playOut 48 = .ok (.aload_n 0, 1) := by decide +kernel
theorem dX6_playOut_49 : decode cX6_playOut 49 = .ok (.getfield 35, 3) := by decide +kernel
theorem dX6_playOut_52 : decode cX6_playOut 52 = .ok (.iload_n 2, 1) := by decide +kernel
theorem dX6_playOut_53 : decode cX6_playOut 53 = .ok (.dup2, 1) := by decide +kernel
theorem dX6_playOut_54 : decode cX6_playOut 54 = .ok (.iaload, 1) := by decide +kernel
theorem dX6_playOut_55 : decode cX6_playOut 55 = .ok (.iconst 1, 1) := by decide +kernel
theorem dX6_playOut_56 : decode cX6_playOut 56 = .ok (.iadd, 1) := by decide +kernel
theorem dX6_playOut_57 : decode cX6_playOut 57 = .ok (.iastore, 1) := by decide +kernel
theorem dX6_playOut_58 : decode cX6_playOut 58 = .ok (.goto 13, 3) := by decide +kernel
theorem dX6_playOut_61 : decode cX6_playOut 61 = .ok (.aload_n 0, 1) := by decide +kernel
theorem dX6_playOut_62 : decode cX6_playOut 62 = .ok (.dup, 1) := by decide +kernel
theorem dX6_playOut_63 : decode cX6_playOut 63 = .ok (.getfield 100, 3) := by decide +kernel
theorem dX6_playOut_66 : decode cX6_playOut 66 = .ok (.iconst 1, 1) := by decide +kernel
theorem dX6_playOut_67 : decode cX6_playOut 67 = .ok (.iadd, 1) := by decide +kernel
theorem dX6_playOut_68 : decode cX6_playOut 68 = .ok (.putfield 100, 3) := by decide +kernel
theorem dX6_playOut_71 : decode cX6_playOut 71 = .ok (.iload_n 2, 1) := by decide +kernel
theorem dX6_playOut_72 : decode cX6_playOut 72 = .ok (.ireturn, 1) := by decide +kernel
def X6_playOut_b71 (e : mm_E) (i2 : Int32) (m : mm_V) : Option (Int32 × mm_V) := some (i2, m)
theorem X6_playOut_b71_ok {K : mm_K} {nx : Option Nat} {e : mm_E} (hz : e.2.1 = K.2.2.2.2) {d : Nat} (hd : 5 ≤ d) {i2 : Int32} {a0 : Nat} (h0 : e.1 a0 = some (6, 12)) {m : mm_V} {r : (Int32 × mm_V)} (hr : X6_playOut_b71 e i2 m = some r) : mm_G K MX6_playOut d (mm_Fi e.1 nx r) 71 [none, none, some (.int i2)] [] (e.1, m) nx 0 0 := by
  obtain ⟨d, rfl⟩ : ∃ d', d = d' + 1 := ⟨d - 1, by omega⟩
  unfold X6_playOut_b71 at hr
  refine ml_iload_n (pc := 71) dX6_playOut_71 rfl (mm_get_s (mm_get_s mm_get_0)) ?_
  exact mb_iret dX6_playOut_72 rfl hr
def X6_playOut_b61 (e : mm_E) (a0 : Nat) (i2 : Int32) (m : mm_V) : Option (Int32 × mm_V) := (mm_gi e.1 m 6 12 a0 5).bind fun x1 => (mm_pf e.1 m 6 12 a0 5 (.int (x1 + (1 : Int32)))).bind fun m2 => X6_playOut_b71 e i2  m2
theorem X6_playOut_b61_ok {K : mm_K} {nx : Option Nat} {e : mm_E} (hz : e.2.1 = K.2.2.2.2) {d : Nat} (hd : 5 ≤ d) {a0 : Nat} {i2 : Int32} (h0 : e.1 a0 = some (6, 12)) {m : mm_V} {r : (Int32 × mm_V)} (hr : X6_playOut_b61 e a0 i2 m = some r) : mm_G K MX6_playOut d (mm_Fi e.1 nx r) 61 [some (.ref a0), none, some (.int i2)] [] (e.1, m) nx 0 0 := by
  obtain ⟨d, rfl⟩ : ∃ d', d = d' + 1 := ⟨d - 1, by omega⟩
  unfold X6_playOut_b61 at hr
  refine ml_aload_n (pc := 61) dX6_playOut_61 rfl mm_get_0 ?_
  refine mg_dup (pc := 62) dX6_playOut_62 rfl ?_
  refine mb_gi (pc := 63) dX6_playOut_63 fl_X6_100 hr (fun x1 hr => ?_)
  refine mg_iconst (pc := 66) dX6_playOut_66 kc_1 ?_
  refine mg_iadd (pc := 67) dX6_playOut_67 ?_
  refine mb_pi (pc := 68) dX6_playOut_68 fp_X6_100 hr (fun m2 hr => ?_)
  exact mg_weak (mm_le_n (mm_le_n (mm_le_s mm_le_0))) (X6_playOut_b71_ok hz hd h0 hr)
def X6_playOut (e : mm_E) (a0 : Nat) (a1 : Nat) (m : mm_V) : Option (Int32 × mm_V) := (mm_gr e.1 m 6 12 a0 1).bind fun c1 => if e.1 c1 = some (7, 8) then ((X7_watch e c1 a1 m).bind fun r2 => (mm_gi e.1 r2 6 12 a0 6).bind fun x4 => (mm_gr e.1 r2 6 12 a0 1).bind fun c5 => (mm_gi e.1 r2 7 8 c5 5).bind fun x6 => (J9_max_7cf53 e x4 x6 r2).bind fun r7 => (mm_pf e.1 r7.2 6 12 a0 6 (.int r7.1)).bind fun m8 => (mm_gr e.1 m8 6 12 a0 1).bind fun c9 => (mm_gi e.1 m8 7 8 c9 4).bind fun x10 => if e.1 a1 = some (4, 12) then ((X4_sitterAt e a1 x10 m8).bind fun r11 => if r11.1 < 0 then (X6_playOut_b61 e a0 r11.1  r11.2) else (if (6 : Int32) ≤ r11.1 then (X6_playOut_b61 e a0 r11.1  r11.2) else ((mm_gr e.1 r11.2 6 12 a0 4).bind fun c13 => (mm_ai e.1 r11.2 20 c13 r11.1).bind fun x14 => (mm_si e.1 r11.2 c13 r11.1 (x14 + (1 : Int32))).bind fun m15 => X6_playOut_b71 e r11.1  m15))) else none) else none
theorem X6_playOut_ok {K : mm_K} {nx : Option Nat} {e : mm_E} (hz : e.2.1 = K.2.2.2.2) {d : Nat} (hd : 5 ≤ d) {a0 : Nat} {a1 : Nat} (h0 : e.1 a0 = some (6, 12)) {m : mm_V} {r : (Int32 × mm_V)} (hr : X6_playOut e a0 a1 m = some r) : mm_Cn K MX6_playOut d (mm_Fi e.1 nx r) [.ref a0, .ref a1] (e.1, m) nx := by
  obtain ⟨d, rfl⟩ : ∃ d', d = d' + 1 := ⟨d - 1, by omega⟩
  refine mm_entry (by decide) (Nat.le_of_ble_eq_true rfl) rfl (fun hok => ?_)
  unfold X6_playOut at hr
  refine mg_weak (L' := [some (.ref a0), some (.ref a1), none]) (mm_le_s (mm_le_s (mm_le_e mm_le_0))) ?_
  refine ml_aload_n (pc := 0) dX6_playOut_0 rfl mm_get_0 ?_
  refine mb_gr (pc := 1) dX6_playOut_1 fl_X6_20 hr (fun c1 hr => ?_)
  refine ml_aload_n (pc := 4) dX6_playOut_4 rfl (mm_get_s mm_get_0) ?_
  refine mb_ck hr (fun hb3 hr => ?_)
  refine mb_cVv (pc := 5) (As := [.ref a1]) (rest := []) dX6_playOut_5 cw_X6_106 hb3 hr (fun v hv => X7_watch_ok hz (by omega) hb3 hv) rfl (Nat.le_of_ble_eq_true rfl) (Nat.zero_le _) (Nat.zero_le _) (fun r2 hr => ?_)
  refine ml_aload_n (pc := 8) dX6_playOut_8 rfl mm_get_0 ?_
  refine ml_aload_n (pc := 9) dX6_playOut_9 rfl mm_get_0 ?_
  refine mb_gi (pc := 10) dX6_playOut_10 fl_X6_103 hr (fun x4 hr => ?_)
  refine ml_aload_n (pc := 13) dX6_playOut_13 rfl mm_get_0 ?_
  refine mb_gr (pc := 14) dX6_playOut_14 fl_X6_20 hr (fun c5 hr => ?_)
  refine mb_gi (pc := 17) dX6_playOut_17 fl_X6_109 hr (fun x6 hr => ?_)
  refine mb_cSi (pc := 20) (As := [.int x4, .int x6]) (rest := [.ref a0]) dX6_playOut_20 cw_X6_112  hr (fun v hv => J9_max_7cf53_ok hz (by omega)  hv) rfl (Nat.le_of_ble_eq_true rfl) (Nat.zero_le _) (Nat.zero_le _) (fun r7 hr => ?_)
  refine mb_pi (pc := 23) dX6_playOut_23 fp_X6_103 hr (fun m8 hr => ?_)
  refine ml_aload_n (pc := 26) dX6_playOut_26 rfl (mm_get_s mm_get_0) ?_
  refine ml_aload_n (pc := 27) dX6_playOut_27 rfl mm_get_0 ?_
  refine mb_gr (pc := 28) dX6_playOut_28 fl_X6_20 hr (fun c9 hr => ?_)
  refine mb_gi (pc := 31) dX6_playOut_31 fl_X6_118 hr (fun x10 hr => ?_)
  refine mb_ck hr (fun hb12 hr => ?_)
  refine mb_cVi (pc := 34) (As := [.int x10]) (rest := []) dX6_playOut_34 cw_X6_120 hb12 hr (fun v hv => X4_sitterAt_ok hz (by omega) hb12 hv) rfl (Nat.le_of_ble_eq_true rfl) (Nat.zero_le _) (Nat.zero_le _) (fun r11 hr => ?_)
  refine ml_istore_n (pc := 37) dX6_playOut_37 rfl (Nat.le_of_ble_eq_true rfl) (mm_st1_s mm_st1_r) ?_
  refine ml_iload_n (pc := 38) dX6_playOut_38 rfl (mm_get_s (mm_get_s mm_get_0)) ?_
  refine mb_if_lt (pc := 39) 61 dX6_playOut_39 rfl hr (fun hr => ?_) (fun hr => ?_)
  · exact mg_weak (mm_le_s (mm_le_n (mm_le_s mm_le_0))) (X6_playOut_b61_ok hz hd h0 hr)
  · refine ml_iload_n (pc := 42) dX6_playOut_42 rfl (mm_get_s (mm_get_s mm_get_0)) ?_
    refine mg_bipush (pc := 43) dX6_playOut_43 kb_6 ?_
    refine mb_icmp_ge (pc := 45) 61 dX6_playOut_45 rfl hr (fun hr => ?_) (fun hr => ?_)
    · exact mg_weak (mm_le_s (mm_le_n (mm_le_s mm_le_0))) (X6_playOut_b61_ok hz hd h0 hr)
    · refine ml_aload_n (pc := 48) dX6_playOut_48 rfl mm_get_0 ?_
      refine mb_gr (pc := 49) dX6_playOut_49 fl_X6_35 hr (fun c13 hr => ?_)
      refine ml_iload_n (pc := 52) dX6_playOut_52 rfl (mm_get_s (mm_get_s mm_get_0)) ?_
      refine mg_dup2 (pc := 53) dX6_playOut_53 rfl rfl ?_
      refine mb_ai (pc := 54) dX6_playOut_54 hr (fun x14 hr => ?_)
      refine mg_iconst (pc := 55) dX6_playOut_55 kc_1 ?_
      refine mg_iadd (pc := 56) dX6_playOut_56 ?_
      refine mb_si (pc := 57) dX6_playOut_57 hr (fun m15 hr => ?_)
      refine mg_goto (pc := 58) 71 dX6_playOut_58 rfl ?_
      exact mg_weak (mm_le_n (mm_le_n (mm_le_s mm_le_0))) (X6_playOut_b71_ok hz hd h0 hr)
theorem dX6_orderAsNumber_0 : decode cX6_orderAsNumber 0 = .ok (.iconst 0, 1) := by decide +kernel
theorem dX6_orderAsNumber_1 : decode cX6_orderAsNumber 1 = .ok (.istore_n 2, 1) := by decide +kernel
theorem dX6_orderAsNumber_2 : decode cX6_orderAsNumber 2 = .ok (.iload_n 1, 1) := by decide +kernel
theorem dX6_orderAsNumber_3 : decode cX6_orderAsNumber 3 = .ok (.iconst 1, 1) := by decide +kernel
theorem dX6_orderAsNumber_4 : decode cX6_orderAsNumber 4 = .ok (.isub, 1) := by decide +kernel
theorem dX6_orderAsNumber_5 : decode cX6_orderAsNumber 5 = .ok (.istore_n 3, 1) := by decide +kernel
theorem dX6_orderAsNumber_6 : decode cX6_orderAsNumber 6 = .ok (.iload_n 3, 1) := by decide +kernel
theorem dX6_orderAsNumber_7 : decode cX6_orderAsNumber 7 = .ok (.ifCond .lt 21, 3) := by decide +kernel
theorem dX6_orderAsNumber_10 : decode cX6_orderAsNumber 10 = .ok (.iload_n 2, 1) := by decide +kernel
theorem dX6_orderAsNumber_11 : decode cX6_orderAsNumber 11 = .ok (.bipush 6, 2) := by decide +kernel
theorem dX6_orderAsNumber_13 : decode cX6_orderAsNumber 13 = .ok (.imul, 1) := by decide +kernel
theorem dX6_orderAsNumber_14 : decode cX6_orderAsNumber 14 = .ok (.aload_n 0, 1) := by decide +kernel
theorem dX6_orderAsNumber_15 : decode cX6_orderAsNumber 15 = .ok (.getfield 31, 3) := by decide +kernel
theorem dX6_orderAsNumber_18 : decode cX6_orderAsNumber 18 = .ok (.iload_n 3, 1) := by decide +kernel
theorem dX6_orderAsNumber_19 : decode cX6_orderAsNumber 19 = .ok (.iaload, 1) := by decide +kernel
theorem dX6_orderAsNumber_20 : decode cX6_orderAsNumber 20 = .ok (.iadd, 1) := by decide +kernel
theorem dX6_orderAsNumber_21 : decode cX6_orderAsNumber 21 = .ok (.istore_n 2, 1) := by decide +kernel
theorem dX6_orderAsNumber_22 : decode cX6_orderAsNumber 22 = .ok (.iinc 3 (-1), 3) := by decide +kernel
theorem dX6_orderAsNumber_25 : decode cX6_orderAsNumber 25 = .ok (.goto (-19), 3) := by decide +kernel
theorem dX6_orderAsNumber_28 : decode cX6_orderAsNumber 28 = .ok (.iload_n 2, 1) := by decide +kernel
theorem dX6_orderAsNumber_29 : decode cX6_orderAsNumber 29 = .ok (.ireturn, 1) := by decide +kernel
def X6_orderAsNumber_L6 (e : mm_E) (a0 : Nat) : Nat → Int32 → Int32 → mm_V → Option (Int32 × mm_V)
  | 0, _, _, _ => none
  | n + 1, i2, i3, m => if i3 < 0 then (some (i2, m)) else ((mm_gr e.1 m 6 12 a0 3).bind fun c1 => (mm_ai e.1 m 20 c1 i3).bind fun x2 => X6_orderAsNumber_L6 e a0 n ((i2 * (6 : Int32)) + x2) (i3 + (-1)) m)
theorem X6_orderAsNumber_L6_ok {K : mm_K} {nx : Option Nat} {e : mm_E} (hz : e.2.1 = K.2.2.2.2) {d : Nat} (hd : 0 ≤ d) {a0 : Nat} (h0 : e.1 a0 = some (6, 12)) : ∀ (n : Nat) (i2 : Int32) (i3 : Int32) (m : mm_V) (r : (Int32 × mm_V)), X6_orderAsNumber_L6 e a0 n i2 i3 m = some r → mm_G K MX6_orderAsNumber d (mm_Fi e.1 nx r) 6 [some (.ref a0), none, some (.int i2), some (.int i3)] [] (e.1, m) nx 0 0 := by
  intro n
  induction n with
  | zero => intro i2 i3 m r hr; unfold X6_orderAsNumber_L6 at hr; cases hr
  | succ n ih =>
    intro i2 i3 m r hr
    unfold X6_orderAsNumber_L6 at hr
    refine ml_iload_n (pc := 6) dX6_orderAsNumber_6 rfl (mm_get_s (mm_get_s (mm_get_s mm_get_0))) ?_
    refine mb_if_lt (pc := 7) 28 dX6_orderAsNumber_7 rfl hr (fun hr => ?_) (fun hr => ?_)
    · refine ml_iload_n (pc := 28) dX6_orderAsNumber_28 rfl (mm_get_s (mm_get_s mm_get_0)) ?_
      exact mb_iret dX6_orderAsNumber_29 rfl hr
    · refine ml_iload_n (pc := 10) dX6_orderAsNumber_10 rfl (mm_get_s (mm_get_s mm_get_0)) ?_
      refine mg_bipush (pc := 11) dX6_orderAsNumber_11 kb_6 ?_
      refine mg_imul (pc := 13) dX6_orderAsNumber_13 ?_
      refine ml_aload_n (pc := 14) dX6_orderAsNumber_14 rfl mm_get_0 ?_
      refine mb_gr (pc := 15) dX6_orderAsNumber_15 fl_X6_31 hr (fun c1 hr => ?_)
      refine ml_iload_n (pc := 18) dX6_orderAsNumber_18 rfl (mm_get_s (mm_get_s (mm_get_s mm_get_0))) ?_
      refine mb_ai (pc := 19) dX6_orderAsNumber_19 hr (fun x2 hr => ?_)
      refine mg_iadd (pc := 20) dX6_orderAsNumber_20 ?_
      refine ml_istore_n (pc := 21) dX6_orderAsNumber_21 rfl (Nat.le_of_ble_eq_true rfl) (mm_st1_s mm_st1_n) ?_
      refine ml_iinc (pc := 22) dX6_orderAsNumber_22 (mm_get_s (mm_get_s (mm_get_s mm_get_0))) (congrArg (fun z => i3 + z) kc_m1) (Nat.le_of_ble_eq_true rfl) (mm_st1_s (mm_st1_s mm_st1_i)) ?_
      refine mg_goto (pc := 25) 6 dX6_orderAsNumber_25 rfl ?_
      exact mg_weak (mm_le_s (mm_le_n (mm_le_s (mm_le_s mm_le_0)))) (ih _ _ _ _ hr)
def X6_orderAsNumber (e : mm_E) (a0 : Nat) (i1 : Int32) (m : mm_V) : Option (Int32 × mm_V) := X6_orderAsNumber_L6 e a0 e.2.2 (0 : Int32) (i1 - (1 : Int32)) m
theorem X6_orderAsNumber_ok {K : mm_K} {nx : Option Nat} {e : mm_E} (hz : e.2.1 = K.2.2.2.2) {d : Nat} (hd : 0 ≤ d) {a0 : Nat} {i1 : Int32} (h0 : e.1 a0 = some (6, 12)) {m : mm_V} {r : (Int32 × mm_V)} (hr : X6_orderAsNumber e a0 i1 m = some r) : mm_Cn K MX6_orderAsNumber d (mm_Fi e.1 nx r) [.ref a0, .int i1] (e.1, m) nx := by
  refine mm_entry (by decide) (Nat.le_of_ble_eq_true rfl) rfl (fun hok => ?_)
  unfold X6_orderAsNumber at hr
  refine mg_weak (L' := [some (.ref a0), some (.int i1), none, none]) (mm_le_s (mm_le_s (mm_le_e (mm_le_e mm_le_0)))) ?_
  refine mg_iconst (pc := 0) dX6_orderAsNumber_0 kc_0 ?_
  refine ml_istore_n (pc := 1) dX6_orderAsNumber_1 rfl (Nat.le_of_ble_eq_true rfl) (mm_st1_s mm_st1_i) ?_
  refine ml_iload_n (pc := 2) dX6_orderAsNumber_2 rfl (mm_get_s mm_get_0) ?_
  refine mg_iconst (pc := 3) dX6_orderAsNumber_3 kc_1 ?_
  refine mg_isub (pc := 4) dX6_orderAsNumber_4 ?_
  refine ml_istore_n (pc := 5) dX6_orderAsNumber_5 rfl (Nat.le_of_ble_eq_true rfl) (mm_st1_s (mm_st1_s mm_st1_i)) ?_
  exact mg_weak (mm_le_s (mm_le_n (mm_le_s (mm_le_s mm_le_0)))) (X6_orderAsNumber_L6_ok hz hd h0 _ _ _ _ _ hr)
theorem dX6_swap_0 : decode cX6_swap 0 = .ok (.iload_n 1, 1) := by decide +kernel
theorem dX6_swap_1 : decode cX6_swap 1 = .ok (.ifCond .lt 45, 3) := by decide +kernel
theorem dX6_swap_4 : decode cX6_swap 4 = .ok (.iload_n 1, 1) := by decide +kernel
theorem dX6_swap_5 : decode cX6_swap 5 = .ok (.bipush 6, 2) := by decide +kernel
theorem dX6_swap_7 : decode cX6_swap 7 = .ok (.if_icmp .ge 39, 3) := by decide +kernel
theorem dX6_swap_10 : decode cX6_swap 10 = .ok (.iload_n 2, 1) := by decide +kernel
theorem dX6_swap_11 : decode cX6_swap 11 = .ok (.ifCond .lt 35, 3) := by decide +kernel
theorem dX6_swap_14 : decode cX6_swap 14 = .ok (.iload_n 2, 1) := by decide +kernel
theorem dX6_swap_15 : decode cX6_swap 15 = .ok (.bipush 6, 2) := by decide +kernel
theorem dX6_swap_17 : decode cX6_swap 17 = .ok (.if_icmp .ge 29, 3) := by decide +kernel
theorem dX6_swap_20 : decode cX6_swap 20 = .ok (.aload_n 0, 1) := by decide +kernel
theorem dX6_swap_21 : decode cX6_swap 21 = .ok (.getfield 31, 3) := by decide +kernel
theorem dX6_swap_24 : decode cX6_swap 24 = .ok (.iload_n 1, 1) := by decide +kernel
theorem dX6_swap_25 : decode cX6_swap 25 = .ok (.iaload, 1) := by decide +kernel
theorem dX6_swap_26 : decode cX6_swap 26 = .ok (.istore_n 3, 1) := by decide +kernel
theorem dX6_swap_27 : decode cX6_swap 27 = .ok (.aload_n 0, 1) := by decide +kernel
theorem dX6_swap_28 : decode cX6_swap 28 = .ok (.getfield 31, 3) := by decide +kernel
theorem dX6_swap_31 : decode cX6_swap 31 = .ok (.iload_n 1, 1) := by decide +kernel
theorem dX6_swap_32 : decode cX6_swap 32 = .ok (.aload_n 0, 1) := by decide +kernel
theorem dX6_swap_33 : decode cX6_swap 33 = .ok (.getfield 31, 3) := by decide +kernel
theorem dX6_swap_36 : decode cX6_swap 36 = .ok (.iload_n 2, 1) := by decide +kernel
theorem dX6_swap_37 : decode cX6_swap 37 = .ok (.iaload, 1) := by decide +kernel
theorem dX6_swap_38 : decode cX6_swap 38 = .ok (.iastore, 1) := by decide +kernel
theorem dX6_swap_39 : decode cX6_swap 39 = .ok (.aload_n 0, 1) := by decide +kernel
theorem dX6_swap_40 : decode cX6_swap 40 = .ok (.getfield 31, 3) := by decide +kernel
theorem dX6_swap_43 : decode cX6_swap 43 = .ok (.iload_n 2, 1) := by decide +kernel
theorem dX6_swap_44 : decode cX6_swap 44 = .ok (.iload_n 3, 1) := by decide +kernel
theorem dX6_swap_45 : decode cX6_swap 45 = .ok (.iastore, 1) := by decide +kernel
theorem dX6_swap_46 : decode cX6_swap 46 = .ok (.return_, 1) := by decide +kernel
def X6_swap_b46 (e : mm_E) (m : mm_V) : Option mm_V := some m
theorem X6_swap_b46_ok {K : mm_K} {nx : Option Nat} {e : mm_E} (hz : e.2.1 = K.2.2.2.2) {d : Nat} (hd : 0 ≤ d) {a0 : Nat} (h0 : e.1 a0 = some (6, 12)) {m : mm_V} {r : mm_V} (hr : X6_swap_b46 e m = some r) : mm_G K MX6_swap d (mm_Fv e.1 nx r) 46 [none, none, none, none] [] (e.1, m) nx 0 0 := by
  unfold X6_swap_b46 at hr
  exact mb_vret dX6_swap_46 rfl hr
def X6_swap (e : mm_E) (a0 : Nat) (i1 : Int32) (i2 : Int32) (m : mm_V) : Option mm_V := if i1 < 0 then (X6_swap_b46 e   m) else (if (6 : Int32) ≤ i1 then (X6_swap_b46 e   m) else (if i2 < 0 then (X6_swap_b46 e   m) else (if (6 : Int32) ≤ i2 then (X6_swap_b46 e   m) else ((mm_gr e.1 m 6 12 a0 3).bind fun c1 => (mm_ai e.1 m 20 c1 i1).bind fun x2 => (mm_gr e.1 m 6 12 a0 3).bind fun c3 => (mm_gr e.1 m 6 12 a0 3).bind fun c4 => (mm_ai e.1 m 20 c4 i2).bind fun x5 => (mm_si e.1 m c3 i1 x5).bind fun m6 => (mm_gr e.1 m6 6 12 a0 3).bind fun c7 => (mm_si e.1 m6 c7 i2 x2).bind fun m8 => X6_swap_b46 e   m8))))
theorem X6_swap_ok {K : mm_K} {nx : Option Nat} {e : mm_E} (hz : e.2.1 = K.2.2.2.2) {d : Nat} (hd : 0 ≤ d) {a0 : Nat} {i1 : Int32} {i2 : Int32} (h0 : e.1 a0 = some (6, 12)) {m : mm_V} {r : mm_V} (hr : X6_swap e a0 i1 i2 m = some r) : mm_Cn K MX6_swap d (mm_Fv e.1 nx r) [.ref a0, .int i1, .int i2] (e.1, m) nx := by
  refine mm_entry (by decide) (Nat.le_of_ble_eq_true rfl) rfl (fun hok => ?_)
  unfold X6_swap at hr
  refine mg_weak (L' := [some (.ref a0), some (.int i1), some (.int i2), none]) (mm_le_s (mm_le_s (mm_le_s (mm_le_e mm_le_0)))) ?_
  refine ml_iload_n (pc := 0) dX6_swap_0 rfl (mm_get_s mm_get_0) ?_
  refine mb_if_lt (pc := 1) 46 dX6_swap_1 rfl hr (fun hr => ?_) (fun hr => ?_)
  · exact mg_weak (mm_le_n (mm_le_n (mm_le_n (mm_le_n mm_le_0)))) (X6_swap_b46_ok hz hd h0 hr)
  · refine ml_iload_n (pc := 4) dX6_swap_4 rfl (mm_get_s mm_get_0) ?_
    refine mg_bipush (pc := 5) dX6_swap_5 kb_6 ?_
    refine mb_icmp_ge (pc := 7) 46 dX6_swap_7 rfl hr (fun hr => ?_) (fun hr => ?_)
    · exact mg_weak (mm_le_n (mm_le_n (mm_le_n (mm_le_n mm_le_0)))) (X6_swap_b46_ok hz hd h0 hr)
    · refine ml_iload_n (pc := 10) dX6_swap_10 rfl (mm_get_s (mm_get_s mm_get_0)) ?_
      refine mb_if_lt (pc := 11) 46 dX6_swap_11 rfl hr (fun hr => ?_) (fun hr => ?_)
      · exact mg_weak (mm_le_n (mm_le_n (mm_le_n (mm_le_n mm_le_0)))) (X6_swap_b46_ok hz hd h0 hr)
      · refine ml_iload_n (pc := 14) dX6_swap_14 rfl (mm_get_s (mm_get_s mm_get_0)) ?_
        refine mg_bipush (pc := 15) dX6_swap_15 kb_6 ?_
        refine mb_icmp_ge (pc := 17) 46 dX6_swap_17 rfl hr (fun hr => ?_) (fun hr => ?_)
        · exact mg_weak (mm_le_n (mm_le_n (mm_le_n (mm_le_n mm_le_0)))) (X6_swap_b46_ok hz hd h0 hr)
        · refine ml_aload_n (pc := 20) dX6_swap_20 rfl mm_get_0 ?_
          refine mb_gr (pc := 21) dX6_swap_21 fl_X6_31 hr (fun c1 hr => ?_)
          refine ml_iload_n (pc := 24) dX6_swap_24 rfl (mm_get_s mm_get_0) ?_
          refine mb_ai (pc := 25) dX6_swap_25 hr (fun x2 hr => ?_)
          refine ml_istore_n (pc := 26) dX6_swap_26 rfl (Nat.le_of_ble_eq_true rfl) (mm_st1_s (mm_st1_s mm_st1_i)) ?_
          refine ml_aload_n (pc := 27) dX6_swap_27 rfl mm_get_0 ?_
          refine mb_gr (pc := 28) dX6_swap_28 fl_X6_31 hr (fun c3 hr => ?_)
          refine ml_iload_n (pc := 31) dX6_swap_31 rfl (mm_get_s mm_get_0) ?_
          refine ml_aload_n (pc := 32) dX6_swap_32 rfl mm_get_0 ?_
          refine mb_gr (pc := 33) dX6_swap_33 fl_X6_31 hr (fun c4 hr => ?_)
          refine ml_iload_n (pc := 36) dX6_swap_36 rfl (mm_get_s (mm_get_s mm_get_0)) ?_
          refine mb_ai (pc := 37) dX6_swap_37 hr (fun x5 hr => ?_)
          refine mb_si (pc := 38) dX6_swap_38 hr (fun m6 hr => ?_)
          refine ml_aload_n (pc := 39) dX6_swap_39 rfl mm_get_0 ?_
          refine mb_gr (pc := 40) dX6_swap_40 fl_X6_31 hr (fun c7 hr => ?_)
          refine ml_iload_n (pc := 43) dX6_swap_43 rfl (mm_get_s (mm_get_s mm_get_0)) ?_
          refine ml_iload_n (pc := 44) dX6_swap_44 rfl (mm_get_s (mm_get_s (mm_get_s mm_get_0))) ?_
          refine mb_si (pc := 45) dX6_swap_45 hr (fun m8 hr => ?_)
          exact mg_weak (mm_le_n (mm_le_n (mm_le_n (mm_le_n mm_le_0)))) (X6_swap_b46_ok hz hd h0 hr)
theorem dX6_nextOrder_0 : decode cX6_nextOrder 0 = .ok (.iload_n 1, 1) := by decide +kernel
theorem dX6_nextOrder_1 : decode cX6_nextOrder 1 = .ok (.iconst 2, 1) := by decide +kernel
theorem dX6_nextOrder_2 : decode cX6_nextOrder 2 = .ok (.isub, 1) := by decide +kernel
theorem dX6_nextOrder_3 : decode cX6_nextOrder 3 = .ok (.istore_n 2, 1) := by decide +kernel
theorem dX6_nextOrder_4 : decode cX6_nextOrder 4 = .ok (.iload_n 2, 1) := by decide +kernel
theorem dX6_nextOrder_5 : decode cX6_nextOrder 5 = .ok (.iconst 1, 1) := by decide +kernel
theorem dX6_nextOrder_6 : decode cX6_nextOrder 6 = .ok (.if_icmp .lt 26, 3) := by decide +kernel
theorem dX6_nextOrder_9 : decode cX6_nextOrder 9 = .ok (.aload_n 0, 1) := by decide +kernel
theorem dX6_nextOrder_10 : decode cX6_nextOrder 10 = .ok (.getfield 31, 3) := by decide +kernel
theorem dX6_nextOrder_13 : decode cX6_nextOrder 13 = .ok (.iload_n 2, 1) := by decide +kernel
theorem dX6_nextOrder_14 : decode cX6_nextOrder 14 = .ok (.iaload, 1) := by decide +kernel
theorem dX6_nextOrder_15 : decode cX6_nextOrder 15 = .ok (.aload_n 0, 1) := by decide +kernel
theorem dX6_nextOrder_16 : decode cX6_nextOrder 16 = .ok (.getfield 31, 3) := by decide +kernel
theorem dX6_nextOrder_19 : decode cX6_nextOrder 19 = .ok (.iload_n 2, 1) := by decide +kernel
theorem dX6_nextOrder_20 : decode cX6_nextOrder 20 = .ok (.iconst 1, 1) := by decide +kernel
theorem dX6_nextOrder_21 : decode cX6_nextOrder 21 = .ok (.iadd, 1) := by decide +kernel
theorem dX6_nextOrder_22 : decode cX6_nextOrder 22 = .ok (.iaload, 1) := by decide +kernel
theorem dX6_nextOrder_23 : decode cX6_nextOrder 23 = .ok (.if_icmp .le 9, 3) := by decide +kernel
theorem dX6_nextOrder_26 : decode cX6_nextOrder 26 = .ok (.iinc 2 (-1), 3) := by decide +kernel
theorem dX6_nextOrder_29 : decode cX6_nextOrder 29 = .ok (.goto (-25), 3) := by decide +kernel
theorem dX6_nextOrder_32 : decode cX6_nextOrder 32 = .ok (.iload_n 2, 1) := by decide +kernel
theorem dX6_nextOrder_33 : decode cX6_nextOrder 33 = .ok (.iconst 1, 1) := by decide +kernel
theorem dX6_nextOrder_34 : decode cX6_nextOrder 34 = .ok (.if_icmp .ge 5, 3) := by decide +kernel
theorem dX6_nextOrder_37 : decode cX6_nextOrder 37 = .ok (.iconst 0, 1) := by decide +kernel
theorem dX6_nextOrder_38 : decode cX6_nextOrder 38 = .ok (.ireturn, 1) := by decide +kernel
theorem dX6_nextOrder_39 : decode cX6_nextOrder 39 = .ok (.iload_n 1, 1) := by decide +kernel
theorem dX6_nextOrder_40 : decode cX6_nextOrder 40 = .ok (.iconst 1, 1) := by decide +kernel
theorem dX6_nextOrder_41 : decode cX6_nextOrder 41 = .ok (.isub, 1) := by decide +kernel
theorem dX6_nextOrder_42 : decode cX6_nextOrder 42 = .ok (.istore_n 3, 1) := by decide +kernel
theorem dX6_nextOrder_43 : decode cX6_nextOrder 43 = .ok (.iload_n 3, 1) := by decide +kernel
theorem dX6_nextOrder_44 : decode cX6_nextOrder 44 = .ok (.iload_n 2, 1) := by decide +kernel
theorem dX6_nextOrder_45 : decode cX6_nextOrder 45 = .ok (.if_icmp .le 24, 3) := by decide +kernel
theorem dX6_nextOrder_48 : decode cX6_nextOrder 48 = .ok (.aload_n 0, 1) := by decide +kernel
theorem dX6_nextOrder_49 : decode cX6_nextOrder 49 = .ok (.getfield 31, 3) := by decide +kernel
theorem dX6_nextOrder_52 : decode cX6_nextOrder 52 = .ok (.iload_n 3, 1) := by decide +kernel
theorem dX6_nextOrder_53 : decode cX6_nextOrder 53 = .ok (.iaload, 1) := by decide +kernel
theorem dX6_nextOrder_54 : decode cX6_nextOrder 54 = .ok (.aload_n 0, 1) := by decide +kernel
theorem dX6_nextOrder_55 : decode cX6_nextOrder 55 = .ok (.getfield 31, 3) := by decide +kernel
theorem dX6_nextOrder_58 : decode cX6_nextOrder 58 = .ok (.iload_n 2, 1) := by decide +kernel
theorem dX6_nextOrder_59 : decode cX6_nextOrder 59 = .ok (.iaload, 1) := by decide +kernel
theorem dX6_nextOrder_60 : decode cX6_nextOrder 60 = .ok (.if_icmp .ge 9, 3) := by decide +kernel
theorem dX6_nextOrder_63 : decode cX6_nextOrder 63 = .ok (.iinc 3 (-1), 3) := by decide +kernel
theorem dX6_nextOrder_66 : decode cX6_nextOrder 66 = .ok (.goto (-23), 3) := by decide +kernel
theorem dX6_nextOrder_69 : decode cX6_nextOrder 69 = .ok (.aload_n 0, 1) := by decide +kernel
theorem dX6_nextOrder_70 : decode cX6_nextOrder 70 = .ok (.iload_n 2, 1) := by decide +kernel
theorem dX6_nextOrder_71 : decode cX6_nextOrder 71 = .ok (.iload_n 3, 1) := by decide +kernel
theorem dX6_nextOrder_72 : decode cX6_nextOrder 72 = .ok (.invokevirtual 155, 3) := by decide +kernel
theorem dX6_nextOrder_75 : decode cX6_nextOrder 75 = .ok (.iload_n 2, 1) := by decide +kernel
theorem dX6_nextOrder_76 : decode cX6_nextOrder 76 = .ok (.iconst 1, 1) := by decide +kernel
theorem dX6_nextOrder_77 : decode cX6_nextOrder 77 = .ok (.iadd, 1) := by decide +kernel
theorem dX6_nextOrder_78 : decode cX6_nextOrder 78 = .ok (.istore 4, 2) := by decide +kernel
theorem dX6_nextOrder_80 : decode cX6_nextOrder 80 = .ok (.iload_n 1, 1) := by decide +kernel
theorem dX6_nextOrder_81 : decode cX6_nextOrder 81 = .ok (.iconst 1, 1) := by decide +kernel
theorem dX6_nextOrder_82 : decode cX6_nextOrder 82 = .ok (.isub, 1) := by decide +kernel
theorem dX6_nextOrder_83 : decode cX6_nextOrder 83 = .ok (.istore 5, 2) := by decide +kernel
theorem dX6_nextOrder_85 : decode cX6_nextOrder 85 = .ok (.iload 4, 2) := by decide +kernel
theorem dX6_nextOrder_87 : decode cX6_nextOrder 87 = .ok (.iload 5, 2) := by decide +kernel
theorem dX6_nextOrder_89 : decode cX6_nextOrder 89 = .ok (.if_icmp .ge 20, 3) := by decide +kernel
theorem dX6_nextOrder_92 : decode cX6_nextOrder 92 = .ok (.aload_n 0, 1) := by decide +kernel
theorem dX6_nextOrder_93 : decode cX6_nextOrder 93 = .ok (.iload 4, 2) := by decide +kernel
theorem dX6_nextOrder_95 : decode cX6_nextOrder 95 = .ok (.iload 5, 2) := by decide +kernel
theorem dX6_nextOrder_97 : decode cX6_nextOrder 97 = .ok (.invokevirtual 155, 3) := by decide +kernel
theorem dX6_nextOrder_100 : decode cX6_nextOrder 100 = .ok (.iinc 4 1, 3) := by decide +kernel
theorem dX6_nextOrder_103 : decode cX6_nextOrder 103 = .ok (.iinc 5 (-1), 3) := by decide +kernel
theorem dX6_nextOrder_106 : decode cX6_nextOrder 106 = .ok (.goto (-21), 3) := by decide +kernel
theorem dX6_nextOrder_109 : decode cX6_nextOrder 109 = .ok (.iconst 1, 1) := by decide +kernel
theorem dX6_nextOrder_110 : decode cX6_nextOrder 110 = .ok (.ireturn, 1) := by decide +kernel
def X6_nextOrder_L85 (e : mm_E) (a0 : Nat) : Nat → Int32 → Int32 → mm_V → Option (Int32 × mm_V)
  | 0, _, _, _ => none
  | n + 1, i4, i5, m => if i5 ≤ i4 then (mm_rz (1 : Int32) m) else ((X6_swap e a0 i4 i5 m).bind fun r1 => X6_nextOrder_L85 e a0 n (i4 + 1) (i5 + (-1)) r1)
theorem X6_nextOrder_L85_ok {K : mm_K} {nx : Option Nat} {e : mm_E} (hz : e.2.1 = K.2.2.2.2) {d : Nat} (hd : 1 ≤ d) {a0 : Nat} (h0 : e.1 a0 = some (6, 12)) : ∀ (n : Nat) (i4 : Int32) (i5 : Int32) (m : mm_V) (r : (Int32 × mm_V)), X6_nextOrder_L85 e a0 n i4 i5 m = some r → mm_G K MX6_nextOrder d (mm_Fi e.1 nx r) 85 [some (.ref a0), none, none, none, some (.int i4), some (.int i5)] [] (e.1, m) nx 0 0 := by
  obtain ⟨d, rfl⟩ : ∃ d', d = d' + 1 := ⟨d - 1, by omega⟩
  intro n
  induction n with
  | zero => intro i4 i5 m r hr; unfold X6_nextOrder_L85 at hr; cases hr
  | succ n ih =>
    intro i4 i5 m r hr
    unfold X6_nextOrder_L85 at hr
    refine ml_iload (pc := 85) dX6_nextOrder_85 (mm_get_s (mm_get_s (mm_get_s (mm_get_s mm_get_0)))) ?_
    refine ml_iload (pc := 87) dX6_nextOrder_87 (mm_get_s (mm_get_s (mm_get_s (mm_get_s (mm_get_s mm_get_0))))) ?_
    refine mb_icmp_ge (pc := 89) 109 dX6_nextOrder_89 rfl hr (fun hr => ?_) (fun hr => ?_)
    · refine mg_iconst (pc := 109) dX6_nextOrder_109 kc_1 ?_
      exact mb_zret dX6_nextOrder_110 rfl hr
    · refine ml_aload_n (pc := 92) dX6_nextOrder_92 rfl mm_get_0 ?_
      refine ml_iload (pc := 93) dX6_nextOrder_93 (mm_get_s (mm_get_s (mm_get_s (mm_get_s mm_get_0)))) ?_
      refine ml_iload (pc := 95) dX6_nextOrder_95 (mm_get_s (mm_get_s (mm_get_s (mm_get_s (mm_get_s mm_get_0))))) ?_
      refine mb_cVv (pc := 97) (As := [.int i4, .int i5]) (rest := []) dX6_nextOrder_97 cw_X6_155 h0 hr (fun v hv => X6_swap_ok hz (by omega) h0 hv) rfl (Nat.le_of_ble_eq_true rfl) (Nat.zero_le _) (Nat.zero_le _) (fun r1 hr => ?_)
      refine ml_iinc (pc := 100) dX6_nextOrder_100 (mm_get_s (mm_get_s (mm_get_s (mm_get_s mm_get_0)))) (congrArg (fun z => i4 + z) kc_1) (Nat.le_of_ble_eq_true rfl) (mm_st1_s (mm_st1_s (mm_st1_s mm_st1_n))) ?_
      refine ml_iinc (pc := 103) dX6_nextOrder_103 (mm_get_s (mm_get_s (mm_get_s (mm_get_s (mm_get_s mm_get_0))))) (congrArg (fun z => i5 + z) kc_m1) (Nat.le_of_ble_eq_true rfl) (mm_st1_s (mm_st1_s (mm_st1_s (mm_st1_s mm_st1_i)))) ?_
      refine mg_goto (pc := 106) 85 dX6_nextOrder_106 rfl ?_
      exact mg_weak (mm_le_s (mm_le_n (mm_le_n (mm_le_n (mm_le_s (mm_le_s mm_le_0)))))) (ih _ _ _ _ hr)
def X6_nextOrder_b69 (e : mm_E) (a0 : Nat) (i1 : Int32) (i2 : Int32) (i3 : Int32) (m : mm_V) : Option (Int32 × mm_V) := (X6_swap e a0 i2 i3 m).bind fun r1 => X6_nextOrder_L85 e a0 e.2.2 (i2 + (1 : Int32)) (i1 - (1 : Int32)) r1
theorem X6_nextOrder_b69_ok {K : mm_K} {nx : Option Nat} {e : mm_E} (hz : e.2.1 = K.2.2.2.2) {d : Nat} (hd : 1 ≤ d) {a0 : Nat} {i1 : Int32} {i2 : Int32} {i3 : Int32} (h0 : e.1 a0 = some (6, 12)) {m : mm_V} {r : (Int32 × mm_V)} (hr : X6_nextOrder_b69 e a0 i1 i2 i3 m = some r) : mm_G K MX6_nextOrder d (mm_Fi e.1 nx r) 69 [some (.ref a0), some (.int i1), some (.int i2), some (.int i3), none, none] [] (e.1, m) nx 0 0 := by
  obtain ⟨d, rfl⟩ : ∃ d', d = d' + 1 := ⟨d - 1, by omega⟩
  unfold X6_nextOrder_b69 at hr
  refine ml_aload_n (pc := 69) dX6_nextOrder_69 rfl mm_get_0 ?_
  refine ml_iload_n (pc := 70) dX6_nextOrder_70 rfl (mm_get_s (mm_get_s mm_get_0)) ?_
  refine ml_iload_n (pc := 71) dX6_nextOrder_71 rfl (mm_get_s (mm_get_s (mm_get_s mm_get_0))) ?_
  refine mb_cVv (pc := 72) (As := [.int i2, .int i3]) (rest := []) dX6_nextOrder_72 cw_X6_155 h0 hr (fun v hv => X6_swap_ok hz (by omega) h0 hv) rfl (Nat.le_of_ble_eq_true rfl) (Nat.zero_le _) (Nat.zero_le _) (fun r1 hr => ?_)
  refine ml_iload_n (pc := 75) dX6_nextOrder_75 rfl (mm_get_s (mm_get_s mm_get_0)) ?_
  refine mg_iconst (pc := 76) dX6_nextOrder_76 kc_1 ?_
  refine mg_iadd (pc := 77) dX6_nextOrder_77 ?_
  refine ml_istore (pc := 78) dX6_nextOrder_78 (Nat.le_of_ble_eq_true rfl) (mm_st1_s (mm_st1_s (mm_st1_s mm_st1_i))) ?_
  refine ml_iload_n (pc := 80) dX6_nextOrder_80 rfl (mm_get_s mm_get_0) ?_
  refine mg_iconst (pc := 81) dX6_nextOrder_81 kc_1 ?_
  refine mg_isub (pc := 82) dX6_nextOrder_82 ?_
  refine ml_istore (pc := 83) dX6_nextOrder_83 (Nat.le_of_ble_eq_true rfl) (mm_st1_s (mm_st1_s (mm_st1_s (mm_st1_s mm_st1_i)))) ?_
  exact mg_weak (mm_le_s (mm_le_n (mm_le_n (mm_le_n (mm_le_s (mm_le_s mm_le_0)))))) (X6_nextOrder_L85_ok hz hd h0 _ _ _ _ _ hr)
def X6_nextOrder_L43 (e : mm_E) (a0 : Nat) (i1 : Int32) (i2 : Int32) : Nat → Int32 → mm_V → Option (Int32 × mm_V)
  | 0, _, _ => none
  | n + 1, i3, m => if i3 ≤ i2 then (X6_nextOrder_b69 e a0 i1 i2 i3  m) else ((mm_gr e.1 m 6 12 a0 3).bind fun c1 => (mm_ai e.1 m 20 c1 i3).bind fun x2 => (mm_gr e.1 m 6 12 a0 3).bind fun c3 => (mm_ai e.1 m 20 c3 i2).bind fun x4 => if x4 ≤ x2 then (X6_nextOrder_b69 e a0 i1 i2 i3  m) else (X6_nextOrder_L43 e a0 i1 i2 n (i3 + (-1)) m))
theorem X6_nextOrder_L43_ok {K : mm_K} {nx : Option Nat} {e : mm_E} (hz : e.2.1 = K.2.2.2.2) {d : Nat} (hd : 1 ≤ d) {a0 : Nat} {i1 : Int32} {i2 : Int32} (h0 : e.1 a0 = some (6, 12)) : ∀ (n : Nat) (i3 : Int32) (m : mm_V) (r : (Int32 × mm_V)), X6_nextOrder_L43 e a0 i1 i2 n i3 m = some r → mm_G K MX6_nextOrder d (mm_Fi e.1 nx r) 43 [some (.ref a0), some (.int i1), some (.int i2), some (.int i3), none, none] [] (e.1, m) nx 0 0 := by
  obtain ⟨d, rfl⟩ : ∃ d', d = d' + 1 := ⟨d - 1, by omega⟩
  intro n
  induction n with
  | zero => intro i3 m r hr; unfold X6_nextOrder_L43 at hr; cases hr
  | succ n ih =>
    intro i3 m r hr
    unfold X6_nextOrder_L43 at hr
    refine ml_iload_n (pc := 43) dX6_nextOrder_43 rfl (mm_get_s (mm_get_s (mm_get_s mm_get_0))) ?_
    refine ml_iload_n (pc := 44) dX6_nextOrder_44 rfl (mm_get_s (mm_get_s mm_get_0)) ?_
    refine mb_icmp_le (pc := 45) 69 dX6_nextOrder_45 rfl hr (fun hr => ?_) (fun hr => ?_)
    · exact mg_weak (mm_le_s (mm_le_s (mm_le_s (mm_le_s (mm_le_n (mm_le_n mm_le_0)))))) (X6_nextOrder_b69_ok hz hd h0 hr)
    · refine ml_aload_n (pc := 48) dX6_nextOrder_48 rfl mm_get_0 ?_
      refine mb_gr (pc := 49) dX6_nextOrder_49 fl_X6_31 hr (fun c1 hr => ?_)
      refine ml_iload_n (pc := 52) dX6_nextOrder_52 rfl (mm_get_s (mm_get_s (mm_get_s mm_get_0))) ?_
      refine mb_ai (pc := 53) dX6_nextOrder_53 hr (fun x2 hr => ?_)
      refine ml_aload_n (pc := 54) dX6_nextOrder_54 rfl mm_get_0 ?_
      refine mb_gr (pc := 55) dX6_nextOrder_55 fl_X6_31 hr (fun c3 hr => ?_)
      refine ml_iload_n (pc := 58) dX6_nextOrder_58 rfl (mm_get_s (mm_get_s mm_get_0)) ?_
      refine mb_ai (pc := 59) dX6_nextOrder_59 hr (fun x4 hr => ?_)
      refine mb_icmp_ge (pc := 60) 69 dX6_nextOrder_60 rfl hr (fun hr => ?_) (fun hr => ?_)
      · exact mg_weak (mm_le_s (mm_le_s (mm_le_s (mm_le_s (mm_le_n (mm_le_n mm_le_0)))))) (X6_nextOrder_b69_ok hz hd h0 hr)
      · refine ml_iinc (pc := 63) dX6_nextOrder_63 (mm_get_s (mm_get_s (mm_get_s mm_get_0))) (congrArg (fun z => i3 + z) kc_m1) (Nat.le_of_ble_eq_true rfl) (mm_st1_s (mm_st1_s mm_st1_i)) ?_
        refine mg_goto (pc := 66) 43 dX6_nextOrder_66 rfl ?_
        exact mg_weak (mm_le_s (mm_le_s (mm_le_s (mm_le_s (mm_le_n (mm_le_n mm_le_0)))))) (ih _ _ _ hr)
def X6_nextOrder_b32 (e : mm_E) (a0 : Nat) (i1 : Int32) (i2 : Int32) (m : mm_V) : Option (Int32 × mm_V) := if (1 : Int32) ≤ i2 then (X6_nextOrder_L43 e a0 i1 i2 e.2.2 (i1 - (1 : Int32)) m) else (mm_rz (0 : Int32) m)
theorem X6_nextOrder_b32_ok {K : mm_K} {nx : Option Nat} {e : mm_E} (hz : e.2.1 = K.2.2.2.2) {d : Nat} (hd : 1 ≤ d) {a0 : Nat} {i1 : Int32} {i2 : Int32} (h0 : e.1 a0 = some (6, 12)) {m : mm_V} {r : (Int32 × mm_V)} (hr : X6_nextOrder_b32 e a0 i1 i2 m = some r) : mm_G K MX6_nextOrder d (mm_Fi e.1 nx r) 32 [some (.ref a0), some (.int i1), some (.int i2), none, none, none] [] (e.1, m) nx 0 0 := by
  obtain ⟨d, rfl⟩ : ∃ d', d = d' + 1 := ⟨d - 1, by omega⟩
  unfold X6_nextOrder_b32 at hr
  refine ml_iload_n (pc := 32) dX6_nextOrder_32 rfl (mm_get_s (mm_get_s mm_get_0)) ?_
  refine mg_iconst (pc := 33) dX6_nextOrder_33 kc_1 ?_
  refine mb_icmp_ge (pc := 34) 39 dX6_nextOrder_34 rfl hr (fun hr => ?_) (fun hr => ?_)
  · refine ml_iload_n (pc := 39) dX6_nextOrder_39 rfl (mm_get_s mm_get_0) ?_
    refine mg_iconst (pc := 40) dX6_nextOrder_40 kc_1 ?_
    refine mg_isub (pc := 41) dX6_nextOrder_41 ?_
    refine ml_istore_n (pc := 42) dX6_nextOrder_42 rfl (Nat.le_of_ble_eq_true rfl) (mm_st1_s (mm_st1_s mm_st1_i)) ?_
    exact mg_weak (mm_le_s (mm_le_s (mm_le_s (mm_le_s (mm_le_n (mm_le_n mm_le_0)))))) (X6_nextOrder_L43_ok hz hd h0 _ _ _ _ hr)
  · refine mg_iconst (pc := 37) dX6_nextOrder_37 kc_0 ?_
    exact mb_zret dX6_nextOrder_38 rfl hr
def X6_nextOrder_L4 (e : mm_E) (a0 : Nat) (i1 : Int32) : Nat → Int32 → mm_V → Option (Int32 × mm_V)
  | 0, _, _ => none
  | n + 1, i2, m => if i2 < (1 : Int32) then (X6_nextOrder_b32 e a0 i1 i2  m) else ((mm_gr e.1 m 6 12 a0 3).bind fun c1 => (mm_ai e.1 m 20 c1 i2).bind fun x2 => (mm_gr e.1 m 6 12 a0 3).bind fun c3 => (mm_ai e.1 m 20 c3 (i2 + (1 : Int32))).bind fun x4 => if x2 ≤ x4 then (X6_nextOrder_b32 e a0 i1 i2  m) else (X6_nextOrder_L4 e a0 i1 n (i2 + (-1)) m))
theorem X6_nextOrder_L4_ok {K : mm_K} {nx : Option Nat} {e : mm_E} (hz : e.2.1 = K.2.2.2.2) {d : Nat} (hd : 1 ≤ d) {a0 : Nat} {i1 : Int32} (h0 : e.1 a0 = some (6, 12)) : ∀ (n : Nat) (i2 : Int32) (m : mm_V) (r : (Int32 × mm_V)), X6_nextOrder_L4 e a0 i1 n i2 m = some r → mm_G K MX6_nextOrder d (mm_Fi e.1 nx r) 4 [some (.ref a0), some (.int i1), some (.int i2), none, none, none] [] (e.1, m) nx 0 0 := by
  obtain ⟨d, rfl⟩ : ∃ d', d = d' + 1 := ⟨d - 1, by omega⟩
  intro n
  induction n with
  | zero => intro i2 m r hr; unfold X6_nextOrder_L4 at hr; cases hr
  | succ n ih =>
    intro i2 m r hr
    unfold X6_nextOrder_L4 at hr
    refine ml_iload_n (pc := 4) dX6_nextOrder_4 rfl (mm_get_s (mm_get_s mm_get_0)) ?_
    refine mg_iconst (pc := 5) dX6_nextOrder_5 kc_1 ?_
    refine mb_icmp_lt (pc := 6) 32 dX6_nextOrder_6 rfl hr (fun hr => ?_) (fun hr => ?_)
    · exact mg_weak (mm_le_s (mm_le_s (mm_le_s (mm_le_n (mm_le_n (mm_le_n mm_le_0)))))) (X6_nextOrder_b32_ok hz hd h0 hr)
    · refine ml_aload_n (pc := 9) dX6_nextOrder_9 rfl mm_get_0 ?_
      refine mb_gr (pc := 10) dX6_nextOrder_10 fl_X6_31 hr (fun c1 hr => ?_)
      refine ml_iload_n (pc := 13) dX6_nextOrder_13 rfl (mm_get_s (mm_get_s mm_get_0)) ?_
      refine mb_ai (pc := 14) dX6_nextOrder_14 hr (fun x2 hr => ?_)
      refine ml_aload_n (pc := 15) dX6_nextOrder_15 rfl mm_get_0 ?_
      refine mb_gr (pc := 16) dX6_nextOrder_16 fl_X6_31 hr (fun c3 hr => ?_)
      refine ml_iload_n (pc := 19) dX6_nextOrder_19 rfl (mm_get_s (mm_get_s mm_get_0)) ?_
      refine mg_iconst (pc := 20) dX6_nextOrder_20 kc_1 ?_
      refine mg_iadd (pc := 21) dX6_nextOrder_21 ?_
      refine mb_ai (pc := 22) dX6_nextOrder_22 hr (fun x4 hr => ?_)
      refine mb_icmp_le (pc := 23) 32 dX6_nextOrder_23 rfl hr (fun hr => ?_) (fun hr => ?_)
      · exact mg_weak (mm_le_s (mm_le_s (mm_le_s (mm_le_n (mm_le_n (mm_le_n mm_le_0)))))) (X6_nextOrder_b32_ok hz hd h0 hr)
      · refine ml_iinc (pc := 26) dX6_nextOrder_26 (mm_get_s (mm_get_s mm_get_0)) (congrArg (fun z => i2 + z) kc_m1) (Nat.le_of_ble_eq_true rfl) (mm_st1_s mm_st1_i) ?_
        refine mg_goto (pc := 29) 4 dX6_nextOrder_29 rfl ?_
        exact mg_weak (mm_le_s (mm_le_s (mm_le_s (mm_le_n (mm_le_n (mm_le_n mm_le_0)))))) (ih _ _ _ hr)
def X6_nextOrder (e : mm_E) (a0 : Nat) (i1 : Int32) (m : mm_V) : Option (Int32 × mm_V) := X6_nextOrder_L4 e a0 i1 e.2.2 (i1 - (2 : Int32)) m
theorem X6_nextOrder_ok {K : mm_K} {nx : Option Nat} {e : mm_E} (hz : e.2.1 = K.2.2.2.2) {d : Nat} (hd : 1 ≤ d) {a0 : Nat} {i1 : Int32} (h0 : e.1 a0 = some (6, 12)) {m : mm_V} {r : (Int32 × mm_V)} (hr : X6_nextOrder e a0 i1 m = some r) : mm_Cn K MX6_nextOrder d (mm_Fi e.1 nx r) [.ref a0, .int i1] (e.1, m) nx := by
  obtain ⟨d, rfl⟩ : ∃ d', d = d' + 1 := ⟨d - 1, by omega⟩
  refine mm_entry (by decide) (Nat.le_of_ble_eq_true rfl) rfl (fun hok => ?_)
  unfold X6_nextOrder at hr
  refine mg_weak (L' := [some (.ref a0), some (.int i1), none, none, none, none]) (mm_le_s (mm_le_s (mm_le_e (mm_le_e (mm_le_e (mm_le_e mm_le_0)))))) ?_
  refine ml_iload_n (pc := 0) dX6_nextOrder_0 rfl (mm_get_s mm_get_0) ?_
  refine mg_iconst (pc := 1) dX6_nextOrder_1 kc_2 ?_
  refine mg_isub (pc := 2) dX6_nextOrder_2 ?_
  refine ml_istore_n (pc := 3) dX6_nextOrder_3 rfl (Nat.le_of_ble_eq_true rfl) (mm_st1_s mm_st1_i) ?_
  exact mg_weak (mm_le_s (mm_le_s (mm_le_s (mm_le_n (mm_le_n (mm_le_n mm_le_0)))))) (X6_nextOrder_L4_ok hz hd h0 _ _ _ _ hr)
theorem dX6_trySeats_0 : decode cX6_trySeats 0 = .ok (.aload_n 0, 1) := by decide +kernel
theorem dX6_trySeats_1 : decode cX6_trySeats 1 = .ok (.invokevirtual 123, 3) := by decide +kernel
theorem dX6_trySeats_4 : decode cX6_trySeats 4 = .ok (.aload_n 0, 1) := by decide +kernel
theorem dX6_trySeats_5 : decode cX6_trySeats 5 = .ok (.iconst (-1), 1) := by decide +kernel
theorem dX6_trySeats_6 : decode cX6_trySeats 6 = .ok (.putfield 126, 3) := by decide +kernel
theorem dX6_trySeats_9 : decode cX6_trySeats 9 = .ok (.iconst 0, 1) := by decide +kernel
theorem dX6_trySeats_10 : decode cX6_trySeats 10 = .ok (.istore_n 3, 1) := by decide +kernel
theorem dX6_trySeats_11 : decode cX6_trySeats 11 = .ok (.iload_n 3, 1) := by decide +kernel
theorem dX6_trySeats_12 : decode cX6_trySeats 12 = .ok (.bipush 6, 2) := by decide +kernel
theorem dX6_trySeats_14 : decode cX6_trySeats 14 = .ok (.if_icmp .ge 16, 3) := by decide +kernel
theorem dX6_trySeats_17 : decode cX6_trySeats 17 = .ok (.aload_n 0, 1) := by decide +kernel
theorem dX6_trySeats_18 : decode cX6_trySeats 18 = .ok (.getfield 31, 3) := by decide +kernel
theorem dX6_trySeats_21 : decode cX6_trySeats 21 = .ok (.iload_n 3, 1) := by decide +kernel
theorem dX6_trySeats_22 : decode cX6_trySeats 22 = .ok (.iload_n 3, 1) := by decide +kernel
theorem dX6_trySeats_23 : decode cX6_trySeats 23 = .ok (.iastore, 1) := by decide +kernel
theorem dX6_trySeats_24 : decode cX6_trySeats 24 = .ok (.iinc 3 1, 3) := by decide +kernel
theorem dX6_trySeats_27 : decode cX6_trySeats 27 = .ok (.goto (-16), 3) := by decide +kernel
theorem dX6_trySeats_30 : decode cX6_trySeats 30 = .ok (.aload_n 1, 1) := by decide +kernel
theorem dX6_trySeats_31 : decode cX6_trySeats 31 = .ok (.getfield 129, 3) := by decide +kernel
theorem dX6_trySeats_34 : decode cX6_trySeats 34 = .ok (.getfield 133, 3) := by decide +kernel
theorem dX6_trySeats_37 : decode cX6_trySeats 37 = .ok (.bipush 6, 2) := by decide +kernel
theorem dX6_trySeats_39 : decode cX6_trySeats 39 = .ok (.invokestatic 138, 3) := by decide +kernel
theorem dX6_trySeats_42 : decode cX6_trySeats 42 = .ok (.istore_n 3, 1) := by decide +kernel
theorem dX6_trySeats_43 : decode cX6_trySeats 43 = .ok (.iconst 1, 1) := by decide +kernel
theorem dX6_trySeats_44 : decode cX6_trySeats 44 = .ok (.istore 4, 2) := by decide +kernel
theorem dX6_trySeats_46 : decode cX6_trySeats 46 = .ok (.iconst 0, 1) := by decide +kernel
theorem dX6_trySeats_47 : decode cX6_trySeats 47 = .ok (.istore 5, 2) := by decide +kernel
theorem dX6_trySeats_49 : decode cX6_trySeats 49 = .ok (.iload 5, 2) := by decide +kernel
theorem dX6_trySeats_51 : decode cX6_trySeats 51 = .ok (.bipush 120, 2) := by decide +kernel
theorem dX6_trySeats_53 : decode cX6_trySeats 53 = .ok (.if_icmp .ge 76, 3) := by decide +kernel
theorem dX6_trySeats_56 : decode cX6_trySeats 56 = .ok (.iload 4, 2) := by decide +kernel
theorem dX6_trySeats_58 : decode cX6_trySeats 58 = .ok (.ifCond .eq 71, 3) := by decide +kernel
theorem dX6_trySeats_61 : decode cX6_trySeats 61 = .ok (.aload_n 0, 1) := by decide +kernel
theorem dX6_trySeats_62 : decode cX6_trySeats 62 = .ok (.getfield 11, 3) := by decide +kernel
theorem dX6_trySeats_65 : decode cX6_trySeats 65 = .ok (.iconst 0, 1) := by decide +kernel
theorem dX6_trySeats_66 : decode cX6_trySeats 66 = .ok (.aaload, 1) := by decide +kernel
theorem dX6_trySeats_67 : decode cX6_trySeats 67 = .ok (.aload_n 1, 1) := by decide +kernel
theorem dX6_trySeats_68 : decode cX6_trySeats 68 = .ok (.aload_n 0, 1) := by decide +kernel
theorem dX6_trySeats_69 : decode cX6_trySeats 69 = .ok (.getfield 31, 3) := by decide +kernel
theorem dX6_trySeats_72 : decode cX6_trySeats 72 = .ok (.invokevirtual 141, 3) := by decide +kernel
theorem dX6_trySeats_75 : decode cX6_trySeats 75 = .ok (.aload_n 0, 1) := by decide +kernel
theorem dX6_trySeats_76 : decode cX6_trySeats 76 = .ok (.aload_n 0, 1) := by decide +kernel
theorem dX6_trySeats_77 : decode cX6_trySeats 77 = .ok (.getfield 11, 3) := by decide +kernel
theorem dX6_trySeats_80 : decode cX6_trySeats 80 = .ok (.iconst 0, 1) := by decide +kernel
theorem dX6_trySeats_81 : decode cX6_trySeats 81 = .ok (.aaload, 1) := by decide +kernel
theorem dX6_trySeats_82 : decode cX6_trySeats 82 = .ok (.invokevirtual 145, 3) := by decide +kernel
theorem dX6_trySeats_85 : decode cX6_trySeats 85 = .ok (.istore 6, 2) := by decide +kernel
theorem dX6_trySeats_87 : decode cX6_trySeats 87 = .ok (.aload_n 0, 1) := by decide +kernel
theorem dX6_trySeats_88 : decode cX6_trySeats 88 = .ok (.getfield 126, 3) := by decide +kernel
theorem dX6_trySeats_91 : decode cX6_trySeats 91 = .ok (.iconst (-1), 1) := by decide +kernel
theorem dX6_trySeats_92 : decode cX6_trySeats 92 = .ok (.if_icmp .ne 24, 3) := by decide +kernel
theorem dX6_trySeats_95 : decode cX6_trySeats 95 = .ok (.iload 6, 2) := by decide +kernel
theorem dX6_trySeats_97 : decode cX6_trySeats 97 = .ok (.iconst (-1), 1) := by decide +kernel
theorem dX6_trySeats_98 : decode cX6_trySeats 98 = .ok (.if_icmp .eq 18, 3) := by decide +kernel
theorem dX6_trySeats_101 : decode cX6_trySeats 101 = .ok (.iload 6, 2) := by decide +kernel
theorem dX6_trySeats_103 : decode cX6_trySeats 103 = .ok (.iload_n 2, 1) := by decide +kernel
theorem dX6_trySeats_104 : decode cX6_trySeats 104 = .ok (.if_icmp .eq 12, 3) := by decide +kernel
theorem dX6_trySeats_107 : decode cX6_trySeats 107 = .ok (.aload_n 0, 1) := by decide +kernel
theorem dX6_trySeats_108 : decode cX6_trySeats 108 = .ok (.aload_n 0, 1) := by decide +kernel
theorem dX6_trySeats_109 : decode cX6_trySeats 109 = .ok (.iload_n 3, 1) := by decide +kernel
theorem dX6_trySeats_110 : decode cX6_trySeats 110 = .ok (.invokevirtual 149, 3) := by decide +kernel
theorem dX6_trySeats_113 : decode cX6_trySeats 113 = .ok (.putfield 126, 3) := by decide +kernel
theorem dX6_trySeats_116 : decode cX6_trySeats 116 = .ok (.aload_n 0, 1) := by decide +kernel
theorem dX6_trySeats_117 : decode cX6_trySeats 117 = .ok (.iload_n 3, 1) := by decide +kernel
theorem dX6_trySeats_118 : decode cX6_trySeats 118 = .ok (.invokevirtual 152, 3) := by decide +kernel
theorem dX6_trySeats_121 : decode cX6_trySeats 121 = .ok (.istore 4, 2) := by decide +kernel
theorem dX6_trySeats_123 : decode cX6_trySeats 123 = .ok (.iinc 5 1, 3) := by decide +kernel
theorem dX6_trySeats_126 : decode cX6_trySeats 126 = .ok (.goto (-77), 3) := by decide +kernel
theorem dX6_trySeats_129 : decode cX6_trySeats 129 = .ok (.return_, 1) := by decide +kernel
def X6_trySeats_b129 (e : mm_E) (m : mm_V) : Option mm_V := some m
theorem X6_trySeats_b129_ok {K : mm_K} {nx : Option Nat} {e : mm_E} (hz : e.2.1 = K.2.2.2.2) {d : Nat} (hd : 6 ≤ d) {a0 : Nat} (h0 : e.1 a0 = some (6, 12)) {m : mm_V} {r : mm_V} (hr : X6_trySeats_b129 e m = some r) : mm_G K MX6_trySeats d (mm_Fv e.1 nx r) 129 [none, none, none, none, none, none, none] [] (e.1, m) nx 0 0 := by
  obtain ⟨d, rfl⟩ : ∃ d', d = d' + 1 := ⟨d - 1, by omega⟩
  unfold X6_trySeats_b129 at hr
  exact mb_vret dX6_trySeats_129 rfl hr
def X6_trySeats_b116 (e : mm_E) (k49 : Int32 → Int32 → mm_V → Option mm_V) (a0 : Nat) (a1 : Nat) (i2 : Int32) (i3 : Int32) (i5 : Int32) (m : mm_V) : Option mm_V := (X6_nextOrder e a0 i3 m).bind fun r1 => k49 r1.1 (i5 + 1) r1.2
theorem X6_trySeats_b116_ok {K : mm_K} {nx : Option Nat} {e : mm_E} (hz : e.2.1 = K.2.2.2.2) {d : Nat} (hd : 6 ≤ d) {a0 : Nat} {a1 : Nat} {i2 : Int32} {i3 : Int32} {i5 : Int32} (h0 : e.1 a0 = some (6, 12)) {k49 : Int32 → Int32 → mm_V → Option mm_V} (hk49 : ∀ (w4 : Int32) (w5 : Int32) (m : mm_V) (r : mm_V), k49 w4 w5 m = some r → mm_G K MX6_trySeats d (mm_Fv e.1 nx r) 49 [some (.ref a0), some (.ref a1), some (.int i2), some (.int i3), some (.int w4), some (.int w5), none] [] (e.1, m) nx 0 0) {m : mm_V} {r : mm_V} (hr : X6_trySeats_b116 e k49 a0 a1 i2 i3 i5 m = some r) : mm_G K MX6_trySeats d (mm_Fv e.1 nx r) 116 [some (.ref a0), some (.ref a1), some (.int i2), some (.int i3), none, some (.int i5), none] [] (e.1, m) nx 0 0 := by
  obtain ⟨d, rfl⟩ : ∃ d', d = d' + 1 := ⟨d - 1, by omega⟩
  unfold X6_trySeats_b116 at hr
  refine ml_aload_n (pc := 116) dX6_trySeats_116 rfl mm_get_0 ?_
  refine ml_iload_n (pc := 117) dX6_trySeats_117 rfl (mm_get_s (mm_get_s (mm_get_s mm_get_0))) ?_
  refine mb_cVi (pc := 118) (As := [.int i3]) (rest := []) dX6_trySeats_118 cw_X6_152 h0 hr (fun v hv => X6_nextOrder_ok hz (by omega) h0 hv) rfl (Nat.le_of_ble_eq_true rfl) (Nat.zero_le _) (Nat.zero_le _) (fun r1 hr => ?_)
  refine ml_istore (pc := 121) dX6_trySeats_121 (Nat.le_of_ble_eq_true rfl) (mm_st1_s (mm_st1_s (mm_st1_s mm_st1_i))) ?_
  refine ml_iinc (pc := 123) dX6_trySeats_123 (mm_get_s (mm_get_s (mm_get_s (mm_get_s (mm_get_s mm_get_0))))) (congrArg (fun z => i5 + z) kc_1) (Nat.le_of_ble_eq_true rfl) (mm_st1_s (mm_st1_s (mm_st1_s (mm_st1_s mm_st1_i)))) ?_
  refine mg_goto (pc := 126) 49 dX6_trySeats_126 rfl ?_
  exact mg_weak (mm_le_s (mm_le_s (mm_le_s (mm_le_s (mm_le_s (mm_le_s (mm_le_n mm_le_0))))))) (hk49 _ _ _ _ hr)
def X6_trySeats_L49 (e : mm_E) (a0 : Nat) (a1 : Nat) (i2 : Int32) (i3 : Int32) : Nat → Int32 → Int32 → mm_V → Option mm_V
  | 0, _, _, _ => none
  | n + 1, i4, i5, m => if (120 : Int32) ≤ i5 then (X6_trySeats_b129 e   m) else (if i4 = 0 then (X6_trySeats_b129 e   m) else ((mm_gr e.1 m 6 12 a0 0).bind fun c1 => (mm_aq e.1 m 25 c1 (0 : Int32)).bind fun c2 => (mm_gr e.1 m 6 12 a0 3).bind fun c3 => if e.1 c2 = some (4, 12) then ((X4_sitDown e c2 a1 c3 m).bind fun r4 => (mm_gr e.1 r4 6 12 a0 0).bind fun c6 => (mm_aq e.1 r4 25 c6 (0 : Int32)).bind fun c7 => (X6_playOut e a0 c7 r4).bind fun r8 => (mm_gi e.1 r8.2 6 12 a0 7).bind fun x9 => if ¬ x9 = (-1 : Int32) then (X6_trySeats_b116 e (X6_trySeats_L49 e a0 a1 i2 i3 n) a0 a1 i2 i3 i5  r8.2) else (if r8.1 = (-1 : Int32) then (X6_trySeats_b116 e (X6_trySeats_L49 e a0 a1 i2 i3 n) a0 a1 i2 i3 i5  r8.2) else (if r8.1 = i2 then (X6_trySeats_b116 e (X6_trySeats_L49 e a0 a1 i2 i3 n) a0 a1 i2 i3 i5  r8.2) else ((X6_orderAsNumber e a0 i3 r8.2).bind fun r10 => (mm_pf e.1 r10.2 6 12 a0 7 (.int r10.1)).bind fun m11 => X6_trySeats_b116 e (X6_trySeats_L49 e a0 a1 i2 i3 n) a0 a1 i2 i3 i5  m11)))) else none))
theorem X6_trySeats_L49_ok {K : mm_K} {nx : Option Nat} {e : mm_E} (hz : e.2.1 = K.2.2.2.2) {d : Nat} (hd : 6 ≤ d) {a0 : Nat} {a1 : Nat} {i2 : Int32} {i3 : Int32} (h0 : e.1 a0 = some (6, 12)) : ∀ (n : Nat) (i4 : Int32) (i5 : Int32) (m : mm_V) (r : mm_V), X6_trySeats_L49 e a0 a1 i2 i3 n i4 i5 m = some r → mm_G K MX6_trySeats d (mm_Fv e.1 nx r) 49 [some (.ref a0), some (.ref a1), some (.int i2), some (.int i3), some (.int i4), some (.int i5), none] [] (e.1, m) nx 0 0 := by
  obtain ⟨d, rfl⟩ : ∃ d', d = d' + 1 := ⟨d - 1, by omega⟩
  intro n
  induction n with
  | zero => intro i4 i5 m r hr; unfold X6_trySeats_L49 at hr; cases hr
  | succ n ih =>
    intro i4 i5 m r hr
    unfold X6_trySeats_L49 at hr
    refine ml_iload (pc := 49) dX6_trySeats_49 (mm_get_s (mm_get_s (mm_get_s (mm_get_s (mm_get_s mm_get_0))))) ?_
    refine mg_bipush (pc := 51) dX6_trySeats_51 kb_120 ?_
    refine mb_icmp_ge (pc := 53) 129 dX6_trySeats_53 rfl hr (fun hr => ?_) (fun hr => ?_)
    · exact mg_weak (mm_le_n (mm_le_n (mm_le_n (mm_le_n (mm_le_n (mm_le_n (mm_le_n mm_le_0))))))) (X6_trySeats_b129_ok hz hd h0 hr)
    · refine ml_iload (pc := 56) dX6_trySeats_56 (mm_get_s (mm_get_s (mm_get_s (mm_get_s mm_get_0)))) ?_
      refine mb_if_eq (pc := 58) 129 dX6_trySeats_58 rfl hr (fun hr => ?_) (fun hr => ?_)
      · exact mg_weak (mm_le_n (mm_le_n (mm_le_n (mm_le_n (mm_le_n (mm_le_n (mm_le_n mm_le_0))))))) (X6_trySeats_b129_ok hz hd h0 hr)
      · refine ml_aload_n (pc := 61) dX6_trySeats_61 rfl mm_get_0 ?_
        refine mb_gr (pc := 62) dX6_trySeats_62 fl_X6_11 hr (fun c1 hr => ?_)
        refine mg_iconst (pc := 65) dX6_trySeats_65 kc_0 ?_
        refine mb_aq (pc := 66) dX6_trySeats_66 (by decide) (by decide) hr (fun c2 hr => ?_)
        refine ml_aload_n (pc := 67) dX6_trySeats_67 rfl (mm_get_s mm_get_0) ?_
        refine ml_aload_n (pc := 68) dX6_trySeats_68 rfl mm_get_0 ?_
        refine mb_gr (pc := 69) dX6_trySeats_69 fl_X6_31 hr (fun c3 hr => ?_)
        refine mb_ck hr (fun hb5 hr => ?_)
        refine mb_cVv (pc := 72) (As := [.ref a1, .ref c3]) (rest := []) dX6_trySeats_72 cw_X6_141 hb5 hr (fun v hv => X4_sitDown_ok hz (by omega) hb5 hv) rfl (Nat.le_of_ble_eq_true rfl) (Nat.zero_le _) (Nat.zero_le _) (fun r4 hr => ?_)
        refine ml_aload_n (pc := 75) dX6_trySeats_75 rfl mm_get_0 ?_
        refine ml_aload_n (pc := 76) dX6_trySeats_76 rfl mm_get_0 ?_
        refine mb_gr (pc := 77) dX6_trySeats_77 fl_X6_11 hr (fun c6 hr => ?_)
        refine mg_iconst (pc := 80) dX6_trySeats_80 kc_0 ?_
        refine mb_aq (pc := 81) dX6_trySeats_81 (by decide) (by decide) hr (fun c7 hr => ?_)
        refine mb_cVi (pc := 82) (As := [.ref c7]) (rest := []) dX6_trySeats_82 cw_X6_145 h0 hr (fun v hv => X6_playOut_ok hz (by omega) h0 hv) rfl (Nat.le_of_ble_eq_true rfl) (Nat.zero_le _) (Nat.zero_le _) (fun r8 hr => ?_)
        refine ml_istore (pc := 85) dX6_trySeats_85 (Nat.le_of_ble_eq_true rfl) (mm_st1_s (mm_st1_s (mm_st1_s (mm_st1_s (mm_st1_s mm_st1_i))))) ?_
        refine ml_aload_n (pc := 87) dX6_trySeats_87 rfl mm_get_0 ?_
        refine mb_gi (pc := 88) dX6_trySeats_88 fl_X6_126 hr (fun x9 hr => ?_)
        refine mg_iconst (pc := 91) dX6_trySeats_91 kc_m1 ?_
        refine mb_icmp_ne (pc := 92) 116 dX6_trySeats_92 rfl hr (fun hr => ?_) (fun hr => ?_)
        · exact mg_weak (mm_le_s (mm_le_s (mm_le_s (mm_le_s (mm_le_n (mm_le_s (mm_le_n mm_le_0))))))) (X6_trySeats_b116_ok hz hd h0 ih hr)
        · refine ml_iload (pc := 95) dX6_trySeats_95 (mm_get_s (mm_get_s (mm_get_s (mm_get_s (mm_get_s (mm_get_s mm_get_0)))))) ?_
          refine mg_iconst (pc := 97) dX6_trySeats_97 kc_m1 ?_
          refine mb_icmp_eq (pc := 98) 116 dX6_trySeats_98 rfl hr (fun hr => ?_) (fun hr => ?_)
          · exact mg_weak (mm_le_s (mm_le_s (mm_le_s (mm_le_s (mm_le_n (mm_le_s (mm_le_n mm_le_0))))))) (X6_trySeats_b116_ok hz hd h0 ih hr)
          · refine ml_iload (pc := 101) dX6_trySeats_101 (mm_get_s (mm_get_s (mm_get_s (mm_get_s (mm_get_s (mm_get_s mm_get_0)))))) ?_
            refine ml_iload_n (pc := 103) dX6_trySeats_103 rfl (mm_get_s (mm_get_s mm_get_0)) ?_
            refine mb_icmp_eq (pc := 104) 116 dX6_trySeats_104 rfl hr (fun hr => ?_) (fun hr => ?_)
            · exact mg_weak (mm_le_s (mm_le_s (mm_le_s (mm_le_s (mm_le_n (mm_le_s (mm_le_n mm_le_0))))))) (X6_trySeats_b116_ok hz hd h0 ih hr)
            · refine ml_aload_n (pc := 107) dX6_trySeats_107 rfl mm_get_0 ?_
              refine ml_aload_n (pc := 108) dX6_trySeats_108 rfl mm_get_0 ?_
              refine ml_iload_n (pc := 109) dX6_trySeats_109 rfl (mm_get_s (mm_get_s (mm_get_s mm_get_0))) ?_
              refine mb_cVi (pc := 110) (As := [.int i3]) (rest := [.ref a0]) dX6_trySeats_110 cw_X6_149 h0 hr (fun v hv => X6_orderAsNumber_ok hz (by omega) h0 hv) rfl (Nat.le_of_ble_eq_true rfl) (Nat.zero_le _) (Nat.zero_le _) (fun r10 hr => ?_)
              refine mb_pi (pc := 113) dX6_trySeats_113 fp_X6_126 hr (fun m11 hr => ?_)
              exact mg_weak (mm_le_s (mm_le_s (mm_le_s (mm_le_s (mm_le_n (mm_le_s (mm_le_n mm_le_0))))))) (X6_trySeats_b116_ok hz hd h0 ih hr)
def X6_trySeats_L11 (e : mm_E) (a0 : Nat) (a1 : Nat) (i2 : Int32) : Nat → Int32 → mm_V → Option mm_V
  | 0, _, _ => none
  | n + 1, i3, m => if (6 : Int32) ≤ i3 then ((mm_gr e.1 m 4 12 a1 6).bind fun c1 => (mm_gi e.1 m 10 11 c1 6).bind fun x2 => (J9_min_7cf53 e x2 (6 : Int32) m).bind fun r3 => X6_trySeats_L49 e a0 a1 i2 r3.1 e.2.2 (1 : Int32) (0 : Int32) r3.2) else ((mm_gr e.1 m 6 12 a0 3).bind fun c4 => (mm_si e.1 m c4 i3 i3).bind fun m5 => X6_trySeats_L11 e a0 a1 i2 n (i3 + 1) m5)
theorem X6_trySeats_L11_ok {K : mm_K} {nx : Option Nat} {e : mm_E} (hz : e.2.1 = K.2.2.2.2) {d : Nat} (hd : 6 ≤ d) {a0 : Nat} {a1 : Nat} {i2 : Int32} (h0 : e.1 a0 = some (6, 12)) : ∀ (n : Nat) (i3 : Int32) (m : mm_V) (r : mm_V), X6_trySeats_L11 e a0 a1 i2 n i3 m = some r → mm_G K MX6_trySeats d (mm_Fv e.1 nx r) 11 [some (.ref a0), some (.ref a1), some (.int i2), some (.int i3), none, none, none] [] (e.1, m) nx 0 0 := by
  obtain ⟨d, rfl⟩ : ∃ d', d = d' + 1 := ⟨d - 1, by omega⟩
  intro n
  induction n with
  | zero => intro i3 m r hr; unfold X6_trySeats_L11 at hr; cases hr
  | succ n ih =>
    intro i3 m r hr
    unfold X6_trySeats_L11 at hr
    refine ml_iload_n (pc := 11) dX6_trySeats_11 rfl (mm_get_s (mm_get_s (mm_get_s mm_get_0))) ?_
    refine mg_bipush (pc := 12) dX6_trySeats_12 kb_6 ?_
    refine mb_icmp_ge (pc := 14) 30 dX6_trySeats_14 rfl hr (fun hr => ?_) (fun hr => ?_)
    · refine ml_aload_n (pc := 30) dX6_trySeats_30 rfl (mm_get_s mm_get_0) ?_
      refine mb_gr (pc := 31) dX6_trySeats_31 fl_X6_129 hr (fun c1 hr => ?_)
      refine mb_gi (pc := 34) dX6_trySeats_34 fl_X6_133 hr (fun x2 hr => ?_)
      refine mg_bipush (pc := 37) dX6_trySeats_37 kb_6 ?_
      refine mb_cSi (pc := 39) (As := [.int x2, .int (6 : Int32)]) (rest := []) dX6_trySeats_39 cw_X6_138  hr (fun v hv => J9_min_7cf53_ok hz (by omega)  hv) rfl (Nat.le_of_ble_eq_true rfl) (Nat.zero_le _) (Nat.zero_le _) (fun r3 hr => ?_)
      refine ml_istore_n (pc := 42) dX6_trySeats_42 rfl (Nat.le_of_ble_eq_true rfl) (mm_st1_s (mm_st1_s mm_st1_i)) ?_
      refine mg_iconst (pc := 43) dX6_trySeats_43 kc_1 ?_
      refine ml_istore (pc := 44) dX6_trySeats_44 (Nat.le_of_ble_eq_true rfl) (mm_st1_s (mm_st1_s (mm_st1_s mm_st1_i))) ?_
      refine mg_iconst (pc := 46) dX6_trySeats_46 kc_0 ?_
      refine ml_istore (pc := 47) dX6_trySeats_47 (Nat.le_of_ble_eq_true rfl) (mm_st1_s (mm_st1_s (mm_st1_s (mm_st1_s mm_st1_i)))) ?_
      exact mg_weak (mm_le_s (mm_le_s (mm_le_s (mm_le_s (mm_le_s (mm_le_s (mm_le_n mm_le_0))))))) (X6_trySeats_L49_ok hz hd h0 _ _ _ _ _ hr)
    · refine ml_aload_n (pc := 17) dX6_trySeats_17 rfl mm_get_0 ?_
      refine mb_gr (pc := 18) dX6_trySeats_18 fl_X6_31 hr (fun c4 hr => ?_)
      refine ml_iload_n (pc := 21) dX6_trySeats_21 rfl (mm_get_s (mm_get_s (mm_get_s mm_get_0))) ?_
      refine ml_iload_n (pc := 22) dX6_trySeats_22 rfl (mm_get_s (mm_get_s (mm_get_s mm_get_0))) ?_
      refine mb_si (pc := 23) dX6_trySeats_23 hr (fun m5 hr => ?_)
      refine ml_iinc (pc := 24) dX6_trySeats_24 (mm_get_s (mm_get_s (mm_get_s mm_get_0))) (congrArg (fun z => i3 + z) kc_1) (Nat.le_of_ble_eq_true rfl) (mm_st1_s (mm_st1_s mm_st1_i)) ?_
      refine mg_goto (pc := 27) 11 dX6_trySeats_27 rfl ?_
      exact mg_weak (mm_le_s (mm_le_s (mm_le_s (mm_le_s (mm_le_n (mm_le_n (mm_le_n mm_le_0))))))) (ih _ _ _ hr)
def X6_trySeats (e : mm_E) (a0 : Nat) (a1 : Nat) (i2 : Int32) (m : mm_V) : Option mm_V := (X6_begin e a0 m).bind fun r1 => (mm_pf e.1 r1 6 12 a0 7 (.int (-1 : Int32))).bind fun m2 => X6_trySeats_L11 e a0 a1 i2 e.2.2 (0 : Int32) m2
theorem X6_trySeats_ok {K : mm_K} {nx : Option Nat} {e : mm_E} (hz : e.2.1 = K.2.2.2.2) {d : Nat} (hd : 6 ≤ d) {a0 : Nat} {a1 : Nat} {i2 : Int32} (h0 : e.1 a0 = some (6, 12)) {m : mm_V} {r : mm_V} (hr : X6_trySeats e a0 a1 i2 m = some r) : mm_Cn K MX6_trySeats d (mm_Fv e.1 nx r) [.ref a0, .ref a1, .int i2] (e.1, m) nx := by
  obtain ⟨d, rfl⟩ : ∃ d', d = d' + 1 := ⟨d - 1, by omega⟩
  refine mm_entry (by decide) (Nat.le_of_ble_eq_true rfl) rfl (fun hok => ?_)
  unfold X6_trySeats at hr
  refine mg_weak (L' := [some (.ref a0), some (.ref a1), some (.int i2), none, none, none, none]) (mm_le_s (mm_le_s (mm_le_s (mm_le_e (mm_le_e (mm_le_e (mm_le_e mm_le_0))))))) ?_
  refine ml_aload_n (pc := 0) dX6_trySeats_0 rfl mm_get_0 ?_
  refine mb_cVv (pc := 1) (As := []) (rest := []) dX6_trySeats_1 cw_X6_123 h0 hr (fun v hv => X6_begin_ok hz (by omega) h0 hv) rfl (Nat.le_of_ble_eq_true rfl) (Nat.zero_le _) (Nat.zero_le _) (fun r1 hr => ?_)
  refine ml_aload_n (pc := 4) dX6_trySeats_4 rfl mm_get_0 ?_
  refine mg_iconst (pc := 5) dX6_trySeats_5 kc_m1 ?_
  refine mb_pi (pc := 6) dX6_trySeats_6 fp_X6_126 hr (fun m2 hr => ?_)
  refine mg_iconst (pc := 9) dX6_trySeats_9 kc_0 ?_
  refine ml_istore_n (pc := 10) dX6_trySeats_10 rfl (Nat.le_of_ble_eq_true rfl) (mm_st1_s (mm_st1_s mm_st1_i)) ?_
  exact mg_weak (mm_le_s (mm_le_s (mm_le_s (mm_le_s (mm_le_n (mm_le_n (mm_le_n mm_le_0))))))) (X6_trySeats_L11_ok hz hd h0 _ _ _ _ hr)
theorem dX6_losses_0 : decode cX6_losses 0 = .ok (.iload_n 1, 1) := by decide +kernel
theorem dX6_losses_1 : decode cX6_losses 1 = .ok (.ifCond .lt 18, 3) := by decide +kernel
theorem dX6_losses_4 : decode cX6_losses 4 = .ok (.iload_n 1, 1) := by decide +kernel
theorem dX6_losses_5 : decode cX6_losses 5 = .ok (.bipush 6, 2) := by decide +kernel
theorem dX6_losses_7 : decode cX6_losses 7 = .ok (.if_icmp .ge 12, 3) := by decide +kernel
theorem dX6_losses_10 : decode cX6_losses 10 = .ok (.aload_n 0, 1) := by decide +kernel
theorem dX6_losses_11 : decode cX6_losses 11 = .ok (.getfield 35, 3) := by decide +kernel
theorem dX6_losses_14 : decode cX6_losses 14 = .ok (.iload_n 1, 1) := by decide +kernel
theorem dX6_losses_15 : decode cX6_losses 15 = .ok (.iaload, 1) := by decide +kernel
theorem dX6_losses_16 : decode cX6_losses 16 = .ok (.goto 4, 3) := by decide +kernel
theorem dX6_losses_19 : decode cX6_losses 19 = .ok (.iconst 0, 1) := by decide +kernel
theorem dX6_losses_20 : decode cX6_losses 20 = .ok (.ireturn, 1) := by decide +kernel
def X6_losses_b20 (e : mm_E) (t0 : Int32) (m : mm_V) : Option (Int32 × mm_V) := some (t0, m)
theorem X6_losses_b20_ok {K : mm_K} {nx : Option Nat} {e : mm_E} (hz : e.2.1 = K.2.2.2.2) {d : Nat} (hd : 0 ≤ d) {t0 : Int32} {a0 : Nat} (h0 : e.1 a0 = some (6, 12)) {m : mm_V} {r : (Int32 × mm_V)} (hr : X6_losses_b20 e t0 m = some r) : mm_G K MX6_losses d (mm_Fi e.1 nx r) 20 [none, none] [.int t0] (e.1, m) nx 0 0 := by
  unfold X6_losses_b20 at hr
  exact mb_iret dX6_losses_20 rfl hr
def X6_losses_b19 (e : mm_E) (m : mm_V) : Option (Int32 × mm_V) := X6_losses_b20 e  (0 : Int32) m
theorem X6_losses_b19_ok {K : mm_K} {nx : Option Nat} {e : mm_E} (hz : e.2.1 = K.2.2.2.2) {d : Nat} (hd : 0 ≤ d) {a0 : Nat} (h0 : e.1 a0 = some (6, 12)) {m : mm_V} {r : (Int32 × mm_V)} (hr : X6_losses_b19 e m = some r) : mm_G K MX6_losses d (mm_Fi e.1 nx r) 19 [none, none] [] (e.1, m) nx 0 0 := by
  unfold X6_losses_b19 at hr
  refine mg_iconst (pc := 19) dX6_losses_19 kc_0 ?_
  exact mg_weak (mm_le_n (mm_le_n mm_le_0)) (X6_losses_b20_ok hz hd h0 hr)
def X6_losses (e : mm_E) (a0 : Nat) (i1 : Int32) (m : mm_V) : Option (Int32 × mm_V) := if i1 < 0 then (X6_losses_b19 e   m) else (if (6 : Int32) ≤ i1 then (X6_losses_b19 e   m) else ((mm_gr e.1 m 6 12 a0 4).bind fun c1 => (mm_ai e.1 m 20 c1 i1).bind fun x2 => X6_losses_b20 e  x2 m))
theorem X6_losses_ok {K : mm_K} {nx : Option Nat} {e : mm_E} (hz : e.2.1 = K.2.2.2.2) {d : Nat} (hd : 0 ≤ d) {a0 : Nat} {i1 : Int32} (h0 : e.1 a0 = some (6, 12)) {m : mm_V} {r : (Int32 × mm_V)} (hr : X6_losses e a0 i1 m = some r) : mm_Cn K MX6_losses d (mm_Fi e.1 nx r) [.ref a0, .int i1] (e.1, m) nx := by
  refine mm_entry (by decide) (Nat.le_of_ble_eq_true rfl) rfl (fun hok => ?_)
  unfold X6_losses at hr
  refine mg_weak (L' := [some (.ref a0), some (.int i1)]) (mm_le_s (mm_le_s mm_le_0)) ?_
  refine ml_iload_n (pc := 0) dX6_losses_0 rfl (mm_get_s mm_get_0) ?_
  refine mb_if_lt (pc := 1) 19 dX6_losses_1 rfl hr (fun hr => ?_) (fun hr => ?_)
  · exact mg_weak (mm_le_n (mm_le_n mm_le_0)) (X6_losses_b19_ok hz hd h0 hr)
  · refine ml_iload_n (pc := 4) dX6_losses_4 rfl (mm_get_s mm_get_0) ?_
    refine mg_bipush (pc := 5) dX6_losses_5 kb_6 ?_
    refine mb_icmp_ge (pc := 7) 19 dX6_losses_7 rfl hr (fun hr => ?_) (fun hr => ?_)
    · exact mg_weak (mm_le_n (mm_le_n mm_le_0)) (X6_losses_b19_ok hz hd h0 hr)
    · refine ml_aload_n (pc := 10) dX6_losses_10 rfl mm_get_0 ?_
      refine mb_gr (pc := 11) dX6_losses_11 fl_X6_35 hr (fun c1 hr => ?_)
      refine ml_iload_n (pc := 14) dX6_losses_14 rfl (mm_get_s mm_get_0) ?_
      refine mb_ai (pc := 15) dX6_losses_15 hr (fun x2 hr => ?_)
      refine mg_goto (pc := 16) 20 dX6_losses_16 rfl ?_
      exact mg_weak (mm_le_n (mm_le_n mm_le_0)) (X6_losses_b20_ok hz hd h0 hr)
theorem dX6_mostByLeast_0 : decode cX6_mostByLeast 0 = .ok (.aload_n 0, 1) := by decide +kernel
theorem dX6_mostByLeast_1 : decode cX6_mostByLeast 1 = .ok (.iconst 0, 1) := by decide +kernel
theorem dX6_mostByLeast_2 : decode cX6_mostByLeast 2 = .ok (.invokevirtual 159, 3) := by decide +kernel
theorem dX6_mostByLeast_5 : decode cX6_mostByLeast 5 = .ok (.istore_n 2, 1) := by decide +kernel
theorem dX6_mostByLeast_6 : decode cX6_mostByLeast 6 = .ok (.aload_n 0, 1) := by decide +kernel
theorem dX6_mostByLeast_7 : decode cX6_mostByLeast 7 = .ok (.iconst 0, 1) := by decide +kernel
theorem dX6_mostByLeast_8 : decode cX6_mostByLeast 8 = .ok (.invokevirtual 159, 3) := by decide +kernel
theorem dX6_mostByLeast_11 : decode cX6_mostByLeast 11 = .ok (.istore_n 3, 1) := by decide +kernel
theorem dX6_mostByLeast_12 : decode cX6_mostByLeast 12 = .ok (.iconst 1, 1) := by decide +kernel
theorem dX6_mostByLeast_13 : decode cX6_mostByLeast 13 = .ok (.istore 4, 2) := by decide +kernel
theorem dX6_mostByLeast_15 : decode cX6_mostByLeast 15 = .ok (.iload 4, 2) := by decide +kernel
theorem dX6_mostByLeast_17 : decode cX6_mostByLeast 17 = .ok (.iload_n 1, 1) := by decide +kernel
theorem dX6_mostByLeast_18 : decode cX6_mostByLeast 18 = .ok (.if_icmp .ge 31, 3) := by decide +kernel
theorem dX6_mostByLeast_21 : decode cX6_mostByLeast 21 = .ok (.iload_n 2, 1) := by decide +kernel
theorem dX6_mostByLeast_22 : decode cX6_mostByLeast 22 = .ok (.aload_n 0, 1) := by decide +kernel
theorem dX6_mostByLeast_23 : decode cX6_mostByLeast 23 = .ok (.iload 4, 2) := by decide +kernel
theorem dX6_mostByLeast_25 : decode cX6_mostByLeast 25 = .ok (.invokevirtual 159, 3) := by decide +kernel
theorem dX6_mostByLeast_28 : decode cX6_mostByLeast 28 = .ok (.invokestatic 112, 3) := by decide +kernel
theorem dX6_mostByLeast_31 : decode cX6_mostByLeast 31 = .ok (.istore_n 2, 1) := by decide +kernel
theorem dX6_mostByLeast_32 : decode cX6_mostByLeast 32 = .ok (.iload_n 3, 1) := by decide +kernel
theorem dX6_mostByLeast_33 : decode cX6_mostByLeast 33 = .ok (.aload_n 0, 1) := by decide +kernel
theorem dX6_mostByLeast_34 : decode cX6_mostByLeast 34 = .ok (.iload 4, 2) := by decide +kernel
theorem dX6_mostByLeast_36 : decode cX6_mostByLeast 36 = .ok (.invokevirtual 159, 3) := by decide +kernel
theorem dX6_mostByLeast_39 : decode cX6_mostByLeast 39 = .ok (.invokestatic 138, 3) := by decide +kernel
theorem dX6_mostByLeast_42 : decode cX6_mostByLeast 42 = .ok (.istore_n 3, 1) := by decide +kernel
theorem dX6_mostByLeast_43 : decode cX6_mostByLeast 43 = .ok (.iinc 4 1, 3) := by decide +kernel
theorem dX6_mostByLeast_46 : decode cX6_mostByLeast 46 = .ok (.goto (-31), 3) := by decide +kernel
theorem dX6_mostByLeast_49 : decode cX6_mostByLeast 49 = .ok (.iload_n 2, 1) := by decide +kernel
theorem dX6_mostByLeast_50 : decode cX6_mostByLeast 50 = .ok (.iload_n 3, 1) := by decide +kernel
theorem dX6_mostByLeast_51 : decode cX6_mostByLeast 51 = .ok (.isub, 1) := by decide +kernel
theorem dX6_mostByLeast_52 : decode cX6_mostByLeast 52 = .ok (.ireturn, 1) := by decide +kernel
def X6_mostByLeast_L15 (e : mm_E) (a0 : Nat) (i1 : Int32) : Nat → Int32 → Int32 → Int32 → mm_V → Option (Int32 × mm_V)
  | 0, _, _, _, _ => none
  | n + 1, i2, i3, i4, m => if i1 ≤ i4 then (some ((i2 - i3), m)) else ((X6_losses e a0 i4 m).bind fun r1 => (J9_max_7cf53 e i2 r1.1 r1.2).bind fun r2 => (X6_losses e a0 i4 r2.2).bind fun r3 => (J9_min_7cf53 e i3 r3.1 r3.2).bind fun r4 => X6_mostByLeast_L15 e a0 i1 n r2.1 r4.1 (i4 + 1) r4.2)
theorem X6_mostByLeast_L15_ok {K : mm_K} {nx : Option Nat} {e : mm_E} (hz : e.2.1 = K.2.2.2.2) {d : Nat} (hd : 1 ≤ d) {a0 : Nat} {i1 : Int32} (h0 : e.1 a0 = some (6, 12)) : ∀ (n : Nat) (i2 : Int32) (i3 : Int32) (i4 : Int32) (m : mm_V) (r : (Int32 × mm_V)), X6_mostByLeast_L15 e a0 i1 n i2 i3 i4 m = some r → mm_G K MX6_mostByLeast d (mm_Fi e.1 nx r) 15 [some (.ref a0), some (.int i1), some (.int i2), some (.int i3), some (.int i4)] [] (e.1, m) nx 0 0 := by
  obtain ⟨d, rfl⟩ : ∃ d', d = d' + 1 := ⟨d - 1, by omega⟩
  intro n
  induction n with
  | zero => intro i2 i3 i4 m r hr; unfold X6_mostByLeast_L15 at hr; cases hr
  | succ n ih =>
    intro i2 i3 i4 m r hr
    unfold X6_mostByLeast_L15 at hr
    refine ml_iload (pc := 15) dX6_mostByLeast_15 (mm_get_s (mm_get_s (mm_get_s (mm_get_s mm_get_0)))) ?_
    refine ml_iload_n (pc := 17) dX6_mostByLeast_17 rfl (mm_get_s mm_get_0) ?_
    refine mb_icmp_ge (pc := 18) 49 dX6_mostByLeast_18 rfl hr (fun hr => ?_) (fun hr => ?_)
    · refine ml_iload_n (pc := 49) dX6_mostByLeast_49 rfl (mm_get_s (mm_get_s mm_get_0)) ?_
      refine ml_iload_n (pc := 50) dX6_mostByLeast_50 rfl (mm_get_s (mm_get_s (mm_get_s mm_get_0))) ?_
      refine mg_isub (pc := 51) dX6_mostByLeast_51 ?_
      exact mb_iret dX6_mostByLeast_52 rfl hr
    · refine ml_iload_n (pc := 21) dX6_mostByLeast_21 rfl (mm_get_s (mm_get_s mm_get_0)) ?_
      refine ml_aload_n (pc := 22) dX6_mostByLeast_22 rfl mm_get_0 ?_
      refine ml_iload (pc := 23) dX6_mostByLeast_23 (mm_get_s (mm_get_s (mm_get_s (mm_get_s mm_get_0)))) ?_
      refine mb_cVi (pc := 25) (As := [.int i4]) (rest := [.int i2]) dX6_mostByLeast_25 cw_X6_159 h0 hr (fun v hv => X6_losses_ok hz (by omega) h0 hv) rfl (Nat.le_of_ble_eq_true rfl) (Nat.zero_le _) (Nat.zero_le _) (fun r1 hr => ?_)
      refine mb_cSi (pc := 28) (As := [.int i2, .int r1.1]) (rest := []) dX6_mostByLeast_28 cw_X6_112  hr (fun v hv => J9_max_7cf53_ok hz (by omega)  hv) rfl (Nat.le_of_ble_eq_true rfl) (Nat.zero_le _) (Nat.zero_le _) (fun r2 hr => ?_)
      refine ml_istore_n (pc := 31) dX6_mostByLeast_31 rfl (Nat.le_of_ble_eq_true rfl) (mm_st1_s mm_st1_i) ?_
      refine ml_iload_n (pc := 32) dX6_mostByLeast_32 rfl (mm_get_s (mm_get_s (mm_get_s mm_get_0))) ?_
      refine ml_aload_n (pc := 33) dX6_mostByLeast_33 rfl mm_get_0 ?_
      refine ml_iload (pc := 34) dX6_mostByLeast_34 (mm_get_s (mm_get_s (mm_get_s (mm_get_s mm_get_0)))) ?_
      refine mb_cVi (pc := 36) (As := [.int i4]) (rest := [.int i3]) dX6_mostByLeast_36 cw_X6_159 h0 hr (fun v hv => X6_losses_ok hz (by omega) h0 hv) rfl (Nat.le_of_ble_eq_true rfl) (Nat.zero_le _) (Nat.zero_le _) (fun r3 hr => ?_)
      refine mb_cSi (pc := 39) (As := [.int i3, .int r3.1]) (rest := []) dX6_mostByLeast_39 cw_X6_138  hr (fun v hv => J9_min_7cf53_ok hz (by omega)  hv) rfl (Nat.le_of_ble_eq_true rfl) (Nat.zero_le _) (Nat.zero_le _) (fun r4 hr => ?_)
      refine ml_istore_n (pc := 42) dX6_mostByLeast_42 rfl (Nat.le_of_ble_eq_true rfl) (mm_st1_s (mm_st1_s mm_st1_i)) ?_
      refine ml_iinc (pc := 43) dX6_mostByLeast_43 (mm_get_s (mm_get_s (mm_get_s (mm_get_s mm_get_0)))) (congrArg (fun z => i4 + z) kc_1) (Nat.le_of_ble_eq_true rfl) (mm_st1_s (mm_st1_s (mm_st1_s mm_st1_i))) ?_
      refine mg_goto (pc := 46) 15 dX6_mostByLeast_46 rfl ?_
      exact mg_weak (mm_le_s (mm_le_s (mm_le_s (mm_le_s (mm_le_s mm_le_0))))) (ih _ _ _ _ _ hr)
def X6_mostByLeast (e : mm_E) (a0 : Nat) (i1 : Int32) (m : mm_V) : Option (Int32 × mm_V) := (X6_losses e a0 (0 : Int32) m).bind fun r1 => (X6_losses e a0 (0 : Int32) r1.2).bind fun r2 => X6_mostByLeast_L15 e a0 i1 e.2.2 r1.1 r2.1 (1 : Int32) r2.2
theorem X6_mostByLeast_ok {K : mm_K} {nx : Option Nat} {e : mm_E} (hz : e.2.1 = K.2.2.2.2) {d : Nat} (hd : 1 ≤ d) {a0 : Nat} {i1 : Int32} (h0 : e.1 a0 = some (6, 12)) {m : mm_V} {r : (Int32 × mm_V)} (hr : X6_mostByLeast e a0 i1 m = some r) : mm_Cn K MX6_mostByLeast d (mm_Fi e.1 nx r) [.ref a0, .int i1] (e.1, m) nx := by
  obtain ⟨d, rfl⟩ : ∃ d', d = d' + 1 := ⟨d - 1, by omega⟩
  refine mm_entry (by decide) (Nat.le_of_ble_eq_true rfl) rfl (fun hok => ?_)
  unfold X6_mostByLeast at hr
  refine mg_weak (L' := [some (.ref a0), some (.int i1), none, none, none]) (mm_le_s (mm_le_s (mm_le_e (mm_le_e (mm_le_e mm_le_0))))) ?_
  refine ml_aload_n (pc := 0) dX6_mostByLeast_0 rfl mm_get_0 ?_
  refine mg_iconst (pc := 1) dX6_mostByLeast_1 kc_0 ?_
  refine mb_cVi (pc := 2) (As := [.int (0 : Int32)]) (rest := []) dX6_mostByLeast_2 cw_X6_159 h0 hr (fun v hv => X6_losses_ok hz (by omega) h0 hv) rfl (Nat.le_of_ble_eq_true rfl) (Nat.zero_le _) (Nat.zero_le _) (fun r1 hr => ?_)
  refine ml_istore_n (pc := 5) dX6_mostByLeast_5 rfl (Nat.le_of_ble_eq_true rfl) (mm_st1_s mm_st1_i) ?_
  refine ml_aload_n (pc := 6) dX6_mostByLeast_6 rfl mm_get_0 ?_
  refine mg_iconst (pc := 7) dX6_mostByLeast_7 kc_0 ?_
  refine mb_cVi (pc := 8) (As := [.int (0 : Int32)]) (rest := []) dX6_mostByLeast_8 cw_X6_159 h0 hr (fun v hv => X6_losses_ok hz (by omega) h0 hv) rfl (Nat.le_of_ble_eq_true rfl) (Nat.zero_le _) (Nat.zero_le _) (fun r2 hr => ?_)
  refine ml_istore_n (pc := 11) dX6_mostByLeast_11 rfl (Nat.le_of_ble_eq_true rfl) (mm_st1_s (mm_st1_s mm_st1_i)) ?_
  refine mg_iconst (pc := 12) dX6_mostByLeast_12 kc_1 ?_
  refine ml_istore (pc := 13) dX6_mostByLeast_13 (Nat.le_of_ble_eq_true rfl) (mm_st1_s (mm_st1_s (mm_st1_s mm_st1_i))) ?_
  exact mg_weak (mm_le_s (mm_le_s (mm_le_s (mm_le_s (mm_le_s mm_le_0))))) (X6_mostByLeast_L15_ok hz hd h0 _ _ _ _ _ _ hr)
theorem dX7_behind_0 : decode cX7_behind 0 = .ok (.iload_n 1, 1) := by decide +kernel
theorem dX7_behind_1 : decode cX7_behind 1 = .ok (.ifCond .lt 9, 3) := by decide +kernel
theorem dX7_behind_4 : decode cX7_behind 4 = .ok (.iload_n 1, 1) := by decide +kernel
theorem dX7_behind_5 : decode cX7_behind 5 = .ok (.bipush 6, 2) := by decide +kernel
theorem dX7_behind_7 : decode cX7_behind 7 = .ok (.if_icmp .lt 5, 3) := by decide +kernel
theorem dX7_behind_10 : decode cX7_behind 10 = .ok (.iconst 0, 1) := by decide +kernel
theorem dX7_behind_11 : decode cX7_behind 11 = .ok (.ireturn, 1) := by decide +kernel
theorem dX7_behind_12 : decode cX7_behind 12 = .ok (.iload_n 2, 1) := by decide +kernel
theorem dX7_behind_13 : decode cX7_behind 13 = .ok (.ifCond .eq 12, 3) := by decide +kernel
theorem dX7_behind_16 : decode cX7_behind 16 = .ok (.aload_n 0, 1) := by decide +kernel
theorem dX7_behind_17 : decode cX7_behind 17 = .ok (.getfield 15, 3) := by decide +kernel
theorem dX7_behind_20 : decode cX7_behind 20 = .ok (.iload_n 1, 1) := by decide +kernel
theorem dX7_behind_21 : decode cX7_behind 21 = .ok (.iaload, 1) := by decide +kernel
theorem dX7_behind_22 : decode cX7_behind 22 = .ok (.goto 9, 3) := by decide +kernel
theorem dX7_behind_25 : decode cX7_behind 25 = .ok (.aload_n 0, 1) := by decide +kernel
theorem dX7_behind_26 : decode cX7_behind 26 = .ok (.getfield 9, 3) := by decide +kernel
theorem dX7_behind_29 : decode cX7_behind 29 = .ok (.iload_n 1, 1) := by decide +kernel
theorem dX7_behind_30 : decode cX7_behind 30 = .ok (.iaload, 1) := by decide +kernel
theorem dX7_behind_31 : decode cX7_behind 31 = .ok (.ireturn, 1) := by decide +kernel
def X7_behind_b31 (e : mm_E) (t0 : Int32) (m : mm_V) : Option (Int32 × mm_V) := some (t0, m)
theorem X7_behind_b31_ok {K : mm_K} {nx : Option Nat} {e : mm_E} (hz : e.2.1 = K.2.2.2.2) {d : Nat} (hd : 0 ≤ d) {t0 : Int32} {a0 : Nat} (h0 : e.1 a0 = some (7, 8)) {m : mm_V} {r : (Int32 × mm_V)} (hr : X7_behind_b31 e t0 m = some r) : mm_G K MX7_behind d (mm_Fi e.1 nx r) 31 [none, none, none] [.int t0] (e.1, m) nx 0 0 := by
  unfold X7_behind_b31 at hr
  exact mb_iret dX7_behind_31 rfl hr
def X7_behind_b10 (e : mm_E) (m : mm_V) : Option (Int32 × mm_V) := some ((0 : Int32), m)
theorem X7_behind_b10_ok {K : mm_K} {nx : Option Nat} {e : mm_E} (hz : e.2.1 = K.2.2.2.2) {d : Nat} (hd : 0 ≤ d) {a0 : Nat} (h0 : e.1 a0 = some (7, 8)) {m : mm_V} {r : (Int32 × mm_V)} (hr : X7_behind_b10 e m = some r) : mm_G K MX7_behind d (mm_Fi e.1 nx r) 10 [none, none, none] [] (e.1, m) nx 0 0 := by
  unfold X7_behind_b10 at hr
  refine mg_iconst (pc := 10) dX7_behind_10 kc_0 ?_
  exact mb_iret dX7_behind_11 rfl hr
def X7_behind (e : mm_E) (a0 : Nat) (i1 : Int32) (i2 : Int32) (m : mm_V) : Option (Int32 × mm_V) := if i1 < 0 then (X7_behind_b10 e   m) else (if i1 < (6 : Int32) then (if i2 = 0 then ((mm_gr e.1 m 7 8 a0 0).bind fun c1 => (mm_ai e.1 m 20 c1 i1).bind fun x2 => X7_behind_b31 e  x2 m) else ((mm_gr e.1 m 7 8 a0 1).bind fun c3 => (mm_ai e.1 m 20 c3 i1).bind fun x4 => X7_behind_b31 e  x4 m)) else (X7_behind_b10 e   m))
theorem X7_behind_ok {K : mm_K} {nx : Option Nat} {e : mm_E} (hz : e.2.1 = K.2.2.2.2) {d : Nat} (hd : 0 ≤ d) {a0 : Nat} {i1 : Int32} {i2 : Int32} (h0 : e.1 a0 = some (7, 8)) {m : mm_V} {r : (Int32 × mm_V)} (hr : X7_behind e a0 i1 i2 m = some r) : mm_Cn K MX7_behind d (mm_Fi e.1 nx r) [.ref a0, .int i1, .int i2] (e.1, m) nx := by
  refine mm_entry (by decide) (Nat.le_of_ble_eq_true rfl) rfl (fun hok => ?_)
  unfold X7_behind at hr
  refine mg_weak (L' := [some (.ref a0), some (.int i1), some (.int i2)]) (mm_le_s (mm_le_s (mm_le_s mm_le_0))) ?_
  refine ml_iload_n (pc := 0) dX7_behind_0 rfl (mm_get_s mm_get_0) ?_
  refine mb_if_lt (pc := 1) 10 dX7_behind_1 rfl hr (fun hr => ?_) (fun hr => ?_)
  · exact mg_weak (mm_le_n (mm_le_n (mm_le_n mm_le_0))) (X7_behind_b10_ok hz hd h0 hr)
  · refine ml_iload_n (pc := 4) dX7_behind_4 rfl (mm_get_s mm_get_0) ?_
    refine mg_bipush (pc := 5) dX7_behind_5 kb_6 ?_
    refine mb_icmp_lt (pc := 7) 12 dX7_behind_7 rfl hr (fun hr => ?_) (fun hr => ?_)
    · refine ml_iload_n (pc := 12) dX7_behind_12 rfl (mm_get_s (mm_get_s mm_get_0)) ?_
      refine mb_if_eq (pc := 13) 25 dX7_behind_13 rfl hr (fun hr => ?_) (fun hr => ?_)
      · refine ml_aload_n (pc := 25) dX7_behind_25 rfl mm_get_0 ?_
        refine mb_gr (pc := 26) dX7_behind_26 fl_X7_9 hr (fun c1 hr => ?_)
        refine ml_iload_n (pc := 29) dX7_behind_29 rfl (mm_get_s mm_get_0) ?_
        refine mb_ai (pc := 30) dX7_behind_30 hr (fun x2 hr => ?_)
        exact mg_weak (mm_le_n (mm_le_n (mm_le_n mm_le_0))) (X7_behind_b31_ok hz hd h0 hr)
      · refine ml_aload_n (pc := 16) dX7_behind_16 rfl mm_get_0 ?_
        refine mb_gr (pc := 17) dX7_behind_17 fl_X7_15 hr (fun c3 hr => ?_)
        refine ml_iload_n (pc := 20) dX7_behind_20 rfl (mm_get_s mm_get_0) ?_
        refine mb_ai (pc := 21) dX7_behind_21 hr (fun x4 hr => ?_)
        refine mg_goto (pc := 22) 31 dX7_behind_22 rfl ?_
        exact mg_weak (mm_le_n (mm_le_n (mm_le_n mm_le_0))) (X7_behind_b31_ok hz hd h0 hr)
    · exact mg_weak (mm_le_n (mm_le_n (mm_le_n mm_le_0))) (X7_behind_b10_ok hz hd h0 hr)
theorem dX7_outBehind_0 : decode cX7_outBehind 0 = .ok (.iload_n 1, 1) := by decide +kernel
theorem dX7_outBehind_1 : decode cX7_outBehind 1 = .ok (.ifCond .lt 18, 3) := by decide +kernel
theorem dX7_outBehind_4 : decode cX7_outBehind 4 = .ok (.iload_n 1, 1) := by decide +kernel
theorem dX7_outBehind_5 : decode cX7_outBehind 5 = .ok (.bipush 6, 2) := by decide +kernel
theorem dX7_outBehind_7 : decode cX7_outBehind 7 = .ok (.if_icmp .ge 12, 3) := by decide +kernel
theorem dX7_outBehind_10 : decode cX7_outBehind 10 = .ok (.aload_n 0, 1) := by decide +kernel
theorem dX7_outBehind_11 : decode cX7_outBehind 11 = .ok (.getfield 18, 3) := by decide +kernel
theorem dX7_outBehind_14 : decode cX7_outBehind 14 = .ok (.iload_n 1, 1) := by decide +kernel
theorem dX7_outBehind_15 : decode cX7_outBehind 15 = .ok (.iaload, 1) := by decide +kernel
theorem dX7_outBehind_16 : decode cX7_outBehind 16 = .ok (.goto 4, 3) := by decide +kernel
theorem dX7_outBehind_19 : decode cX7_outBehind 19 = .ok (.iconst (-1), 1) := by decide +kernel
theorem dX7_outBehind_20 : decode cX7_outBehind 20 = .ok (.ireturn, 1) := by decide +kernel
def X7_outBehind_b20 (e : mm_E) (t0 : Int32) (m : mm_V) : Option (Int32 × mm_V) := some (t0, m)
theorem X7_outBehind_b20_ok {K : mm_K} {nx : Option Nat} {e : mm_E} (hz : e.2.1 = K.2.2.2.2) {d : Nat} (hd : 0 ≤ d) {t0 : Int32} {a0 : Nat} (h0 : e.1 a0 = some (7, 8)) {m : mm_V} {r : (Int32 × mm_V)} (hr : X7_outBehind_b20 e t0 m = some r) : mm_G K MX7_outBehind d (mm_Fi e.1 nx r) 20 [none, none] [.int t0] (e.1, m) nx 0 0 := by
  unfold X7_outBehind_b20 at hr
  exact mb_iret dX7_outBehind_20 rfl hr
def X7_outBehind_b19 (e : mm_E) (m : mm_V) : Option (Int32 × mm_V) := X7_outBehind_b20 e  (-1 : Int32) m
theorem X7_outBehind_b19_ok {K : mm_K} {nx : Option Nat} {e : mm_E} (hz : e.2.1 = K.2.2.2.2) {d : Nat} (hd : 0 ≤ d) {a0 : Nat} (h0 : e.1 a0 = some (7, 8)) {m : mm_V} {r : (Int32 × mm_V)} (hr : X7_outBehind_b19 e m = some r) : mm_G K MX7_outBehind d (mm_Fi e.1 nx r) 19 [none, none] [] (e.1, m) nx 0 0 := by
  unfold X7_outBehind_b19 at hr
  refine mg_iconst (pc := 19) dX7_outBehind_19 kc_m1 ?_
  exact mg_weak (mm_le_n (mm_le_n mm_le_0)) (X7_outBehind_b20_ok hz hd h0 hr)
def X7_outBehind (e : mm_E) (a0 : Nat) (i1 : Int32) (m : mm_V) : Option (Int32 × mm_V) := if i1 < 0 then (X7_outBehind_b19 e   m) else (if (6 : Int32) ≤ i1 then (X7_outBehind_b19 e   m) else ((mm_gr e.1 m 7 8 a0 2).bind fun c1 => (mm_ai e.1 m 20 c1 i1).bind fun x2 => X7_outBehind_b20 e  x2 m))
theorem X7_outBehind_ok {K : mm_K} {nx : Option Nat} {e : mm_E} (hz : e.2.1 = K.2.2.2.2) {d : Nat} (hd : 0 ≤ d) {a0 : Nat} {i1 : Int32} (h0 : e.1 a0 = some (7, 8)) {m : mm_V} {r : (Int32 × mm_V)} (hr : X7_outBehind e a0 i1 m = some r) : mm_Cn K MX7_outBehind d (mm_Fi e.1 nx r) [.ref a0, .int i1] (e.1, m) nx := by
  refine mm_entry (by decide) (Nat.le_of_ble_eq_true rfl) rfl (fun hok => ?_)
  unfold X7_outBehind at hr
  refine mg_weak (L' := [some (.ref a0), some (.int i1)]) (mm_le_s (mm_le_s mm_le_0)) ?_
  refine ml_iload_n (pc := 0) dX7_outBehind_0 rfl (mm_get_s mm_get_0) ?_
  refine mb_if_lt (pc := 1) 19 dX7_outBehind_1 rfl hr (fun hr => ?_) (fun hr => ?_)
  · exact mg_weak (mm_le_n (mm_le_n mm_le_0)) (X7_outBehind_b19_ok hz hd h0 hr)
  · refine ml_iload_n (pc := 4) dX7_outBehind_4 rfl (mm_get_s mm_get_0) ?_
    refine mg_bipush (pc := 5) dX7_outBehind_5 kb_6 ?_
    refine mb_icmp_ge (pc := 7) 19 dX7_outBehind_7 rfl hr (fun hr => ?_) (fun hr => ?_)
    · exact mg_weak (mm_le_n (mm_le_n mm_le_0)) (X7_outBehind_b19_ok hz hd h0 hr)
    · refine ml_aload_n (pc := 10) dX7_outBehind_10 rfl mm_get_0 ?_
      refine mb_gr (pc := 11) dX7_outBehind_11 fl_X7_18 hr (fun c1 hr => ?_)
      refine ml_iload_n (pc := 14) dX7_outBehind_14 rfl (mm_get_s mm_get_0) ?_
      refine mb_ai (pc := 15) dX7_outBehind_15 hr (fun x2 hr => ?_)
      refine mg_goto (pc := 16) 20 dX7_outBehind_16 rfl ?_
      exact mg_weak (mm_le_n (mm_le_n mm_le_0)) (X7_outBehind_b20_ok hz hd h0 hr)
theorem dX10_clear_0 : decode cX10_clear 0 = .ok (.aload_n 0, 1) := by decide +kernel
theorem dX10_clear_1 : decode cX10_clear 1 = .ok (.iconst 3, 1) := by decide +kernel
theorem dX10_clear_2 : decode cX10_clear 2 = .ok (.putfield 37, 3) := by decide +kernel
theorem dX10_clear_5 : decode cX10_clear 5 = .ok (.aload_n 0, 1) := by decide +kernel
theorem dX10_clear_6 : decode cX10_clear 6 = .ok (.iconst 5, 1) := by decide +kernel
theorem dX10_clear_7 : decode cX10_clear 7 = .ok (.putfield 41, 3) := by decide +kernel
theorem dX10_clear_10 : decode cX10_clear 10 = .ok (.aload_n 0, 1) := by decide +kernel
theorem dX10_clear_11 : decode cX10_clear 11 = .ok (.iconst 0, 1) := by decide +kernel
theorem dX10_clear_12 : decode cX10_clear 12 = .ok (.putfield 44, 3) := by decide +kernel
theorem dX10_clear_15 : decode cX10_clear 15 = .ok (.aload_n 0, 1) := by decide +kernel
theorem dX10_clear_16 : decode cX10_clear 16 = .ok (.iconst 0, 1) := by decide +kernel
theorem dX10_clear_17 : decode cX10_clear 17 = .ok (.putfield 47, 3) := by decide +kernel
theorem dX10_clear_20 : decode cX10_clear 20 = .ok (.aload_n 0, 1) := by decide +kernel
theorem dX10_clear_21 : decode cX10_clear 21 = .ok (.iconst 0, 1) := by decide +kernel
theorem dX10_clear_22 : decode cX10_clear 22 = .ok (.putfield 50, 3) := by decide +kernel
theorem dX10_clear_25 : decode cX10_clear 25 = .ok (.iconst 0, 1) := by decide +kernel
theorem dX10_clear_26 : decode cX10_clear 26 = .ok (.istore_n 1, 1) := by decide +kernel
theorem dX10_clear_27 : decode cX10_clear 27 = .ok (.iload_n 1, 1) := by decide +kernel
theorem dX10_clear_28 : decode cX10_clear 28 = .ok (.bipush 6, 2) := by decide +kernel
theorem dX10_clear_30 : decode cX10_clear 30 = .ok (.if_icmp .ge 18, 3) := by decide +kernel
theorem dX10_clear_33 : decode cX10_clear 33 = .ok (.aload_n 0, 1) := by decide +kernel
theorem dX10_clear_34 : decode cX10_clear 34 = .ok (.getfield 11, 3) := by decide +kernel
theorem dX10_clear_37 : decode cX10_clear 37 = .ok (.iload_n 1, 1) := by decide +kernel
theorem dX10_clear_38 : decode cX10_clear 38 = .ok (.aaload, 1) := by decide +kernel
theorem dX10_clear_39 : decode cX10_clear 39 = .ok (.invokevirtual 54, 3) := by decide +kernel
theorem dX10_clear_42 : decode cX10_clear 42 = .ok (.iinc 1 1, 3) := by decide +kernel
theorem dX10_clear_45 : decode cX10_clear 45 = .ok (.goto (-18), 3) := by decide +kernel
theorem dX10_clear_48 : decode cX10_clear 48 = .ok (.iconst 0, 1) := by decide +kernel
theorem dX10_clear_49 : decode cX10_clear 49 = .ok (.istore_n 1, 1) := by decide +kernel
theorem dX10_clear_50 : decode cX10_clear 50 = .ok (.iload_n 1, 1) := by decide +kernel
theorem dX10_clear_51 : decode cX10_clear 51 = .ok (.aload_n 0, 1) := by decide +kernel
theorem dX10_clear_52 : decode cX10_clear 52 = .ok (.getfield 17, 3) := by decide +kernel
theorem dX10_clear_55 : decode cX10_clear 55 = .ok (.arraylength, 1) := by decide +kernel
theorem dX10_clear_56 : decode cX10_clear 56 = .ok (.if_icmp .ge 16, 3) := by decide +kernel
theorem dX10_clear_59 : decode cX10_clear 59 = .ok (.aload_n 0, 1) := by decide +kernel
theorem dX10_clear_60 : decode cX10_clear 60 = .ok (.getfield 17, 3) := by decide +kernel
theorem dX10_clear_63 : decode cX10_clear 63 = .ok (.iload_n 1, 1) := by decide +kernel
theorem dX10_clear_64 : decode cX10_clear 64 = .ok (.iconst 0, 1) := by decide +kernel
theorem dX10_clear_65 : decode cX10_clear 65 = .ok (.iastore, 1) := by decide +kernel
theorem dX10_clear_66 : decode cX10_clear 66 = .ok (.iinc 1 1, 3) := by decide +kernel
theorem dX10_clear_69 : decode cX10_clear 69 = .ok (.goto (-19), 3) := by decide +kernel
theorem dX10_clear_72 : decode cX10_clear 72 = .ok (.iconst 0, 1) := by decide +kernel
theorem dX10_clear_73 : decode cX10_clear 73 = .ok (.istore_n 1, 1) := by decide +kernel
theorem dX10_clear_74 : decode cX10_clear 74 = .ok (.iload_n 1, 1) := by decide +kernel
theorem dX10_clear_75 : decode cX10_clear 75 = .ok (.bipush 12, 2) := by decide +kernel
theorem dX10_clear_77 : decode cX10_clear 77 = .ok (.if_icmp .ge 23, 3) := by decide +kernel
theorem dX10_clear_80 : decode cX10_clear 80 = .ok (.aload_n 0, 1) := by decide +kernel
theorem dX10_clear_81 : decode cX10_clear 81 = .ok (.getfield 24, 3) := by decide +kernel
theorem dX10_clear_84 : decode cX10_clear 84 = .ok (.iload_n 1, 1) := by decide +kernel
theorem dX10_clear_85 : decode cX10_clear 85 = .ok (.iconst 0, 1) := by decide +kernel
theorem dX10_clear_86 : decode cX10_clear 86 = .ok (.iastore, 1) := by decide +kernel
theorem dX10_clear_87 : decode cX10_clear 87 = .ok (.aload_n 0, 1) := by decide +kernel
theorem dX10_clear_88 : decode cX10_clear 88 = .ok (.getfield 27, 3) := by decide +kernel
theorem dX10_clear_91 : decode cX10_clear 91 = .ok (.iload_n 1, 1) := by decide +kernel
theorem dX10_clear_92 : decode cX10_clear 92 = .ok (.iconst 0, 1) := by decide +kernel
theorem dX10_clear_93 : decode cX10_clear 93 = .ok (.iastore, 1) := by decide +kernel
theorem dX10_clear_94 : decode cX10_clear 94 = .ok (.iinc 1 1, 3) := by decide +kernel
theorem dX10_clear_97 : decode cX10_clear 97 = .ok (.goto (-23), 3) := by decide +kernel
theorem dX10_clear_100 : decode cX10_clear 100 = .ok (.return_, 1) := by decide +kernel
def X10_clear_L74 (e : mm_E) (a0 : Nat) : Nat → Int32 → mm_V → Option mm_V
  | 0, _, _ => none
  | n + 1, i1, m => if (12 : Int32) ≤ i1 then (some m) else ((mm_gr e.1 m 10 11 a0 3).bind fun c1 => (mm_si e.1 m c1 i1 (0 : Int32)).bind fun m2 => (mm_gr e.1 m2 10 11 a0 4).bind fun c3 => (mm_si e.1 m2 c3 i1 (0 : Int32)).bind fun m4 => X10_clear_L74 e a0 n (i1 + 1) m4)
theorem X10_clear_L74_ok {K : mm_K} {nx : Option Nat} {e : mm_E} (hz : e.2.1 = K.2.2.2.2) {d : Nat} (hd : 1 ≤ d) {a0 : Nat} (h0 : e.1 a0 = some (10, 11)) : ∀ (n : Nat) (i1 : Int32) (m : mm_V) (r : mm_V), X10_clear_L74 e a0 n i1 m = some r → mm_G K MX10_clear d (mm_Fv e.1 nx r) 74 [some (.ref a0), some (.int i1)] [] (e.1, m) nx 0 0 := by
  obtain ⟨d, rfl⟩ : ∃ d', d = d' + 1 := ⟨d - 1, by omega⟩
  intro n
  induction n with
  | zero => intro i1 m r hr; unfold X10_clear_L74 at hr; cases hr
  | succ n ih =>
    intro i1 m r hr
    unfold X10_clear_L74 at hr
    refine ml_iload_n (pc := 74) dX10_clear_74 rfl (mm_get_s mm_get_0) ?_
    refine mg_bipush (pc := 75) dX10_clear_75 kb_12 ?_
    refine mb_icmp_ge (pc := 77) 100 dX10_clear_77 rfl hr (fun hr => ?_) (fun hr => ?_)
    · exact mb_vret dX10_clear_100 rfl hr
    · refine ml_aload_n (pc := 80) dX10_clear_80 rfl mm_get_0 ?_
      refine mb_gr (pc := 81) dX10_clear_81 fl_X10_24 hr (fun c1 hr => ?_)
      refine ml_iload_n (pc := 84) dX10_clear_84 rfl (mm_get_s mm_get_0) ?_
      refine mg_iconst (pc := 85) dX10_clear_85 kc_0 ?_
      refine mb_si (pc := 86) dX10_clear_86 hr (fun m2 hr => ?_)
      refine ml_aload_n (pc := 87) dX10_clear_87 rfl mm_get_0 ?_
      refine mb_gr (pc := 88) dX10_clear_88 fl_X10_27 hr (fun c3 hr => ?_)
      refine ml_iload_n (pc := 91) dX10_clear_91 rfl (mm_get_s mm_get_0) ?_
      refine mg_iconst (pc := 92) dX10_clear_92 kc_0 ?_
      refine mb_si (pc := 93) dX10_clear_93 hr (fun m4 hr => ?_)
      refine ml_iinc (pc := 94) dX10_clear_94 (mm_get_s mm_get_0) (congrArg (fun z => i1 + z) kc_1) (Nat.le_of_ble_eq_true rfl) mm_st1_r ?_
      refine mg_goto (pc := 97) 74 dX10_clear_97 rfl ?_
      exact mg_weak (mm_le_s (mm_le_s mm_le_0)) (ih _ _ _ hr)
def X10_clear_L50 (e : mm_E) (a0 : Nat) : Nat → Int32 → mm_V → Option mm_V
  | 0, _, _ => none
  | n + 1, i1, m => (mm_gr e.1 m 10 11 a0 1).bind fun c1 => (mm_ln e.1 c1).bind fun x2 => if x2 ≤ i1 then (X10_clear_L74 e a0 e.2.2 (0 : Int32) m) else ((mm_gr e.1 m 10 11 a0 1).bind fun c3 => (mm_si e.1 m c3 i1 (0 : Int32)).bind fun m4 => X10_clear_L50 e a0 n (i1 + 1) m4)
theorem X10_clear_L50_ok {K : mm_K} {nx : Option Nat} {e : mm_E} (hz : e.2.1 = K.2.2.2.2) {d : Nat} (hd : 1 ≤ d) {a0 : Nat} (h0 : e.1 a0 = some (10, 11)) : ∀ (n : Nat) (i1 : Int32) (m : mm_V) (r : mm_V), X10_clear_L50 e a0 n i1 m = some r → mm_G K MX10_clear d (mm_Fv e.1 nx r) 50 [some (.ref a0), some (.int i1)] [] (e.1, m) nx 0 0 := by
  obtain ⟨d, rfl⟩ : ∃ d', d = d' + 1 := ⟨d - 1, by omega⟩
  intro n
  induction n with
  | zero => intro i1 m r hr; unfold X10_clear_L50 at hr; cases hr
  | succ n ih =>
    intro i1 m r hr
    unfold X10_clear_L50 at hr
    refine ml_iload_n (pc := 50) dX10_clear_50 rfl (mm_get_s mm_get_0) ?_
    refine ml_aload_n (pc := 51) dX10_clear_51 rfl mm_get_0 ?_
    refine mb_gr (pc := 52) dX10_clear_52 fl_X10_17 hr (fun c1 hr => ?_)
    refine mb_ln (pc := 55) dX10_clear_55 hr (fun x2 hr => ?_)
    refine mb_icmp_ge (pc := 56) 72 dX10_clear_56 rfl hr (fun hr => ?_) (fun hr => ?_)
    · refine mg_iconst (pc := 72) dX10_clear_72 kc_0 ?_
      refine ml_istore_n (pc := 73) dX10_clear_73 rfl (Nat.le_of_ble_eq_true rfl) mm_st1_r ?_
      exact mg_weak (mm_le_s (mm_le_s mm_le_0)) (X10_clear_L74_ok hz hd h0 _ _ _ _ hr)
    · refine ml_aload_n (pc := 59) dX10_clear_59 rfl mm_get_0 ?_
      refine mb_gr (pc := 60) dX10_clear_60 fl_X10_17 hr (fun c3 hr => ?_)
      refine ml_iload_n (pc := 63) dX10_clear_63 rfl (mm_get_s mm_get_0) ?_
      refine mg_iconst (pc := 64) dX10_clear_64 kc_0 ?_
      refine mb_si (pc := 65) dX10_clear_65 hr (fun m4 hr => ?_)
      refine ml_iinc (pc := 66) dX10_clear_66 (mm_get_s mm_get_0) (congrArg (fun z => i1 + z) kc_1) (Nat.le_of_ble_eq_true rfl) mm_st1_r ?_
      refine mg_goto (pc := 69) 50 dX10_clear_69 rfl ?_
      exact mg_weak (mm_le_s (mm_le_s mm_le_0)) (ih _ _ _ hr)
def X10_clear_L27 (e : mm_E) (a0 : Nat) : Nat → Int32 → mm_V → Option mm_V
  | 0, _, _ => none
  | n + 1, i1, m => if (6 : Int32) ≤ i1 then (X10_clear_L50 e a0 e.2.2 (0 : Int32) m) else ((mm_gr e.1 m 10 11 a0 0).bind fun c1 => (mm_aq e.1 m 23 c1 i1).bind fun c2 => if e.1 c2 = some (3, 2) then ((X3_clear e c2 m).bind fun r3 => X10_clear_L27 e a0 n (i1 + 1) r3) else none)
theorem X10_clear_L27_ok {K : mm_K} {nx : Option Nat} {e : mm_E} (hz : e.2.1 = K.2.2.2.2) {d : Nat} (hd : 1 ≤ d) {a0 : Nat} (h0 : e.1 a0 = some (10, 11)) : ∀ (n : Nat) (i1 : Int32) (m : mm_V) (r : mm_V), X10_clear_L27 e a0 n i1 m = some r → mm_G K MX10_clear d (mm_Fv e.1 nx r) 27 [some (.ref a0), some (.int i1)] [] (e.1, m) nx 0 0 := by
  obtain ⟨d, rfl⟩ : ∃ d', d = d' + 1 := ⟨d - 1, by omega⟩
  intro n
  induction n with
  | zero => intro i1 m r hr; unfold X10_clear_L27 at hr; cases hr
  | succ n ih =>
    intro i1 m r hr
    unfold X10_clear_L27 at hr
    refine ml_iload_n (pc := 27) dX10_clear_27 rfl (mm_get_s mm_get_0) ?_
    refine mg_bipush (pc := 28) dX10_clear_28 kb_6 ?_
    refine mb_icmp_ge (pc := 30) 48 dX10_clear_30 rfl hr (fun hr => ?_) (fun hr => ?_)
    · refine mg_iconst (pc := 48) dX10_clear_48 kc_0 ?_
      refine ml_istore_n (pc := 49) dX10_clear_49 rfl (Nat.le_of_ble_eq_true rfl) mm_st1_r ?_
      exact mg_weak (mm_le_s (mm_le_s mm_le_0)) (X10_clear_L50_ok hz hd h0 _ _ _ _ hr)
    · refine ml_aload_n (pc := 33) dX10_clear_33 rfl mm_get_0 ?_
      refine mb_gr (pc := 34) dX10_clear_34 fl_X10_11 hr (fun c1 hr => ?_)
      refine ml_iload_n (pc := 37) dX10_clear_37 rfl (mm_get_s mm_get_0) ?_
      refine mb_aq (pc := 38) dX10_clear_38 (by decide) (by decide) hr (fun c2 hr => ?_)
      refine mb_ck hr (fun hb4 hr => ?_)
      refine mb_cVv (pc := 39) (As := []) (rest := []) dX10_clear_39 cw_X10_54 hb4 hr (fun v hv => X3_clear_ok hz (by omega) hb4 hv) rfl (Nat.le_of_ble_eq_true rfl) (Nat.zero_le _) (Nat.zero_le _) (fun r3 hr => ?_)
      refine ml_iinc (pc := 42) dX10_clear_42 (mm_get_s mm_get_0) (congrArg (fun z => i1 + z) kc_1) (Nat.le_of_ble_eq_true rfl) mm_st1_r ?_
      refine mg_goto (pc := 45) 27 dX10_clear_45 rfl ?_
      exact mg_weak (mm_le_s (mm_le_s mm_le_0)) (ih _ _ _ hr)
def X10_clear (e : mm_E) (a0 : Nat) (m : mm_V) : Option mm_V := (mm_pf e.1 m 10 11 a0 6 (.int (3 : Int32))).bind fun m1 => (mm_pf e.1 m1 10 11 a0 7 (.int (5 : Int32))).bind fun m2 => (mm_pf e.1 m2 10 11 a0 8 (.int (0 : Int32))).bind fun m3 => (mm_pf e.1 m3 10 11 a0 9 (.int (0 : Int32))).bind fun m4 => (mm_pz e.1 m4 10 11 a0 10 (0 : Int32)).bind fun m5 => X10_clear_L27 e a0 e.2.2 (0 : Int32) m5
theorem X10_clear_ok {K : mm_K} {nx : Option Nat} {e : mm_E} (hz : e.2.1 = K.2.2.2.2) {d : Nat} (hd : 1 ≤ d) {a0 : Nat} (h0 : e.1 a0 = some (10, 11)) {m : mm_V} {r : mm_V} (hr : X10_clear e a0 m = some r) : mm_Cn K MX10_clear d (mm_Fv e.1 nx r) [.ref a0] (e.1, m) nx := by
  obtain ⟨d, rfl⟩ : ∃ d', d = d' + 1 := ⟨d - 1, by omega⟩
  refine mm_entry (by decide) (Nat.le_of_ble_eq_true rfl) rfl (fun hok => ?_)
  unfold X10_clear at hr
  refine mg_weak (L' := [some (.ref a0), none]) (mm_le_s (mm_le_e mm_le_0)) ?_
  refine ml_aload_n (pc := 0) dX10_clear_0 rfl mm_get_0 ?_
  refine mg_iconst (pc := 1) dX10_clear_1 kc_3 ?_
  refine mb_pi (pc := 2) dX10_clear_2 fp_X10_37 hr (fun m1 hr => ?_)
  refine ml_aload_n (pc := 5) dX10_clear_5 rfl mm_get_0 ?_
  refine mg_iconst (pc := 6) dX10_clear_6 kc_5 ?_
  refine mb_pi (pc := 7) dX10_clear_7 fp_X10_41 hr (fun m2 hr => ?_)
  refine ml_aload_n (pc := 10) dX10_clear_10 rfl mm_get_0 ?_
  refine mg_iconst (pc := 11) dX10_clear_11 kc_0 ?_
  refine mb_pi (pc := 12) dX10_clear_12 fp_X10_44 hr (fun m3 hr => ?_)
  refine ml_aload_n (pc := 15) dX10_clear_15 rfl mm_get_0 ?_
  refine mg_iconst (pc := 16) dX10_clear_16 kc_0 ?_
  refine mb_pi (pc := 17) dX10_clear_17 fp_X10_47 hr (fun m4 hr => ?_)
  refine ml_aload_n (pc := 20) dX10_clear_20 rfl mm_get_0 ?_
  refine mg_iconst (pc := 21) dX10_clear_21 kc_0 ?_
  refine mb_pz (pc := 22) dX10_clear_22 fp_X10_50 hr (fun m5 hr => ?_)
  refine mg_iconst (pc := 25) dX10_clear_25 kc_0 ?_
  refine ml_istore_n (pc := 26) dX10_clear_26 rfl (Nat.le_of_ble_eq_true rfl) mm_st1_r ?_
  exact mg_weak (mm_le_s (mm_le_s mm_le_0)) (X10_clear_L27_ok hz hd h0 _ _ _ _ hr)
theorem dX8_forget_0 : decode cX8_forget 0 = .ok (.aload_n 0, 1) := by decide +kernel
theorem dX8_forget_1 : decode cX8_forget 1 = .ok (.iconst 0, 1) := by decide +kernel
theorem dX8_forget_2 : decode cX8_forget 2 = .ok (.putfield 83, 3) := by decide +kernel
theorem dX8_forget_5 : decode cX8_forget 5 = .ok (.iconst 0, 1) := by decide +kernel
theorem dX8_forget_6 : decode cX8_forget 6 = .ok (.istore_n 1, 1) := by decide +kernel
theorem dX8_forget_7 : decode cX8_forget 7 = .ok (.iload_n 1, 1) := by decide +kernel
theorem dX8_forget_8 : decode cX8_forget 8 = .ok (.aload_n 0, 1) := by decide +kernel
theorem dX8_forget_9 : decode cX8_forget 9 = .ok (.getfield 18, 3) := by decide +kernel
theorem dX8_forget_12 : decode cX8_forget 12 = .ok (.arraylength, 1) := by decide +kernel
theorem dX8_forget_13 : decode cX8_forget 13 = .ok (.if_icmp .ge 16, 3) := by decide +kernel
theorem dX8_forget_16 : decode cX8_forget 16 = .ok (.aload_n 0, 1) := by decide +kernel
theorem dX8_forget_17 : decode cX8_forget 17 = .ok (.getfield 18, 3) := by decide +kernel
theorem dX8_forget_20 : decode cX8_forget 20 = .ok (.iload_n 1, 1) := by decide +kernel
theorem dX8_forget_21 : decode cX8_forget 21 = .ok (.iconst 0, 1) := by decide +kernel
theorem dX8_forget_22 : decode cX8_forget 22 = .ok (.iastore, 1) := by decide +kernel
theorem dX8_forget_23 : decode cX8_forget 23 = .ok (.iinc 1 1, 3) := by decide +kernel
theorem dX8_forget_26 : decode cX8_forget 26 = .ok (.goto (-19), 3) := by decide +kernel
theorem dX8_forget_29 : decode cX8_forget 29 = .ok (.iconst 0, 1) := by decide +kernel
theorem dX8_forget_30 : decode cX8_forget 30 = .ok (.istore_n 1, 1) := by decide +kernel
theorem dX8_forget_31 : decode cX8_forget 31 = .ok (.iload_n 1, 1) := by decide +kernel
theorem dX8_forget_32 : decode cX8_forget 32 = .ok (.aload_n 0, 1) := by decide +kernel
theorem dX8_forget_33 : decode cX8_forget 33 = .ok (.getfield 22, 3) := by decide +kernel
theorem dX8_forget_36 : decode cX8_forget 36 = .ok (.arraylength, 1) := by decide +kernel
theorem dX8_forget_37 : decode cX8_forget 37 = .ok (.if_icmp .ge 16, 3) := by decide +kernel
theorem dX8_forget_40 : decode cX8_forget 40 = .ok (.aload_n 0, 1) := by decide +kernel
theorem dX8_forget_41 : decode cX8_forget 41 = .ok (.getfield 22, 3) := by decide +kernel
theorem dX8_forget_44 : decode cX8_forget 44 = .ok (.iload_n 1, 1) := by decide +kernel
theorem dX8_forget_45 : decode cX8_forget 45 = .ok (.iconst 0, 1) := by decide +kernel
theorem dX8_forget_46 : decode cX8_forget 46 = .ok (.bastore, 1) := by decide +kernel
theorem dX8_forget_47 : decode cX8_forget 47 = .ok (.iinc 1 1, 3) := by decide +kernel
theorem dX8_forget_50 : decode cX8_forget 50 = .ok (.goto (-19), 3) := by decide +kernel
theorem dX8_forget_53 : decode cX8_forget 53 = .ok (.return_, 1) := by decide +kernel
def X8_forget_L31 (e : mm_E) (a0 : Nat) : Nat → Int32 → mm_V → Option mm_V
  | 0, _, _ => none
  | n + 1, i1, m => (mm_gr e.1 m 8 7 a0 3).bind fun c1 => (mm_ln e.1 c1).bind fun x2 => if x2 ≤ i1 then (some m) else ((mm_gr e.1 m 8 7 a0 3).bind fun c3 => (mm_sz e.1 m c3 i1 (0 : Int32)).bind fun m4 => X8_forget_L31 e a0 n (i1 + 1) m4)
theorem X8_forget_L31_ok {K : mm_K} {nx : Option Nat} {e : mm_E} (hz : e.2.1 = K.2.2.2.2) {d : Nat} (hd : 0 ≤ d) {a0 : Nat} (h0 : e.1 a0 = some (8, 7)) : ∀ (n : Nat) (i1 : Int32) (m : mm_V) (r : mm_V), X8_forget_L31 e a0 n i1 m = some r → mm_G K MX8_forget d (mm_Fv e.1 nx r) 31 [some (.ref a0), some (.int i1)] [] (e.1, m) nx 0 0 := by
  intro n
  induction n with
  | zero => intro i1 m r hr; unfold X8_forget_L31 at hr; cases hr
  | succ n ih =>
    intro i1 m r hr
    unfold X8_forget_L31 at hr
    refine ml_iload_n (pc := 31) dX8_forget_31 rfl (mm_get_s mm_get_0) ?_
    refine ml_aload_n (pc := 32) dX8_forget_32 rfl mm_get_0 ?_
    refine mb_gr (pc := 33) dX8_forget_33 fl_X8_22 hr (fun c1 hr => ?_)
    refine mb_ln (pc := 36) dX8_forget_36 hr (fun x2 hr => ?_)
    refine mb_icmp_ge (pc := 37) 53 dX8_forget_37 rfl hr (fun hr => ?_) (fun hr => ?_)
    · exact mb_vret dX8_forget_53 rfl hr
    · refine ml_aload_n (pc := 40) dX8_forget_40 rfl mm_get_0 ?_
      refine mb_gr (pc := 41) dX8_forget_41 fl_X8_22 hr (fun c3 hr => ?_)
      refine ml_iload_n (pc := 44) dX8_forget_44 rfl (mm_get_s mm_get_0) ?_
      refine mg_iconst (pc := 45) dX8_forget_45 kc_0 ?_
      refine mb_sz (pc := 46) dX8_forget_46 hr (fun m4 hr => ?_)
      refine ml_iinc (pc := 47) dX8_forget_47 (mm_get_s mm_get_0) (congrArg (fun z => i1 + z) kc_1) (Nat.le_of_ble_eq_true rfl) mm_st1_r ?_
      refine mg_goto (pc := 50) 31 dX8_forget_50 rfl ?_
      exact mg_weak (mm_le_s (mm_le_s mm_le_0)) (ih _ _ _ hr)
def X8_forget_L7 (e : mm_E) (a0 : Nat) : Nat → Int32 → mm_V → Option mm_V
  | 0, _, _ => none
  | n + 1, i1, m => (mm_gr e.1 m 8 7 a0 2).bind fun c1 => (mm_ln e.1 c1).bind fun x2 => if x2 ≤ i1 then (X8_forget_L31 e a0 e.2.2 (0 : Int32) m) else ((mm_gr e.1 m 8 7 a0 2).bind fun c3 => (mm_si e.1 m c3 i1 (0 : Int32)).bind fun m4 => X8_forget_L7 e a0 n (i1 + 1) m4)
theorem X8_forget_L7_ok {K : mm_K} {nx : Option Nat} {e : mm_E} (hz : e.2.1 = K.2.2.2.2) {d : Nat} (hd : 0 ≤ d) {a0 : Nat} (h0 : e.1 a0 = some (8, 7)) : ∀ (n : Nat) (i1 : Int32) (m : mm_V) (r : mm_V), X8_forget_L7 e a0 n i1 m = some r → mm_G K MX8_forget d (mm_Fv e.1 nx r) 7 [some (.ref a0), some (.int i1)] [] (e.1, m) nx 0 0 := by
  intro n
  induction n with
  | zero => intro i1 m r hr; unfold X8_forget_L7 at hr; cases hr
  | succ n ih =>
    intro i1 m r hr
    unfold X8_forget_L7 at hr
    refine ml_iload_n (pc := 7) dX8_forget_7 rfl (mm_get_s mm_get_0) ?_
    refine ml_aload_n (pc := 8) dX8_forget_8 rfl mm_get_0 ?_
    refine mb_gr (pc := 9) dX8_forget_9 fl_X8_18 hr (fun c1 hr => ?_)
    refine mb_ln (pc := 12) dX8_forget_12 hr (fun x2 hr => ?_)
    refine mb_icmp_ge (pc := 13) 29 dX8_forget_13 rfl hr (fun hr => ?_) (fun hr => ?_)
    · refine mg_iconst (pc := 29) dX8_forget_29 kc_0 ?_
      refine ml_istore_n (pc := 30) dX8_forget_30 rfl (Nat.le_of_ble_eq_true rfl) mm_st1_r ?_
      exact mg_weak (mm_le_s (mm_le_s mm_le_0)) (X8_forget_L31_ok hz hd h0 _ _ _ _ hr)
    · refine ml_aload_n (pc := 16) dX8_forget_16 rfl mm_get_0 ?_
      refine mb_gr (pc := 17) dX8_forget_17 fl_X8_18 hr (fun c3 hr => ?_)
      refine ml_iload_n (pc := 20) dX8_forget_20 rfl (mm_get_s mm_get_0) ?_
      refine mg_iconst (pc := 21) dX8_forget_21 kc_0 ?_
      refine mb_si (pc := 22) dX8_forget_22 hr (fun m4 hr => ?_)
      refine ml_iinc (pc := 23) dX8_forget_23 (mm_get_s mm_get_0) (congrArg (fun z => i1 + z) kc_1) (Nat.le_of_ble_eq_true rfl) mm_st1_r ?_
      refine mg_goto (pc := 26) 7 dX8_forget_26 rfl ?_
      exact mg_weak (mm_le_s (mm_le_s mm_le_0)) (ih _ _ _ hr)
def X8_forget (e : mm_E) (a0 : Nat) (m : mm_V) : Option mm_V := (mm_pz e.1 m 8 7 a0 5 (0 : Int32)).bind fun m1 => X8_forget_L7 e a0 e.2.2 (0 : Int32) m1
theorem X8_forget_ok {K : mm_K} {nx : Option Nat} {e : mm_E} (hz : e.2.1 = K.2.2.2.2) {d : Nat} (hd : 0 ≤ d) {a0 : Nat} (h0 : e.1 a0 = some (8, 7)) {m : mm_V} {r : mm_V} (hr : X8_forget e a0 m = some r) : mm_Cn K MX8_forget d (mm_Fv e.1 nx r) [.ref a0] (e.1, m) nx := by
  refine mm_entry (by decide) (Nat.le_of_ble_eq_true rfl) rfl (fun hok => ?_)
  unfold X8_forget at hr
  refine mg_weak (L' := [some (.ref a0), none]) (mm_le_s (mm_le_e mm_le_0)) ?_
  refine ml_aload_n (pc := 0) dX8_forget_0 rfl mm_get_0 ?_
  refine mg_iconst (pc := 1) dX8_forget_1 kc_0 ?_
  refine mb_pz (pc := 2) dX8_forget_2 fp_X8_83 hr (fun m1 hr => ?_)
  refine mg_iconst (pc := 5) dX8_forget_5 kc_0 ?_
  refine ml_istore_n (pc := 6) dX8_forget_6 rfl (Nat.le_of_ble_eq_true rfl) mm_st1_r ?_
  exact mg_weak (mm_le_s (mm_le_s mm_le_0)) (X8_forget_L7_ok hz hd h0 _ _ _ _ hr)
theorem dX9_open_0 : decode cX9_open 0 = .ok (.aload_n 0, 1) := by decide +kernel
theorem dX9_open_1 : decode cX9_open 1 = .ok (.aload_n 1, 1) := by decide +kernel
theorem dX9_open_2 : decode cX9_open 2 = .ok (.putfield 9, 3) := by decide +kernel
theorem dX9_open_5 : decode cX9_open 5 = .ok (.aload_n 0, 1) := by decide +kernel
theorem dX9_open_6 : decode cX9_open 6 = .ok (.iload_n 2, 1) := by decide +kernel
theorem dX9_open_7 : decode cX9_open 7 = .ok (.aload_n 1, 1) := by decide +kernel
theorem dX9_open_8 : decode cX9_open 8 = .ok (.arraylength, 1) := by decide +kernel
theorem dX9_open_9 : decode cX9_open 9 = .ok (.invokestatic 19, 3) := by decide +kernel
theorem dX9_open_12 : decode cX9_open 12 = .ok (.putfield 25, 3) := by decide +kernel
theorem dX9_open_15 : decode cX9_open 15 = .ok (.aload_n 0, 1) := by decide +kernel
theorem dX9_open_16 : decode cX9_open 16 = .ok (.iconst 0, 1) := by decide +kernel
theorem dX9_open_17 : decode cX9_open 17 = .ok (.putfield 28, 3) := by decide +kernel
theorem dX9_open_20 : decode cX9_open 20 = .ok (.aload_n 0, 1) := by decide +kernel
theorem dX9_open_21 : decode cX9_open 21 = .ok (.invokevirtual 31, 3) := by decide +kernel
theorem dX9_open_24 : decode cX9_open 24 = .ok (.return_, 1) := by decide +kernel
def X9_open (e : mm_E) (a0 : Nat) (a1 : Nat) (i2 : Int32) (m : mm_V) : Option mm_V := (mm_pf e.1 m 9 6 a0 0 (.ref a1)).bind fun m1 => (mm_ln e.1 a1).bind fun x2 => (J9_min_7cf53 e i2 x2 m1).bind fun r3 => (mm_pf e.1 r3.2 9 6 a0 1 (.int r3.1)).bind fun m4 => (mm_pf e.1 m4 9 6 a0 3 (.int (0 : Int32))).bind fun m5 => (X9_next e a0 m5).bind fun r6 => some r6
theorem X9_open_ok {K : mm_K} {nx : Option Nat} {e : mm_E} (hz : e.2.1 = K.2.2.2.2) {d : Nat} (hd : 3 ≤ d) {a0 : Nat} {a1 : Nat} {i2 : Int32} (h0 : e.1 a0 = some (9, 6)) {m : mm_V} {r : mm_V} (hr : X9_open e a0 a1 i2 m = some r) : mm_Cn K MX9_open d (mm_Fv e.1 nx r) [.ref a0, .ref a1, .int i2] (e.1, m) nx := by
  obtain ⟨d, rfl⟩ : ∃ d', d = d' + 1 := ⟨d - 1, by omega⟩
  refine mm_entry (by decide) (Nat.le_of_ble_eq_true rfl) rfl (fun hok => ?_)
  unfold X9_open at hr
  refine mg_weak (L' := [some (.ref a0), some (.ref a1), some (.int i2)]) (mm_le_s (mm_le_s (mm_le_s mm_le_0))) ?_
  refine ml_aload_n (pc := 0) dX9_open_0 rfl mm_get_0 ?_
  refine ml_aload_n (pc := 1) dX9_open_1 rfl (mm_get_s mm_get_0) ?_
  refine mb_pq (pc := 2) dX9_open_2 fp_X9_9 hr (fun m1 hr => ?_)
  refine ml_aload_n (pc := 5) dX9_open_5 rfl mm_get_0 ?_
  refine ml_iload_n (pc := 6) dX9_open_6 rfl (mm_get_s (mm_get_s mm_get_0)) ?_
  refine ml_aload_n (pc := 7) dX9_open_7 rfl (mm_get_s mm_get_0) ?_
  refine mb_ln (pc := 8) dX9_open_8 hr (fun x2 hr => ?_)
  refine mb_cSi (pc := 9) (As := [.int i2, .int x2]) (rest := [.ref a0]) dX9_open_9 cw_X9_19  hr (fun v hv => J9_min_7cf53_ok hz (by omega)  hv) rfl (Nat.le_of_ble_eq_true rfl) (Nat.zero_le _) (Nat.zero_le _) (fun r3 hr => ?_)
  refine mb_pi (pc := 12) dX9_open_12 fp_X9_25 hr (fun m4 hr => ?_)
  refine ml_aload_n (pc := 15) dX9_open_15 rfl mm_get_0 ?_
  refine mg_iconst (pc := 16) dX9_open_16 kc_0 ?_
  refine mb_pi (pc := 17) dX9_open_17 fp_X9_28 hr (fun m5 hr => ?_)
  refine ml_aload_n (pc := 20) dX9_open_20 rfl mm_get_0 ?_
  refine mb_cVv (pc := 21) (As := []) (rest := []) dX9_open_21 cw_X9_31 h0 hr (fun v hv => X9_next_ok hz (by omega) h0 hv) rfl (Nat.le_of_ble_eq_true rfl) (Nat.zero_le _) (Nat.zero_le _) (fun r6 hr => ?_)
  exact mb_vret dX9_open_24 rfl hr
theorem dX8_lineKind_0 : decode cX8_lineKind 0 = .ok (.aload_n 0, 1) := by decide +kernel
theorem dX8_lineKind_1 : decode cX8_lineKind 1 = .ok (.getfield 12, 3) := by decide +kernel
theorem dX8_lineKind_4 : decode cX8_lineKind 4 = .ok (.ldc 86, 2) := by decide +kernel
theorem dX8_lineKind_6 : decode cX8_lineKind 6 = .ok (.invokevirtual 88, 3) := by decide +kernel
theorem dX8_lineKind_9 : decode cX8_lineKind 9 = .ok (.ifCond .eq 5, 3) := by decide +kernel
theorem dX8_lineKind_12 : decode cX8_lineKind 12 = .ok (.iconst 0, 1) := by decide +kernel
theorem dX8_lineKind_13 : decode cX8_lineKind 13 = .ok (.ireturn, 1) := by decide +kernel
theorem dX8_lineKind_14 : decode cX8_lineKind 14 = .ok (.aload_n 0, 1) := by decide +kernel
theorem dX8_lineKind_15 : decode cX8_lineKind 15 = .ok (.getfield 12, 3) := by decide +kernel
theorem dX8_lineKind_18 : decode cX8_lineKind 18 = .ok (.ldc 92, 2) := by decide +kernel
theorem dX8_lineKind_20 : decode cX8_lineKind 20 = .ok (.invokevirtual 88, 3) := by decide +kernel
theorem dX8_lineKind_23 : decode cX8_lineKind 23 = .ok (.ifCond .eq 5, 3) := by decide +kernel
theorem dX8_lineKind_26 : decode cX8_lineKind 26 = .ok (.iconst 1, 1) := by decide +kernel
theorem dX8_lineKind_27 : decode cX8_lineKind 27 = .ok (.ireturn, 1) := by decide +kernel
theorem dX8_lineKind_28 : decode cX8_lineKind 28 = .ok (.aload_n 0, 1) := by decide +kernel
theorem dX8_lineKind_29 : decode cX8_lineKind 29 = .ok (.getfield 12, 3) := by decide +kernel
theorem dX8_lineKind_32 : decode cX8_lineKind 32 = .ok (.ldc 94, 2) := by decide +kernel
theorem dX8_lineKind_34 : decode cX8_lineKind 34 = .ok (.invokevirtual 88, 3) := by decide +kernel
theorem dX8_lineKind_37 : decode cX8_lineKind 37 = .ok (.ifCond .eq 5, 3) := by decide +kernel
theorem dX8_lineKind_40 : decode cX8_lineKind 40 = .ok (.iconst 2, 1) := by decide +kernel
theorem dX8_lineKind_41 : decode cX8_lineKind 41 = .ok (.ireturn, 1) := by decide +kernel
theorem dX8_lineKind_42 : decode cX8_lineKind 42 = .ok (.aload_n 0, 1) := by decide +kernel
theorem dX8_lineKind_43 : decode cX8_lineKind 43 = .ok (.getfield 12, 3) := by decide +kernel
theorem dX8_lineKind_46 : decode cX8_lineKind 46 = .ok (.ldc 96, 2) := by decide +kernel
theorem dX8_lineKind_48 : decode cX8_lineKind 48 = .ok (.invokevirtual 88, 3) := by decide +kernel
theorem dX8_lineKind_51 : decode cX8_lineKind 51 = .ok (.ifCond .eq 5, 3) := by decide +kernel
theorem dX8_lineKind_54 : decode cX8_lineKind 54 = .ok (.iconst 3, 1) := by decide +kernel
theorem dX8_lineKind_55 : decode cX8_lineKind 55 = .ok (.ireturn, 1) := by decide +kernel
theorem dX8_lineKind_56 : decode cX8_lineKind 56 = .ok (.aload_n 0, 1) := by decide +kernel
theorem dX8_lineKind_57 : decode cX8_lineKind 57 = .ok (.getfield 12, 3) := by decide +kernel
theorem dX8_lineKind_60 : decode cX8_lineKind 60 = .ok (.ldc 98, 2) := by decide +kernel
theorem dX8_lineKind_62 : decode cX8_lineKind 62 = .ok (.invokevirtual 88, 3) := by decide +kernel
theorem dX8_lineKind_65 : decode cX8_lineKind 65 = .ok (.ifCond .eq 5, 3) := by decide +kernel
theorem dX8_lineKind_68 : decode cX8_lineKind 68 = .ok (.iconst 4, 1) := by decide +kernel
theorem dX8_lineKind_69 : decode cX8_lineKind 69 = .ok (.ireturn, 1) := by decide +kernel
theorem dX8_lineKind_70 : decode cX8_lineKind 70 = .ok (.aload_n 0, 1) := by decide +kernel
theorem dX8_lineKind_71 : decode cX8_lineKind 71 = .ok (.getfield 12, 3) := by decide +kernel
theorem dX8_lineKind_74 : decode cX8_lineKind 74 = .ok (.ldc 100, 2) := by decide +kernel
theorem dX8_lineKind_76 : decode cX8_lineKind 76 = .ok (.invokevirtual 88, 3) := by decide +kernel
theorem dX8_lineKind_79 : decode cX8_lineKind 79 = .ok (.ifCond .eq 5, 3) := by decide +kernel
theorem dX8_lineKind_82 : decode cX8_lineKind 82 = .ok (.iconst 5, 1) := by decide +kernel
theorem dX8_lineKind_83 : decode cX8_lineKind 83 = .ok (.ireturn, 1) := by decide +kernel
theorem dX8_lineKind_84 : decode cX8_lineKind 84 = .ok (.aload_n 0, 1) := by decide +kernel
theorem dX8_lineKind_85 : decode cX8_lineKind 85 = .ok (.getfield 12, 3) := by decide +kernel
theorem dX8_lineKind_88 : decode cX8_lineKind 88 = .ok (.ldc 102, 2) := by decide +kernel
theorem dX8_lineKind_90 : decode cX8_lineKind 90 = .ok (.invokevirtual 88, 3) := by decide +kernel
theorem dX8_lineKind_93 : decode cX8_lineKind 93 = .ok (.ifCond .eq 8, 3) := by decide +kernel
theorem dX8_lineKind_96 : decode cX8_lineKind 96 = .ok (.bipush 6, 2) := by decide +kernel
theorem dX8_lineKind_98 : decode cX8_lineKind 98 = .ok (.goto 4, 3) := by decide +kernel
theorem dX8_lineKind_101 : decode cX8_lineKind 101 = .ok (.iconst (-1), 1) := by decide +kernel
theorem dX8_lineKind_102 : decode cX8_lineKind 102 = .ok (.ireturn, 1) := by decide +kernel
def X8_lineKind_b102 (e : mm_E) (t0 : Int32) (m : mm_V) : Option (Int32 × mm_V) := some (t0, m)
theorem X8_lineKind_b102_ok {K : mm_K} {nx : Option Nat} {e : mm_E} (hz : e.2.1 = K.2.2.2.2) {d : Nat} (hd : 10 ≤ d) {t0 : Int32} {a0 : Nat} (h0 : e.1 a0 = some (8, 7)) {m : mm_V} {r : (Int32 × mm_V)} (hr : X8_lineKind_b102 e t0 m = some r) : mm_G K MX8_lineKind d (mm_Fi e.1 nx r) 102 [none] [.int t0] (e.1, m) nx 0 0 := by
  obtain ⟨d, rfl⟩ : ∃ d', d = d' + 1 := ⟨d - 1, by omega⟩
  unfold X8_lineKind_b102 at hr
  exact mb_iret dX8_lineKind_102 rfl hr
def X8_lineKind (e : mm_E) (a0 : Nat) (m : mm_V) : Option (Int32 × mm_V) := (mm_gr e.1 m 8 7 a0 0).bind fun c1 => if e.1 c1 = some (9, 6) then ((X9_isWord e c1 (e.2.1 100) m).bind fun r2 => if r2.1 = 0 then ((mm_gr e.1 r2.2 8 7 a0 0).bind fun c4 => if e.1 c4 = some (9, 6) then ((X9_isWord e c4 (e.2.1 101) r2.2).bind fun r5 => if r5.1 = 0 then ((mm_gr e.1 r5.2 8 7 a0 0).bind fun c7 => if e.1 c7 = some (9, 6) then ((X9_isWord e c7 (e.2.1 102) r5.2).bind fun r8 => if r8.1 = 0 then ((mm_gr e.1 r8.2 8 7 a0 0).bind fun c10 => if e.1 c10 = some (9, 6) then ((X9_isWord e c10 (e.2.1 103) r8.2).bind fun r11 => if r11.1 = 0 then ((mm_gr e.1 r11.2 8 7 a0 0).bind fun c13 => if e.1 c13 = some (9, 6) then ((X9_isWord e c13 (e.2.1 104) r11.2).bind fun r14 => if r14.1 = 0 then ((mm_gr e.1 r14.2 8 7 a0 0).bind fun c16 => if e.1 c16 = some (9, 6) then ((X9_isWord e c16 (e.2.1 105) r14.2).bind fun r17 => if r17.1 = 0 then ((mm_gr e.1 r17.2 8 7 a0 0).bind fun c19 => if e.1 c19 = some (9, 6) then ((X9_isWord e c19 (e.2.1 106) r17.2).bind fun r20 => if r20.1 = 0 then (X8_lineKind_b102 e  (-1 : Int32) r20.2) else (X8_lineKind_b102 e  (6 : Int32) r20.2)) else none) else (some ((5 : Int32), r17.2))) else none) else (some ((4 : Int32), r14.2))) else none) else (some ((3 : Int32), r11.2))) else none) else (some ((2 : Int32), r8.2))) else none) else (some ((1 : Int32), r5.2))) else none) else (some ((0 : Int32), r2.2))) else none
theorem X8_lineKind_ok {K : mm_K} {nx : Option Nat} {e : mm_E} (hz : e.2.1 = K.2.2.2.2) {d : Nat} (hd : 10 ≤ d) {a0 : Nat} (h0 : e.1 a0 = some (8, 7)) {m : mm_V} {r : (Int32 × mm_V)} (hr : X8_lineKind e a0 m = some r) : mm_Cn K MX8_lineKind d (mm_Fi e.1 nx r) [.ref a0] (e.1, m) nx := by
  obtain ⟨d, rfl⟩ : ∃ d', d = d' + 1 := ⟨d - 1, by omega⟩
  refine mm_entry (by decide) (Nat.le_of_ble_eq_true rfl) rfl (fun hok => ?_)
  unfold X8_lineKind at hr
  refine mg_weak (L' := [some (.ref a0)]) (mm_le_s mm_le_0) ?_
  refine ml_aload_n (pc := 0) dX8_lineKind_0 rfl mm_get_0 ?_
  refine mb_gr (pc := 1) dX8_lineKind_1 fl_X8_12 hr (fun c1 hr => ?_)
  refine mg_ldcS (pc := 4) (z := e.2.1) (i := 0) (j := 100) hz rfl dX8_lineKind_4 (by decide) rfl ?_
  refine mb_ck hr (fun hb3 hr => ?_)
  refine mb_cVi (pc := 6) (As := [.ref (e.2.1 100)]) (rest := []) dX8_lineKind_6 cw_X8_88 hb3 hr (fun v hv => X9_isWord_ok hz (by omega) hb3 hv) rfl (Nat.le_of_ble_eq_true rfl) (Nat.zero_le _) (Nat.zero_le _) (fun r2 hr => ?_)
  refine mb_if_eq (pc := 9) 14 dX8_lineKind_9 rfl hr (fun hr => ?_) (fun hr => ?_)
  · refine ml_aload_n (pc := 14) dX8_lineKind_14 rfl mm_get_0 ?_
    refine mb_gr (pc := 15) dX8_lineKind_15 fl_X8_12 hr (fun c4 hr => ?_)
    refine mg_ldcS (pc := 18) (z := e.2.1) (i := 1) (j := 101) hz rfl dX8_lineKind_18 (by decide) rfl ?_
    refine mb_ck hr (fun hb6 hr => ?_)
    refine mb_cVi (pc := 20) (As := [.ref (e.2.1 101)]) (rest := []) dX8_lineKind_20 cw_X8_88 hb6 hr (fun v hv => X9_isWord_ok hz (by omega) hb6 hv) rfl (Nat.le_of_ble_eq_true rfl) (Nat.zero_le _) (Nat.zero_le _) (fun r5 hr => ?_)
    refine mb_if_eq (pc := 23) 28 dX8_lineKind_23 rfl hr (fun hr => ?_) (fun hr => ?_)
    · refine ml_aload_n (pc := 28) dX8_lineKind_28 rfl mm_get_0 ?_
      refine mb_gr (pc := 29) dX8_lineKind_29 fl_X8_12 hr (fun c7 hr => ?_)
      refine mg_ldcS (pc := 32) (z := e.2.1) (i := 2) (j := 102) hz rfl dX8_lineKind_32 (by decide) rfl ?_
      refine mb_ck hr (fun hb9 hr => ?_)
      refine mb_cVi (pc := 34) (As := [.ref (e.2.1 102)]) (rest := []) dX8_lineKind_34 cw_X8_88 hb9 hr (fun v hv => X9_isWord_ok hz (by omega) hb9 hv) rfl (Nat.le_of_ble_eq_true rfl) (Nat.zero_le _) (Nat.zero_le _) (fun r8 hr => ?_)
      refine mb_if_eq (pc := 37) 42 dX8_lineKind_37 rfl hr (fun hr => ?_) (fun hr => ?_)
      · refine ml_aload_n (pc := 42) dX8_lineKind_42 rfl mm_get_0 ?_
        refine mb_gr (pc := 43) dX8_lineKind_43 fl_X8_12 hr (fun c10 hr => ?_)
        refine mg_ldcS (pc := 46) (z := e.2.1) (i := 3) (j := 103) hz rfl dX8_lineKind_46 (by decide) rfl ?_
        refine mb_ck hr (fun hb12 hr => ?_)
        refine mb_cVi (pc := 48) (As := [.ref (e.2.1 103)]) (rest := []) dX8_lineKind_48 cw_X8_88 hb12 hr (fun v hv => X9_isWord_ok hz (by omega) hb12 hv) rfl (Nat.le_of_ble_eq_true rfl) (Nat.zero_le _) (Nat.zero_le _) (fun r11 hr => ?_)
        refine mb_if_eq (pc := 51) 56 dX8_lineKind_51 rfl hr (fun hr => ?_) (fun hr => ?_)
        · refine ml_aload_n (pc := 56) dX8_lineKind_56 rfl mm_get_0 ?_
          refine mb_gr (pc := 57) dX8_lineKind_57 fl_X8_12 hr (fun c13 hr => ?_)
          refine mg_ldcS (pc := 60) (z := e.2.1) (i := 4) (j := 104) hz rfl dX8_lineKind_60 (by decide) rfl ?_
          refine mb_ck hr (fun hb15 hr => ?_)
          refine mb_cVi (pc := 62) (As := [.ref (e.2.1 104)]) (rest := []) dX8_lineKind_62 cw_X8_88 hb15 hr (fun v hv => X9_isWord_ok hz (by omega) hb15 hv) rfl (Nat.le_of_ble_eq_true rfl) (Nat.zero_le _) (Nat.zero_le _) (fun r14 hr => ?_)
          refine mb_if_eq (pc := 65) 70 dX8_lineKind_65 rfl hr (fun hr => ?_) (fun hr => ?_)
          · refine ml_aload_n (pc := 70) dX8_lineKind_70 rfl mm_get_0 ?_
            refine mb_gr (pc := 71) dX8_lineKind_71 fl_X8_12 hr (fun c16 hr => ?_)
            refine mg_ldcS (pc := 74) (z := e.2.1) (i := 5) (j := 105) hz rfl dX8_lineKind_74 (by decide) rfl ?_
            refine mb_ck hr (fun hb18 hr => ?_)
            refine mb_cVi (pc := 76) (As := [.ref (e.2.1 105)]) (rest := []) dX8_lineKind_76 cw_X8_88 hb18 hr (fun v hv => X9_isWord_ok hz (by omega) hb18 hv) rfl (Nat.le_of_ble_eq_true rfl) (Nat.zero_le _) (Nat.zero_le _) (fun r17 hr => ?_)
            refine mb_if_eq (pc := 79) 84 dX8_lineKind_79 rfl hr (fun hr => ?_) (fun hr => ?_)
            · refine ml_aload_n (pc := 84) dX8_lineKind_84 rfl mm_get_0 ?_
              refine mb_gr (pc := 85) dX8_lineKind_85 fl_X8_12 hr (fun c19 hr => ?_)
              refine mg_ldcS (pc := 88) (z := e.2.1) (i := 6) (j := 106) hz rfl dX8_lineKind_88 (by decide) rfl ?_
              refine mb_ck hr (fun hb21 hr => ?_)
              refine mb_cVi (pc := 90) (As := [.ref (e.2.1 106)]) (rest := []) dX8_lineKind_90 cw_X8_88 hb21 hr (fun v hv => X9_isWord_ok hz (by omega) hb21 hv) rfl (Nat.le_of_ble_eq_true rfl) (Nat.zero_le _) (Nat.zero_le _) (fun r20 hr => ?_)
              refine mb_if_eq (pc := 93) 101 dX8_lineKind_93 rfl hr (fun hr => ?_) (fun hr => ?_)
              · refine mg_iconst (pc := 101) dX8_lineKind_101 kc_m1 ?_
                exact mg_weak (mm_le_n mm_le_0) (X8_lineKind_b102_ok hz hd h0 hr)
              · refine mg_bipush (pc := 96) dX8_lineKind_96 kb_6 ?_
                refine mg_goto (pc := 98) 102 dX8_lineKind_98 rfl ?_
                exact mg_weak (mm_le_n mm_le_0) (X8_lineKind_b102_ok hz hd h0 hr)
            · refine mg_iconst (pc := 82) dX8_lineKind_82 kc_5 ?_
              exact mb_iret dX8_lineKind_83 rfl hr
          · refine mg_iconst (pc := 68) dX8_lineKind_68 kc_4 ?_
            exact mb_iret dX8_lineKind_69 rfl hr
        · refine mg_iconst (pc := 54) dX8_lineKind_54 kc_3 ?_
          exact mb_iret dX8_lineKind_55 rfl hr
      · refine mg_iconst (pc := 40) dX8_lineKind_40 kc_2 ?_
        exact mb_iret dX8_lineKind_41 rfl hr
    · refine mg_iconst (pc := 26) dX8_lineKind_26 kc_1 ?_
      exact mb_iret dX8_lineKind_27 rfl hr
  · refine mg_iconst (pc := 12) dX8_lineKind_12 kc_0 ?_
    exact mb_iret dX8_lineKind_13 rfl hr
theorem dX8_isTold_0 : decode cX8_isTold 0 = .ok (.iload_n 1, 1) := by decide +kernel
theorem dX8_isTold_1 : decode cX8_isTold 1 = .ok (.bipush 6, 2) := by decide +kernel
theorem dX8_isTold_3 : decode cX8_isTold 3 = .ok (.imul, 1) := by decide +kernel
theorem dX8_isTold_4 : decode cX8_isTold 4 = .ok (.iload_n 2, 1) := by decide +kernel
theorem dX8_isTold_5 : decode cX8_isTold 5 = .ok (.iadd, 1) := by decide +kernel
theorem dX8_isTold_6 : decode cX8_isTold 6 = .ok (.istore_n 3, 1) := by decide +kernel
theorem dX8_isTold_7 : decode cX8_isTold 7 = .ok (.iload_n 3, 1) := by decide +kernel
theorem dX8_isTold_8 : decode cX8_isTold 8 = .ok (.ifCond .lt 21, 3) := by decide +kernel
theorem dX8_isTold_11 : decode cX8_isTold 11 = .ok (.iload_n 3, 1) := by decide +kernel
theorem dX8_isTold_12 : decode cX8_isTold 12 = .ok (.aload_n 0, 1) := by decide +kernel
theorem dX8_isTold_13 : decode cX8_isTold 13 = .ok (.getfield 22, 3) := by decide +kernel
theorem dX8_isTold_16 : decode cX8_isTold 16 = .ok (.arraylength, 1) := by decide +kernel
theorem dX8_isTold_17 : decode cX8_isTold 17 = .ok (.if_icmp .ge 12, 3) := by decide +kernel
theorem dX8_isTold_20 : decode cX8_isTold 20 = .ok (.aload_n 0, 1) := by decide +kernel
theorem dX8_isTold_21 : decode cX8_isTold 21 = .ok (.getfield 22, 3) := by decide +kernel
theorem dX8_isTold_24 : decode cX8_isTold 24 = .ok (.iload_n 3, 1) := by decide +kernel
theorem dX8_isTold_25 : decode cX8_isTold 25 = .ok (.baload, 1) := by decide +kernel
theorem dX8_isTold_26 : decode cX8_isTold 26 = .ok (.ifCond .eq 5, 3) := by decide +kernel
theorem dX8_isTold_29 : decode cX8_isTold 29 = .ok (.iconst 1, 1) := by decide +kernel
theorem dX8_isTold_30 : decode cX8_isTold 30 = .ok (.ireturn, 1) := by decide +kernel
theorem dX8_isTold_31 : decode cX8_isTold 31 = .ok (.aload_n 0, 1) := by decide +kernel
theorem dX8_isTold_32 : decode cX8_isTold 32 = .ok (.getfield 22, 3) := by decide +kernel
theorem dX8_isTold_35 : decode cX8_isTold 35 = .ok (.iload_n 3, 1) := by decide +kernel
theorem dX8_isTold_36 : decode cX8_isTold 36 = .ok (.iconst 1, 1) := by decide +kernel
theorem dX8_isTold_37 : decode cX8_isTold 37 = .ok (.bastore, 1) := by decide +kernel
theorem dX8_isTold_38 : decode cX8_isTold 38 = .ok (.iconst 0, 1) := by decide +kernel
theorem dX8_isTold_39 : decode cX8_isTold 39 = .ok (.ireturn, 1) := by decide +kernel
def X8_isTold_b29 (e : mm_E) (m : mm_V) : Option (Int32 × mm_V) := mm_rz (1 : Int32) m
theorem X8_isTold_b29_ok {K : mm_K} {nx : Option Nat} {e : mm_E} (hz : e.2.1 = K.2.2.2.2) {d : Nat} (hd : 0 ≤ d) {a0 : Nat} (h0 : e.1 a0 = some (8, 7)) {m : mm_V} {r : (Int32 × mm_V)} (hr : X8_isTold_b29 e m = some r) : mm_G K MX8_isTold d (mm_Fi e.1 nx r) 29 [none, none, none, none] [] (e.1, m) nx 0 0 := by
  unfold X8_isTold_b29 at hr
  refine mg_iconst (pc := 29) dX8_isTold_29 kc_1 ?_
  exact mb_zret dX8_isTold_30 rfl hr
def X8_isTold (e : mm_E) (a0 : Nat) (i1 : Int32) (i2 : Int32) (m : mm_V) : Option (Int32 × mm_V) := if ((i1 * (6 : Int32)) + i2) < 0 then (X8_isTold_b29 e   m) else ((mm_gr e.1 m 8 7 a0 3).bind fun c1 => (mm_ln e.1 c1).bind fun x2 => if x2 ≤ ((i1 * (6 : Int32)) + i2) then (X8_isTold_b29 e   m) else ((mm_gr e.1 m 8 7 a0 3).bind fun c3 => (mm_ai e.1 m 22 c3 ((i1 * (6 : Int32)) + i2)).bind fun x4 => if x4 = 0 then ((mm_gr e.1 m 8 7 a0 3).bind fun c5 => (mm_sz e.1 m c5 ((i1 * (6 : Int32)) + i2) (1 : Int32)).bind fun m6 => mm_rz (0 : Int32) m6) else (X8_isTold_b29 e   m)))
theorem X8_isTold_ok {K : mm_K} {nx : Option Nat} {e : mm_E} (hz : e.2.1 = K.2.2.2.2) {d : Nat} (hd : 0 ≤ d) {a0 : Nat} {i1 : Int32} {i2 : Int32} (h0 : e.1 a0 = some (8, 7)) {m : mm_V} {r : (Int32 × mm_V)} (hr : X8_isTold e a0 i1 i2 m = some r) : mm_Cn K MX8_isTold d (mm_Fi e.1 nx r) [.ref a0, .int i1, .int i2] (e.1, m) nx := by
  refine mm_entry (by decide) (Nat.le_of_ble_eq_true rfl) rfl (fun hok => ?_)
  unfold X8_isTold at hr
  refine mg_weak (L' := [some (.ref a0), some (.int i1), some (.int i2), none]) (mm_le_s (mm_le_s (mm_le_s (mm_le_e mm_le_0)))) ?_
  refine ml_iload_n (pc := 0) dX8_isTold_0 rfl (mm_get_s mm_get_0) ?_
  refine mg_bipush (pc := 1) dX8_isTold_1 kb_6 ?_
  refine mg_imul (pc := 3) dX8_isTold_3 ?_
  refine ml_iload_n (pc := 4) dX8_isTold_4 rfl (mm_get_s (mm_get_s mm_get_0)) ?_
  refine mg_iadd (pc := 5) dX8_isTold_5 ?_
  refine ml_istore_n (pc := 6) dX8_isTold_6 rfl (Nat.le_of_ble_eq_true rfl) (mm_st1_s (mm_st1_s mm_st1_i)) ?_
  refine ml_iload_n (pc := 7) dX8_isTold_7 rfl (mm_get_s (mm_get_s (mm_get_s mm_get_0))) ?_
  refine mb_if_lt (pc := 8) 29 dX8_isTold_8 rfl hr (fun hr => ?_) (fun hr => ?_)
  · exact mg_weak (mm_le_n (mm_le_n (mm_le_n (mm_le_n mm_le_0)))) (X8_isTold_b29_ok hz hd h0 hr)
  · refine ml_iload_n (pc := 11) dX8_isTold_11 rfl (mm_get_s (mm_get_s (mm_get_s mm_get_0))) ?_
    refine ml_aload_n (pc := 12) dX8_isTold_12 rfl mm_get_0 ?_
    refine mb_gr (pc := 13) dX8_isTold_13 fl_X8_22 hr (fun c1 hr => ?_)
    refine mb_ln (pc := 16) dX8_isTold_16 hr (fun x2 hr => ?_)
    refine mb_icmp_ge (pc := 17) 29 dX8_isTold_17 rfl hr (fun hr => ?_) (fun hr => ?_)
    · exact mg_weak (mm_le_n (mm_le_n (mm_le_n (mm_le_n mm_le_0)))) (X8_isTold_b29_ok hz hd h0 hr)
    · refine ml_aload_n (pc := 20) dX8_isTold_20 rfl mm_get_0 ?_
      refine mb_gr (pc := 21) dX8_isTold_21 fl_X8_22 hr (fun c3 hr => ?_)
      refine ml_iload_n (pc := 24) dX8_isTold_24 rfl (mm_get_s (mm_get_s (mm_get_s mm_get_0))) ?_
      refine mb_az (pc := 25) dX8_isTold_25 hr (fun x4 hr => ?_)
      refine mb_if_eq (pc := 26) 31 dX8_isTold_26 rfl hr (fun hr => ?_) (fun hr => ?_)
      · refine ml_aload_n (pc := 31) dX8_isTold_31 rfl mm_get_0 ?_
        refine mb_gr (pc := 32) dX8_isTold_32 fl_X8_22 hr (fun c5 hr => ?_)
        refine ml_iload_n (pc := 35) dX8_isTold_35 rfl (mm_get_s (mm_get_s (mm_get_s mm_get_0))) ?_
        refine mg_iconst (pc := 36) dX8_isTold_36 kc_1 ?_
        refine mb_sz (pc := 37) dX8_isTold_37 hr (fun m6 hr => ?_)
        refine mg_iconst (pc := 38) dX8_isTold_38 kc_0 ?_
        exact mb_zret dX8_isTold_39 rfl hr
      · exact mg_weak (mm_le_n (mm_le_n (mm_le_n (mm_le_n mm_le_0)))) (X8_isTold_b29_ok hz hd h0 hr)
theorem dX8_numberFault_0 : decode cX8_numberFault 0 = .ok (.aload_n 0, 1) := by decide +kernel
theorem dX8_numberFault_1 : decode cX8_numberFault 1 = .ok (.getfield 12, 3) := by decide +kernel
theorem dX8_numberFault_4 : decode cX8_numberFault 4 = .ok (.getfield 51, 3) := by decide +kernel
theorem dX8_numberFault_7 : decode cX8_numberFault 7 = .ok (.bipush 48, 2) := by decide +kernel
theorem dX8_numberFault_9 : decode cX8_numberFault 9 = .ok (.if_icmp .eq 5, 3) := by decide +kernel
theorem dX8_numberFault_12 : decode cX8_numberFault 12 = .ok (.iconst 1, 1) := by decide +kernel
theorem dX8_numberFault_13 : decode cX8_numberFault 13 = .ok (.ireturn, 1) := by decide +kernel
theorem dX8_numberFault_14 : decode cX8_numberFault 14 = .ok (.aload_n 0, 1) := by decide +kernel
theorem dX8_numberFault_15 : decode cX8_numberFault 15 = .ok (.getfield 12, 3) := by decide +kernel
theorem dX8_numberFault_18 : decode cX8_numberFault 18 = .ok (.invokevirtual 159, 3) := by decide +kernel
theorem dX8_numberFault_21 : decode cX8_numberFault 21 = .ok (.ifCond .ne 29, 3) := by decide +kernel
theorem dX8_numberFault_24 : decode cX8_numberFault 24 = .ok (.aload_n 0, 1) := by decide +kernel
theorem dX8_numberFault_25 : decode cX8_numberFault 25 = .ok (.getfield 12, 3) := by decide +kernel
theorem dX8_numberFault_28 : decode cX8_numberFault 28 = .ok (.getfield 112, 3) := by decide +kernel
theorem dX8_numberFault_31 : decode cX8_numberFault 31 = .ok (.iload_n 1, 1) := by decide +kernel
theorem dX8_numberFault_32 : decode cX8_numberFault 32 = .ok (.if_icmp .lt 18, 3) := by decide +kernel
theorem dX8_numberFault_35 : decode cX8_numberFault 35 = .ok (.aload_n 0, 1) := by decide +kernel
theorem dX8_numberFault_36 : decode cX8_numberFault 36 = .ok (.getfield 12, 3) := by decide +kernel
theorem dX8_numberFault_39 : decode cX8_numberFault 39 = .ok (.getfield 112, 3) := by decide +kernel
theorem dX8_numberFault_42 : decode cX8_numberFault 42 = .ok (.iload_n 2, 1) := by decide +kernel
theorem dX8_numberFault_43 : decode cX8_numberFault 43 = .ok (.if_icmp .gt 7, 3) := by decide +kernel
theorem dX8_numberFault_46 : decode cX8_numberFault 46 = .ok (.iconst 1, 1) := by decide +kernel
theorem dX8_numberFault_47 : decode cX8_numberFault 47 = .ok (.goto 4, 3) := by decide +kernel
theorem dX8_numberFault_50 : decode cX8_numberFault 50 = .ok (.iconst 0, 1) := by decide +kernel
theorem dX8_numberFault_51 : decode cX8_numberFault 51 = .ok (.istore_n 3, 1) := by decide +kernel
theorem dX8_numberFault_52 : decode cX8_numberFault 52 = .ok (.iload_n 3, 1) := by decide +kernel
theorem dX8_numberFault_53 : decode cX8_numberFault 53 = .ok (.ifCond .eq 7, 3) := by decide +kernel
theorem dX8_numberFault_56 : decode cX8_numberFault 56 = .ok (.iconst 0, 1) := by decide +kernel
theorem dX8_numberFault_57 : decode cX8_numberFault 57 = .ok (.goto 4, 3) := by decide +kernel
theorem dX8_numberFault_60 : decode cX8_numberFault 60 = .ok (.iconst 2, 1) := by decide +kernel
theorem dX8_numberFault_61 : decode cX8_numberFault 61 = .ok (.ireturn, 1) := by decide +kernel
def X8_numberFault_b61 (e : mm_E) (t0 : Int32) (m : mm_V) : Option (Int32 × mm_V) := some (t0, m)
theorem X8_numberFault_b61_ok {K : mm_K} {nx : Option Nat} {e : mm_E} (hz : e.2.1 = K.2.2.2.2) {d : Nat} (hd : 1 ≤ d) {t0 : Int32} {a0 : Nat} (h0 : e.1 a0 = some (8, 7)) {m : mm_V} {r : (Int32 × mm_V)} (hr : X8_numberFault_b61 e t0 m = some r) : mm_G K MX8_numberFault d (mm_Fi e.1 nx r) 61 [none, none, none, none] [.int t0] (e.1, m) nx 0 0 := by
  obtain ⟨d, rfl⟩ : ∃ d', d = d' + 1 := ⟨d - 1, by omega⟩
  unfold X8_numberFault_b61 at hr
  exact mb_iret dX8_numberFault_61 rfl hr
def X8_numberFault_b51 (e : mm_E) (t0 : Int32) (m : mm_V) : Option (Int32 × mm_V) := if t0 = 0 then (X8_numberFault_b61 e  (2 : Int32) m) else (X8_numberFault_b61 e  (0 : Int32) m)
theorem X8_numberFault_b51_ok {K : mm_K} {nx : Option Nat} {e : mm_E} (hz : e.2.1 = K.2.2.2.2) {d : Nat} (hd : 1 ≤ d) {t0 : Int32} {a0 : Nat} (h0 : e.1 a0 = some (8, 7)) {m : mm_V} {r : (Int32 × mm_V)} (hr : X8_numberFault_b51 e t0 m = some r) : mm_G K MX8_numberFault d (mm_Fi e.1 nx r) 51 [none, none, none, none] [.int t0] (e.1, m) nx 0 0 := by
  obtain ⟨d, rfl⟩ : ∃ d', d = d' + 1 := ⟨d - 1, by omega⟩
  unfold X8_numberFault_b51 at hr
  refine ml_istore_n (pc := 51) dX8_numberFault_51 rfl (Nat.le_of_ble_eq_true rfl) (mm_st1_s (mm_st1_s mm_st1_n)) ?_
  refine ml_iload_n (pc := 52) dX8_numberFault_52 rfl (mm_get_s (mm_get_s (mm_get_s mm_get_0))) ?_
  refine mb_if_eq (pc := 53) 60 dX8_numberFault_53 rfl hr (fun hr => ?_) (fun hr => ?_)
  · refine mg_iconst (pc := 60) dX8_numberFault_60 kc_2 ?_
    exact mg_weak (mm_le_n (mm_le_n (mm_le_n (mm_le_n mm_le_0)))) (X8_numberFault_b61_ok hz hd h0 hr)
  · refine mg_iconst (pc := 56) dX8_numberFault_56 kc_0 ?_
    refine mg_goto (pc := 57) 61 dX8_numberFault_57 rfl ?_
    exact mg_weak (mm_le_n (mm_le_n (mm_le_n (mm_le_n mm_le_0)))) (X8_numberFault_b61_ok hz hd h0 hr)
def X8_numberFault_b50 (e : mm_E) (m : mm_V) : Option (Int32 × mm_V) := X8_numberFault_b51 e  (0 : Int32) m
theorem X8_numberFault_b50_ok {K : mm_K} {nx : Option Nat} {e : mm_E} (hz : e.2.1 = K.2.2.2.2) {d : Nat} (hd : 1 ≤ d) {a0 : Nat} (h0 : e.1 a0 = some (8, 7)) {m : mm_V} {r : (Int32 × mm_V)} (hr : X8_numberFault_b50 e m = some r) : mm_G K MX8_numberFault d (mm_Fi e.1 nx r) 50 [none, none, none, none] [] (e.1, m) nx 0 0 := by
  obtain ⟨d, rfl⟩ : ∃ d', d = d' + 1 := ⟨d - 1, by omega⟩
  unfold X8_numberFault_b50 at hr
  refine mg_iconst (pc := 50) dX8_numberFault_50 kc_0 ?_
  exact mg_weak (mm_le_n (mm_le_n (mm_le_n (mm_le_n mm_le_0)))) (X8_numberFault_b51_ok hz hd h0 hr)
def X8_numberFault (e : mm_E) (a0 : Nat) (i1 : Int32) (i2 : Int32) (m : mm_V) : Option (Int32 × mm_V) := (mm_gr e.1 m 8 7 a0 0).bind fun c1 => (mm_gi e.1 m 9 6 c1 4).bind fun x2 => if x2 = (48 : Int32) then ((mm_gr e.1 m 8 7 a0 0).bind fun c3 => if e.1 c3 = some (9, 6) then ((X9_isTooLong e c3 m).bind fun r4 => if ¬ r4.1 = 0 then (X8_numberFault_b50 e   r4.2) else ((mm_gr e.1 r4.2 8 7 a0 0).bind fun c6 => (mm_gi e.1 r4.2 9 6 c6 5).bind fun x7 => if x7 < i1 then (X8_numberFault_b50 e   r4.2) else ((mm_gr e.1 r4.2 8 7 a0 0).bind fun c8 => (mm_gi e.1 r4.2 9 6 c8 5).bind fun x9 => if i2 < x9 then (X8_numberFault_b50 e   r4.2) else (X8_numberFault_b51 e  (1 : Int32) r4.2)))) else none) else (some ((1 : Int32), m))
theorem X8_numberFault_ok {K : mm_K} {nx : Option Nat} {e : mm_E} (hz : e.2.1 = K.2.2.2.2) {d : Nat} (hd : 1 ≤ d) {a0 : Nat} {i1 : Int32} {i2 : Int32} (h0 : e.1 a0 = some (8, 7)) {m : mm_V} {r : (Int32 × mm_V)} (hr : X8_numberFault e a0 i1 i2 m = some r) : mm_Cn K MX8_numberFault d (mm_Fi e.1 nx r) [.ref a0, .int i1, .int i2] (e.1, m) nx := by
  obtain ⟨d, rfl⟩ : ∃ d', d = d' + 1 := ⟨d - 1, by omega⟩
  refine mm_entry (by decide) (Nat.le_of_ble_eq_true rfl) rfl (fun hok => ?_)
  unfold X8_numberFault at hr
  refine mg_weak (L' := [some (.ref a0), some (.int i1), some (.int i2), none]) (mm_le_s (mm_le_s (mm_le_s (mm_le_e mm_le_0)))) ?_
  refine ml_aload_n (pc := 0) dX8_numberFault_0 rfl mm_get_0 ?_
  refine mb_gr (pc := 1) dX8_numberFault_1 fl_X8_12 hr (fun c1 hr => ?_)
  refine mb_gi (pc := 4) dX8_numberFault_4 fl_X8_51 hr (fun x2 hr => ?_)
  refine mg_bipush (pc := 7) dX8_numberFault_7 kb_48 ?_
  refine mb_icmp_eq (pc := 9) 14 dX8_numberFault_9 rfl hr (fun hr => ?_) (fun hr => ?_)
  · refine ml_aload_n (pc := 14) dX8_numberFault_14 rfl mm_get_0 ?_
    refine mb_gr (pc := 15) dX8_numberFault_15 fl_X8_12 hr (fun c3 hr => ?_)
    refine mb_ck hr (fun hb5 hr => ?_)
    refine mb_cVi (pc := 18) (As := []) (rest := []) dX8_numberFault_18 cw_X8_159 hb5 hr (fun v hv => X9_isTooLong_ok hz (by omega) hb5 hv) rfl (Nat.le_of_ble_eq_true rfl) (Nat.zero_le _) (Nat.zero_le _) (fun r4 hr => ?_)
    refine mb_if_ne (pc := 21) 50 dX8_numberFault_21 rfl hr (fun hr => ?_) (fun hr => ?_)
    · exact mg_weak (mm_le_n (mm_le_n (mm_le_n (mm_le_n mm_le_0)))) (X8_numberFault_b50_ok hz hd h0 hr)
    · refine ml_aload_n (pc := 24) dX8_numberFault_24 rfl mm_get_0 ?_
      refine mb_gr (pc := 25) dX8_numberFault_25 fl_X8_12 hr (fun c6 hr => ?_)
      refine mb_gi (pc := 28) dX8_numberFault_28 fl_X8_112 hr (fun x7 hr => ?_)
      refine ml_iload_n (pc := 31) dX8_numberFault_31 rfl (mm_get_s mm_get_0) ?_
      refine mb_icmp_lt (pc := 32) 50 dX8_numberFault_32 rfl hr (fun hr => ?_) (fun hr => ?_)
      · exact mg_weak (mm_le_n (mm_le_n (mm_le_n (mm_le_n mm_le_0)))) (X8_numberFault_b50_ok hz hd h0 hr)
      · refine ml_aload_n (pc := 35) dX8_numberFault_35 rfl mm_get_0 ?_
        refine mb_gr (pc := 36) dX8_numberFault_36 fl_X8_12 hr (fun c8 hr => ?_)
        refine mb_gi (pc := 39) dX8_numberFault_39 fl_X8_112 hr (fun x9 hr => ?_)
        refine ml_iload_n (pc := 42) dX8_numberFault_42 rfl (mm_get_s (mm_get_s mm_get_0)) ?_
        refine mb_icmp_gt (pc := 43) 50 dX8_numberFault_43 rfl hr (fun hr => ?_) (fun hr => ?_)
        · exact mg_weak (mm_le_n (mm_le_n (mm_le_n (mm_le_n mm_le_0)))) (X8_numberFault_b50_ok hz hd h0 hr)
        · refine mg_iconst (pc := 46) dX8_numberFault_46 kc_1 ?_
          refine mg_goto (pc := 47) 51 dX8_numberFault_47 rfl ?_
          exact mg_weak (mm_le_n (mm_le_n (mm_le_n (mm_le_n mm_le_0)))) (X8_numberFault_b51_ok hz hd h0 hr)
  · refine mg_iconst (pc := 12) dX8_numberFault_12 kc_1 ?_
    exact mb_iret dX8_numberFault_13 rfl hr
theorem dX8_endFault_0 : decode cX8_endFault 0 = .ok (.aload_n 0, 1) := by decide +kernel
theorem dX8_endFault_1 : decode cX8_endFault 1 = .ok (.getfield 12, 3) := by decide +kernel
theorem dX8_endFault_4 : decode cX8_endFault 4 = .ok (.invokevirtual 72, 3) := by decide +kernel
theorem dX8_endFault_7 : decode cX8_endFault 7 = .ok (.aload_n 0, 1) := by decide +kernel
theorem dX8_endFault_8 : decode cX8_endFault 8 = .ok (.getfield 12, 3) := by decide +kernel
theorem dX8_endFault_11 : decode cX8_endFault 11 = .ok (.getfield 51, 3) := by decide +kernel
theorem dX8_endFault_14 : decode cX8_endFault 14 = .ok (.bipush 59, 2) := by decide +kernel
theorem dX8_endFault_16 : decode cX8_endFault 16 = .ok (.if_icmp .ne 7, 3) := by decide +kernel
theorem dX8_endFault_19 : decode cX8_endFault 19 = .ok (.iconst 0, 1) := by decide +kernel
theorem dX8_endFault_20 : decode cX8_endFault 20 = .ok (.goto 4, 3) := by decide +kernel
theorem dX8_endFault_23 : decode cX8_endFault 23 = .ok (.iconst 1, 1) := by decide +kernel
theorem dX8_endFault_24 : decode cX8_endFault 24 = .ok (.ireturn, 1) := by decide +kernel
def X8_endFault_b24 (e : mm_E) (t0 : Int32) (m : mm_V) : Option (Int32 × mm_V) := some (t0, m)
theorem X8_endFault_b24_ok {K : mm_K} {nx : Option Nat} {e : mm_E} (hz : e.2.1 = K.2.2.2.2) {d : Nat} (hd : 3 ≤ d) {t0 : Int32} {a0 : Nat} (h0 : e.1 a0 = some (8, 7)) {m : mm_V} {r : (Int32 × mm_V)} (hr : X8_endFault_b24 e t0 m = some r) : mm_G K MX8_endFault d (mm_Fi e.1 nx r) 24 [none] [.int t0] (e.1, m) nx 0 0 := by
  obtain ⟨d, rfl⟩ : ∃ d', d = d' + 1 := ⟨d - 1, by omega⟩
  unfold X8_endFault_b24 at hr
  exact mb_iret dX8_endFault_24 rfl hr
def X8_endFault (e : mm_E) (a0 : Nat) (m : mm_V) : Option (Int32 × mm_V) := (mm_gr e.1 m 8 7 a0 0).bind fun c1 => if e.1 c1 = some (9, 6) then ((X9_next e c1 m).bind fun r2 => (mm_gr e.1 r2 8 7 a0 0).bind fun c4 => (mm_gi e.1 r2 9 6 c4 4).bind fun x5 => if ¬ x5 = (59 : Int32) then (X8_endFault_b24 e  (1 : Int32) r2) else (X8_endFault_b24 e  (0 : Int32) r2)) else none
theorem X8_endFault_ok {K : mm_K} {nx : Option Nat} {e : mm_E} (hz : e.2.1 = K.2.2.2.2) {d : Nat} (hd : 3 ≤ d) {a0 : Nat} (h0 : e.1 a0 = some (8, 7)) {m : mm_V} {r : (Int32 × mm_V)} (hr : X8_endFault e a0 m = some r) : mm_Cn K MX8_endFault d (mm_Fi e.1 nx r) [.ref a0] (e.1, m) nx := by
  obtain ⟨d, rfl⟩ : ∃ d', d = d' + 1 := ⟨d - 1, by omega⟩
  refine mm_entry (by decide) (Nat.le_of_ble_eq_true rfl) rfl (fun hok => ?_)
  unfold X8_endFault at hr
  refine mg_weak (L' := [some (.ref a0)]) (mm_le_s mm_le_0) ?_
  refine ml_aload_n (pc := 0) dX8_endFault_0 rfl mm_get_0 ?_
  refine mb_gr (pc := 1) dX8_endFault_1 fl_X8_12 hr (fun c1 hr => ?_)
  refine mb_ck hr (fun hb3 hr => ?_)
  refine mb_cVv (pc := 4) (As := []) (rest := []) dX8_endFault_4 cw_X8_72 hb3 hr (fun v hv => X9_next_ok hz (by omega) hb3 hv) rfl (Nat.le_of_ble_eq_true rfl) (Nat.zero_le _) (Nat.zero_le _) (fun r2 hr => ?_)
  refine ml_aload_n (pc := 7) dX8_endFault_7 rfl mm_get_0 ?_
  refine mb_gr (pc := 8) dX8_endFault_8 fl_X8_12 hr (fun c4 hr => ?_)
  refine mb_gi (pc := 11) dX8_endFault_11 fl_X8_51 hr (fun x5 hr => ?_)
  refine mg_bipush (pc := 14) dX8_endFault_14 kb_59 ?_
  refine mb_icmp_ne (pc := 16) 23 dX8_endFault_16 rfl hr (fun hr => ?_) (fun hr => ?_)
  · refine mg_iconst (pc := 23) dX8_endFault_23 kc_1 ?_
    exact mg_weak (mm_le_n mm_le_0) (X8_endFault_b24_ok hz hd h0 hr)
  · refine mg_iconst (pc := 19) dX8_endFault_19 kc_0 ?_
    refine mg_goto (pc := 20) 24 dX8_endFault_20 rfl ?_
    exact mg_weak (mm_le_n mm_le_0) (X8_endFault_b24_ok hz hd h0 hr)
theorem dX8_numberLine_0 : decode cX8_numberLine 0 = .ok (.iload_n 1, 1) := by decide +kernel
theorem dX8_numberLine_1 : decode cX8_numberLine 1 = .ok (.iconst 2, 1) := by decide +kernel
theorem dX8_numberLine_2 : decode cX8_numberLine 2 = .ok (.if_icmp .eq 12, 3) := by decide +kernel
theorem dX8_numberLine_5 : decode cX8_numberLine 5 = .ok (.aload_n 0, 1) := by decide +kernel
theorem dX8_numberLine_6 : decode cX8_numberLine 6 = .ok (.getfield 83, 3) := by decide +kernel
theorem dX8_numberLine_9 : decode cX8_numberLine 9 = .ok (.ifCond .eq 5, 3) := by decide +kernel
theorem dX8_numberLine_12 : decode cX8_numberLine 12 = .ok (.iconst 2, 1) := by decide +kernel
theorem dX8_numberLine_13 : decode cX8_numberLine 13 = .ok (.ireturn, 1) := by decide +kernel
theorem dX8_numberLine_14 : decode cX8_numberLine 14 = .ok (.aload_n 0, 1) := by decide +kernel
theorem dX8_numberLine_15 : decode cX8_numberLine 15 = .ok (.iload_n 1, 1) := by decide +kernel
theorem dX8_numberLine_16 : decode cX8_numberLine 16 = .ok (.iconst 0, 1) := by decide +kernel
theorem dX8_numberLine_17 : decode cX8_numberLine 17 = .ok (.invokevirtual 104, 3) := by decide +kernel
theorem dX8_numberLine_20 : decode cX8_numberLine 20 = .ok (.ifCond .eq 5, 3) := by decide +kernel
theorem dX8_numberLine_23 : decode cX8_numberLine 23 = .ok (.iconst 5, 1) := by decide +kernel
theorem dX8_numberLine_24 : decode cX8_numberLine 24 = .ok (.ireturn, 1) := by decide +kernel
theorem dX8_numberLine_25 : decode cX8_numberLine 25 = .ok (.aload_n 0, 1) := by decide +kernel
theorem dX8_numberLine_26 : decode cX8_numberLine 26 = .ok (.getfield 12, 3) := by decide +kernel
theorem dX8_numberLine_29 : decode cX8_numberLine 29 = .ok (.invokevirtual 72, 3) := by decide +kernel
theorem dX8_numberLine_32 : decode cX8_numberLine 32 = .ok (.iload_n 1, 1) := by decide +kernel
theorem dX8_numberLine_33 : decode cX8_numberLine 33 = .ok (.ifCond .ne 7, 3) := by decide +kernel
theorem dX8_numberLine_36 : decode cX8_numberLine 36 = .ok (.iconst 2, 1) := by decide +kernel
theorem dX8_numberLine_37 : decode cX8_numberLine 37 = .ok (.goto 13, 3) := by decide +kernel
theorem dX8_numberLine_40 : decode cX8_numberLine 40 = .ok (.iload_n 1, 1) := by decide +kernel
theorem dX8_numberLine_41 : decode cX8_numberLine 41 = .ok (.iconst 1, 1) := by decide +kernel
theorem dX8_numberLine_42 : decode cX8_numberLine 42 = .ok (.if_icmp .ne 7, 3) := by decide +kernel
theorem dX8_numberLine_45 : decode cX8_numberLine 45 = .ok (.iconst 1, 1) := by decide +kernel
theorem dX8_numberLine_46 : decode cX8_numberLine 46 = .ok (.goto 4, 3) := by decide +kernel
theorem dX8_numberLine_49 : decode cX8_numberLine 49 = .ok (.iconst 0, 1) := by decide +kernel
theorem dX8_numberLine_50 : decode cX8_numberLine 50 = .ok (.istore_n 2, 1) := by decide +kernel
theorem dX8_numberLine_51 : decode cX8_numberLine 51 = .ok (.iload_n 1, 1) := by decide +kernel
theorem dX8_numberLine_52 : decode cX8_numberLine 52 = .ok (.ifCond .ne 8, 3) := by decide +kernel
theorem dX8_numberLine_55 : decode cX8_numberLine 55 = .ok (.bipush 6, 2) := by decide +kernel
theorem dX8_numberLine_57 : decode cX8_numberLine 57 = .ok (.goto 16, 3) := by decide +kernel
theorem dX8_numberLine_60 : decode cX8_numberLine 60 = .ok (.iload_n 1, 1) := by decide +kernel
theorem dX8_numberLine_61 : decode cX8_numberLine 61 = .ok (.iconst 1, 1) := by decide +kernel
theorem dX8_numberLine_62 : decode cX8_numberLine 62 = .ok (.if_icmp .ne 8, 3) := by decide +kernel
theorem dX8_numberLine_65 : decode cX8_numberLine 65 = .ok (.bipush 9, 2) := by decide +kernel
theorem dX8_numberLine_67 : decode cX8_numberLine 67 = .ok (.goto 6, 3) := by decide +kernel
theorem dX8_numberLine_70 : decode cX8_numberLine 70 = .ok (.sipush 9999, 3) := by decide +kernel
theorem dX8_numberLine_73 : decode cX8_numberLine 73 = .ok (.istore_n 3, 1) := by decide +kernel
theorem dX8_numberLine_74 : decode cX8_numberLine 74 = .ok (.aload_n 0, 1) := by decide +kernel
theorem dX8_numberLine_75 : decode cX8_numberLine 75 = .ok (.iload_n 2, 1) := by decide +kernel
theorem dX8_numberLine_76 : decode cX8_numberLine 76 = .ok (.iload_n 3, 1) := by decide +kernel
theorem dX8_numberLine_77 : decode cX8_numberLine 77 = .ok (.invokevirtual 108, 3) := by decide +kernel
theorem dX8_numberLine_80 : decode cX8_numberLine 80 = .ok (.istore 4, 2) := by decide +kernel
theorem dX8_numberLine_82 : decode cX8_numberLine 82 = .ok (.iload 4, 2) := by decide +kernel
theorem dX8_numberLine_84 : decode cX8_numberLine 84 = .ok (.ifCond .eq 6, 3) := by decide +kernel
theorem dX8_numberLine_87 : decode cX8_numberLine 87 = .ok (.iload 4, 2) := by decide +kernel
theorem dX8_numberLine_89 : decode cX8_numberLine 89 = .ok (.ireturn, 1) := by decide +kernel
theorem dX8_numberLine_90 : decode cX8_numberLine 90 = .ok (.iload_n 1, 1) := by decide +kernel
theorem dX8_numberLine_91 : decode cX8_numberLine 91 = .ok (.lookupswitch 59 #[(0, 25), (1, 42)], 25) := by decide +kernel
theorem dX8_numberLine_116 : decode cX8_numberLine 116 = .ok (.aload_n 0, 1) := by decide +kernel
theorem dX8_numberLine_117 : decode cX8_numberLine 117 = .ok (.getfield 26, 3) := by decide +kernel
theorem dX8_numberLine_120 : decode cX8_numberLine 120 = .ok (.aload_n 0, 1) := by decide +kernel
theorem dX8_numberLine_121 : decode cX8_numberLine 121 = .ok (.getfield 12, 3) := by decide +kernel
theorem dX8_numberLine_124 : decode cX8_numberLine 124 = .ok (.getfield 112, 3) := by decide +kernel
theorem dX8_numberLine_127 : decode cX8_numberLine 127 = .ok (.putfield 115, 3) := by decide +kernel
theorem dX8_numberLine_130 : decode cX8_numberLine 130 = .ok (.goto 34, 3) := by decide +kernel
theorem dX8_numberLine_133 : decode cX8_numberLine 133 = .ok (.aload_n 0, 1) := by decide +kernel
theorem dX8_numberLine_134 : decode cX8_numberLine 134 = .ok (.getfield 26, 3) := by decide +kernel
theorem dX8_numberLine_137 : decode cX8_numberLine 137 = .ok (.aload_n 0, 1) := by decide +kernel
theorem dX8_numberLine_138 : decode cX8_numberLine 138 = .ok (.getfield 12, 3) := by decide +kernel
theorem dX8_numberLine_141 : decode cX8_numberLine 141 = .ok (.getfield 112, 3) := by decide +kernel
theorem dX8_numberLine_144 : decode cX8_numberLine 144 = .ok (.putfield 117, 3) := by decide +kernel
theorem dX8_numberLine_147 : decode cX8_numberLine 147 = .ok (.goto 17, 3) := by decide +kernel
theorem dX8_numberLine_150 : decode cX8_numberLine 150 = .ok (.aload_n 0, 1) := by decide +kernel
theorem dX8_numberLine_151 : decode cX8_numberLine 151 = .ok (.getfield 26, 3) := by decide +kernel
theorem dX8_numberLine_154 : decode cX8_numberLine 154 = .ok (.aload_n 0, 1) := by decide +kernel
theorem dX8_numberLine_155 : decode cX8_numberLine 155 = .ok (.getfield 12, 3) := by decide +kernel
theorem dX8_numberLine_158 : decode cX8_numberLine 158 = .ok (.getfield 112, 3) := by decide +kernel
theorem dX8_numberLine_161 : decode cX8_numberLine 161 = .ok (.putfield 119, 3) := by decide +kernel
theorem dX8_numberLine_164 : decode cX8_numberLine 164 = .ok (.aload_n 0, 1) := by decide +kernel
theorem dX8_numberLine_165 : decode cX8_numberLine 165 = .ok (.invokevirtual 121, 3) := by decide +kernel
theorem dX8_numberLine_168 : decode cX8_numberLine 168 = .ok (.ireturn, 1) := by decide +kernel
def X8_numberLine_b164 (e : mm_E) (a0 : Nat) (m : mm_V) : Option (Int32 × mm_V) := (X8_endFault e a0 m).bind fun r1 => some (r1.1, r1.2)
theorem X8_numberLine_b164_ok {K : mm_K} {nx : Option Nat} {e : mm_E} (hz : e.2.1 = K.2.2.2.2) {d : Nat} (hd : 4 ≤ d) {a0 : Nat} (h0 : e.1 a0 = some (8, 7)) {m : mm_V} {r : (Int32 × mm_V)} (hr : X8_numberLine_b164 e a0 m = some r) : mm_G K MX8_numberLine d (mm_Fi e.1 nx r) 164 [some (.ref a0), none, none, none, none] [] (e.1, m) nx 0 0 := by
  obtain ⟨d, rfl⟩ : ∃ d', d = d' + 1 := ⟨d - 1, by omega⟩
  unfold X8_numberLine_b164 at hr
  refine ml_aload_n (pc := 164) dX8_numberLine_164 rfl mm_get_0 ?_
  refine mb_cVi (pc := 165) (As := []) (rest := []) dX8_numberLine_165 cw_X8_121 h0 hr (fun v hv => X8_endFault_ok hz (by omega) h0 hv) rfl (Nat.le_of_ble_eq_true rfl) (Nat.zero_le _) (Nat.zero_le _) (fun r1 hr => ?_)
  exact mb_iret dX8_numberLine_168 rfl hr
def X8_numberLine_b73 (e : mm_E) (a0 : Nat) (i1 : Int32) (i2 : Int32) (t0 : Int32) (m : mm_V) : Option (Int32 × mm_V) := (X8_numberFault e a0 i2 t0 m).bind fun r1 => if r1.1 = 0 then (if i1 = (0 : Int32) then ((mm_gr e.1 r1.2 8 7 a0 4).bind fun c2 => (mm_gr e.1 r1.2 8 7 a0 0).bind fun c3 => (mm_gi e.1 r1.2 9 6 c3 5).bind fun x4 => (mm_pf e.1 r1.2 10 11 c2 6 (.int x4)).bind fun m5 => X8_numberLine_b164 e a0  m5) else (if i1 = (1 : Int32) then ((mm_gr e.1 r1.2 8 7 a0 4).bind fun c7 => (mm_gr e.1 r1.2 8 7 a0 0).bind fun c8 => (mm_gi e.1 r1.2 9 6 c8 5).bind fun x9 => (mm_pf e.1 r1.2 10 11 c7 7 (.int x9)).bind fun m10 => X8_numberLine_b164 e a0  m10) else ((mm_gr e.1 r1.2 8 7 a0 4).bind fun c12 => (mm_gr e.1 r1.2 8 7 a0 0).bind fun c13 => (mm_gi e.1 r1.2 9 6 c13 5).bind fun x14 => (mm_pf e.1 r1.2 10 11 c12 8 (.int x14)).bind fun m15 => X8_numberLine_b164 e a0  m15))) else (some (r1.1, r1.2))
theorem X8_numberLine_b73_ok {K : mm_K} {nx : Option Nat} {e : mm_E} (hz : e.2.1 = K.2.2.2.2) {d : Nat} (hd : 4 ≤ d) {a0 : Nat} {i1 : Int32} {i2 : Int32} {t0 : Int32} (h0 : e.1 a0 = some (8, 7)) {m : mm_V} {r : (Int32 × mm_V)} (hr : X8_numberLine_b73 e a0 i1 i2 t0 m = some r) : mm_G K MX8_numberLine d (mm_Fi e.1 nx r) 73 [some (.ref a0), some (.int i1), some (.int i2), none, none] [.int t0] (e.1, m) nx 0 0 := by
  obtain ⟨d, rfl⟩ : ∃ d', d = d' + 1 := ⟨d - 1, by omega⟩
  unfold X8_numberLine_b73 at hr
  refine ml_istore_n (pc := 73) dX8_numberLine_73 rfl (Nat.le_of_ble_eq_true rfl) (mm_st1_s (mm_st1_s mm_st1_i)) ?_
  refine ml_aload_n (pc := 74) dX8_numberLine_74 rfl mm_get_0 ?_
  refine ml_iload_n (pc := 75) dX8_numberLine_75 rfl (mm_get_s (mm_get_s mm_get_0)) ?_
  refine ml_iload_n (pc := 76) dX8_numberLine_76 rfl (mm_get_s (mm_get_s (mm_get_s mm_get_0))) ?_
  refine mb_cVi (pc := 77) (As := [.int i2, .int t0]) (rest := []) dX8_numberLine_77 cw_X8_108 h0 hr (fun v hv => X8_numberFault_ok hz (by omega) h0 hv) rfl (Nat.le_of_ble_eq_true rfl) (Nat.zero_le _) (Nat.zero_le _) (fun r1 hr => ?_)
  refine ml_istore (pc := 80) dX8_numberLine_80 (Nat.le_of_ble_eq_true rfl) (mm_st1_s (mm_st1_s (mm_st1_s mm_st1_i))) ?_
  refine ml_iload (pc := 82) dX8_numberLine_82 (mm_get_s (mm_get_s (mm_get_s (mm_get_s mm_get_0)))) ?_
  refine mb_if_eq (pc := 84) 90 dX8_numberLine_84 rfl hr (fun hr => ?_) (fun hr => ?_)
  · refine ml_iload_n (pc := 90) dX8_numberLine_90 rfl (mm_get_s mm_get_0) ?_
    refine mb_ite hr (fun hc hr => ?_) (fun hc6 hr => ?_)
    · refine mg_lookK (pc := 91) (25) 116 dX8_numberLine_91 hc (by decide +kernel) rfl ?_
      refine ml_aload_n (pc := 116) dX8_numberLine_116 rfl mm_get_0 ?_
      refine mb_gr (pc := 117) dX8_numberLine_117 fl_X8_26 hr (fun c2 hr => ?_)
      refine ml_aload_n (pc := 120) dX8_numberLine_120 rfl mm_get_0 ?_
      refine mb_gr (pc := 121) dX8_numberLine_121 fl_X8_12 hr (fun c3 hr => ?_)
      refine mb_gi (pc := 124) dX8_numberLine_124 fl_X8_112 hr (fun x4 hr => ?_)
      refine mb_pi (pc := 127) dX8_numberLine_127 fp_X8_115 hr (fun m5 hr => ?_)
      refine mg_goto (pc := 130) 164 dX8_numberLine_130 rfl ?_
      exact mg_weak (mm_le_s (mm_le_n (mm_le_n (mm_le_n (mm_le_n mm_le_0))))) (X8_numberLine_b164_ok hz hd h0 hr)
    refine mb_ite hr (fun hc hr => ?_) (fun hc11 hr => ?_)
    · refine mg_lookK (pc := 91) (42) 133 dX8_numberLine_91 hc (by decide +kernel) rfl ?_
      refine ml_aload_n (pc := 133) dX8_numberLine_133 rfl mm_get_0 ?_
      refine mb_gr (pc := 134) dX8_numberLine_134 fl_X8_26 hr (fun c7 hr => ?_)
      refine ml_aload_n (pc := 137) dX8_numberLine_137 rfl mm_get_0 ?_
      refine mb_gr (pc := 138) dX8_numberLine_138 fl_X8_12 hr (fun c8 hr => ?_)
      refine mb_gi (pc := 141) dX8_numberLine_141 fl_X8_112 hr (fun x9 hr => ?_)
      refine mb_pi (pc := 144) dX8_numberLine_144 fp_X8_117 hr (fun m10 hr => ?_)
      refine mg_goto (pc := 147) 164 dX8_numberLine_147 rfl ?_
      exact mg_weak (mm_le_s (mm_le_n (mm_le_n (mm_le_n (mm_le_n mm_le_0))))) (X8_numberLine_b164_ok hz hd h0 hr)
    refine mg_lookD (pc := 91) 150 dX8_numberLine_91 ((mm_nin_c hc6 (mm_nin_c hc11 mm_nin_0)) : ∀ y ∈ [(0 : Int32), (1 : Int32)], ¬ i1 = y) (by decide +kernel) rfl ?_
    refine ml_aload_n (pc := 150) dX8_numberLine_150 rfl mm_get_0 ?_
    refine mb_gr (pc := 151) dX8_numberLine_151 fl_X8_26 hr (fun c12 hr => ?_)
    refine ml_aload_n (pc := 154) dX8_numberLine_154 rfl mm_get_0 ?_
    refine mb_gr (pc := 155) dX8_numberLine_155 fl_X8_12 hr (fun c13 hr => ?_)
    refine mb_gi (pc := 158) dX8_numberLine_158 fl_X8_112 hr (fun x14 hr => ?_)
    refine mb_pi (pc := 161) dX8_numberLine_161 fp_X8_119 hr (fun m15 hr => ?_)
    exact mg_weak (mm_le_s (mm_le_n (mm_le_n (mm_le_n (mm_le_n mm_le_0))))) (X8_numberLine_b164_ok hz hd h0 hr)
  · refine ml_iload (pc := 87) dX8_numberLine_87 (mm_get_s (mm_get_s (mm_get_s (mm_get_s mm_get_0)))) ?_
    exact mb_iret dX8_numberLine_89 rfl hr
def X8_numberLine_b50 (e : mm_E) (a0 : Nat) (i1 : Int32) (t0 : Int32) (m : mm_V) : Option (Int32 × mm_V) := if ¬ i1 = 0 then (if ¬ i1 = (1 : Int32) then (X8_numberLine_b73 e a0 i1 t0 (9999 : Int32) m) else (X8_numberLine_b73 e a0 i1 t0 (9 : Int32) m)) else (X8_numberLine_b73 e a0 i1 t0 (6 : Int32) m)
theorem X8_numberLine_b50_ok {K : mm_K} {nx : Option Nat} {e : mm_E} (hz : e.2.1 = K.2.2.2.2) {d : Nat} (hd : 4 ≤ d) {a0 : Nat} {i1 : Int32} {t0 : Int32} (h0 : e.1 a0 = some (8, 7)) {m : mm_V} {r : (Int32 × mm_V)} (hr : X8_numberLine_b50 e a0 i1 t0 m = some r) : mm_G K MX8_numberLine d (mm_Fi e.1 nx r) 50 [some (.ref a0), some (.int i1), none, none, none] [.int t0] (e.1, m) nx 0 0 := by
  obtain ⟨d, rfl⟩ : ∃ d', d = d' + 1 := ⟨d - 1, by omega⟩
  unfold X8_numberLine_b50 at hr
  refine ml_istore_n (pc := 50) dX8_numberLine_50 rfl (Nat.le_of_ble_eq_true rfl) (mm_st1_s mm_st1_i) ?_
  refine ml_iload_n (pc := 51) dX8_numberLine_51 rfl (mm_get_s mm_get_0) ?_
  refine mb_if_ne (pc := 52) 60 dX8_numberLine_52 rfl hr (fun hr => ?_) (fun hr => ?_)
  · refine ml_iload_n (pc := 60) dX8_numberLine_60 rfl (mm_get_s mm_get_0) ?_
    refine mg_iconst (pc := 61) dX8_numberLine_61 kc_1 ?_
    refine mb_icmp_ne (pc := 62) 70 dX8_numberLine_62 rfl hr (fun hr => ?_) (fun hr => ?_)
    · refine mg_sipush (pc := 70) dX8_numberLine_70 ks_9999 ?_
      exact mg_weak (mm_le_s (mm_le_s (mm_le_s (mm_le_n (mm_le_n mm_le_0))))) (X8_numberLine_b73_ok hz hd h0 hr)
    · refine mg_bipush (pc := 65) dX8_numberLine_65 kb_9 ?_
      refine mg_goto (pc := 67) 73 dX8_numberLine_67 rfl ?_
      exact mg_weak (mm_le_s (mm_le_s (mm_le_s (mm_le_n (mm_le_n mm_le_0))))) (X8_numberLine_b73_ok hz hd h0 hr)
  · refine mg_bipush (pc := 55) dX8_numberLine_55 kb_6 ?_
    refine mg_goto (pc := 57) 73 dX8_numberLine_57 rfl ?_
    exact mg_weak (mm_le_s (mm_le_s (mm_le_s (mm_le_n (mm_le_n mm_le_0))))) (X8_numberLine_b73_ok hz hd h0 hr)
def X8_numberLine_b14 (e : mm_E) (a0 : Nat) (i1 : Int32) (m : mm_V) : Option (Int32 × mm_V) := (X8_isTold e a0 i1 (0 : Int32) m).bind fun r1 => if r1.1 = 0 then ((mm_gr e.1 r1.2 8 7 a0 0).bind fun c2 => if e.1 c2 = some (9, 6) then ((X9_next e c2 r1.2).bind fun r3 => if ¬ i1 = 0 then (if ¬ i1 = (1 : Int32) then (X8_numberLine_b50 e a0 i1 (0 : Int32) r3) else (X8_numberLine_b50 e a0 i1 (1 : Int32) r3)) else (X8_numberLine_b50 e a0 i1 (2 : Int32) r3)) else none) else (some ((5 : Int32), r1.2))
theorem X8_numberLine_b14_ok {K : mm_K} {nx : Option Nat} {e : mm_E} (hz : e.2.1 = K.2.2.2.2) {d : Nat} (hd : 4 ≤ d) {a0 : Nat} {i1 : Int32} (h0 : e.1 a0 = some (8, 7)) {m : mm_V} {r : (Int32 × mm_V)} (hr : X8_numberLine_b14 e a0 i1 m = some r) : mm_G K MX8_numberLine d (mm_Fi e.1 nx r) 14 [some (.ref a0), some (.int i1), none, none, none] [] (e.1, m) nx 0 0 := by
  obtain ⟨d, rfl⟩ : ∃ d', d = d' + 1 := ⟨d - 1, by omega⟩
  unfold X8_numberLine_b14 at hr
  refine ml_aload_n (pc := 14) dX8_numberLine_14 rfl mm_get_0 ?_
  refine ml_iload_n (pc := 15) dX8_numberLine_15 rfl (mm_get_s mm_get_0) ?_
  refine mg_iconst (pc := 16) dX8_numberLine_16 kc_0 ?_
  refine mb_cVi (pc := 17) (As := [.int i1, .int (0 : Int32)]) (rest := []) dX8_numberLine_17 cw_X8_104 h0 hr (fun v hv => X8_isTold_ok hz (by omega) h0 hv) rfl (Nat.le_of_ble_eq_true rfl) (Nat.zero_le _) (Nat.zero_le _) (fun r1 hr => ?_)
  refine mb_if_eq (pc := 20) 25 dX8_numberLine_20 rfl hr (fun hr => ?_) (fun hr => ?_)
  · refine ml_aload_n (pc := 25) dX8_numberLine_25 rfl mm_get_0 ?_
    refine mb_gr (pc := 26) dX8_numberLine_26 fl_X8_12 hr (fun c2 hr => ?_)
    refine mb_ck hr (fun hb4 hr => ?_)
    refine mb_cVv (pc := 29) (As := []) (rest := []) dX8_numberLine_29 cw_X8_72 hb4 hr (fun v hv => X9_next_ok hz (by omega) hb4 hv) rfl (Nat.le_of_ble_eq_true rfl) (Nat.zero_le _) (Nat.zero_le _) (fun r3 hr => ?_)
    refine ml_iload_n (pc := 32) dX8_numberLine_32 rfl (mm_get_s mm_get_0) ?_
    refine mb_if_ne (pc := 33) 40 dX8_numberLine_33 rfl hr (fun hr => ?_) (fun hr => ?_)
    · refine ml_iload_n (pc := 40) dX8_numberLine_40 rfl (mm_get_s mm_get_0) ?_
      refine mg_iconst (pc := 41) dX8_numberLine_41 kc_1 ?_
      refine mb_icmp_ne (pc := 42) 49 dX8_numberLine_42 rfl hr (fun hr => ?_) (fun hr => ?_)
      · refine mg_iconst (pc := 49) dX8_numberLine_49 kc_0 ?_
        exact mg_weak (mm_le_s (mm_le_s (mm_le_n (mm_le_n (mm_le_n mm_le_0))))) (X8_numberLine_b50_ok hz hd h0 hr)
      · refine mg_iconst (pc := 45) dX8_numberLine_45 kc_1 ?_
        refine mg_goto (pc := 46) 50 dX8_numberLine_46 rfl ?_
        exact mg_weak (mm_le_s (mm_le_s (mm_le_n (mm_le_n (mm_le_n mm_le_0))))) (X8_numberLine_b50_ok hz hd h0 hr)
    · refine mg_iconst (pc := 36) dX8_numberLine_36 kc_2 ?_
      refine mg_goto (pc := 37) 50 dX8_numberLine_37 rfl ?_
      exact mg_weak (mm_le_s (mm_le_s (mm_le_n (mm_le_n (mm_le_n mm_le_0))))) (X8_numberLine_b50_ok hz hd h0 hr)
  · refine mg_iconst (pc := 23) dX8_numberLine_23 kc_5 ?_
    exact mb_iret dX8_numberLine_24 rfl hr
def X8_numberLine (e : mm_E) (a0 : Nat) (i1 : Int32) (m : mm_V) : Option (Int32 × mm_V) := if i1 = (2 : Int32) then (X8_numberLine_b14 e a0 i1  m) else ((mm_gi e.1 m 8 7 a0 5).bind fun x1 => if x1 = 0 then (X8_numberLine_b14 e a0 i1  m) else (some ((2 : Int32), m)))
theorem X8_numberLine_ok {K : mm_K} {nx : Option Nat} {e : mm_E} (hz : e.2.1 = K.2.2.2.2) {d : Nat} (hd : 4 ≤ d) {a0 : Nat} {i1 : Int32} (h0 : e.1 a0 = some (8, 7)) {m : mm_V} {r : (Int32 × mm_V)} (hr : X8_numberLine e a0 i1 m = some r) : mm_Cn K MX8_numberLine d (mm_Fi e.1 nx r) [.ref a0, .int i1] (e.1, m) nx := by
  obtain ⟨d, rfl⟩ : ∃ d', d = d' + 1 := ⟨d - 1, by omega⟩
  refine mm_entry (by decide) (Nat.le_of_ble_eq_true rfl) rfl (fun hok => ?_)
  unfold X8_numberLine at hr
  refine mg_weak (L' := [some (.ref a0), some (.int i1), none, none, none]) (mm_le_s (mm_le_s (mm_le_e (mm_le_e (mm_le_e mm_le_0))))) ?_
  refine ml_iload_n (pc := 0) dX8_numberLine_0 rfl (mm_get_s mm_get_0) ?_
  refine mg_iconst (pc := 1) dX8_numberLine_1 kc_2 ?_
  refine mb_icmp_eq (pc := 2) 14 dX8_numberLine_2 rfl hr (fun hr => ?_) (fun hr => ?_)
  · exact mg_weak (mm_le_s (mm_le_s (mm_le_n (mm_le_n (mm_le_n mm_le_0))))) (X8_numberLine_b14_ok hz hd h0 hr)
  · refine ml_aload_n (pc := 5) dX8_numberLine_5 rfl mm_get_0 ?_
    refine mb_gi (pc := 6) dX8_numberLine_6 fl_X8_83 hr (fun x1 hr => ?_)
    refine mb_if_eq (pc := 9) 14 dX8_numberLine_9 rfl hr (fun hr => ?_) (fun hr => ?_)
    · exact mg_weak (mm_le_s (mm_le_s (mm_le_n (mm_le_n (mm_le_n mm_le_0))))) (X8_numberLine_b14_ok hz hd h0 hr)
    · refine mg_iconst (pc := 12) dX8_numberLine_12 kc_2 ?_
      exact mb_iret dX8_numberLine_13 rfl hr
theorem dX8_cardFault_0 : decode cX8_cardFault 0 = .ok (.iload_n 1, 1) := by decide +kernel
theorem dX8_cardFault_1 : decode cX8_cardFault 1 = .ok (.ifCond .lt 28, 3) := by decide +kernel
theorem dX8_cardFault_4 : decode cX8_cardFault 4 = .ok (.iload_n 1, 1) := by decide +kernel
theorem dX8_cardFault_5 : decode cX8_cardFault 5 = .ok (.aload_n 0, 1) := by decide +kernel
theorem dX8_cardFault_6 : decode cX8_cardFault 6 = .ok (.getfield 26, 3) := by decide +kernel
theorem dX8_cardFault_9 : decode cX8_cardFault 9 = .ok (.getfield 139, 3) := by decide +kernel
theorem dX8_cardFault_12 : decode cX8_cardFault 12 = .ok (.arraylength, 1) := by decide +kernel
theorem dX8_cardFault_13 : decode cX8_cardFault 13 = .ok (.if_icmp .ge 16, 3) := by decide +kernel
theorem dX8_cardFault_16 : decode cX8_cardFault 16 = .ok (.iload_n 2, 1) := by decide +kernel
theorem dX8_cardFault_17 : decode cX8_cardFault 17 = .ok (.ifCond .lt 12, 3) := by decide +kernel
theorem dX8_cardFault_20 : decode cX8_cardFault 20 = .ok (.iload_n 2, 1) := by decide +kernel
theorem dX8_cardFault_21 : decode cX8_cardFault 21 = .ok (.aload_n 0, 1) := by decide +kernel
theorem dX8_cardFault_22 : decode cX8_cardFault 22 = .ok (.getfield 18, 3) := by decide +kernel
theorem dX8_cardFault_25 : decode cX8_cardFault 25 = .ok (.arraylength, 1) := by decide +kernel
theorem dX8_cardFault_26 : decode cX8_cardFault 26 = .ok (.if_icmp .lt 5, 3) := by decide +kernel
theorem dX8_cardFault_29 : decode cX8_cardFault 29 = .ok (.iconst 2, 1) := by decide +kernel
theorem dX8_cardFault_30 : decode cX8_cardFault 30 = .ok (.ireturn, 1) := by decide +kernel
theorem dX8_cardFault_31 : decode cX8_cardFault 31 = .ok (.aload_n 0, 1) := by decide +kernel
theorem dX8_cardFault_32 : decode cX8_cardFault 32 = .ok (.getfield 26, 3) := by decide +kernel
theorem dX8_cardFault_35 : decode cX8_cardFault 35 = .ok (.getfield 139, 3) := by decide +kernel
theorem dX8_cardFault_38 : decode cX8_cardFault 38 = .ok (.iload_n 1, 1) := by decide +kernel
theorem dX8_cardFault_39 : decode cX8_cardFault 39 = .ok (.aaload, 1) := by decide +kernel
theorem dX8_cardFault_40 : decode cX8_cardFault 40 = .ok (.astore_n 3, 1) := by decide +kernel
theorem dX8_cardFault_41 : decode cX8_cardFault 41 = .ok (.iload_n 2, 1) := by decide +kernel
theorem dX8_cardFault_42 : decode cX8_cardFault 42 = .ok (.ifCond .ne 7, 3) := by decide +kernel
theorem dX8_cardFault_45 : decode cX8_cardFault 45 = .ok (.iconst 1, 1) := by decide +kernel
theorem dX8_cardFault_46 : decode cX8_cardFault 46 = .ok (.goto 4, 3) := by decide +kernel
theorem dX8_cardFault_49 : decode cX8_cardFault 49 = .ok (.iconst 2, 1) := by decide +kernel
theorem dX8_cardFault_50 : decode cX8_cardFault 50 = .ok (.istore 4, 2) := by decide +kernel
theorem dX8_cardFault_52 : decode cX8_cardFault 52 = .ok (.aload_n 3, 1) := by decide +kernel
theorem dX8_cardFault_53 : decode cX8_cardFault 53 = .ok (.iload_n 2, 1) := by decide +kernel
theorem dX8_cardFault_54 : decode cX8_cardFault 54 = .ok (.invokevirtual 143, 3) := by decide +kernel
theorem dX8_cardFault_57 : decode cX8_cardFault 57 = .ok (.iconst (-1), 1) := by decide +kernel
theorem dX8_cardFault_58 : decode cX8_cardFault 58 = .ok (.if_icmp .ne 14, 3) := by decide +kernel
theorem dX8_cardFault_61 : decode cX8_cardFault 61 = .ok (.aload_n 0, 1) := by decide +kernel
theorem dX8_cardFault_62 : decode cX8_cardFault 62 = .ok (.getfield 18, 3) := by decide +kernel
theorem dX8_cardFault_65 : decode cX8_cardFault 65 = .ok (.iload_n 2, 1) := by decide +kernel
theorem dX8_cardFault_66 : decode cX8_cardFault 66 = .ok (.iaload, 1) := by decide +kernel
theorem dX8_cardFault_67 : decode cX8_cardFault 67 = .ok (.iload 4, 2) := by decide +kernel
theorem dX8_cardFault_69 : decode cX8_cardFault 69 = .ok (.if_icmp .lt 5, 3) := by decide +kernel
theorem dX8_cardFault_72 : decode cX8_cardFault 72 = .ok (.iconst 4, 1) := by decide +kernel
theorem dX8_cardFault_73 : decode cX8_cardFault 73 = .ok (.ireturn, 1) := by decide +kernel
theorem dX8_cardFault_74 : decode cX8_cardFault 74 = .ok (.aload_n 3, 1) := by decide +kernel
theorem dX8_cardFault_75 : decode cX8_cardFault 75 = .ok (.aload_n 3, 1) := by decide +kernel
theorem dX8_cardFault_76 : decode cX8_cardFault 76 = .ok (.getfield 148, 3) := by decide +kernel
theorem dX8_cardFault_79 : decode cX8_cardFault 79 = .ok (.iload_n 2, 1) := by decide +kernel
theorem dX8_cardFault_80 : decode cX8_cardFault 80 = .ok (.invokevirtual 151, 3) := by decide +kernel
theorem dX8_cardFault_83 : decode cX8_cardFault 83 = .ok (.aload_n 0, 1) := by decide +kernel
theorem dX8_cardFault_84 : decode cX8_cardFault 84 = .ok (.getfield 18, 3) := by decide +kernel
theorem dX8_cardFault_87 : decode cX8_cardFault 87 = .ok (.iload_n 2, 1) := by decide +kernel
theorem dX8_cardFault_88 : decode cX8_cardFault 88 = .ok (.dup2, 1) := by decide +kernel
theorem dX8_cardFault_89 : decode cX8_cardFault 89 = .ok (.iaload, 1) := by decide +kernel
theorem dX8_cardFault_90 : decode cX8_cardFault 90 = .ok (.iconst 1, 1) := by decide +kernel
theorem dX8_cardFault_91 : decode cX8_cardFault 91 = .ok (.iadd, 1) := by decide +kernel
theorem dX8_cardFault_92 : decode cX8_cardFault 92 = .ok (.iastore, 1) := by decide +kernel
theorem dX8_cardFault_93 : decode cX8_cardFault 93 = .ok (.iconst 0, 1) := by decide +kernel
theorem dX8_cardFault_94 : decode cX8_cardFault 94 = .ok (.ireturn, 1) := by decide +kernel
def X8_cardFault_b72 (e : mm_E) (m : mm_V) : Option (Int32 × mm_V) := some ((4 : Int32), m)
theorem X8_cardFault_b72_ok {K : mm_K} {nx : Option Nat} {e : mm_E} (hz : e.2.1 = K.2.2.2.2) {d : Nat} (hd : 1 ≤ d) {a0 : Nat} (h0 : e.1 a0 = some (8, 7)) {m : mm_V} {r : (Int32 × mm_V)} (hr : X8_cardFault_b72 e m = some r) : mm_G K MX8_cardFault d (mm_Fi e.1 nx r) 72 [none, none, none, none, none] [] (e.1, m) nx 0 0 := by
  obtain ⟨d, rfl⟩ : ∃ d', d = d' + 1 := ⟨d - 1, by omega⟩
  unfold X8_cardFault_b72 at hr
  refine mg_iconst (pc := 72) dX8_cardFault_72 kc_4 ?_
  exact mb_iret dX8_cardFault_73 rfl hr
def X8_cardFault_b50 (e : mm_E) (a0 : Nat) (i2 : Int32) (a3 : Nat) (t0 : Int32) (m : mm_V) : Option (Int32 × mm_V) := if e.1 a3 = some (3, 2) then ((X3_placeOf e a3 i2 m).bind fun r1 => if ¬ r1.1 = (-1 : Int32) then (X8_cardFault_b72 e   r1.2) else ((mm_gr e.1 r1.2 8 7 a0 2).bind fun c3 => (mm_ai e.1 r1.2 20 c3 i2).bind fun x4 => if x4 < t0 then ((mm_gi e.1 r1.2 3 2 a3 1).bind fun x5 => if e.1 a3 = some (3, 2) then ((X3_putIn e a3 x5 i2 r1.2).bind fun r6 => (mm_gr e.1 r6 8 7 a0 2).bind fun c8 => (mm_ai e.1 r6 20 c8 i2).bind fun x9 => (mm_si e.1 r6 c8 i2 (x9 + (1 : Int32))).bind fun m10 => some ((0 : Int32), m10)) else none) else (X8_cardFault_b72 e   r1.2))) else none
theorem X8_cardFault_b50_ok {K : mm_K} {nx : Option Nat} {e : mm_E} (hz : e.2.1 = K.2.2.2.2) {d : Nat} (hd : 1 ≤ d) {a0 : Nat} {i2 : Int32} {a3 : Nat} {t0 : Int32} (h0 : e.1 a0 = some (8, 7)) {m : mm_V} {r : (Int32 × mm_V)} (hr : X8_cardFault_b50 e a0 i2 a3 t0 m = some r) : mm_G K MX8_cardFault d (mm_Fi e.1 nx r) 50 [some (.ref a0), none, some (.int i2), some (.ref a3), none] [.int t0] (e.1, m) nx 0 0 := by
  obtain ⟨d, rfl⟩ : ∃ d', d = d' + 1 := ⟨d - 1, by omega⟩
  unfold X8_cardFault_b50 at hr
  refine ml_istore (pc := 50) dX8_cardFault_50 (Nat.le_of_ble_eq_true rfl) (mm_st1_s (mm_st1_s (mm_st1_s mm_st1_r))) ?_
  refine ml_aload_n (pc := 52) dX8_cardFault_52 rfl (mm_get_s (mm_get_s (mm_get_s mm_get_0))) ?_
  refine ml_iload_n (pc := 53) dX8_cardFault_53 rfl (mm_get_s (mm_get_s mm_get_0)) ?_
  refine mb_ck hr (fun hb2 hr => ?_)
  refine mb_cVi (pc := 54) (As := [.int i2]) (rest := []) dX8_cardFault_54 cw_X8_143 hb2 hr (fun v hv => X3_placeOf_ok hz (by omega) hb2 hv) rfl (Nat.le_of_ble_eq_true rfl) (Nat.zero_le _) (Nat.zero_le _) (fun r1 hr => ?_)
  refine mg_iconst (pc := 57) dX8_cardFault_57 kc_m1 ?_
  refine mb_icmp_ne (pc := 58) 72 dX8_cardFault_58 rfl hr (fun hr => ?_) (fun hr => ?_)
  · exact mg_weak (mm_le_n (mm_le_n (mm_le_n (mm_le_n (mm_le_n mm_le_0))))) (X8_cardFault_b72_ok hz hd h0 hr)
  · refine ml_aload_n (pc := 61) dX8_cardFault_61 rfl mm_get_0 ?_
    refine mb_gr (pc := 62) dX8_cardFault_62 fl_X8_18 hr (fun c3 hr => ?_)
    refine ml_iload_n (pc := 65) dX8_cardFault_65 rfl (mm_get_s (mm_get_s mm_get_0)) ?_
    refine mb_ai (pc := 66) dX8_cardFault_66 hr (fun x4 hr => ?_)
    refine ml_iload (pc := 67) dX8_cardFault_67 (mm_get_s (mm_get_s (mm_get_s (mm_get_s mm_get_0)))) ?_
    refine mb_icmp_lt (pc := 69) 74 dX8_cardFault_69 rfl hr (fun hr => ?_) (fun hr => ?_)
    · refine ml_aload_n (pc := 74) dX8_cardFault_74 rfl (mm_get_s (mm_get_s (mm_get_s mm_get_0))) ?_
      refine ml_aload_n (pc := 75) dX8_cardFault_75 rfl (mm_get_s (mm_get_s (mm_get_s mm_get_0))) ?_
      refine mb_gi (pc := 76) dX8_cardFault_76 fl_X8_148 hr (fun x5 hr => ?_)
      refine ml_iload_n (pc := 79) dX8_cardFault_79 rfl (mm_get_s (mm_get_s mm_get_0)) ?_
      refine mb_ck hr (fun hb7 hr => ?_)
      refine mb_cVv (pc := 80) (As := [.int x5, .int i2]) (rest := []) dX8_cardFault_80 cw_X8_151 hb7 hr (fun v hv => X3_putIn_ok hz (by omega) hb7 hv) rfl (Nat.le_of_ble_eq_true rfl) (Nat.zero_le _) (Nat.zero_le _) (fun r6 hr => ?_)
      refine ml_aload_n (pc := 83) dX8_cardFault_83 rfl mm_get_0 ?_
      refine mb_gr (pc := 84) dX8_cardFault_84 fl_X8_18 hr (fun c8 hr => ?_)
      refine ml_iload_n (pc := 87) dX8_cardFault_87 rfl (mm_get_s (mm_get_s mm_get_0)) ?_
      refine mg_dup2 (pc := 88) dX8_cardFault_88 rfl rfl ?_
      refine mb_ai (pc := 89) dX8_cardFault_89 hr (fun x9 hr => ?_)
      refine mg_iconst (pc := 90) dX8_cardFault_90 kc_1 ?_
      refine mg_iadd (pc := 91) dX8_cardFault_91 ?_
      refine mb_si (pc := 92) dX8_cardFault_92 hr (fun m10 hr => ?_)
      refine mg_iconst (pc := 93) dX8_cardFault_93 kc_0 ?_
      exact mb_iret dX8_cardFault_94 rfl hr
    · exact mg_weak (mm_le_n (mm_le_n (mm_le_n (mm_le_n (mm_le_n mm_le_0))))) (X8_cardFault_b72_ok hz hd h0 hr)
def X8_cardFault_b29 (e : mm_E) (m : mm_V) : Option (Int32 × mm_V) := some ((2 : Int32), m)
theorem X8_cardFault_b29_ok {K : mm_K} {nx : Option Nat} {e : mm_E} (hz : e.2.1 = K.2.2.2.2) {d : Nat} (hd : 1 ≤ d) {a0 : Nat} (h0 : e.1 a0 = some (8, 7)) {m : mm_V} {r : (Int32 × mm_V)} (hr : X8_cardFault_b29 e m = some r) : mm_G K MX8_cardFault d (mm_Fi e.1 nx r) 29 [none, none, none, none, none] [] (e.1, m) nx 0 0 := by
  obtain ⟨d, rfl⟩ : ∃ d', d = d' + 1 := ⟨d - 1, by omega⟩
  unfold X8_cardFault_b29 at hr
  refine mg_iconst (pc := 29) dX8_cardFault_29 kc_2 ?_
  exact mb_iret dX8_cardFault_30 rfl hr
def X8_cardFault (e : mm_E) (a0 : Nat) (i1 : Int32) (i2 : Int32) (m : mm_V) : Option (Int32 × mm_V) := if i1 < 0 then (X8_cardFault_b29 e   m) else ((mm_gr e.1 m 8 7 a0 4).bind fun c1 => (mm_gr e.1 m 10 11 c1 0).bind fun c2 => (mm_ln e.1 c2).bind fun x3 => if x3 ≤ i1 then (X8_cardFault_b29 e   m) else (if i2 < 0 then (X8_cardFault_b29 e   m) else ((mm_gr e.1 m 8 7 a0 2).bind fun c4 => (mm_ln e.1 c4).bind fun x5 => if i2 < x5 then ((mm_gr e.1 m 8 7 a0 4).bind fun c6 => (mm_gr e.1 m 10 11 c6 0).bind fun c7 => (mm_aq e.1 m 23 c7 i1).bind fun c8 => if ¬ i2 = 0 then (X8_cardFault_b50 e a0 i2 c8 (2 : Int32) m) else (X8_cardFault_b50 e a0 i2 c8 (1 : Int32) m)) else (X8_cardFault_b29 e   m))))
theorem X8_cardFault_ok {K : mm_K} {nx : Option Nat} {e : mm_E} (hz : e.2.1 = K.2.2.2.2) {d : Nat} (hd : 1 ≤ d) {a0 : Nat} {i1 : Int32} {i2 : Int32} (h0 : e.1 a0 = some (8, 7)) {m : mm_V} {r : (Int32 × mm_V)} (hr : X8_cardFault e a0 i1 i2 m = some r) : mm_Cn K MX8_cardFault d (mm_Fi e.1 nx r) [.ref a0, .int i1, .int i2] (e.1, m) nx := by
  obtain ⟨d, rfl⟩ : ∃ d', d = d' + 1 := ⟨d - 1, by omega⟩
  refine mm_entry (by decide) (Nat.le_of_ble_eq_true rfl) rfl (fun hok => ?_)
  unfold X8_cardFault at hr
  refine mg_weak (L' := [some (.ref a0), some (.int i1), some (.int i2), none, none]) (mm_le_s (mm_le_s (mm_le_s (mm_le_e (mm_le_e mm_le_0))))) ?_
  refine ml_iload_n (pc := 0) dX8_cardFault_0 rfl (mm_get_s mm_get_0) ?_
  refine mb_if_lt (pc := 1) 29 dX8_cardFault_1 rfl hr (fun hr => ?_) (fun hr => ?_)
  · exact mg_weak (mm_le_n (mm_le_n (mm_le_n (mm_le_n (mm_le_n mm_le_0))))) (X8_cardFault_b29_ok hz hd h0 hr)
  · refine ml_iload_n (pc := 4) dX8_cardFault_4 rfl (mm_get_s mm_get_0) ?_
    refine ml_aload_n (pc := 5) dX8_cardFault_5 rfl mm_get_0 ?_
    refine mb_gr (pc := 6) dX8_cardFault_6 fl_X8_26 hr (fun c1 hr => ?_)
    refine mb_gr (pc := 9) dX8_cardFault_9 fl_X8_139 hr (fun c2 hr => ?_)
    refine mb_ln (pc := 12) dX8_cardFault_12 hr (fun x3 hr => ?_)
    refine mb_icmp_ge (pc := 13) 29 dX8_cardFault_13 rfl hr (fun hr => ?_) (fun hr => ?_)
    · exact mg_weak (mm_le_n (mm_le_n (mm_le_n (mm_le_n (mm_le_n mm_le_0))))) (X8_cardFault_b29_ok hz hd h0 hr)
    · refine ml_iload_n (pc := 16) dX8_cardFault_16 rfl (mm_get_s (mm_get_s mm_get_0)) ?_
      refine mb_if_lt (pc := 17) 29 dX8_cardFault_17 rfl hr (fun hr => ?_) (fun hr => ?_)
      · exact mg_weak (mm_le_n (mm_le_n (mm_le_n (mm_le_n (mm_le_n mm_le_0))))) (X8_cardFault_b29_ok hz hd h0 hr)
      · refine ml_iload_n (pc := 20) dX8_cardFault_20 rfl (mm_get_s (mm_get_s mm_get_0)) ?_
        refine ml_aload_n (pc := 21) dX8_cardFault_21 rfl mm_get_0 ?_
        refine mb_gr (pc := 22) dX8_cardFault_22 fl_X8_18 hr (fun c4 hr => ?_)
        refine mb_ln (pc := 25) dX8_cardFault_25 hr (fun x5 hr => ?_)
        refine mb_icmp_lt (pc := 26) 31 dX8_cardFault_26 rfl hr (fun hr => ?_) (fun hr => ?_)
        · refine ml_aload_n (pc := 31) dX8_cardFault_31 rfl mm_get_0 ?_
          refine mb_gr (pc := 32) dX8_cardFault_32 fl_X8_26 hr (fun c6 hr => ?_)
          refine mb_gr (pc := 35) dX8_cardFault_35 fl_X8_139 hr (fun c7 hr => ?_)
          refine ml_iload_n (pc := 38) dX8_cardFault_38 rfl (mm_get_s mm_get_0) ?_
          refine mb_aq (pc := 39) dX8_cardFault_39 (by decide) (by decide) hr (fun c8 hr => ?_)
          refine ml_astore_n (pc := 40) dX8_cardFault_40 rfl (Nat.le_of_ble_eq_true rfl) (mm_st1_s (mm_st1_s mm_st1_i)) ?_
          refine ml_iload_n (pc := 41) dX8_cardFault_41 rfl (mm_get_s (mm_get_s mm_get_0)) ?_
          refine mb_if_ne (pc := 42) 49 dX8_cardFault_42 rfl hr (fun hr => ?_) (fun hr => ?_)
          · refine mg_iconst (pc := 49) dX8_cardFault_49 kc_2 ?_
            exact mg_weak (mm_le_s (mm_le_n (mm_le_s (mm_le_s (mm_le_n mm_le_0))))) (X8_cardFault_b50_ok hz hd h0 hr)
          · refine mg_iconst (pc := 45) dX8_cardFault_45 kc_1 ?_
            refine mg_goto (pc := 46) 50 dX8_cardFault_46 rfl ?_
            exact mg_weak (mm_le_s (mm_le_n (mm_le_s (mm_le_s (mm_le_n mm_le_0))))) (X8_cardFault_b50_ok hz hd h0 hr)
        · exact mg_weak (mm_le_n (mm_le_n (mm_le_n (mm_le_n (mm_le_n mm_le_0))))) (X8_cardFault_b29_ok hz hd h0 hr)
theorem dX8_cards_0 : decode cX8_cards 0 = .ok (.aload_n 0, 1) := by decide +kernel
theorem dX8_cards_1 : decode cX8_cards 1 = .ok (.getfield 26, 3) := by decide +kernel
theorem dX8_cards_4 : decode cX8_cards 4 = .ok (.iconst 1, 1) := by decide +kernel
theorem dX8_cards_5 : decode cX8_cards 5 = .ok (.putfield 75, 3) := by decide +kernel
theorem dX8_cards_8 : decode cX8_cards 8 = .ok (.aload_n 0, 1) := by decide +kernel
theorem dX8_cards_9 : decode cX8_cards 9 = .ok (.getfield 12, 3) := by decide +kernel
theorem dX8_cards_12 : decode cX8_cards 12 = .ok (.invokevirtual 72, 3) := by decide +kernel
theorem dX8_cards_15 : decode cX8_cards 15 = .ok (.iconst 0, 1) := by decide +kernel
theorem dX8_cards_16 : decode cX8_cards 16 = .ok (.istore_n 2, 1) := by decide +kernel
theorem dX8_cards_17 : decode cX8_cards 17 = .ok (.iload_n 2, 1) := by decide +kernel
theorem dX8_cards_18 : decode cX8_cards 18 = .ok (.sipush 600, 3) := by decide +kernel
theorem dX8_cards_21 : decode cX8_cards 21 = .ok (.if_icmp .gt 95, 3) := by decide +kernel
theorem dX8_cards_24 : decode cX8_cards 24 = .ok (.aload_n 0, 1) := by decide +kernel
theorem dX8_cards_25 : decode cX8_cards 25 = .ok (.getfield 12, 3) := by decide +kernel
theorem dX8_cards_28 : decode cX8_cards 28 = .ok (.getfield 51, 3) := by decide +kernel
theorem dX8_cards_31 : decode cX8_cards 31 = .ok (.bipush 59, 2) := by decide +kernel
theorem dX8_cards_33 : decode cX8_cards 33 = .ok (.if_icmp .eq 83, 3) := by decide +kernel
theorem dX8_cards_36 : decode cX8_cards 36 = .ok (.aload_n 0, 1) := by decide +kernel
theorem dX8_cards_37 : decode cX8_cards 37 = .ok (.getfield 12, 3) := by decide +kernel
theorem dX8_cards_40 : decode cX8_cards 40 = .ok (.ldc 134, 2) := by decide +kernel
theorem dX8_cards_42 : decode cX8_cards 42 = .ok (.invokevirtual 88, 3) := by decide +kernel
theorem dX8_cards_45 : decode cX8_cards 45 = .ok (.istore_n 3, 1) := by decide +kernel
theorem dX8_cards_46 : decode cX8_cards 46 = .ok (.iload_n 3, 1) := by decide +kernel
theorem dX8_cards_47 : decode cX8_cards 47 = .ok (.ifCond .eq 7, 3) := by decide +kernel
theorem dX8_cards_50 : decode cX8_cards 50 = .ok (.iconst 0, 1) := by decide +kernel
theorem dX8_cards_51 : decode cX8_cards 51 = .ok (.goto 15, 3) := by decide +kernel
theorem dX8_cards_54 : decode cX8_cards 54 = .ok (.aload_n 0, 1) := by decide +kernel
theorem dX8_cards_55 : decode cX8_cards 55 = .ok (.iconst 1, 1) := by decide +kernel
theorem dX8_cards_56 : decode cX8_cards 56 = .ok (.aload_n 0, 1) := by decide +kernel
theorem dX8_cards_57 : decode cX8_cards 57 = .ok (.getfield 26, 3) := by decide +kernel
theorem dX8_cards_60 : decode cX8_cards 60 = .ok (.getfield 117, 3) := by decide +kernel
theorem dX8_cards_63 : decode cX8_cards 63 = .ok (.invokevirtual 108, 3) := by decide +kernel
theorem dX8_cards_66 : decode cX8_cards 66 = .ok (.istore 4, 2) := by decide +kernel
theorem dX8_cards_68 : decode cX8_cards 68 = .ok (.iload 4, 2) := by decide +kernel
theorem dX8_cards_70 : decode cX8_cards 70 = .ok (.ifCond .ne 25, 3) := by decide +kernel
theorem dX8_cards_73 : decode cX8_cards 73 = .ok (.aload_n 0, 1) := by decide +kernel
theorem dX8_cards_74 : decode cX8_cards 74 = .ok (.iload_n 1, 1) := by decide +kernel
theorem dX8_cards_75 : decode cX8_cards 75 = .ok (.iload_n 3, 1) := by decide +kernel
theorem dX8_cards_76 : decode cX8_cards 76 = .ok (.ifCond .eq 7, 3) := by decide +kernel
theorem dX8_cards_79 : decode cX8_cards 79 = .ok (.iconst 0, 1) := by decide +kernel
theorem dX8_cards_80 : decode cX8_cards 80 = .ok (.goto 10, 3) := by decide +kernel
theorem dX8_cards_83 : decode cX8_cards 83 = .ok (.aload_n 0, 1) := by decide +kernel
theorem dX8_cards_84 : decode cX8_cards 84 = .ok (.getfield 12, 3) := by decide +kernel
theorem dX8_cards_87 : decode cX8_cards 87 = .ok (.getfield 112, 3) := by decide +kernel
theorem dX8_cards_90 : decode cX8_cards 90 = .ok (.invokevirtual 136, 3) := by decide +kernel
theorem dX8_cards_93 : decode cX8_cards 93 = .ok (.istore 4, 2) := by decide +kernel
theorem dX8_cards_95 : decode cX8_cards 95 = .ok (.iload 4, 2) := by decide +kernel
theorem dX8_cards_97 : decode cX8_cards 97 = .ok (.ifCond .eq 6, 3) := by decide +kernel
theorem dX8_cards_100 : decode cX8_cards 100 = .ok (.iload 4, 2) := by decide +kernel
theorem dX8_cards_102 : decode cX8_cards 102 = .ok (.ireturn, 1) := by decide +kernel
theorem dX8_cards_103 : decode cX8_cards 103 = .ok (.aload_n 0, 1) := by decide +kernel
theorem dX8_cards_104 : decode cX8_cards 104 = .ok (.getfield 12, 3) := by decide +kernel
theorem dX8_cards_107 : decode cX8_cards 107 = .ok (.invokevirtual 72, 3) := by decide +kernel
theorem dX8_cards_110 : decode cX8_cards 110 = .ok (.iinc 2 1, 3) := by decide +kernel
theorem dX8_cards_113 : decode cX8_cards 113 = .ok (.goto (-96), 3) := by decide +kernel
theorem dX8_cards_116 : decode cX8_cards 116 = .ok (.iconst 0, 1) := by decide +kernel
theorem dX8_cards_117 : decode cX8_cards 117 = .ok (.ireturn, 1) := by decide +kernel
def X8_cards_b116 (e : mm_E) (m : mm_V) : Option (Int32 × mm_V) := some ((0 : Int32), m)
theorem X8_cards_b116_ok {K : mm_K} {nx : Option Nat} {e : mm_E} (hz : e.2.1 = K.2.2.2.2) {d : Nat} (hd : 10 ≤ d) {a0 : Nat} (h0 : e.1 a0 = some (8, 7)) {m : mm_V} {r : (Int32 × mm_V)} (hr : X8_cards_b116 e m = some r) : mm_G K MX8_cards d (mm_Fi e.1 nx r) 116 [none, none, none, none, none] [] (e.1, m) nx 0 0 := by
  obtain ⟨d, rfl⟩ : ∃ d', d = d' + 1 := ⟨d - 1, by omega⟩
  unfold X8_cards_b116 at hr
  refine mg_iconst (pc := 116) dX8_cards_116 kc_0 ?_
  exact mb_iret dX8_cards_117 rfl hr
def X8_cards_b95 (e : mm_E) (k17 : Int32 → mm_V → Option (Int32 × mm_V)) (a0 : Nat) (i1 : Int32) (i2 : Int32) (i4 : Int32) (m : mm_V) : Option (Int32 × mm_V) := if i4 = 0 then ((mm_gr e.1 m 8 7 a0 0).bind fun c1 => if e.1 c1 = some (9, 6) then ((X9_next e c1 m).bind fun r2 => k17 (i2 + 1) r2) else none) else (some (i4, m))
theorem X8_cards_b95_ok {K : mm_K} {nx : Option Nat} {e : mm_E} (hz : e.2.1 = K.2.2.2.2) {d : Nat} (hd : 10 ≤ d) {a0 : Nat} {i1 : Int32} {i2 : Int32} {i4 : Int32} (h0 : e.1 a0 = some (8, 7)) {k17 : Int32 → mm_V → Option (Int32 × mm_V)} (hk17 : ∀ (w2 : Int32) (m : mm_V) (r : (Int32 × mm_V)), k17 w2 m = some r → mm_G K MX8_cards d (mm_Fi e.1 nx r) 17 [some (.ref a0), some (.int i1), some (.int w2), none, none] [] (e.1, m) nx 0 0) {m : mm_V} {r : (Int32 × mm_V)} (hr : X8_cards_b95 e k17 a0 i1 i2 i4 m = some r) : mm_G K MX8_cards d (mm_Fi e.1 nx r) 95 [some (.ref a0), some (.int i1), some (.int i2), none, some (.int i4)] [] (e.1, m) nx 0 0 := by
  obtain ⟨d, rfl⟩ : ∃ d', d = d' + 1 := ⟨d - 1, by omega⟩
  unfold X8_cards_b95 at hr
  refine ml_iload (pc := 95) dX8_cards_95 (mm_get_s (mm_get_s (mm_get_s (mm_get_s mm_get_0)))) ?_
  refine mb_if_eq (pc := 97) 103 dX8_cards_97 rfl hr (fun hr => ?_) (fun hr => ?_)
  · refine ml_aload_n (pc := 103) dX8_cards_103 rfl mm_get_0 ?_
    refine mb_gr (pc := 104) dX8_cards_104 fl_X8_12 hr (fun c1 hr => ?_)
    refine mb_ck hr (fun hb3 hr => ?_)
    refine mb_cVv (pc := 107) (As := []) (rest := []) dX8_cards_107 cw_X8_72 hb3 hr (fun v hv => X9_next_ok hz (by omega) hb3 hv) rfl (Nat.le_of_ble_eq_true rfl) (Nat.zero_le _) (Nat.zero_le _) (fun r2 hr => ?_)
    refine ml_iinc (pc := 110) dX8_cards_110 (mm_get_s (mm_get_s mm_get_0)) (congrArg (fun z => i2 + z) kc_1) (Nat.le_of_ble_eq_true rfl) (mm_st1_s mm_st1_i) ?_
    refine mg_goto (pc := 113) 17 dX8_cards_113 rfl ?_
    exact mg_weak (mm_le_s (mm_le_s (mm_le_s (mm_le_n (mm_le_n mm_le_0))))) (hk17 _ _ _ hr)
  · refine ml_iload (pc := 100) dX8_cards_100 (mm_get_s (mm_get_s (mm_get_s (mm_get_s mm_get_0)))) ?_
    exact mb_iret dX8_cards_102 rfl hr
def X8_cards_b90 (e : mm_E) (k17 : Int32 → mm_V → Option (Int32 × mm_V)) (a0 : Nat) (i1 : Int32) (i2 : Int32) (t0 : Nat) (t1 : Int32) (t2 : Int32) (m : mm_V) : Option (Int32 × mm_V) := if e.1 t0 = some (8, 7) then ((X8_cardFault e t0 t1 t2 m).bind fun r1 => X8_cards_b95 e k17 a0 i1 i2 r1.1  r1.2) else none
theorem X8_cards_b90_ok {K : mm_K} {nx : Option Nat} {e : mm_E} (hz : e.2.1 = K.2.2.2.2) {d : Nat} (hd : 10 ≤ d) {a0 : Nat} {i1 : Int32} {i2 : Int32} {t0 : Nat} {t1 : Int32} {t2 : Int32} (h0 : e.1 a0 = some (8, 7)) {k17 : Int32 → mm_V → Option (Int32 × mm_V)} (hk17 : ∀ (w2 : Int32) (m : mm_V) (r : (Int32 × mm_V)), k17 w2 m = some r → mm_G K MX8_cards d (mm_Fi e.1 nx r) 17 [some (.ref a0), some (.int i1), some (.int w2), none, none] [] (e.1, m) nx 0 0) {m : mm_V} {r : (Int32 × mm_V)} (hr : X8_cards_b90 e k17 a0 i1 i2 t0 t1 t2 m = some r) : mm_G K MX8_cards d (mm_Fi e.1 nx r) 90 [some (.ref a0), some (.int i1), some (.int i2), none, none] [.int t2, .int t1, .ref t0] (e.1, m) nx 0 0 := by
  obtain ⟨d, rfl⟩ : ∃ d', d = d' + 1 := ⟨d - 1, by omega⟩
  unfold X8_cards_b90 at hr
  refine mb_ck hr (fun hb2 hr => ?_)
  refine mb_cVi (pc := 90) (As := [.int t1, .int t2]) (rest := []) dX8_cards_90 cw_X8_136 hb2 hr (fun v hv => X8_cardFault_ok hz (by omega) hb2 hv) rfl (Nat.le_of_ble_eq_true rfl) (Nat.zero_le _) (Nat.zero_le _) (fun r1 hr => ?_)
  refine ml_istore (pc := 93) dX8_cards_93 (Nat.le_of_ble_eq_true rfl) (mm_st1_s (mm_st1_s (mm_st1_s mm_st1_n))) ?_
  exact mg_weak (mm_le_s (mm_le_s (mm_le_s (mm_le_n (mm_le_s mm_le_0))))) (X8_cards_b95_ok hz hd h0 hk17 hr)
def X8_cards_b66 (e : mm_E) (k17 : Int32 → mm_V → Option (Int32 × mm_V)) (a0 : Nat) (i1 : Int32) (i2 : Int32) (i3 : Int32) (t0 : Int32) (m : mm_V) : Option (Int32 × mm_V) := if ¬ t0 = 0 then (X8_cards_b95 e k17 a0 i1 i2 t0  m) else (if i3 = 0 then ((mm_gr e.1 m 8 7 a0 0).bind fun c1 => (mm_gi e.1 m 9 6 c1 5).bind fun x2 => X8_cards_b90 e k17 a0 i1 i2 a0 i1 x2 m) else (X8_cards_b90 e k17 a0 i1 i2 a0 i1 (0 : Int32) m))
theorem X8_cards_b66_ok {K : mm_K} {nx : Option Nat} {e : mm_E} (hz : e.2.1 = K.2.2.2.2) {d : Nat} (hd : 10 ≤ d) {a0 : Nat} {i1 : Int32} {i2 : Int32} {i3 : Int32} {t0 : Int32} (h0 : e.1 a0 = some (8, 7)) {k17 : Int32 → mm_V → Option (Int32 × mm_V)} (hk17 : ∀ (w2 : Int32) (m : mm_V) (r : (Int32 × mm_V)), k17 w2 m = some r → mm_G K MX8_cards d (mm_Fi e.1 nx r) 17 [some (.ref a0), some (.int i1), some (.int w2), none, none] [] (e.1, m) nx 0 0) {m : mm_V} {r : (Int32 × mm_V)} (hr : X8_cards_b66 e k17 a0 i1 i2 i3 t0 m = some r) : mm_G K MX8_cards d (mm_Fi e.1 nx r) 66 [some (.ref a0), some (.int i1), some (.int i2), some (.int i3), none] [.int t0] (e.1, m) nx 0 0 := by
  obtain ⟨d, rfl⟩ : ∃ d', d = d' + 1 := ⟨d - 1, by omega⟩
  unfold X8_cards_b66 at hr
  refine ml_istore (pc := 66) dX8_cards_66 (Nat.le_of_ble_eq_true rfl) (mm_st1_s (mm_st1_s (mm_st1_s mm_st1_i))) ?_
  refine ml_iload (pc := 68) dX8_cards_68 (mm_get_s (mm_get_s (mm_get_s (mm_get_s mm_get_0)))) ?_
  refine mb_if_ne (pc := 70) 95 dX8_cards_70 rfl hr (fun hr => ?_) (fun hr => ?_)
  · exact mg_weak (mm_le_s (mm_le_s (mm_le_s (mm_le_n (mm_le_s mm_le_0))))) (X8_cards_b95_ok hz hd h0 hk17 hr)
  · refine ml_aload_n (pc := 73) dX8_cards_73 rfl mm_get_0 ?_
    refine ml_iload_n (pc := 74) dX8_cards_74 rfl (mm_get_s mm_get_0) ?_
    refine ml_iload_n (pc := 75) dX8_cards_75 rfl (mm_get_s (mm_get_s (mm_get_s mm_get_0))) ?_
    refine mb_if_eq (pc := 76) 83 dX8_cards_76 rfl hr (fun hr => ?_) (fun hr => ?_)
    · refine ml_aload_n (pc := 83) dX8_cards_83 rfl mm_get_0 ?_
      refine mb_gr (pc := 84) dX8_cards_84 fl_X8_12 hr (fun c1 hr => ?_)
      refine mb_gi (pc := 87) dX8_cards_87 fl_X8_112 hr (fun x2 hr => ?_)
      exact mg_weak (mm_le_s (mm_le_s (mm_le_s (mm_le_n (mm_le_n mm_le_0))))) (X8_cards_b90_ok hz hd h0 hk17 hr)
    · refine mg_iconst (pc := 79) dX8_cards_79 kc_0 ?_
      refine mg_goto (pc := 80) 90 dX8_cards_80 rfl ?_
      exact mg_weak (mm_le_s (mm_le_s (mm_le_s (mm_le_n (mm_le_n mm_le_0))))) (X8_cards_b90_ok hz hd h0 hk17 hr)
def X8_cards_L17 (e : mm_E) (a0 : Nat) (i1 : Int32) : Nat → Int32 → mm_V → Option (Int32 × mm_V)
  | 0, _, _ => none
  | n + 1, i2, m => if (600 : Int32) < i2 then (X8_cards_b116 e   m) else ((mm_gr e.1 m 8 7 a0 0).bind fun c1 => (mm_gi e.1 m 9 6 c1 4).bind fun x2 => if x2 = (59 : Int32) then (X8_cards_b116 e   m) else ((mm_gr e.1 m 8 7 a0 0).bind fun c3 => if e.1 c3 = some (9, 6) then ((X9_isWord e c3 (e.2.1 107) m).bind fun r4 => if r4.1 = 0 then ((mm_gr e.1 r4.2 8 7 a0 4).bind fun c6 => (mm_gi e.1 r4.2 10 11 c6 7).bind fun x7 => (X8_numberFault e a0 (1 : Int32) x7 r4.2).bind fun r8 => X8_cards_b66 e (X8_cards_L17 e a0 i1 n) a0 i1 i2 r4.1 r8.1 r8.2) else (X8_cards_b66 e (X8_cards_L17 e a0 i1 n) a0 i1 i2 r4.1 (0 : Int32) r4.2)) else none))
theorem X8_cards_L17_ok {K : mm_K} {nx : Option Nat} {e : mm_E} (hz : e.2.1 = K.2.2.2.2) {d : Nat} (hd : 10 ≤ d) {a0 : Nat} {i1 : Int32} (h0 : e.1 a0 = some (8, 7)) : ∀ (n : Nat) (i2 : Int32) (m : mm_V) (r : (Int32 × mm_V)), X8_cards_L17 e a0 i1 n i2 m = some r → mm_G K MX8_cards d (mm_Fi e.1 nx r) 17 [some (.ref a0), some (.int i1), some (.int i2), none, none] [] (e.1, m) nx 0 0 := by
  obtain ⟨d, rfl⟩ : ∃ d', d = d' + 1 := ⟨d - 1, by omega⟩
  intro n
  induction n with
  | zero => intro i2 m r hr; unfold X8_cards_L17 at hr; cases hr
  | succ n ih =>
    intro i2 m r hr
    unfold X8_cards_L17 at hr
    refine ml_iload_n (pc := 17) dX8_cards_17 rfl (mm_get_s (mm_get_s mm_get_0)) ?_
    refine mg_sipush (pc := 18) dX8_cards_18 ks_600 ?_
    refine mb_icmp_gt (pc := 21) 116 dX8_cards_21 rfl hr (fun hr => ?_) (fun hr => ?_)
    · exact mg_weak (mm_le_n (mm_le_n (mm_le_n (mm_le_n (mm_le_n mm_le_0))))) (X8_cards_b116_ok hz hd h0 hr)
    · refine ml_aload_n (pc := 24) dX8_cards_24 rfl mm_get_0 ?_
      refine mb_gr (pc := 25) dX8_cards_25 fl_X8_12 hr (fun c1 hr => ?_)
      refine mb_gi (pc := 28) dX8_cards_28 fl_X8_51 hr (fun x2 hr => ?_)
      refine mg_bipush (pc := 31) dX8_cards_31 kb_59 ?_
      refine mb_icmp_eq (pc := 33) 116 dX8_cards_33 rfl hr (fun hr => ?_) (fun hr => ?_)
      · exact mg_weak (mm_le_n (mm_le_n (mm_le_n (mm_le_n (mm_le_n mm_le_0))))) (X8_cards_b116_ok hz hd h0 hr)
      · refine ml_aload_n (pc := 36) dX8_cards_36 rfl mm_get_0 ?_
        refine mb_gr (pc := 37) dX8_cards_37 fl_X8_12 hr (fun c3 hr => ?_)
        refine mg_ldcS (pc := 40) (z := e.2.1) (i := 7) (j := 107) hz rfl dX8_cards_40 (by decide) rfl ?_
        refine mb_ck hr (fun hb5 hr => ?_)
        refine mb_cVi (pc := 42) (As := [.ref (e.2.1 107)]) (rest := []) dX8_cards_42 cw_X8_88 hb5 hr (fun v hv => X9_isWord_ok hz (by omega) hb5 hv) rfl (Nat.le_of_ble_eq_true rfl) (Nat.zero_le _) (Nat.zero_le _) (fun r4 hr => ?_)
        refine ml_istore_n (pc := 45) dX8_cards_45 rfl (Nat.le_of_ble_eq_true rfl) (mm_st1_s (mm_st1_s mm_st1_i)) ?_
        refine ml_iload_n (pc := 46) dX8_cards_46 rfl (mm_get_s (mm_get_s (mm_get_s mm_get_0))) ?_
        refine mb_if_eq (pc := 47) 54 dX8_cards_47 rfl hr (fun hr => ?_) (fun hr => ?_)
        · refine ml_aload_n (pc := 54) dX8_cards_54 rfl mm_get_0 ?_
          refine mg_iconst (pc := 55) dX8_cards_55 kc_1 ?_
          refine ml_aload_n (pc := 56) dX8_cards_56 rfl mm_get_0 ?_
          refine mb_gr (pc := 57) dX8_cards_57 fl_X8_26 hr (fun c6 hr => ?_)
          refine mb_gi (pc := 60) dX8_cards_60 fl_X8_117 hr (fun x7 hr => ?_)
          refine mb_cVi (pc := 63) (As := [.int (1 : Int32), .int x7]) (rest := []) dX8_cards_63 cw_X8_108 h0 hr (fun v hv => X8_numberFault_ok hz (by omega) h0 hv) rfl (Nat.le_of_ble_eq_true rfl) (Nat.zero_le _) (Nat.zero_le _) (fun r8 hr => ?_)
          exact mg_weak (mm_le_s (mm_le_s (mm_le_s (mm_le_s (mm_le_n mm_le_0))))) (X8_cards_b66_ok hz hd h0 ih hr)
        · refine mg_iconst (pc := 50) dX8_cards_50 kc_0 ?_
          refine mg_goto (pc := 51) 66 dX8_cards_51 rfl ?_
          exact mg_weak (mm_le_s (mm_le_s (mm_le_s (mm_le_s (mm_le_n mm_le_0))))) (X8_cards_b66_ok hz hd h0 ih hr)
def X8_cards (e : mm_E) (a0 : Nat) (i1 : Int32) (m : mm_V) : Option (Int32 × mm_V) := (mm_gr e.1 m 8 7 a0 4).bind fun c1 => (mm_pz e.1 m 10 11 c1 10 (1 : Int32)).bind fun m2 => (mm_gr e.1 m2 8 7 a0 0).bind fun c3 => if e.1 c3 = some (9, 6) then ((X9_next e c3 m2).bind fun r4 => X8_cards_L17 e a0 i1 e.2.2 (0 : Int32) r4) else none
theorem X8_cards_ok {K : mm_K} {nx : Option Nat} {e : mm_E} (hz : e.2.1 = K.2.2.2.2) {d : Nat} (hd : 10 ≤ d) {a0 : Nat} {i1 : Int32} (h0 : e.1 a0 = some (8, 7)) {m : mm_V} {r : (Int32 × mm_V)} (hr : X8_cards e a0 i1 m = some r) : mm_Cn K MX8_cards d (mm_Fi e.1 nx r) [.ref a0, .int i1] (e.1, m) nx := by
  obtain ⟨d, rfl⟩ : ∃ d', d = d' + 1 := ⟨d - 1, by omega⟩
  refine mm_entry (by decide) (Nat.le_of_ble_eq_true rfl) rfl (fun hok => ?_)
  unfold X8_cards at hr
  refine mg_weak (L' := [some (.ref a0), some (.int i1), none, none, none]) (mm_le_s (mm_le_s (mm_le_e (mm_le_e (mm_le_e mm_le_0))))) ?_
  refine ml_aload_n (pc := 0) dX8_cards_0 rfl mm_get_0 ?_
  refine mb_gr (pc := 1) dX8_cards_1 fl_X8_26 hr (fun c1 hr => ?_)
  refine mg_iconst (pc := 4) dX8_cards_4 kc_1 ?_
  refine mb_pz (pc := 5) dX8_cards_5 fp_X8_75 hr (fun m2 hr => ?_)
  refine ml_aload_n (pc := 8) dX8_cards_8 rfl mm_get_0 ?_
  refine mb_gr (pc := 9) dX8_cards_9 fl_X8_12 hr (fun c3 hr => ?_)
  refine mb_ck hr (fun hb5 hr => ?_)
  refine mb_cVv (pc := 12) (As := []) (rest := []) dX8_cards_12 cw_X8_72 hb5 hr (fun v hv => X9_next_ok hz (by omega) hb5 hv) rfl (Nat.le_of_ble_eq_true rfl) (Nat.zero_le _) (Nat.zero_le _) (fun r4 hr => ?_)
  refine mg_iconst (pc := 15) dX8_cards_15 kc_0 ?_
  refine ml_istore_n (pc := 16) dX8_cards_16 rfl (Nat.le_of_ble_eq_true rfl) (mm_st1_s mm_st1_i) ?_
  exact mg_weak (mm_le_s (mm_le_s (mm_le_s (mm_le_n (mm_le_n mm_le_0))))) (X8_cards_L17_ok hz hd h0 _ _ _ _ hr)
theorem dX10_setWeight_0 : decode cX10_setWeight 0 = .ok (.iload_n 1, 1) := by decide +kernel
theorem dX10_setWeight_1 : decode cX10_setWeight 1 = .ok (.bipush 6, 2) := by decide +kernel
theorem dX10_setWeight_3 : decode cX10_setWeight 3 = .ok (.imul, 1) := by decide +kernel
theorem dX10_setWeight_4 : decode cX10_setWeight 4 = .ok (.iload_n 2, 1) := by decide +kernel
theorem dX10_setWeight_5 : decode cX10_setWeight 5 = .ok (.iadd, 1) := by decide +kernel
theorem dX10_setWeight_6 : decode cX10_setWeight 6 = .ok (.istore 4, 2) := by decide +kernel
theorem dX10_setWeight_8 : decode cX10_setWeight 8 = .ok (.iload 4, 2) := by decide +kernel
theorem dX10_setWeight_10 : decode cX10_setWeight 10 = .ok (.ifCond .lt 21, 3) := by decide +kernel
theorem dX10_setWeight_13 : decode cX10_setWeight 13 = .ok (.iload 4, 2) := by decide +kernel
theorem dX10_setWeight_15 : decode cX10_setWeight 15 = .ok (.aload_n 0, 1) := by decide +kernel
theorem dX10_setWeight_16 : decode cX10_setWeight 16 = .ok (.getfield 17, 3) := by decide +kernel
theorem dX10_setWeight_19 : decode cX10_setWeight 19 = .ok (.arraylength, 1) := by decide +kernel
theorem dX10_setWeight_20 : decode cX10_setWeight 20 = .ok (.if_icmp .ge 11, 3) := by decide +kernel
theorem dX10_setWeight_23 : decode cX10_setWeight 23 = .ok (.aload_n 0, 1) := by decide +kernel
theorem dX10_setWeight_24 : decode cX10_setWeight 24 = .ok (.getfield 17, 3) := by decide +kernel
theorem dX10_setWeight_27 : decode cX10_setWeight 27 = .ok (.iload 4, 2) := by decide +kernel
theorem dX10_setWeight_29 : decode cX10_setWeight 29 = .ok (.iload_n 3, 1) := by decide +kernel
theorem dX10_setWeight_30 : decode cX10_setWeight 30 = .ok (.iastore, 1) := by decide +kernel
theorem dX10_setWeight_31 : decode cX10_setWeight 31 = .ok (.return_, 1) := by decide +kernel
def X10_setWeight_b31 (e : mm_E) (m : mm_V) : Option mm_V := some m
theorem X10_setWeight_b31_ok {K : mm_K} {nx : Option Nat} {e : mm_E} (hz : e.2.1 = K.2.2.2.2) {d : Nat} (hd : 0 ≤ d) {a0 : Nat} (h0 : e.1 a0 = some (10, 11)) {m : mm_V} {r : mm_V} (hr : X10_setWeight_b31 e m = some r) : mm_G K MX10_setWeight d (mm_Fv e.1 nx r) 31 [none, none, none, none, none] [] (e.1, m) nx 0 0 := by
  unfold X10_setWeight_b31 at hr
  exact mb_vret dX10_setWeight_31 rfl hr
def X10_setWeight (e : mm_E) (a0 : Nat) (i1 : Int32) (i2 : Int32) (i3 : Int32) (m : mm_V) : Option mm_V := if ((i1 * (6 : Int32)) + i2) < 0 then (X10_setWeight_b31 e   m) else ((mm_gr e.1 m 10 11 a0 1).bind fun c1 => (mm_ln e.1 c1).bind fun x2 => if x2 ≤ ((i1 * (6 : Int32)) + i2) then (X10_setWeight_b31 e   m) else ((mm_gr e.1 m 10 11 a0 1).bind fun c3 => (mm_si e.1 m c3 ((i1 * (6 : Int32)) + i2) i3).bind fun m4 => X10_setWeight_b31 e   m4))
theorem X10_setWeight_ok {K : mm_K} {nx : Option Nat} {e : mm_E} (hz : e.2.1 = K.2.2.2.2) {d : Nat} (hd : 0 ≤ d) {a0 : Nat} {i1 : Int32} {i2 : Int32} {i3 : Int32} (h0 : e.1 a0 = some (10, 11)) {m : mm_V} {r : mm_V} (hr : X10_setWeight e a0 i1 i2 i3 m = some r) : mm_Cn K MX10_setWeight d (mm_Fv e.1 nx r) [.ref a0, .int i1, .int i2, .int i3] (e.1, m) nx := by
  refine mm_entry (by decide) (Nat.le_of_ble_eq_true rfl) rfl (fun hok => ?_)
  unfold X10_setWeight at hr
  refine mg_weak (L' := [some (.ref a0), some (.int i1), some (.int i2), some (.int i3), none]) (mm_le_s (mm_le_s (mm_le_s (mm_le_s (mm_le_e mm_le_0))))) ?_
  refine ml_iload_n (pc := 0) dX10_setWeight_0 rfl (mm_get_s mm_get_0) ?_
  refine mg_bipush (pc := 1) dX10_setWeight_1 kb_6 ?_
  refine mg_imul (pc := 3) dX10_setWeight_3 ?_
  refine ml_iload_n (pc := 4) dX10_setWeight_4 rfl (mm_get_s (mm_get_s mm_get_0)) ?_
  refine mg_iadd (pc := 5) dX10_setWeight_5 ?_
  refine ml_istore (pc := 6) dX10_setWeight_6 (Nat.le_of_ble_eq_true rfl) (mm_st1_s (mm_st1_s (mm_st1_s mm_st1_i))) ?_
  refine ml_iload (pc := 8) dX10_setWeight_8 (mm_get_s (mm_get_s (mm_get_s (mm_get_s mm_get_0)))) ?_
  refine mb_if_lt (pc := 10) 31 dX10_setWeight_10 rfl hr (fun hr => ?_) (fun hr => ?_)
  · exact mg_weak (mm_le_n (mm_le_n (mm_le_n (mm_le_n (mm_le_n mm_le_0))))) (X10_setWeight_b31_ok hz hd h0 hr)
  · refine ml_iload (pc := 13) dX10_setWeight_13 (mm_get_s (mm_get_s (mm_get_s (mm_get_s mm_get_0)))) ?_
    refine ml_aload_n (pc := 15) dX10_setWeight_15 rfl mm_get_0 ?_
    refine mb_gr (pc := 16) dX10_setWeight_16 fl_X10_17 hr (fun c1 hr => ?_)
    refine mb_ln (pc := 19) dX10_setWeight_19 hr (fun x2 hr => ?_)
    refine mb_icmp_ge (pc := 20) 31 dX10_setWeight_20 rfl hr (fun hr => ?_) (fun hr => ?_)
    · exact mg_weak (mm_le_n (mm_le_n (mm_le_n (mm_le_n (mm_le_n mm_le_0))))) (X10_setWeight_b31_ok hz hd h0 hr)
    · refine ml_aload_n (pc := 23) dX10_setWeight_23 rfl mm_get_0 ?_
      refine mb_gr (pc := 24) dX10_setWeight_24 fl_X10_17 hr (fun c3 hr => ?_)
      refine ml_iload (pc := 27) dX10_setWeight_27 (mm_get_s (mm_get_s (mm_get_s (mm_get_s mm_get_0)))) ?_
      refine ml_iload_n (pc := 29) dX10_setWeight_29 rfl (mm_get_s (mm_get_s (mm_get_s mm_get_0))) ?_
      refine mb_si (pc := 30) dX10_setWeight_30 hr (fun m4 hr => ?_)
      exact mg_weak (mm_le_n (mm_le_n (mm_le_n (mm_le_n (mm_le_n mm_le_0))))) (X10_setWeight_b31_ok hz hd h0 hr)
theorem dX8_weights_0 : decode cX8_weights 0 = .ok (.iconst 0, 1) := by decide +kernel
theorem dX8_weights_1 : decode cX8_weights 1 = .ok (.istore_n 2, 1) := by decide +kernel
theorem dX8_weights_2 : decode cX8_weights 2 = .ok (.iload_n 2, 1) := by decide +kernel
theorem dX8_weights_3 : decode cX8_weights 3 = .ok (.bipush 6, 2) := by decide +kernel
theorem dX8_weights_5 : decode cX8_weights 5 = .ok (.if_icmp .ge 46, 3) := by decide +kernel
theorem dX8_weights_8 : decode cX8_weights 8 = .ok (.aload_n 0, 1) := by decide +kernel
theorem dX8_weights_9 : decode cX8_weights 9 = .ok (.getfield 12, 3) := by decide +kernel
theorem dX8_weights_12 : decode cX8_weights 12 = .ok (.invokevirtual 72, 3) := by decide +kernel
theorem dX8_weights_15 : decode cX8_weights 15 = .ok (.aload_n 0, 1) := by decide +kernel
theorem dX8_weights_16 : decode cX8_weights 16 = .ok (.iconst 0, 1) := by decide +kernel
theorem dX8_weights_17 : decode cX8_weights 17 = .ok (.bipush 99, 2) := by decide +kernel
theorem dX8_weights_19 : decode cX8_weights 19 = .ok (.invokevirtual 108, 3) := by decide +kernel
theorem dX8_weights_22 : decode cX8_weights 22 = .ok (.istore_n 3, 1) := by decide +kernel
theorem dX8_weights_23 : decode cX8_weights 23 = .ok (.iload_n 3, 1) := by decide +kernel
theorem dX8_weights_24 : decode cX8_weights 24 = .ok (.ifCond .eq 5, 3) := by decide +kernel
theorem dX8_weights_27 : decode cX8_weights 27 = .ok (.iload_n 3, 1) := by decide +kernel
theorem dX8_weights_28 : decode cX8_weights 28 = .ok (.ireturn, 1) := by decide +kernel
theorem dX8_weights_29 : decode cX8_weights 29 = .ok (.aload_n 0, 1) := by decide +kernel
theorem dX8_weights_30 : decode cX8_weights 30 = .ok (.getfield 26, 3) := by decide +kernel
theorem dX8_weights_33 : decode cX8_weights 33 = .ok (.iload_n 1, 1) := by decide +kernel
theorem dX8_weights_34 : decode cX8_weights 34 = .ok (.iload_n 2, 1) := by decide +kernel
theorem dX8_weights_35 : decode cX8_weights 35 = .ok (.aload_n 0, 1) := by decide +kernel
theorem dX8_weights_36 : decode cX8_weights 36 = .ok (.getfield 12, 3) := by decide +kernel
theorem dX8_weights_39 : decode cX8_weights 39 = .ok (.getfield 112, 3) := by decide +kernel
theorem dX8_weights_42 : decode cX8_weights 42 = .ok (.invokevirtual 155, 3) := by decide +kernel
theorem dX8_weights_45 : decode cX8_weights 45 = .ok (.iinc 2 1, 3) := by decide +kernel
theorem dX8_weights_48 : decode cX8_weights 48 = .ok (.goto (-46), 3) := by decide +kernel
theorem dX8_weights_51 : decode cX8_weights 51 = .ok (.aload_n 0, 1) := by decide +kernel
theorem dX8_weights_52 : decode cX8_weights 52 = .ok (.invokevirtual 121, 3) := by decide +kernel
theorem dX8_weights_55 : decode cX8_weights 55 = .ok (.ireturn, 1) := by decide +kernel
def X8_weights_L2 (e : mm_E) (a0 : Nat) (i1 : Int32) : Nat → Int32 → mm_V → Option (Int32 × mm_V)
  | 0, _, _ => none
  | n + 1, i2, m => if (6 : Int32) ≤ i2 then ((X8_endFault e a0 m).bind fun r1 => some (r1.1, r1.2)) else ((mm_gr e.1 m 8 7 a0 0).bind fun c2 => if e.1 c2 = some (9, 6) then ((X9_next e c2 m).bind fun r3 => (X8_numberFault e a0 (0 : Int32) (99 : Int32) r3).bind fun r5 => if r5.1 = 0 then ((mm_gr e.1 r5.2 8 7 a0 4).bind fun c6 => (mm_gr e.1 r5.2 8 7 a0 0).bind fun c7 => (mm_gi e.1 r5.2 9 6 c7 5).bind fun x8 => if e.1 c6 = some (10, 11) then ((X10_setWeight e c6 i1 i2 x8 r5.2).bind fun r9 => X8_weights_L2 e a0 i1 n (i2 + 1) r9) else none) else (some (r5.1, r5.2))) else none)
theorem X8_weights_L2_ok {K : mm_K} {nx : Option Nat} {e : mm_E} (hz : e.2.1 = K.2.2.2.2) {d : Nat} (hd : 4 ≤ d) {a0 : Nat} {i1 : Int32} (h0 : e.1 a0 = some (8, 7)) : ∀ (n : Nat) (i2 : Int32) (m : mm_V) (r : (Int32 × mm_V)), X8_weights_L2 e a0 i1 n i2 m = some r → mm_G K MX8_weights d (mm_Fi e.1 nx r) 2 [some (.ref a0), some (.int i1), some (.int i2), none] [] (e.1, m) nx 0 0 := by
  obtain ⟨d, rfl⟩ : ∃ d', d = d' + 1 := ⟨d - 1, by omega⟩
  intro n
  induction n with
  | zero => intro i2 m r hr; unfold X8_weights_L2 at hr; cases hr
  | succ n ih =>
    intro i2 m r hr
    unfold X8_weights_L2 at hr
    refine ml_iload_n (pc := 2) dX8_weights_2 rfl (mm_get_s (mm_get_s mm_get_0)) ?_
    refine mg_bipush (pc := 3) dX8_weights_3 kb_6 ?_
    refine mb_icmp_ge (pc := 5) 51 dX8_weights_5 rfl hr (fun hr => ?_) (fun hr => ?_)
    · refine ml_aload_n (pc := 51) dX8_weights_51 rfl mm_get_0 ?_
      refine mb_cVi (pc := 52) (As := []) (rest := []) dX8_weights_52 cw_X8_121 h0 hr (fun v hv => X8_endFault_ok hz (by omega) h0 hv) rfl (Nat.le_of_ble_eq_true rfl) (Nat.zero_le _) (Nat.zero_le _) (fun r1 hr => ?_)
      exact mb_iret dX8_weights_55 rfl hr
    · refine ml_aload_n (pc := 8) dX8_weights_8 rfl mm_get_0 ?_
      refine mb_gr (pc := 9) dX8_weights_9 fl_X8_12 hr (fun c2 hr => ?_)
      refine mb_ck hr (fun hb4 hr => ?_)
      refine mb_cVv (pc := 12) (As := []) (rest := []) dX8_weights_12 cw_X8_72 hb4 hr (fun v hv => X9_next_ok hz (by omega) hb4 hv) rfl (Nat.le_of_ble_eq_true rfl) (Nat.zero_le _) (Nat.zero_le _) (fun r3 hr => ?_)
      refine ml_aload_n (pc := 15) dX8_weights_15 rfl mm_get_0 ?_
      refine mg_iconst (pc := 16) dX8_weights_16 kc_0 ?_
      refine mg_bipush (pc := 17) dX8_weights_17 kb_99 ?_
      refine mb_cVi (pc := 19) (As := [.int (0 : Int32), .int (99 : Int32)]) (rest := []) dX8_weights_19 cw_X8_108 h0 hr (fun v hv => X8_numberFault_ok hz (by omega) h0 hv) rfl (Nat.le_of_ble_eq_true rfl) (Nat.zero_le _) (Nat.zero_le _) (fun r5 hr => ?_)
      refine ml_istore_n (pc := 22) dX8_weights_22 rfl (Nat.le_of_ble_eq_true rfl) (mm_st1_s (mm_st1_s mm_st1_i)) ?_
      refine ml_iload_n (pc := 23) dX8_weights_23 rfl (mm_get_s (mm_get_s (mm_get_s mm_get_0))) ?_
      refine mb_if_eq (pc := 24) 29 dX8_weights_24 rfl hr (fun hr => ?_) (fun hr => ?_)
      · refine ml_aload_n (pc := 29) dX8_weights_29 rfl mm_get_0 ?_
        refine mb_gr (pc := 30) dX8_weights_30 fl_X8_26 hr (fun c6 hr => ?_)
        refine ml_iload_n (pc := 33) dX8_weights_33 rfl (mm_get_s mm_get_0) ?_
        refine ml_iload_n (pc := 34) dX8_weights_34 rfl (mm_get_s (mm_get_s mm_get_0)) ?_
        refine ml_aload_n (pc := 35) dX8_weights_35 rfl mm_get_0 ?_
        refine mb_gr (pc := 36) dX8_weights_36 fl_X8_12 hr (fun c7 hr => ?_)
        refine mb_gi (pc := 39) dX8_weights_39 fl_X8_112 hr (fun x8 hr => ?_)
        refine mb_ck hr (fun hb10 hr => ?_)
        refine mb_cVv (pc := 42) (As := [.int i1, .int i2, .int x8]) (rest := []) dX8_weights_42 cw_X8_155 hb10 hr (fun v hv => X10_setWeight_ok hz (by omega) hb10 hv) rfl (Nat.le_of_ble_eq_true rfl) (Nat.zero_le _) (Nat.zero_le _) (fun r9 hr => ?_)
        refine ml_iinc (pc := 45) dX8_weights_45 (mm_get_s (mm_get_s mm_get_0)) (congrArg (fun z => i2 + z) kc_1) (Nat.le_of_ble_eq_true rfl) (mm_st1_s mm_st1_i) ?_
        refine mg_goto (pc := 48) 2 dX8_weights_48 rfl ?_
        exact mg_weak (mm_le_s (mm_le_s (mm_le_s (mm_le_n mm_le_0)))) (ih _ _ _ hr)
      · refine ml_iload_n (pc := 27) dX8_weights_27 rfl (mm_get_s (mm_get_s (mm_get_s mm_get_0))) ?_
        exact mb_iret dX8_weights_28 rfl hr
def X8_weights (e : mm_E) (a0 : Nat) (i1 : Int32) (m : mm_V) : Option (Int32 × mm_V) := X8_weights_L2 e a0 i1 e.2.2 (0 : Int32) m
theorem X8_weights_ok {K : mm_K} {nx : Option Nat} {e : mm_E} (hz : e.2.1 = K.2.2.2.2) {d : Nat} (hd : 4 ≤ d) {a0 : Nat} {i1 : Int32} (h0 : e.1 a0 = some (8, 7)) {m : mm_V} {r : (Int32 × mm_V)} (hr : X8_weights e a0 i1 m = some r) : mm_Cn K MX8_weights d (mm_Fi e.1 nx r) [.ref a0, .int i1] (e.1, m) nx := by
  obtain ⟨d, rfl⟩ : ∃ d', d = d' + 1 := ⟨d - 1, by omega⟩
  refine mm_entry (by decide) (Nat.le_of_ble_eq_true rfl) rfl (fun hok => ?_)
  unfold X8_weights at hr
  refine mg_weak (L' := [some (.ref a0), some (.int i1), none, none]) (mm_le_s (mm_le_s (mm_le_e (mm_le_e mm_le_0)))) ?_
  refine mg_iconst (pc := 0) dX8_weights_0 kc_0 ?_
  refine ml_istore_n (pc := 1) dX8_weights_1 rfl (Nat.le_of_ble_eq_true rfl) (mm_st1_s mm_st1_i) ?_
  exact mg_weak (mm_le_s (mm_le_s (mm_le_s (mm_le_n mm_le_0)))) (X8_weights_L2_ok hz hd h0 _ _ _ _ hr)
theorem dX8_personLine_0 : decode cX8_personLine 0 = .ok (.aload_n 0, 1) := by decide +kernel
theorem dX8_personLine_1 : decode cX8_personLine 1 = .ok (.getfield 12, 3) := by decide +kernel
theorem dX8_personLine_4 : decode cX8_personLine 4 = .ok (.invokevirtual 72, 3) := by decide +kernel
theorem dX8_personLine_7 : decode cX8_personLine 7 = .ok (.aload_n 0, 1) := by decide +kernel
theorem dX8_personLine_8 : decode cX8_personLine 8 = .ok (.iconst 0, 1) := by decide +kernel
theorem dX8_personLine_9 : decode cX8_personLine 9 = .ok (.sipush 9999, 3) := by decide +kernel
theorem dX8_personLine_12 : decode cX8_personLine 12 = .ok (.invokevirtual 108, 3) := by decide +kernel
theorem dX8_personLine_15 : decode cX8_personLine 15 = .ok (.istore_n 2, 1) := by decide +kernel
theorem dX8_personLine_16 : decode cX8_personLine 16 = .ok (.iload_n 2, 1) := by decide +kernel
theorem dX8_personLine_17 : decode cX8_personLine 17 = .ok (.ifCond .eq 5, 3) := by decide +kernel
theorem dX8_personLine_20 : decode cX8_personLine 20 = .ok (.iload_n 2, 1) := by decide +kernel
theorem dX8_personLine_21 : decode cX8_personLine 21 = .ok (.ireturn, 1) := by decide +kernel
theorem dX8_personLine_22 : decode cX8_personLine 22 = .ok (.aload_n 0, 1) := by decide +kernel
theorem dX8_personLine_23 : decode cX8_personLine 23 = .ok (.getfield 12, 3) := by decide +kernel
theorem dX8_personLine_26 : decode cX8_personLine 26 = .ok (.getfield 112, 3) := by decide +kernel
theorem dX8_personLine_29 : decode cX8_personLine 29 = .ok (.istore_n 3, 1) := by decide +kernel
theorem dX8_personLine_30 : decode cX8_personLine 30 = .ok (.iload_n 3, 1) := by decide +kernel
theorem dX8_personLine_31 : decode cX8_personLine 31 = .ok (.aload_n 0, 1) := by decide +kernel
theorem dX8_personLine_32 : decode cX8_personLine 32 = .ok (.getfield 26, 3) := by decide +kernel
theorem dX8_personLine_35 : decode cX8_personLine 35 = .ok (.getfield 115, 3) := by decide +kernel
theorem dX8_personLine_38 : decode cX8_personLine 38 = .ok (.if_icmp .lt 5, 3) := by decide +kernel
theorem dX8_personLine_41 : decode cX8_personLine 41 = .ok (.iconst 3, 1) := by decide +kernel
theorem dX8_personLine_42 : decode cX8_personLine 42 = .ok (.ireturn, 1) := by decide +kernel
theorem dX8_personLine_43 : decode cX8_personLine 43 = .ok (.aload_n 0, 1) := by decide +kernel
theorem dX8_personLine_44 : decode cX8_personLine 44 = .ok (.iload_n 1, 1) := by decide +kernel
theorem dX8_personLine_45 : decode cX8_personLine 45 = .ok (.iload_n 3, 1) := by decide +kernel
theorem dX8_personLine_46 : decode cX8_personLine 46 = .ok (.invokevirtual 104, 3) := by decide +kernel
theorem dX8_personLine_49 : decode cX8_personLine 49 = .ok (.ifCond .eq 5, 3) := by decide +kernel
theorem dX8_personLine_52 : decode cX8_personLine 52 = .ok (.iconst 5, 1) := by decide +kernel
theorem dX8_personLine_53 : decode cX8_personLine 53 = .ok (.ireturn, 1) := by decide +kernel
theorem dX8_personLine_54 : decode cX8_personLine 54 = .ok (.aload_n 0, 1) := by decide +kernel
theorem dX8_personLine_55 : decode cX8_personLine 55 = .ok (.iconst 1, 1) := by decide +kernel
theorem dX8_personLine_56 : decode cX8_personLine 56 = .ok (.putfield 83, 3) := by decide +kernel
theorem dX8_personLine_59 : decode cX8_personLine 59 = .ok (.iload_n 1, 1) := by decide +kernel
theorem dX8_personLine_60 : decode cX8_personLine 60 = .ok (.tableswitch 65 3 5 #[28, 34, 49], 28) := by decide +kernel
theorem dX8_personLine_88 : decode cX8_personLine 88 = .ok (.aload_n 0, 1) := by decide +kernel
theorem dX8_personLine_89 : decode cX8_personLine 89 = .ok (.iload_n 3, 1) := by decide +kernel
theorem dX8_personLine_90 : decode cX8_personLine 90 = .ok (.invokevirtual 124, 3) := by decide +kernel
theorem dX8_personLine_93 : decode cX8_personLine 93 = .ok (.ireturn, 1) := by decide +kernel
theorem dX8_personLine_94 : decode cX8_personLine 94 = .ok (.aload_n 0, 1) := by decide +kernel
theorem dX8_personLine_95 : decode cX8_personLine 95 = .ok (.getfield 35, 3) := by decide +kernel
theorem dX8_personLine_98 : decode cX8_personLine 98 = .ok (.aload_n 0, 1) := by decide +kernel
theorem dX8_personLine_99 : decode cX8_personLine 99 = .ok (.getfield 26, 3) := by decide +kernel
theorem dX8_personLine_102 : decode cX8_personLine 102 = .ok (.iconst 0, 1) := by decide +kernel
theorem dX8_personLine_103 : decode cX8_personLine 103 = .ok (.iload_n 3, 1) := by decide +kernel
theorem dX8_personLine_104 : decode cX8_personLine 104 = .ok (.iadd, 1) := by decide +kernel
theorem dX8_personLine_105 : decode cX8_personLine 105 = .ok (.invokevirtual 127, 3) := by decide +kernel
theorem dX8_personLine_108 : decode cX8_personLine 108 = .ok (.ireturn, 1) := by decide +kernel
theorem dX8_personLine_109 : decode cX8_personLine 109 = .ok (.aload_n 0, 1) := by decide +kernel
theorem dX8_personLine_110 : decode cX8_personLine 110 = .ok (.getfield 35, 3) := by decide +kernel
theorem dX8_personLine_113 : decode cX8_personLine 113 = .ok (.aload_n 0, 1) := by decide +kernel
theorem dX8_personLine_114 : decode cX8_personLine 114 = .ok (.getfield 26, 3) := by decide +kernel
theorem dX8_personLine_117 : decode cX8_personLine 117 = .ok (.bipush 6, 2) := by decide +kernel
theorem dX8_personLine_119 : decode cX8_personLine 119 = .ok (.iload_n 3, 1) := by decide +kernel
theorem dX8_personLine_120 : decode cX8_personLine 120 = .ok (.iadd, 1) := by decide +kernel
theorem dX8_personLine_121 : decode cX8_personLine 121 = .ok (.invokevirtual 127, 3) := by decide +kernel
theorem dX8_personLine_124 : decode cX8_personLine 124 = .ok (.ireturn, 1) := by decide +kernel
theorem dX8_personLine_125 : decode cX8_personLine 125 = .ok (.aload_n 0, 1) := by decide +kernel
theorem dX8_personLine_126 : decode cX8_personLine 126 = .ok (.iload_n 3, 1) := by decide +kernel
theorem dX8_personLine_127 : decode cX8_personLine 127 = .ok (.invokevirtual 131, 3) := by decide +kernel
theorem dX8_personLine_130 : decode cX8_personLine 130 = .ok (.ireturn, 1) := by decide +kernel
def X8_personLine (e : mm_E) (a0 : Nat) (i1 : Int32) (m : mm_V) : Option (Int32 × mm_V) := (mm_gr e.1 m 8 7 a0 0).bind fun c1 => if e.1 c1 = some (9, 6) then ((X9_next e c1 m).bind fun r2 => (X8_numberFault e a0 (0 : Int32) (9999 : Int32) r2).bind fun r4 => if r4.1 = 0 then ((mm_gr e.1 r4.2 8 7 a0 0).bind fun c5 => (mm_gi e.1 r4.2 9 6 c5 5).bind fun x6 => (mm_gr e.1 r4.2 8 7 a0 4).bind fun c7 => (mm_gi e.1 r4.2 10 11 c7 6).bind fun x8 => if x6 < x8 then ((X8_isTold e a0 i1 x6 r4.2).bind fun r9 => if r9.1 = 0 then ((mm_pz e.1 r9.2 8 7 a0 5 (1 : Int32)).bind fun m10 => if i1 = (3 : Int32) then ((X8_cards e a0 x6 m10).bind fun r11 => some (r11.1, r11.2)) else (if i1 = (4 : Int32) then ((mm_gr e.1 m10 8 7 a0 1).bind fun c13 => (mm_gr e.1 m10 8 7 a0 4).bind fun c14 => if e.1 c13 = some (1, 6) then ((X1_compile e c13 c14 ((0 : Int32) + x6) m10).bind fun r15 => some (r15.1, r15.2)) else none) else (if i1 = (5 : Int32) then ((mm_gr e.1 m10 8 7 a0 1).bind fun c18 => (mm_gr e.1 m10 8 7 a0 4).bind fun c19 => if e.1 c18 = some (1, 6) then ((X1_compile e c18 c19 ((6 : Int32) + x6) m10).bind fun r20 => some (r20.1, r20.2)) else none) else ((X8_weights e a0 x6 m10).bind fun r23 => some (r23.1, r23.2))))) else (some ((5 : Int32), r9.2))) else (some ((3 : Int32), r4.2))) else (some (r4.1, r4.2))) else none
theorem X8_personLine_ok {K : mm_K} {nx : Option Nat} {e : mm_E} (hz : e.2.1 = K.2.2.2.2) {d : Nat} (hd : 13 ≤ d) {a0 : Nat} {i1 : Int32} (h0 : e.1 a0 = some (8, 7)) {m : mm_V} {r : (Int32 × mm_V)} (hr : X8_personLine e a0 i1 m = some r) : mm_Cn K MX8_personLine d (mm_Fi e.1 nx r) [.ref a0, .int i1] (e.1, m) nx := by
  obtain ⟨d, rfl⟩ : ∃ d', d = d' + 1 := ⟨d - 1, by omega⟩
  refine mm_entry (by decide) (Nat.le_of_ble_eq_true rfl) rfl (fun hok => ?_)
  unfold X8_personLine at hr
  refine mg_weak (L' := [some (.ref a0), some (.int i1), none, none]) (mm_le_s (mm_le_s (mm_le_e (mm_le_e mm_le_0)))) ?_
  refine ml_aload_n (pc := 0) dX8_personLine_0 rfl mm_get_0 ?_
  refine mb_gr (pc := 1) dX8_personLine_1 fl_X8_12 hr (fun c1 hr => ?_)
  refine mb_ck hr (fun hb3 hr => ?_)
  refine mb_cVv (pc := 4) (As := []) (rest := []) dX8_personLine_4 cw_X8_72 hb3 hr (fun v hv => X9_next_ok hz (by omega) hb3 hv) rfl (Nat.le_of_ble_eq_true rfl) (Nat.zero_le _) (Nat.zero_le _) (fun r2 hr => ?_)
  refine ml_aload_n (pc := 7) dX8_personLine_7 rfl mm_get_0 ?_
  refine mg_iconst (pc := 8) dX8_personLine_8 kc_0 ?_
  refine mg_sipush (pc := 9) dX8_personLine_9 ks_9999 ?_
  refine mb_cVi (pc := 12) (As := [.int (0 : Int32), .int (9999 : Int32)]) (rest := []) dX8_personLine_12 cw_X8_108 h0 hr (fun v hv => X8_numberFault_ok hz (by omega) h0 hv) rfl (Nat.le_of_ble_eq_true rfl) (Nat.zero_le _) (Nat.zero_le _) (fun r4 hr => ?_)
  refine ml_istore_n (pc := 15) dX8_personLine_15 rfl (Nat.le_of_ble_eq_true rfl) (mm_st1_s mm_st1_i) ?_
  refine ml_iload_n (pc := 16) dX8_personLine_16 rfl (mm_get_s (mm_get_s mm_get_0)) ?_
  refine mb_if_eq (pc := 17) 22 dX8_personLine_17 rfl hr (fun hr => ?_) (fun hr => ?_)
  · refine ml_aload_n (pc := 22) dX8_personLine_22 rfl mm_get_0 ?_
    refine mb_gr (pc := 23) dX8_personLine_23 fl_X8_12 hr (fun c5 hr => ?_)
    refine mb_gi (pc := 26) dX8_personLine_26 fl_X8_112 hr (fun x6 hr => ?_)
    refine ml_istore_n (pc := 29) dX8_personLine_29 rfl (Nat.le_of_ble_eq_true rfl) (mm_st1_s (mm_st1_s mm_st1_i)) ?_
    refine ml_iload_n (pc := 30) dX8_personLine_30 rfl (mm_get_s (mm_get_s (mm_get_s mm_get_0))) ?_
    refine ml_aload_n (pc := 31) dX8_personLine_31 rfl mm_get_0 ?_
    refine mb_gr (pc := 32) dX8_personLine_32 fl_X8_26 hr (fun c7 hr => ?_)
    refine mb_gi (pc := 35) dX8_personLine_35 fl_X8_115 hr (fun x8 hr => ?_)
    refine mb_icmp_lt (pc := 38) 43 dX8_personLine_38 rfl hr (fun hr => ?_) (fun hr => ?_)
    · refine ml_aload_n (pc := 43) dX8_personLine_43 rfl mm_get_0 ?_
      refine ml_iload_n (pc := 44) dX8_personLine_44 rfl (mm_get_s mm_get_0) ?_
      refine ml_iload_n (pc := 45) dX8_personLine_45 rfl (mm_get_s (mm_get_s (mm_get_s mm_get_0))) ?_
      refine mb_cVi (pc := 46) (As := [.int i1, .int x6]) (rest := []) dX8_personLine_46 cw_X8_104 h0 hr (fun v hv => X8_isTold_ok hz (by omega) h0 hv) rfl (Nat.le_of_ble_eq_true rfl) (Nat.zero_le _) (Nat.zero_le _) (fun r9 hr => ?_)
      refine mb_if_eq (pc := 49) 54 dX8_personLine_49 rfl hr (fun hr => ?_) (fun hr => ?_)
      · refine ml_aload_n (pc := 54) dX8_personLine_54 rfl mm_get_0 ?_
        refine mg_iconst (pc := 55) dX8_personLine_55 kc_1 ?_
        refine mb_pz (pc := 56) dX8_personLine_56 fp_X8_83 hr (fun m10 hr => ?_)
        refine ml_iload_n (pc := 59) dX8_personLine_59 rfl (mm_get_s mm_get_0) ?_
        refine mb_ite hr (fun hc hr => ?_) (fun hc12 hr => ?_)
        · refine mg_tableK (pc := 60) (28) 88 dX8_personLine_60 hc (by decide +kernel) rfl ?_
          refine ml_aload_n (pc := 88) dX8_personLine_88 rfl mm_get_0 ?_
          refine ml_iload_n (pc := 89) dX8_personLine_89 rfl (mm_get_s (mm_get_s (mm_get_s mm_get_0))) ?_
          refine mb_cVi (pc := 90) (As := [.int x6]) (rest := []) dX8_personLine_90 cw_X8_124 h0 hr (fun v hv => X8_cards_ok hz (by omega) h0 hv) rfl (Nat.le_of_ble_eq_true rfl) (Nat.zero_le _) (Nat.zero_le _) (fun r11 hr => ?_)
          exact mb_iret dX8_personLine_93 rfl hr
        refine mb_ite hr (fun hc hr => ?_) (fun hc17 hr => ?_)
        · refine mg_tableK (pc := 60) (34) 94 dX8_personLine_60 hc (by decide +kernel) rfl ?_
          refine ml_aload_n (pc := 94) dX8_personLine_94 rfl mm_get_0 ?_
          refine mb_gr (pc := 95) dX8_personLine_95 fl_X8_35 hr (fun c13 hr => ?_)
          refine ml_aload_n (pc := 98) dX8_personLine_98 rfl mm_get_0 ?_
          refine mb_gr (pc := 99) dX8_personLine_99 fl_X8_26 hr (fun c14 hr => ?_)
          refine mg_iconst (pc := 102) dX8_personLine_102 kc_0 ?_
          refine ml_iload_n (pc := 103) dX8_personLine_103 rfl (mm_get_s (mm_get_s (mm_get_s mm_get_0))) ?_
          refine mg_iadd (pc := 104) dX8_personLine_104 ?_
          refine mb_ck hr (fun hb16 hr => ?_)
          refine mb_cVi (pc := 105) (As := [.ref c14, .int ((0 : Int32) + x6)]) (rest := []) dX8_personLine_105 cw_X8_127 hb16 hr (fun v hv => X1_compile_ok hz (by omega) hb16 hv) rfl (Nat.le_of_ble_eq_true rfl) (Nat.zero_le _) (Nat.zero_le _) (fun r15 hr => ?_)
          exact mb_iret dX8_personLine_108 rfl hr
        refine mb_ite hr (fun hc hr => ?_) (fun hc22 hr => ?_)
        · refine mg_tableK (pc := 60) (49) 109 dX8_personLine_60 hc (by decide +kernel) rfl ?_
          refine ml_aload_n (pc := 109) dX8_personLine_109 rfl mm_get_0 ?_
          refine mb_gr (pc := 110) dX8_personLine_110 fl_X8_35 hr (fun c18 hr => ?_)
          refine ml_aload_n (pc := 113) dX8_personLine_113 rfl mm_get_0 ?_
          refine mb_gr (pc := 114) dX8_personLine_114 fl_X8_26 hr (fun c19 hr => ?_)
          refine mg_bipush (pc := 117) dX8_personLine_117 kb_6 ?_
          refine ml_iload_n (pc := 119) dX8_personLine_119 rfl (mm_get_s (mm_get_s (mm_get_s mm_get_0))) ?_
          refine mg_iadd (pc := 120) dX8_personLine_120 ?_
          refine mb_ck hr (fun hb21 hr => ?_)
          refine mb_cVi (pc := 121) (As := [.ref c19, .int ((6 : Int32) + x6)]) (rest := []) dX8_personLine_121 cw_X8_127 hb21 hr (fun v hv => X1_compile_ok hz (by omega) hb21 hv) rfl (Nat.le_of_ble_eq_true rfl) (Nat.zero_le _) (Nat.zero_le _) (fun r20 hr => ?_)
          exact mb_iret dX8_personLine_124 rfl hr
        refine mg_tableD (pc := 60) 125 dX8_personLine_60 ((mm_nin_c hc12 (mm_nin_c hc17 (mm_nin_c hc22 mm_nin_0))) : ∀ y ∈ [(3 : Int32), (4 : Int32), (5 : Int32)], ¬ i1 = y) (by decide +kernel) rfl ?_
        refine ml_aload_n (pc := 125) dX8_personLine_125 rfl mm_get_0 ?_
        refine ml_iload_n (pc := 126) dX8_personLine_126 rfl (mm_get_s (mm_get_s (mm_get_s mm_get_0))) ?_
        refine mb_cVi (pc := 127) (As := [.int x6]) (rest := []) dX8_personLine_127 cw_X8_131 h0 hr (fun v hv => X8_weights_ok hz (by omega) h0 hv) rfl (Nat.le_of_ble_eq_true rfl) (Nat.zero_le _) (Nat.zero_le _) (fun r23 hr => ?_)
        exact mb_iret dX8_personLine_130 rfl hr
      · refine mg_iconst (pc := 52) dX8_personLine_52 kc_5 ?_
        exact mb_iret dX8_personLine_53 rfl hr
    · refine mg_iconst (pc := 41) dX8_personLine_41 kc_3 ?_
      exact mb_iret dX8_personLine_42 rfl hr
  · refine ml_iload_n (pc := 20) dX8_personLine_20 rfl (mm_get_s (mm_get_s mm_get_0)) ?_
    exact mb_iret dX8_personLine_21 rfl hr
theorem dX8_allCardsTold_0 : decode cX8_allCardsTold 0 = .ok (.iconst 0, 1) := by decide +kernel
theorem dX8_allCardsTold_1 : decode cX8_allCardsTold 1 = .ok (.istore_n 1, 1) := by decide +kernel
theorem dX8_allCardsTold_2 : decode cX8_allCardsTold 2 = .ok (.iload_n 1, 1) := by decide +kernel
theorem dX8_allCardsTold_3 : decode cX8_allCardsTold 3 = .ok (.aload_n 0, 1) := by decide +kernel
theorem dX8_allCardsTold_4 : decode cX8_allCardsTold 4 = .ok (.getfield 18, 3) := by decide +kernel
theorem dX8_allCardsTold_7 : decode cX8_allCardsTold 7 = .ok (.arraylength, 1) := by decide +kernel
theorem dX8_allCardsTold_8 : decode cX8_allCardsTold 8 = .ok (.if_icmp .ge 25, 3) := by decide +kernel
theorem dX8_allCardsTold_11 : decode cX8_allCardsTold 11 = .ok (.aload_n 0, 1) := by decide +kernel
theorem dX8_allCardsTold_12 : decode cX8_allCardsTold 12 = .ok (.getfield 18, 3) := by decide +kernel
theorem dX8_allCardsTold_15 : decode cX8_allCardsTold 15 = .ok (.iload_n 1, 1) := by decide +kernel
theorem dX8_allCardsTold_16 : decode cX8_allCardsTold 16 = .ok (.iaload, 1) := by decide +kernel
theorem dX8_allCardsTold_17 : decode cX8_allCardsTold 17 = .ok (.iconst 1, 1) := by decide +kernel
theorem dX8_allCardsTold_18 : decode cX8_allCardsTold 18 = .ok (.if_icmp .ne 9, 3) := by decide +kernel
theorem dX8_allCardsTold_21 : decode cX8_allCardsTold 21 = .ok (.iload_n 1, 1) := by decide +kernel
theorem dX8_allCardsTold_22 : decode cX8_allCardsTold 22 = .ok (.ifCond .eq 5, 3) := by decide +kernel
theorem dX8_allCardsTold_25 : decode cX8_allCardsTold 25 = .ok (.iconst 0, 1) := by decide +kernel
theorem dX8_allCardsTold_26 : decode cX8_allCardsTold 26 = .ok (.ireturn, 1) := by decide +kernel
theorem dX8_allCardsTold_27 : decode cX8_allCardsTold 27 = .ok (.iinc 1 1, 3) := by decide +kernel
theorem dX8_allCardsTold_30 : decode cX8_allCardsTold 30 = .ok (.goto (-28), 3) := by decide +kernel
theorem dX8_allCardsTold_33 : decode cX8_allCardsTold 33 = .ok (.aload_n 0, 1) := by decide +kernel
theorem dX8_allCardsTold_34 : decode cX8_allCardsTold 34 = .ok (.getfield 18, 3) := by decide +kernel
theorem dX8_allCardsTold_37 : decode cX8_allCardsTold 37 = .ok (.iconst 0, 1) := by decide +kernel
theorem dX8_allCardsTold_38 : decode cX8_allCardsTold 38 = .ok (.iaload, 1) := by decide +kernel
theorem dX8_allCardsTold_39 : decode cX8_allCardsTold 39 = .ok (.iconst 1, 1) := by decide +kernel
theorem dX8_allCardsTold_40 : decode cX8_allCardsTold 40 = .ok (.if_icmp .ne 7, 3) := by decide +kernel
theorem dX8_allCardsTold_43 : decode cX8_allCardsTold 43 = .ok (.iconst 1, 1) := by decide +kernel
theorem dX8_allCardsTold_44 : decode cX8_allCardsTold 44 = .ok (.goto 4, 3) := by decide +kernel
theorem dX8_allCardsTold_47 : decode cX8_allCardsTold 47 = .ok (.iconst 0, 1) := by decide +kernel
theorem dX8_allCardsTold_48 : decode cX8_allCardsTold 48 = .ok (.ireturn, 1) := by decide +kernel
def X8_allCardsTold_b48 (e : mm_E) (t0 : Int32) (m : mm_V) : Option (Int32 × mm_V) := mm_rz t0 m
theorem X8_allCardsTold_b48_ok {K : mm_K} {nx : Option Nat} {e : mm_E} (hz : e.2.1 = K.2.2.2.2) {d : Nat} (hd : 0 ≤ d) {t0 : Int32} {a0 : Nat} (h0 : e.1 a0 = some (8, 7)) {m : mm_V} {r : (Int32 × mm_V)} (hr : X8_allCardsTold_b48 e t0 m = some r) : mm_G K MX8_allCardsTold d (mm_Fi e.1 nx r) 48 [none, none] [.int t0] (e.1, m) nx 0 0 := by
  unfold X8_allCardsTold_b48 at hr
  exact mb_zret dX8_allCardsTold_48 rfl hr
def X8_allCardsTold_b27 (e : mm_E) (k2 : Int32 → mm_V → Option (Int32 × mm_V)) (a0 : Nat) (i1 : Int32) (m : mm_V) : Option (Int32 × mm_V) := k2 (i1 + 1) m
theorem X8_allCardsTold_b27_ok {K : mm_K} {nx : Option Nat} {e : mm_E} (hz : e.2.1 = K.2.2.2.2) {d : Nat} (hd : 0 ≤ d) {a0 : Nat} {i1 : Int32} (h0 : e.1 a0 = some (8, 7)) {k2 : Int32 → mm_V → Option (Int32 × mm_V)} (hk2 : ∀ (w1 : Int32) (m : mm_V) (r : (Int32 × mm_V)), k2 w1 m = some r → mm_G K MX8_allCardsTold d (mm_Fi e.1 nx r) 2 [some (.ref a0), some (.int w1)] [] (e.1, m) nx 0 0) {m : mm_V} {r : (Int32 × mm_V)} (hr : X8_allCardsTold_b27 e k2 a0 i1 m = some r) : mm_G K MX8_allCardsTold d (mm_Fi e.1 nx r) 27 [some (.ref a0), some (.int i1)] [] (e.1, m) nx 0 0 := by
  unfold X8_allCardsTold_b27 at hr
  refine ml_iinc (pc := 27) dX8_allCardsTold_27 (mm_get_s mm_get_0) (congrArg (fun z => i1 + z) kc_1) (Nat.le_of_ble_eq_true rfl) mm_st1_r ?_
  refine mg_goto (pc := 30) 2 dX8_allCardsTold_30 rfl ?_
  exact mg_weak (mm_le_s (mm_le_s mm_le_0)) (hk2 _ _ _ hr)
def X8_allCardsTold_L2 (e : mm_E) (a0 : Nat) : Nat → Int32 → mm_V → Option (Int32 × mm_V)
  | 0, _, _ => none
  | n + 1, i1, m => (mm_gr e.1 m 8 7 a0 2).bind fun c1 => (mm_ln e.1 c1).bind fun x2 => if x2 ≤ i1 then ((mm_gr e.1 m 8 7 a0 2).bind fun c3 => (mm_ai e.1 m 20 c3 (0 : Int32)).bind fun x4 => if ¬ x4 = (1 : Int32) then (X8_allCardsTold_b48 e  (0 : Int32) m) else (X8_allCardsTold_b48 e  (1 : Int32) m)) else ((mm_gr e.1 m 8 7 a0 2).bind fun c5 => (mm_ai e.1 m 20 c5 i1).bind fun x6 => if ¬ x6 = (1 : Int32) then (X8_allCardsTold_b27 e (X8_allCardsTold_L2 e a0 n) a0 i1  m) else (if i1 = 0 then (X8_allCardsTold_b27 e (X8_allCardsTold_L2 e a0 n) a0 i1  m) else (mm_rz (0 : Int32) m)))
theorem X8_allCardsTold_L2_ok {K : mm_K} {nx : Option Nat} {e : mm_E} (hz : e.2.1 = K.2.2.2.2) {d : Nat} (hd : 0 ≤ d) {a0 : Nat} (h0 : e.1 a0 = some (8, 7)) : ∀ (n : Nat) (i1 : Int32) (m : mm_V) (r : (Int32 × mm_V)), X8_allCardsTold_L2 e a0 n i1 m = some r → mm_G K MX8_allCardsTold d (mm_Fi e.1 nx r) 2 [some (.ref a0), some (.int i1)] [] (e.1, m) nx 0 0 := by
  intro n
  induction n with
  | zero => intro i1 m r hr; unfold X8_allCardsTold_L2 at hr; cases hr
  | succ n ih =>
    intro i1 m r hr
    unfold X8_allCardsTold_L2 at hr
    refine ml_iload_n (pc := 2) dX8_allCardsTold_2 rfl (mm_get_s mm_get_0) ?_
    refine ml_aload_n (pc := 3) dX8_allCardsTold_3 rfl mm_get_0 ?_
    refine mb_gr (pc := 4) dX8_allCardsTold_4 fl_X8_18 hr (fun c1 hr => ?_)
    refine mb_ln (pc := 7) dX8_allCardsTold_7 hr (fun x2 hr => ?_)
    refine mb_icmp_ge (pc := 8) 33 dX8_allCardsTold_8 rfl hr (fun hr => ?_) (fun hr => ?_)
    · refine ml_aload_n (pc := 33) dX8_allCardsTold_33 rfl mm_get_0 ?_
      refine mb_gr (pc := 34) dX8_allCardsTold_34 fl_X8_18 hr (fun c3 hr => ?_)
      refine mg_iconst (pc := 37) dX8_allCardsTold_37 kc_0 ?_
      refine mb_ai (pc := 38) dX8_allCardsTold_38 hr (fun x4 hr => ?_)
      refine mg_iconst (pc := 39) dX8_allCardsTold_39 kc_1 ?_
      refine mb_icmp_ne (pc := 40) 47 dX8_allCardsTold_40 rfl hr (fun hr => ?_) (fun hr => ?_)
      · refine mg_iconst (pc := 47) dX8_allCardsTold_47 kc_0 ?_
        exact mg_weak (mm_le_n (mm_le_n mm_le_0)) (X8_allCardsTold_b48_ok hz hd h0 hr)
      · refine mg_iconst (pc := 43) dX8_allCardsTold_43 kc_1 ?_
        refine mg_goto (pc := 44) 48 dX8_allCardsTold_44 rfl ?_
        exact mg_weak (mm_le_n (mm_le_n mm_le_0)) (X8_allCardsTold_b48_ok hz hd h0 hr)
    · refine ml_aload_n (pc := 11) dX8_allCardsTold_11 rfl mm_get_0 ?_
      refine mb_gr (pc := 12) dX8_allCardsTold_12 fl_X8_18 hr (fun c5 hr => ?_)
      refine ml_iload_n (pc := 15) dX8_allCardsTold_15 rfl (mm_get_s mm_get_0) ?_
      refine mb_ai (pc := 16) dX8_allCardsTold_16 hr (fun x6 hr => ?_)
      refine mg_iconst (pc := 17) dX8_allCardsTold_17 kc_1 ?_
      refine mb_icmp_ne (pc := 18) 27 dX8_allCardsTold_18 rfl hr (fun hr => ?_) (fun hr => ?_)
      · exact mg_weak (mm_le_s (mm_le_s mm_le_0)) (X8_allCardsTold_b27_ok hz hd h0 ih hr)
      · refine ml_iload_n (pc := 21) dX8_allCardsTold_21 rfl (mm_get_s mm_get_0) ?_
        refine mb_if_eq (pc := 22) 27 dX8_allCardsTold_22 rfl hr (fun hr => ?_) (fun hr => ?_)
        · exact mg_weak (mm_le_s (mm_le_s mm_le_0)) (X8_allCardsTold_b27_ok hz hd h0 ih hr)
        · refine mg_iconst (pc := 25) dX8_allCardsTold_25 kc_0 ?_
          exact mb_zret dX8_allCardsTold_26 rfl hr
def X8_allCardsTold (e : mm_E) (a0 : Nat) (m : mm_V) : Option (Int32 × mm_V) := X8_allCardsTold_L2 e a0 e.2.2 (0 : Int32) m
theorem X8_allCardsTold_ok {K : mm_K} {nx : Option Nat} {e : mm_E} (hz : e.2.1 = K.2.2.2.2) {d : Nat} (hd : 0 ≤ d) {a0 : Nat} (h0 : e.1 a0 = some (8, 7)) {m : mm_V} {r : (Int32 × mm_V)} (hr : X8_allCardsTold e a0 m = some r) : mm_Cn K MX8_allCardsTold d (mm_Fi e.1 nx r) [.ref a0] (e.1, m) nx := by
  refine mm_entry (by decide) (Nat.le_of_ble_eq_true rfl) rfl (fun hok => ?_)
  unfold X8_allCardsTold at hr
  refine mg_weak (L' := [some (.ref a0), none]) (mm_le_s (mm_le_e mm_le_0)) ?_
  refine mg_iconst (pc := 0) dX8_allCardsTold_0 kc_0 ?_
  refine ml_istore_n (pc := 1) dX8_allCardsTold_1 rfl (Nat.le_of_ble_eq_true rfl) mm_st1_r ?_
  exact mg_weak (mm_le_s (mm_le_s mm_le_0)) (X8_allCardsTold_L2_ok hz hd h0 _ _ _ _ hr)
theorem dX8_read_0 : decode cX8_read 0 = .ok (.aload_n 0, 1) := by decide +kernel
theorem dX8_read_1 : decode cX8_read 1 = .ok (.aload_n 1, 1) := by decide +kernel
theorem dX8_read_2 : decode cX8_read 2 = .ok (.putfield 26, 3) := by decide +kernel
theorem dX8_read_5 : decode cX8_read 5 = .ok (.aload_n 0, 1) := by decide +kernel
theorem dX8_read_6 : decode cX8_read 6 = .ok (.getfield 26, 3) := by decide +kernel
theorem dX8_read_9 : decode cX8_read 9 = .ok (.invokevirtual 39, 3) := by decide +kernel
theorem dX8_read_12 : decode cX8_read 12 = .ok (.aload_n 0, 1) := by decide +kernel
theorem dX8_read_13 : decode cX8_read 13 = .ok (.invokevirtual 44, 3) := by decide +kernel
theorem dX8_read_16 : decode cX8_read 16 = .ok (.aload_n 0, 1) := by decide +kernel
theorem dX8_read_17 : decode cX8_read 17 = .ok (.getfield 12, 3) := by decide +kernel
theorem dX8_read_20 : decode cX8_read 20 = .ok (.aload_n 2, 1) := by decide +kernel
theorem dX8_read_21 : decode cX8_read 21 = .ok (.iload_n 3, 1) := by decide +kernel
theorem dX8_read_22 : decode cX8_read 22 = .ok (.invokevirtual 47, 3) := by decide +kernel
theorem dX8_read_25 : decode cX8_read 25 = .ok (.iconst 0, 1) := by decide +kernel
theorem dX8_read_26 : decode cX8_read 26 = .ok (.istore 4, 2) := by decide +kernel
theorem dX8_read_28 : decode cX8_read 28 = .ok (.iload 4, 2) := by decide +kernel
theorem dX8_read_30 : decode cX8_read 30 = .ok (.iload_n 3, 1) := by decide +kernel
theorem dX8_read_31 : decode cX8_read 31 = .ok (.if_icmp .gt 85, 3) := by decide +kernel
theorem dX8_read_34 : decode cX8_read 34 = .ok (.aload_n 0, 1) := by decide +kernel
theorem dX8_read_35 : decode cX8_read 35 = .ok (.getfield 12, 3) := by decide +kernel
theorem dX8_read_38 : decode cX8_read 38 = .ok (.getfield 51, 3) := by decide +kernel
theorem dX8_read_41 : decode cX8_read 41 = .ok (.iconst (-1), 1) := by decide +kernel
theorem dX8_read_42 : decode cX8_read 42 = .ok (.if_icmp .eq 74, 3) := by decide +kernel
theorem dX8_read_45 : decode cX8_read 45 = .ok (.aload_n 0, 1) := by decide +kernel
theorem dX8_read_46 : decode cX8_read 46 = .ok (.invokevirtual 55, 3) := by decide +kernel
theorem dX8_read_49 : decode cX8_read 49 = .ok (.istore 5, 2) := by decide +kernel
theorem dX8_read_51 : decode cX8_read 51 = .ok (.iload 5, 2) := by decide +kernel
theorem dX8_read_53 : decode cX8_read 53 = .ok (.iconst (-1), 1) := by decide +kernel
theorem dX8_read_54 : decode cX8_read 54 = .ok (.if_icmp .ne 7, 3) := by decide +kernel
theorem dX8_read_57 : decode cX8_read 57 = .ok (.iconst 1, 1) := by decide +kernel
theorem dX8_read_58 : decode cX8_read 58 = .ok (.goto 24, 3) := by decide +kernel
theorem dX8_read_61 : decode cX8_read 61 = .ok (.iload 5, 2) := by decide +kernel
theorem dX8_read_63 : decode cX8_read 63 = .ok (.iconst 3, 1) := by decide +kernel
theorem dX8_read_64 : decode cX8_read 64 = .ok (.if_icmp .ge 12, 3) := by decide +kernel
theorem dX8_read_67 : decode cX8_read 67 = .ok (.aload_n 0, 1) := by decide +kernel
theorem dX8_read_68 : decode cX8_read 68 = .ok (.iload 5, 2) := by decide +kernel
theorem dX8_read_70 : decode cX8_read 70 = .ok (.invokevirtual 59, 3) := by decide +kernel
theorem dX8_read_73 : decode cX8_read 73 = .ok (.goto 9, 3) := by decide +kernel
theorem dX8_read_76 : decode cX8_read 76 = .ok (.aload_n 0, 1) := by decide +kernel
theorem dX8_read_77 : decode cX8_read 77 = .ok (.iload 5, 2) := by decide +kernel
theorem dX8_read_79 : decode cX8_read 79 = .ok (.invokevirtual 63, 3) := by decide +kernel
theorem dX8_read_82 : decode cX8_read 82 = .ok (.istore 6, 2) := by decide +kernel
theorem dX8_read_84 : decode cX8_read 84 = .ok (.iload 6, 2) := by decide +kernel
theorem dX8_read_86 : decode cX8_read 86 = .ok (.ifCond .eq 17, 3) := by decide +kernel
theorem dX8_read_89 : decode cX8_read 89 = .ok (.aload_n 0, 1) := by decide +kernel
theorem dX8_read_90 : decode cX8_read 90 = .ok (.aload_n 0, 1) := by decide +kernel
theorem dX8_read_91 : decode cX8_read 91 = .ok (.getfield 12, 3) := by decide +kernel
theorem dX8_read_94 : decode cX8_read 94 = .ok (.getfield 66, 3) := by decide +kernel
theorem dX8_read_97 : decode cX8_read 97 = .ok (.putfield 69, 3) := by decide +kernel
theorem dX8_read_100 : decode cX8_read 100 = .ok (.iload 6, 2) := by decide +kernel
theorem dX8_read_102 : decode cX8_read 102 = .ok (.ireturn, 1) := by decide +kernel
theorem dX8_read_103 : decode cX8_read 103 = .ok (.aload_n 0, 1) := by decide +kernel
theorem dX8_read_104 : decode cX8_read 104 = .ok (.getfield 12, 3) := by decide +kernel
theorem dX8_read_107 : decode cX8_read 107 = .ok (.invokevirtual 72, 3) := by decide +kernel
theorem dX8_read_110 : decode cX8_read 110 = .ok (.iinc 4 1, 3) := by decide +kernel
theorem dX8_read_113 : decode cX8_read 113 = .ok (.goto (-85), 3) := by decide +kernel
theorem dX8_read_116 : decode cX8_read 116 = .ok (.aload_n 0, 1) := by decide +kernel
theorem dX8_read_117 : decode cX8_read 117 = .ok (.iload_n 3, 1) := by decide +kernel
theorem dX8_read_118 : decode cX8_read 118 = .ok (.putfield 69, 3) := by decide +kernel
theorem dX8_read_121 : decode cX8_read 121 = .ok (.aload_n 0, 1) := by decide +kernel
theorem dX8_read_122 : decode cX8_read 122 = .ok (.getfield 26, 3) := by decide +kernel
theorem dX8_read_125 : decode cX8_read 125 = .ok (.getfield 75, 3) := by decide +kernel
theorem dX8_read_128 : decode cX8_read 128 = .ok (.ifCond .eq 15, 3) := by decide +kernel
theorem dX8_read_131 : decode cX8_read 131 = .ok (.aload_n 0, 1) := by decide +kernel
theorem dX8_read_132 : decode cX8_read 132 = .ok (.invokevirtual 79, 3) := by decide +kernel
theorem dX8_read_135 : decode cX8_read 135 = .ok (.ifCond .ne 8, 3) := by decide +kernel
theorem dX8_read_138 : decode cX8_read 138 = .ok (.bipush 6, 2) := by decide +kernel
theorem dX8_read_140 : decode cX8_read 140 = .ok (.goto 4, 3) := by decide +kernel
theorem dX8_read_143 : decode cX8_read 143 = .ok (.iconst 0, 1) := by decide +kernel
theorem dX8_read_144 : decode cX8_read 144 = .ok (.ireturn, 1) := by decide +kernel
def X8_read_b144 (e : mm_E) (t0 : Int32) (m : mm_V) : Option (Int32 × mm_V) := some (t0, m)
theorem X8_read_b144_ok {K : mm_K} {nx : Option Nat} {e : mm_E} (hz : e.2.1 = K.2.2.2.2) {d : Nat} (hd : 14 ≤ d) {t0 : Int32} {a0 : Nat} (h0 : e.1 a0 = some (8, 7)) {m : mm_V} {r : (Int32 × mm_V)} (hr : X8_read_b144 e t0 m = some r) : mm_G K MX8_read d (mm_Fi e.1 nx r) 144 [none, none, none, none, none, none, none] [.int t0] (e.1, m) nx 0 0 := by
  obtain ⟨d, rfl⟩ : ∃ d', d = d' + 1 := ⟨d - 1, by omega⟩
  unfold X8_read_b144 at hr
  exact mb_iret dX8_read_144 rfl hr
def X8_read_b143 (e : mm_E) (m : mm_V) : Option (Int32 × mm_V) := X8_read_b144 e  (0 : Int32) m
theorem X8_read_b143_ok {K : mm_K} {nx : Option Nat} {e : mm_E} (hz : e.2.1 = K.2.2.2.2) {d : Nat} (hd : 14 ≤ d) {a0 : Nat} (h0 : e.1 a0 = some (8, 7)) {m : mm_V} {r : (Int32 × mm_V)} (hr : X8_read_b143 e m = some r) : mm_G K MX8_read d (mm_Fi e.1 nx r) 143 [none, none, none, none, none, none, none] [] (e.1, m) nx 0 0 := by
  obtain ⟨d, rfl⟩ : ∃ d', d = d' + 1 := ⟨d - 1, by omega⟩
  unfold X8_read_b143 at hr
  refine mg_iconst (pc := 143) dX8_read_143 kc_0 ?_
  exact mg_weak (mm_le_n (mm_le_n (mm_le_n (mm_le_n (mm_le_n (mm_le_n (mm_le_n mm_le_0))))))) (X8_read_b144_ok hz hd h0 hr)
def X8_read_b116 (e : mm_E) (a0 : Nat) (i3 : Int32) (m : mm_V) : Option (Int32 × mm_V) := (mm_pf e.1 m 8 7 a0 6 (.int i3)).bind fun m1 => (mm_gr e.1 m1 8 7 a0 4).bind fun c2 => (mm_gi e.1 m1 10 11 c2 10).bind fun x3 => if x3 = 0 then (X8_read_b143 e   m1) else ((X8_allCardsTold e a0 m1).bind fun r4 => if ¬ r4.1 = 0 then (X8_read_b143 e   r4.2) else (X8_read_b144 e  (6 : Int32) r4.2))
theorem X8_read_b116_ok {K : mm_K} {nx : Option Nat} {e : mm_E} (hz : e.2.1 = K.2.2.2.2) {d : Nat} (hd : 14 ≤ d) {a0 : Nat} {i3 : Int32} (h0 : e.1 a0 = some (8, 7)) {m : mm_V} {r : (Int32 × mm_V)} (hr : X8_read_b116 e a0 i3 m = some r) : mm_G K MX8_read d (mm_Fi e.1 nx r) 116 [some (.ref a0), none, none, some (.int i3), none, none, none] [] (e.1, m) nx 0 0 := by
  obtain ⟨d, rfl⟩ : ∃ d', d = d' + 1 := ⟨d - 1, by omega⟩
  unfold X8_read_b116 at hr
  refine ml_aload_n (pc := 116) dX8_read_116 rfl mm_get_0 ?_
  refine ml_iload_n (pc := 117) dX8_read_117 rfl (mm_get_s (mm_get_s (mm_get_s mm_get_0))) ?_
  refine mb_pi (pc := 118) dX8_read_118 fp_X8_69 hr (fun m1 hr => ?_)
  refine ml_aload_n (pc := 121) dX8_read_121 rfl mm_get_0 ?_
  refine mb_gr (pc := 122) dX8_read_122 fl_X8_26 hr (fun c2 hr => ?_)
  refine mb_gi (pc := 125) dX8_read_125 fl_X8_75 hr (fun x3 hr => ?_)
  refine mb_if_eq (pc := 128) 143 dX8_read_128 rfl hr (fun hr => ?_) (fun hr => ?_)
  · exact mg_weak (mm_le_n (mm_le_n (mm_le_n (mm_le_n (mm_le_n (mm_le_n (mm_le_n mm_le_0))))))) (X8_read_b143_ok hz hd h0 hr)
  · refine ml_aload_n (pc := 131) dX8_read_131 rfl mm_get_0 ?_
    refine mb_cVi (pc := 132) (As := []) (rest := []) dX8_read_132 cw_X8_79 h0 hr (fun v hv => X8_allCardsTold_ok hz (by omega) h0 hv) rfl (Nat.le_of_ble_eq_true rfl) (Nat.zero_le _) (Nat.zero_le _) (fun r4 hr => ?_)
    refine mb_if_ne (pc := 135) 143 dX8_read_135 rfl hr (fun hr => ?_) (fun hr => ?_)
    · exact mg_weak (mm_le_n (mm_le_n (mm_le_n (mm_le_n (mm_le_n (mm_le_n (mm_le_n mm_le_0))))))) (X8_read_b143_ok hz hd h0 hr)
    · refine mg_bipush (pc := 138) dX8_read_138 kb_6 ?_
      refine mg_goto (pc := 140) 144 dX8_read_140 rfl ?_
      exact mg_weak (mm_le_n (mm_le_n (mm_le_n (mm_le_n (mm_le_n (mm_le_n (mm_le_n mm_le_0))))))) (X8_read_b144_ok hz hd h0 hr)
def X8_read_b82 (e : mm_E) (k28 : Int32 → mm_V → Option (Int32 × mm_V)) (a0 : Nat) (i3 : Int32) (i4 : Int32) (t0 : Int32) (m : mm_V) : Option (Int32 × mm_V) := if t0 = 0 then ((mm_gr e.1 m 8 7 a0 0).bind fun c1 => if e.1 c1 = some (9, 6) then ((X9_next e c1 m).bind fun r2 => k28 (i4 + 1) r2) else none) else ((mm_gr e.1 m 8 7 a0 0).bind fun c4 => (mm_gi e.1 m 9 6 c4 2).bind fun x5 => (mm_pf e.1 m 8 7 a0 6 (.int x5)).bind fun m6 => some (t0, m6))
theorem X8_read_b82_ok {K : mm_K} {nx : Option Nat} {e : mm_E} (hz : e.2.1 = K.2.2.2.2) {d : Nat} (hd : 14 ≤ d) {a0 : Nat} {i3 : Int32} {i4 : Int32} {t0 : Int32} (h0 : e.1 a0 = some (8, 7)) {k28 : Int32 → mm_V → Option (Int32 × mm_V)} (hk28 : ∀ (w4 : Int32) (m : mm_V) (r : (Int32 × mm_V)), k28 w4 m = some r → mm_G K MX8_read d (mm_Fi e.1 nx r) 28 [some (.ref a0), none, none, some (.int i3), some (.int w4), none, none] [] (e.1, m) nx 0 0) {m : mm_V} {r : (Int32 × mm_V)} (hr : X8_read_b82 e k28 a0 i3 i4 t0 m = some r) : mm_G K MX8_read d (mm_Fi e.1 nx r) 82 [some (.ref a0), none, none, some (.int i3), some (.int i4), none, none] [.int t0] (e.1, m) nx 0 0 := by
  obtain ⟨d, rfl⟩ : ∃ d', d = d' + 1 := ⟨d - 1, by omega⟩
  unfold X8_read_b82 at hr
  refine ml_istore (pc := 82) dX8_read_82 (Nat.le_of_ble_eq_true rfl) (mm_st1_s (mm_st1_s (mm_st1_s (mm_st1_s (mm_st1_s mm_st1_n))))) ?_
  refine ml_iload (pc := 84) dX8_read_84 (mm_get_s (mm_get_s (mm_get_s (mm_get_s (mm_get_s (mm_get_s mm_get_0)))))) ?_
  refine mb_if_eq (pc := 86) 103 dX8_read_86 rfl hr (fun hr => ?_) (fun hr => ?_)
  · refine ml_aload_n (pc := 103) dX8_read_103 rfl mm_get_0 ?_
    refine mb_gr (pc := 104) dX8_read_104 fl_X8_12 hr (fun c1 hr => ?_)
    refine mb_ck hr (fun hb3 hr => ?_)
    refine mb_cVv (pc := 107) (As := []) (rest := []) dX8_read_107 cw_X8_72 hb3 hr (fun v hv => X9_next_ok hz (by omega) hb3 hv) rfl (Nat.le_of_ble_eq_true rfl) (Nat.zero_le _) (Nat.zero_le _) (fun r2 hr => ?_)
    refine ml_iinc (pc := 110) dX8_read_110 (mm_get_s (mm_get_s (mm_get_s (mm_get_s mm_get_0)))) (congrArg (fun z => i4 + z) kc_1) (Nat.le_of_ble_eq_true rfl) (mm_st1_s (mm_st1_s (mm_st1_s mm_st1_i))) ?_
    refine mg_goto (pc := 113) 28 dX8_read_113 rfl ?_
    exact mg_weak (mm_le_s (mm_le_n (mm_le_n (mm_le_s (mm_le_s (mm_le_n (mm_le_n mm_le_0))))))) (hk28 _ _ _ hr)
  · refine ml_aload_n (pc := 89) dX8_read_89 rfl mm_get_0 ?_
    refine ml_aload_n (pc := 90) dX8_read_90 rfl mm_get_0 ?_
    refine mb_gr (pc := 91) dX8_read_91 fl_X8_12 hr (fun c4 hr => ?_)
    refine mb_gi (pc := 94) dX8_read_94 fl_X8_66 hr (fun x5 hr => ?_)
    refine mb_pi (pc := 97) dX8_read_97 fp_X8_69 hr (fun m6 hr => ?_)
    refine ml_iload (pc := 100) dX8_read_100 (mm_get_s (mm_get_s (mm_get_s (mm_get_s (mm_get_s (mm_get_s mm_get_0)))))) ?_
    exact mb_iret dX8_read_102 rfl hr
def X8_read_L28 (e : mm_E) (a0 : Nat) (i3 : Int32) : Nat → Int32 → mm_V → Option (Int32 × mm_V)
  | 0, _, _ => none
  | n + 1, i4, m => if i3 < i4 then (X8_read_b116 e a0 i3  m) else ((mm_gr e.1 m 8 7 a0 0).bind fun c1 => (mm_gi e.1 m 9 6 c1 4).bind fun x2 => if x2 = (-1 : Int32) then (X8_read_b116 e a0 i3  m) else ((X8_lineKind e a0 m).bind fun r3 => if ¬ r3.1 = (-1 : Int32) then (if (3 : Int32) ≤ r3.1 then ((X8_personLine e a0 r3.1 r3.2).bind fun r4 => X8_read_b82 e (X8_read_L28 e a0 i3 n) a0 i3 i4 r4.1 r4.2) else ((X8_numberLine e a0 r3.1 r3.2).bind fun r5 => X8_read_b82 e (X8_read_L28 e a0 i3 n) a0 i3 i4 r5.1 r5.2)) else (X8_read_b82 e (X8_read_L28 e a0 i3 n) a0 i3 i4 (1 : Int32) r3.2)))
theorem X8_read_L28_ok {K : mm_K} {nx : Option Nat} {e : mm_E} (hz : e.2.1 = K.2.2.2.2) {d : Nat} (hd : 14 ≤ d) {a0 : Nat} {i3 : Int32} (h0 : e.1 a0 = some (8, 7)) : ∀ (n : Nat) (i4 : Int32) (m : mm_V) (r : (Int32 × mm_V)), X8_read_L28 e a0 i3 n i4 m = some r → mm_G K MX8_read d (mm_Fi e.1 nx r) 28 [some (.ref a0), none, none, some (.int i3), some (.int i4), none, none] [] (e.1, m) nx 0 0 := by
  obtain ⟨d, rfl⟩ : ∃ d', d = d' + 1 := ⟨d - 1, by omega⟩
  intro n
  induction n with
  | zero => intro i4 m r hr; unfold X8_read_L28 at hr; cases hr
  | succ n ih =>
    intro i4 m r hr
    unfold X8_read_L28 at hr
    refine ml_iload (pc := 28) dX8_read_28 (mm_get_s (mm_get_s (mm_get_s (mm_get_s mm_get_0)))) ?_
    refine ml_iload_n (pc := 30) dX8_read_30 rfl (mm_get_s (mm_get_s (mm_get_s mm_get_0))) ?_
    refine mb_icmp_gt (pc := 31) 116 dX8_read_31 rfl hr (fun hr => ?_) (fun hr => ?_)
    · exact mg_weak (mm_le_s (mm_le_n (mm_le_n (mm_le_s (mm_le_n (mm_le_n (mm_le_n mm_le_0))))))) (X8_read_b116_ok hz hd h0 hr)
    · refine ml_aload_n (pc := 34) dX8_read_34 rfl mm_get_0 ?_
      refine mb_gr (pc := 35) dX8_read_35 fl_X8_12 hr (fun c1 hr => ?_)
      refine mb_gi (pc := 38) dX8_read_38 fl_X8_51 hr (fun x2 hr => ?_)
      refine mg_iconst (pc := 41) dX8_read_41 kc_m1 ?_
      refine mb_icmp_eq (pc := 42) 116 dX8_read_42 rfl hr (fun hr => ?_) (fun hr => ?_)
      · exact mg_weak (mm_le_s (mm_le_n (mm_le_n (mm_le_s (mm_le_n (mm_le_n (mm_le_n mm_le_0))))))) (X8_read_b116_ok hz hd h0 hr)
      · refine ml_aload_n (pc := 45) dX8_read_45 rfl mm_get_0 ?_
        refine mb_cVi (pc := 46) (As := []) (rest := []) dX8_read_46 cw_X8_55 h0 hr (fun v hv => X8_lineKind_ok hz (by omega) h0 hv) rfl (Nat.le_of_ble_eq_true rfl) (Nat.zero_le _) (Nat.zero_le _) (fun r3 hr => ?_)
        refine ml_istore (pc := 49) dX8_read_49 (Nat.le_of_ble_eq_true rfl) (mm_st1_s (mm_st1_s (mm_st1_s (mm_st1_s mm_st1_i)))) ?_
        refine ml_iload (pc := 51) dX8_read_51 (mm_get_s (mm_get_s (mm_get_s (mm_get_s (mm_get_s mm_get_0))))) ?_
        refine mg_iconst (pc := 53) dX8_read_53 kc_m1 ?_
        refine mb_icmp_ne (pc := 54) 61 dX8_read_54 rfl hr (fun hr => ?_) (fun hr => ?_)
        · refine ml_iload (pc := 61) dX8_read_61 (mm_get_s (mm_get_s (mm_get_s (mm_get_s (mm_get_s mm_get_0))))) ?_
          refine mg_iconst (pc := 63) dX8_read_63 kc_3 ?_
          refine mb_icmp_ge (pc := 64) 76 dX8_read_64 rfl hr (fun hr => ?_) (fun hr => ?_)
          · refine ml_aload_n (pc := 76) dX8_read_76 rfl mm_get_0 ?_
            refine ml_iload (pc := 77) dX8_read_77 (mm_get_s (mm_get_s (mm_get_s (mm_get_s (mm_get_s mm_get_0))))) ?_
            refine mb_cVi (pc := 79) (As := [.int r3.1]) (rest := []) dX8_read_79 cw_X8_63 h0 hr (fun v hv => X8_personLine_ok hz (by omega) h0 hv) rfl (Nat.le_of_ble_eq_true rfl) (Nat.zero_le _) (Nat.zero_le _) (fun r4 hr => ?_)
            exact mg_weak (mm_le_s (mm_le_n (mm_le_n (mm_le_s (mm_le_s (mm_le_n (mm_le_n mm_le_0))))))) (X8_read_b82_ok hz hd h0 ih hr)
          · refine ml_aload_n (pc := 67) dX8_read_67 rfl mm_get_0 ?_
            refine ml_iload (pc := 68) dX8_read_68 (mm_get_s (mm_get_s (mm_get_s (mm_get_s (mm_get_s mm_get_0))))) ?_
            refine mb_cVi (pc := 70) (As := [.int r3.1]) (rest := []) dX8_read_70 cw_X8_59 h0 hr (fun v hv => X8_numberLine_ok hz (by omega) h0 hv) rfl (Nat.le_of_ble_eq_true rfl) (Nat.zero_le _) (Nat.zero_le _) (fun r5 hr => ?_)
            refine mg_goto (pc := 73) 82 dX8_read_73 rfl ?_
            exact mg_weak (mm_le_s (mm_le_n (mm_le_n (mm_le_s (mm_le_s (mm_le_n (mm_le_n mm_le_0))))))) (X8_read_b82_ok hz hd h0 ih hr)
        · refine mg_iconst (pc := 57) dX8_read_57 kc_1 ?_
          refine mg_goto (pc := 58) 82 dX8_read_58 rfl ?_
          exact mg_weak (mm_le_s (mm_le_n (mm_le_n (mm_le_s (mm_le_s (mm_le_n (mm_le_n mm_le_0))))))) (X8_read_b82_ok hz hd h0 ih hr)
def X8_read (e : mm_E) (a0 : Nat) (a1 : Nat) (a2 : Nat) (i3 : Int32) (m : mm_V) : Option (Int32 × mm_V) := (mm_pf e.1 m 8 7 a0 4 (.ref a1)).bind fun m1 => (mm_gr e.1 m1 8 7 a0 4).bind fun c2 => if e.1 c2 = some (10, 11) then ((X10_clear e c2 m1).bind fun r3 => (X8_forget e a0 r3).bind fun r5 => (mm_gr e.1 r5 8 7 a0 0).bind fun c6 => if e.1 c6 = some (9, 6) then ((X9_open e c6 a2 i3 r5).bind fun r7 => X8_read_L28 e a0 i3 e.2.2 (0 : Int32) r7) else none) else none
theorem X8_read_ok {K : mm_K} {nx : Option Nat} {e : mm_E} (hz : e.2.1 = K.2.2.2.2) {d : Nat} (hd : 14 ≤ d) {a0 : Nat} {a1 : Nat} {a2 : Nat} {i3 : Int32} (h0 : e.1 a0 = some (8, 7)) {m : mm_V} {r : (Int32 × mm_V)} (hr : X8_read e a0 a1 a2 i3 m = some r) : mm_Cn K MX8_read d (mm_Fi e.1 nx r) [.ref a0, .ref a1, .ref a2, .int i3] (e.1, m) nx := by
  obtain ⟨d, rfl⟩ : ∃ d', d = d' + 1 := ⟨d - 1, by omega⟩
  refine mm_entry (by decide) (Nat.le_of_ble_eq_true rfl) rfl (fun hok => ?_)
  unfold X8_read at hr
  refine mg_weak (L' := [some (.ref a0), some (.ref a1), some (.ref a2), some (.int i3), none, none, none]) (mm_le_s (mm_le_s (mm_le_s (mm_le_s (mm_le_e (mm_le_e (mm_le_e mm_le_0))))))) ?_
  refine ml_aload_n (pc := 0) dX8_read_0 rfl mm_get_0 ?_
  refine ml_aload_n (pc := 1) dX8_read_1 rfl (mm_get_s mm_get_0) ?_
  refine mb_pr (pc := 2) dX8_read_2 fp_X8_26 hr (fun m1 hr => ?_)
  refine ml_aload_n (pc := 5) dX8_read_5 rfl mm_get_0 ?_
  refine mb_gr (pc := 6) dX8_read_6 fl_X8_26 hr (fun c2 hr => ?_)
  refine mb_ck hr (fun hb4 hr => ?_)
  refine mb_cVv (pc := 9) (As := []) (rest := []) dX8_read_9 cw_X8_39 hb4 hr (fun v hv => X10_clear_ok hz (by omega) hb4 hv) rfl (Nat.le_of_ble_eq_true rfl) (Nat.zero_le _) (Nat.zero_le _) (fun r3 hr => ?_)
  refine ml_aload_n (pc := 12) dX8_read_12 rfl mm_get_0 ?_
  refine mb_cVv (pc := 13) (As := []) (rest := []) dX8_read_13 cw_X8_44 h0 hr (fun v hv => X8_forget_ok hz (by omega) h0 hv) rfl (Nat.le_of_ble_eq_true rfl) (Nat.zero_le _) (Nat.zero_le _) (fun r5 hr => ?_)
  refine ml_aload_n (pc := 16) dX8_read_16 rfl mm_get_0 ?_
  refine mb_gr (pc := 17) dX8_read_17 fl_X8_12 hr (fun c6 hr => ?_)
  refine ml_aload_n (pc := 20) dX8_read_20 rfl (mm_get_s (mm_get_s mm_get_0)) ?_
  refine ml_iload_n (pc := 21) dX8_read_21 rfl (mm_get_s (mm_get_s (mm_get_s mm_get_0))) ?_
  refine mb_ck hr (fun hb8 hr => ?_)
  refine mb_cVv (pc := 22) (As := [.ref a2, .int i3]) (rest := []) dX8_read_22 cw_X8_47 hb8 hr (fun v hv => X9_open_ok hz (by omega) hb8 hv) rfl (Nat.le_of_ble_eq_true rfl) (Nat.zero_le _) (Nat.zero_le _) (fun r7 hr => ?_)
  refine mg_iconst (pc := 25) dX8_read_25 kc_0 ?_
  refine ml_istore (pc := 26) dX8_read_26 (Nat.le_of_ble_eq_true rfl) (mm_st1_s (mm_st1_s (mm_st1_s mm_st1_i))) ?_
  exact mg_weak (mm_le_s (mm_le_n (mm_le_n (mm_le_s (mm_le_s (mm_le_n (mm_le_n mm_le_0))))))) (X8_read_L28_ok hz hd h0 _ _ _ _ hr)
