abbrev MX11_need : mm_M := (yX11_need, cX11_need, 1, none, [])
abbrev MX11_needPerson : mm_M := (yX11_needPerson, cX11_needPerson, 2, none, [])
theorem tw_1033 : Cond.methodLink "SootQueen" 258 ⟨"SootQueen", "isPerson", "(I)Z"⟩ ∈ lw_tbl := List.mem_append_right _ (List.mem_of_getElem? (i := 1033) (by decide +kernel))
theorem tw_1036 : Cond.code ⟨"SootQueen", "isPerson", "(I)Z"⟩ prog_1_method_30_code 2 (some .boolean) ∈ lw_tbl := List.mem_append_right _ (List.mem_of_getElem? (i := 1036) (by decide +kernel))
theorem tw_1035 : Cond.instanceMethod ⟨"SootQueen", "isPerson", "(I)Z"⟩ ∈ lw_tbl := List.mem_append_right _ (List.mem_of_getElem? (i := 1035) (by decide +kernel))
theorem sw_33 : Cond.selects "SootQueen" ⟨"SootQueen", "isPerson", "(I)Z"⟩ ⟨"SootQueen", "isPerson", "(I)Z"⟩ ∈ lw_tbl := List.mem_append_left _ (List.mem_of_getElem? (i := 33) (by decide +kernel))
theorem cw_X11_258 : mm_CV RX11 258 MX11_isPerson 11 1 := ⟨⟨Or.inl tw_1033, tw_1036, tw_1, ⟨by decide, by decide⟩, by decide +kernel, by decide⟩, tw_1035, by decide, (RX11, TX11, 19), rfl, sw_33⟩
theorem tw_1037 : Cond.methodLink "SootQueen" 164 ⟨"SootQueen", "need", "(Z)V"⟩ ∈ lw_tbl := List.mem_append_right _ (List.mem_of_getElem? (i := 1037) (by decide +kernel))
theorem tw_1039 : Cond.code ⟨"SootQueen", "need", "(Z)V"⟩ prog_1_method_32_code 1 none ∈ lw_tbl := List.mem_append_right _ (List.mem_of_getElem? (i := 1039) (by decide +kernel))
theorem tw_1038 : Cond.static ⟨"SootQueen", "need", "(Z)V"⟩ ∈ lw_tbl := List.mem_append_right _ (List.mem_of_getElem? (i := 1038) (by decide +kernel))
theorem cw_X11_164 : mm_CS RX11 164 MX11_need 1 := ⟨⟨Or.inl tw_1037, tw_1039, tw_1, ⟨by decide, by decide⟩, by decide +kernel, by decide⟩, tw_1038⟩
abbrev MX11_belief : mm_M := (yX11_belief, cX11_belief, 3, (some .int), [])
theorem tw_1164 : Cond.methodLink "SootQueen" 261 ⟨"SootQueen", "believe", "(II)Z"⟩ ∈ lw_tbl := List.mem_append_right _ (List.mem_of_getElem? (i := 1164) (by decide +kernel))
theorem tw_1167 : Cond.code ⟨"SootQueen", "believe", "(II)Z"⟩ prog_1_method_36_code 3 (some .boolean) ∈ lw_tbl := List.mem_append_right _ (List.mem_of_getElem? (i := 1167) (by decide +kernel))
theorem tw_1166 : Cond.instanceMethod ⟨"SootQueen", "believe", "(II)Z"⟩ ∈ lw_tbl := List.mem_append_right _ (List.mem_of_getElem? (i := 1166) (by decide +kernel))
theorem sw_38 : Cond.selects "SootQueen" ⟨"SootQueen", "believe", "(II)Z"⟩ ⟨"SootQueen", "believe", "(II)Z"⟩ ∈ lw_tbl := List.mem_append_left _ (List.mem_of_getElem? (i := 38) (by decide +kernel))
theorem cw_X11_261 : mm_CV RX11 261 MX11_believe 11 2 := ⟨⟨Or.inl tw_1164, tw_1167, tw_1, ⟨by decide, by decide⟩, by decide +kernel, by decide⟩, tw_1166, by decide, (RX11, TX11, 19), rfl, sw_38⟩
theorem tw_1208 : Cond.methodLink "SootQueen" 268 ⟨"SootQueen$Belief", "holding", "(I)I"⟩ ∈ lw_tbl := List.mem_append_right _ (List.mem_of_getElem? (i := 1208) (by decide +kernel))
theorem tw_1211 : Cond.code ⟨"SootQueen$Belief", "holding", "(I)I"⟩ prog_2_method_10_code 2 (some .int) ∈ lw_tbl := List.mem_append_right _ (List.mem_of_getElem? (i := 1211) (by decide +kernel))
theorem tw_1209 : Cond.instanceMethod ⟨"SootQueen$Belief", "holding", "(I)I"⟩ ∈ lw_tbl := List.mem_append_right _ (List.mem_of_getElem? (i := 1209) (by decide +kernel))
theorem tw_1210 : Cond.selects "SootQueen$Belief" ⟨"SootQueen$Belief", "holding", "(I)I"⟩ ⟨"SootQueen$Belief", "holding", "(I)I"⟩ ∈ lw_tbl := List.mem_append_right _ (List.mem_of_getElem? (i := 1210) (by decide +kernel))
theorem cw_X11_268 : mm_CV RX11 268 MX0_holding 0 1 := ⟨⟨Or.inl tw_1208, tw_1211, tw_12, ⟨by decide, by decide⟩, by decide +kernel, by decide⟩, tw_1209, by decide, (RX0, TX0, 13), rfl, tw_1210⟩
theorem tw_443 : Cond.fieldLinkNest "SootQueen" 265 "SootQueen$Belief" "all" "I" "SootQueen" ∈ lw_tbl := List.mem_append_right _ (List.mem_of_getElem? (i := 443) (by decide +kernel))
theorem fl_X11_265 : mm_FL RX11 265 0 12 13 := ⟨(RX0, TX0, 13), rfl, rfl, by decide, by decide, Or.inr ⟨_, tw_443⟩⟩
theorem tw_1029 : Cond.methodLink "SootQueen" 150 ⟨"SootQueen", "needPerson", "(I)V"⟩ ∈ lw_tbl := List.mem_append_right _ (List.mem_of_getElem? (i := 1029) (by decide +kernel))
theorem tw_1032 : Cond.code ⟨"SootQueen", "needPerson", "(I)V"⟩ prog_1_method_31_code 2 none ∈ lw_tbl := List.mem_append_right _ (List.mem_of_getElem? (i := 1032) (by decide +kernel))
theorem tw_1031 : Cond.instanceMethod ⟨"SootQueen", "needPerson", "(I)V"⟩ ∈ lw_tbl := List.mem_append_right _ (List.mem_of_getElem? (i := 1031) (by decide +kernel))
theorem sw_32 : Cond.selects "SootQueen" ⟨"SootQueen", "needPerson", "(I)V"⟩ ⟨"SootQueen", "needPerson", "(I)V"⟩ ∈ lw_tbl := List.mem_append_left _ (List.mem_of_getElem? (i := 32) (by decide +kernel))
theorem cw_X11_150 : mm_CV RX11 150 MX11_needPerson 11 1 := ⟨⟨Or.inl tw_1029, tw_1032, tw_1, ⟨by decide, by decide⟩, by decide +kernel, by decide⟩, tw_1031, by decide, (RX11, TX11, 19), rfl, sw_32⟩
abbrev MX11_needArgument : mm_M := (yX11_needArgument, cX11_needArgument, 1, none, [])
abbrev MX11_blind : mm_M := (yX11_blind, cX11_blind, 6, (some .long), [])
theorem tw_552 : Cond.fieldLink "SootQueen" 75 "SootQueen" "outlook" "LSootQueen$Outlook;" ∈ lw_tbl := List.mem_append_right _ (List.mem_of_getElem? (i := 552) (by decide +kernel))
theorem fl_X11_75 : mm_FL RX11 75 11 12 19 := ⟨(RX11, TX11, 19), rfl, rfl, by decide, by decide, Or.inl tw_552⟩
theorem tw_390 : Cond.fieldLinkNest "SootQueen" 244 "SootQueen$Outlook" "whole" "J" "SootQueen" ∈ lw_tbl := List.mem_append_right _ (List.mem_of_getElem? (i := 390) (by decide +kernel))
theorem fl_X11_244 : mm_FL RX11 244 6 8 12 := ⟨(RX6, TX6, 12), rfl, rfl, by decide, by decide, Or.inr ⟨_, tw_390⟩⟩
theorem tw_1064 : Cond.methodLink "SootQueen" 199 ⟨"SootQueen", "needArgument", "(Z)V"⟩ ∈ lw_tbl := List.mem_append_right _ (List.mem_of_getElem? (i := 1064) (by decide +kernel))
theorem tw_1066 : Cond.code ⟨"SootQueen", "needArgument", "(Z)V"⟩ prog_1_method_33_code 1 none ∈ lw_tbl := List.mem_append_right _ (List.mem_of_getElem? (i := 1066) (by decide +kernel))
theorem tw_1065 : Cond.static ⟨"SootQueen", "needArgument", "(Z)V"⟩ ∈ lw_tbl := List.mem_append_right _ (List.mem_of_getElem? (i := 1065) (by decide +kernel))
theorem cw_X11_199 : mm_CS RX11 199 MX11_needArgument 1 := ⟨⟨Or.inl tw_1064, tw_1066, tw_1, ⟨by decide, by decide⟩, by decide +kernel, by decide⟩, tw_1065⟩
theorem tw_1122 : Cond.methodLink "SootQueen" 228 ⟨"SootQueen$Outlook", "spread", "(LSootQueen$Game;II)Z"⟩ ∈ lw_tbl := List.mem_append_right _ (List.mem_of_getElem? (i := 1122) (by decide +kernel))
theorem tw_1125 : Cond.code ⟨"SootQueen$Outlook", "spread", "(LSootQueen$Game;II)Z"⟩ prog_8_method_2_code 5 (some .boolean) ∈ lw_tbl := List.mem_append_right _ (List.mem_of_getElem? (i := 1125) (by decide +kernel))
theorem tw_1123 : Cond.instanceMethod ⟨"SootQueen$Outlook", "spread", "(LSootQueen$Game;II)Z"⟩ ∈ lw_tbl := List.mem_append_right _ (List.mem_of_getElem? (i := 1123) (by decide +kernel))
theorem tw_1124 : Cond.selects "SootQueen$Outlook" ⟨"SootQueen$Outlook", "spread", "(LSootQueen$Game;II)Z"⟩ ⟨"SootQueen$Outlook", "spread", "(LSootQueen$Game;II)Z"⟩ ∈ lw_tbl := List.mem_append_right _ (List.mem_of_getElem? (i := 1124) (by decide +kernel))
theorem cw_X11_228 : mm_CV RX11 228 MX6_spread 6 3 := ⟨⟨Or.inl tw_1122, tw_1125, tw_11, ⟨by decide, by decide⟩, by decide +kernel, by decide⟩, tw_1123, by decide, (RX6, TX6, 12), rfl, tw_1124⟩
theorem tw_396 : Cond.fieldLinkNest "SootQueen" 241 "SootQueen$Outlook" "lost" "J" "SootQueen" ∈ lw_tbl := List.mem_append_right _ (List.mem_of_getElem? (i := 396) (by decide +kernel))
theorem fl_X11_241 : mm_FL RX11 241 6 11 12 := ⟨(RX6, TX6, 12), rfl, rfl, by decide, by decide, Or.inr ⟨_, tw_396⟩⟩
theorem tw_394 : Cond.fieldLinkNest "SootQueen" 238 "SootQueen$Outlook" "out" "J" "SootQueen" ∈ lw_tbl := List.mem_append_right _ (List.mem_of_getElem? (i := 394) (by decide +kernel))
theorem fl_X11_238 : mm_FL RX11 238 6 10 12 := ⟨(RX6, TX6, 12), rfl, rfl, by decide, by decide, Or.inr ⟨_, tw_394⟩⟩
theorem tw_392 : Cond.fieldLinkNest "SootQueen" 234 "SootQueen$Outlook" "withQueen" "J" "SootQueen" ∈ lw_tbl := List.mem_append_right _ (List.mem_of_getElem? (i := 392) (by decide +kernel))
theorem fl_X11_234 : mm_FL RX11 234 6 9 12 := ⟨(RX6, TX6, 12), rfl, rfl, by decide, by decide, Or.inr ⟨_, tw_392⟩⟩
theorem tw_1139 : Cond.constantLong "SootQueen" 232 (-2) ∈ lw_tbl := List.mem_append_right _ (List.mem_of_getElem? (i := 1139) (by decide +kernel))
abbrev MX11_choose : mm_M := (yX11_choose, cX11_choose, 6, (some .int), [])
theorem tw_50 : Cond.fieldLinkNest "SootQueen" 157 "SootQueen$Fan" "size" "I" "SootQueen" ∈ lw_tbl := List.mem_append_right _ (List.mem_of_getElem? (i := 50) (by decide +kernel))
theorem fl_X11_157 : mm_FL RX11 157 3 1 2 := ⟨(RX3, TX3, 2), rfl, rfl, by decide, by decide, Or.inr ⟨_, tw_50⟩⟩
theorem tw_1233 : Cond.methodLink "SootQueen" 277 ⟨"SootQueen$Belief", "queenAt", "(I)I"⟩ ∈ lw_tbl := List.mem_append_right _ (List.mem_of_getElem? (i := 1233) (by decide +kernel))
theorem tw_1236 : Cond.code ⟨"SootQueen$Belief", "queenAt", "(I)I"⟩ prog_2_method_11_code 2 (some .int) ∈ lw_tbl := List.mem_append_right _ (List.mem_of_getElem? (i := 1236) (by decide +kernel))
theorem tw_1234 : Cond.instanceMethod ⟨"SootQueen$Belief", "queenAt", "(I)I"⟩ ∈ lw_tbl := List.mem_append_right _ (List.mem_of_getElem? (i := 1234) (by decide +kernel))
theorem tw_1235 : Cond.selects "SootQueen$Belief" ⟨"SootQueen$Belief", "queenAt", "(I)I"⟩ ⟨"SootQueen$Belief", "queenAt", "(I)I"⟩ ∈ lw_tbl := List.mem_append_right _ (List.mem_of_getElem? (i := 1235) (by decide +kernel))
theorem cw_X11_277 : mm_CV RX11 277 MX0_queenAt 0 1 := ⟨⟨Or.inl tw_1233, tw_1236, tw_12, ⟨by decide, by decide⟩, by decide +kernel, by decide⟩, tw_1234, by decide, (RX0, TX0, 13), rfl, tw_1235⟩
theorem tw_1052 : Cond.methodLink "SootQueen" 176 ⟨"SootQueen$Game", "isEmpty", "(I)Z"⟩ ∈ lw_tbl := List.mem_append_right _ (List.mem_of_getElem? (i := 1052) (by decide +kernel))
theorem cw_X11_176 : mm_CV RX11 176 MX4_isEmpty 4 1 := ⟨⟨Or.inl tw_1052, tw_495, tw_9, ⟨by decide, by decide⟩, by decide +kernel, by decide⟩, tw_493, by decide, (RX4, TX4, 12), rfl, tw_494⟩
abbrev MX11_count : mm_M := (yX11_count, cX11_count, 2, (some .int), [])
theorem tw_81 : Cond.fieldLinkNest "SootQueen" 118 "SootQueen$Told" "pairs" "I" "SootQueen" ∈ lw_tbl := List.mem_append_right _ (List.mem_of_getElem? (i := 81) (by decide +kernel))
theorem fl_X11_118 : mm_FL RX11 118 10 7 11 := ⟨(RX10, TX10, 11), rfl, rfl, by decide, by decide, Or.inr ⟨_, tw_81⟩⟩
theorem tw_997 : Cond.methodLink "SootQueen" 137 ⟨"SootQueen$Game", "queenHolder", "()I"⟩ ∈ lw_tbl := List.mem_append_right _ (List.mem_of_getElem? (i := 997) (by decide +kernel))
theorem cw_X11_137 : mm_CV RX11 137 MX4_queenHolder 4 0 := ⟨⟨Or.inl tw_997, tw_1000, tw_9, ⟨by decide, by decide⟩, by decide +kernel, by decide⟩, tw_998, by decide, (RX4, TX4, 12), rfl, tw_999⟩
theorem tw_1001 : Cond.methodLink "SootQueen" 141 ⟨"SootQueen$Game", "loser", "()I"⟩ ∈ lw_tbl := List.mem_append_right _ (List.mem_of_getElem? (i := 1001) (by decide +kernel))
theorem cw_X11_141 : mm_CV RX11 141 MX4_loser 4 0 := ⟨⟨Or.inl tw_1001, tw_1004, tw_9, ⟨by decide, by decide⟩, by decide +kernel, by decide⟩, tw_1002, by decide, (RX4, TX4, 12), rfl, tw_1003⟩
theorem tw_557 : Cond.fieldLink "SootQueen" 112 "SootQueen" "refusedTexts" "I" ∈ lw_tbl := List.mem_append_right _ (List.mem_of_getElem? (i := 557) (by decide +kernel))
theorem fl_X11_112 : mm_FL RX11 112 11 17 19 := ⟨(RX11, TX11, 19), rfl, rfl, by decide, by decide, Or.inl tw_557⟩
abbrev MX11_ends : mm_M := (yX11_ends, cX11_ends, 2, (some .int), [])
theorem tw_1079 : Cond.methodLink "SootQueen" 216 ⟨"SootQueen", "playFromNow", "()V"⟩ ∈ lw_tbl := List.mem_append_right _ (List.mem_of_getElem? (i := 1079) (by decide +kernel))
theorem tw_1082 : Cond.code ⟨"SootQueen", "playFromNow", "()V"⟩ prog_1_method_34_code 1 none ∈ lw_tbl := List.mem_append_right _ (List.mem_of_getElem? (i := 1082) (by decide +kernel))
theorem tw_1081 : Cond.instanceMethod ⟨"SootQueen", "playFromNow", "()V"⟩ ∈ lw_tbl := List.mem_append_right _ (List.mem_of_getElem? (i := 1081) (by decide +kernel))
theorem sw_34 : Cond.selects "SootQueen" ⟨"SootQueen", "playFromNow", "()V"⟩ ⟨"SootQueen", "playFromNow", "()V"⟩ ∈ lw_tbl := List.mem_append_left _ (List.mem_of_getElem? (i := 34) (by decide +kernel))
theorem cw_X11_216 : mm_CV RX11 216 MX11_playFromNow 11 0 := ⟨⟨Or.inl tw_1079, tw_1082, tw_1, ⟨by decide, by decide⟩, by decide +kernel, by decide⟩, tw_1081, by decide, (RX11, TX11, 19), rfl, sw_34⟩
theorem tw_345 : Cond.fieldLinkNest "SootQueen" 221 "SootQueen$Played" "draws" "I" "SootQueen" ∈ lw_tbl := List.mem_append_right _ (List.mem_of_getElem? (i := 345) (by decide +kernel))
theorem fl_X11_221 : mm_FL RX11 221 7 5 8 := ⟨(RX7, TX7, 8), rfl, rfl, by decide, by decide, Or.inr ⟨_, tw_345⟩⟩
abbrev MX11_evenings : mm_M := (yX11_evenings, cX11_evenings, 7, (some .int), [])
theorem tw_1277 : Cond.methodLink "SootQueen" 287 ⟨"SootQueen$Outlook", "losses", "(I)I"⟩ ∈ lw_tbl := List.mem_append_right _ (List.mem_of_getElem? (i := 1277) (by decide +kernel))
theorem cw_X11_287 : mm_CV RX11 287 MX6_losses 6 1 := ⟨⟨Or.inl tw_1277, tw_1280, tw_11, ⟨by decide, by decide⟩, by decide +kernel, by decide⟩, tw_1278, by decide, (RX6, TX6, 12), rfl, tw_1279⟩
theorem tw_384 : Cond.fieldLinkNest "SootQueen" 290 "SootQueen$Outlook" "notOver" "I" "SootQueen" ∈ lw_tbl := List.mem_append_right _ (List.mem_of_getElem? (i := 384) (by decide +kernel))
theorem fl_X11_290 : mm_FL RX11 290 6 5 12 := ⟨(RX6, TX6, 12), rfl, rfl, by decide, by decide, Or.inr ⟨_, tw_384⟩⟩
theorem tw_386 : Cond.fieldLinkNest "SootQueen" 310 "SootQueen$Outlook" "longest" "I" "SootQueen" ∈ lw_tbl := List.mem_append_right _ (List.mem_of_getElem? (i := 386) (by decide +kernel))
theorem fl_X11_310 : mm_FL RX11 310 6 6 12 := ⟨(RX6, TX6, 12), rfl, rfl, by decide, by decide, Or.inr ⟨_, tw_386⟩⟩
theorem tw_1290 : Cond.methodLink "SootQueen" 307 ⟨"SootQueen$Outlook", "mostByLeast", "(I)I"⟩ ∈ lw_tbl := List.mem_append_right _ (List.mem_of_getElem? (i := 1290) (by decide +kernel))
theorem tw_1293 : Cond.code ⟨"SootQueen$Outlook", "mostByLeast", "(I)I"⟩ prog_8_method_11_code 5 (some .int) ∈ lw_tbl := List.mem_append_right _ (List.mem_of_getElem? (i := 1293) (by decide +kernel))
theorem tw_1291 : Cond.instanceMethod ⟨"SootQueen$Outlook", "mostByLeast", "(I)I"⟩ ∈ lw_tbl := List.mem_append_right _ (List.mem_of_getElem? (i := 1291) (by decide +kernel))
theorem tw_1292 : Cond.selects "SootQueen$Outlook" ⟨"SootQueen$Outlook", "mostByLeast", "(I)I"⟩ ⟨"SootQueen$Outlook", "mostByLeast", "(I)I"⟩ ∈ lw_tbl := List.mem_append_right _ (List.mem_of_getElem? (i := 1292) (by decide +kernel))
theorem cw_X11_307 : mm_CV RX11 307 MX6_mostByLeast 6 1 := ⟨⟨Or.inl tw_1290, tw_1293, tw_11, ⟨by decide, by decide⟩, by decide +kernel, by decide⟩, tw_1291, by decide, (RX6, TX6, 12), rfl, tw_1292⟩
theorem tw_1289 : Cond.methodLink "SootQueen" 303 ⟨"SootQueen$Outlook", "playOut", "(LSootQueen$Game;)I"⟩ ∈ lw_tbl := List.mem_append_right _ (List.mem_of_getElem? (i := 1289) (by decide +kernel))
theorem cw_X11_303 : mm_CV RX11 303 MX6_playOut 6 1 := ⟨⟨Or.inl tw_1289, tw_1261, tw_11, ⟨by decide, by decide⟩, by decide +kernel, by decide⟩, tw_1259, by decide, (RX6, TX6, 12), rfl, tw_1260⟩
theorem tw_1288 : Cond.methodLink "SootQueen" 293 ⟨"SootQueen$Outlook", "begin", "()V"⟩ ∈ lw_tbl := List.mem_append_right _ (List.mem_of_getElem? (i := 1288) (by decide +kernel))
theorem cw_X11_293 : mm_CV RX11 293 MX6_begin 6 0 := ⟨⟨Or.inl tw_1288, tw_1251, tw_11, ⟨by decide, by decide⟩, by decide +kernel, by decide⟩, tw_1249, by decide, (RX6, TX6, 12), rfl, tw_1250⟩
abbrev MX11_face : mm_M := (yX11_face, cX11_face, 4, (some .int), [])
theorem tw_1347 : Cond.constantLong "SootQueen" 328 (100) ∈ lw_tbl := List.mem_append_right _ (List.mem_of_getElem? (i := 1347) (by decide +kernel))
abbrev MX11_fan : mm_M := (yX11_fan, cX11_fan, 4, (some .int), [])
theorem tw_1040 : Cond.methodLink "SootQueen" 168 ⟨"SootQueen$Fan", "card", "(I)I"⟩ ∈ lw_tbl := List.mem_append_right _ (List.mem_of_getElem? (i := 1040) (by decide +kernel))
theorem cw_X11_168 : mm_CV RX11 168 MX3_card 3 1 := ⟨⟨Or.inl tw_1040, tw_643, tw_3, ⟨by decide, by decide⟩, by decide +kernel, by decide⟩, tw_641, by decide, (RX3, TX3, 2), rfl, tw_642⟩
abbrev MX11_habit : mm_M := (yX11_habit, cX11_habit, 6, (some .int), [])
theorem tw_219 : Cond.fieldLinkNest "SootQueen" 325 "SootQueen$Draw" "from" "I" "SootQueen" ∈ lw_tbl := List.mem_append_right _ (List.mem_of_getElem? (i := 219) (by decide +kernel))
theorem fl_X11_325 : mm_FL RX11 325 2 1 9 := ⟨(RX2, TX2, 9), rfl, rfl, by decide, by decide, Or.inr ⟨_, tw_219⟩⟩
theorem tw_228 : Cond.fieldLinkNest "SootQueen" 274 "SootQueen$Draw" "withQueen" "Z" "SootQueen" ∈ lw_tbl := List.mem_append_right _ (List.mem_of_getElem? (i := 228) (by decide +kernel))
theorem fl_X11_274 : mm_FL RX11 274 2 4 9 := ⟨(RX2, TX2, 9), rfl, rfl, by decide, by decide, Or.inr ⟨_, tw_228⟩⟩
theorem tw_1336 : Cond.methodLink "SootQueen" 322 ⟨"SootQueen", "favourite", "(I)I"⟩ ∈ lw_tbl := List.mem_append_right _ (List.mem_of_getElem? (i := 1336) (by decide +kernel))
theorem tw_1339 : Cond.code ⟨"SootQueen", "favourite", "(I)I"⟩ prog_1_method_38_code 6 (some .int) ∈ lw_tbl := List.mem_append_right _ (List.mem_of_getElem? (i := 1339) (by decide +kernel))
theorem tw_1338 : Cond.instanceMethod ⟨"SootQueen", "favourite", "(I)I"⟩ ∈ lw_tbl := List.mem_append_right _ (List.mem_of_getElem? (i := 1338) (by decide +kernel))
theorem sw_51 : Cond.selects "SootQueen" ⟨"SootQueen", "favourite", "(I)I"⟩ ⟨"SootQueen", "favourite", "(I)I"⟩ ∈ lw_tbl := List.mem_append_left _ (List.mem_of_getElem? (i := 51) (by decide +kernel))
theorem cw_X11_322 : mm_CV RX11 322 MX11_favourite 11 1 := ⟨⟨Or.inl tw_1336, tw_1339, tw_1, ⟨by decide, by decide⟩, by decide +kernel, by decide⟩, tw_1338, by decide, (RX11, TX11, 19), rfl, sw_51⟩
abbrev MX11_has : mm_M := (yX11_has, cX11_has, 3, (some .int), [])
theorem tw_1111 : Cond.methodLink "SootQueen" 224 ⟨"SootQueen$Played", "behind", "(IZ)I"⟩ ∈ lw_tbl := List.mem_append_right _ (List.mem_of_getElem? (i := 1111) (by decide +kernel))
theorem tw_1114 : Cond.code ⟨"SootQueen$Played", "behind", "(IZ)I"⟩ prog_9_method_5_code 3 (some .int) ∈ lw_tbl := List.mem_append_right _ (List.mem_of_getElem? (i := 1114) (by decide +kernel))
theorem tw_1112 : Cond.instanceMethod ⟨"SootQueen$Played", "behind", "(IZ)I"⟩ ∈ lw_tbl := List.mem_append_right _ (List.mem_of_getElem? (i := 1112) (by decide +kernel))
theorem tw_1113 : Cond.selects "SootQueen$Played" ⟨"SootQueen$Played", "behind", "(IZ)I"⟩ ⟨"SootQueen$Played", "behind", "(IZ)I"⟩ ∈ lw_tbl := List.mem_append_right _ (List.mem_of_getElem? (i := 1113) (by decide +kernel))
theorem cw_X11_224 : mm_CV RX11 224 MX7_behind 7 2 := ⟨⟨Or.inl tw_1111, tw_1114, tw_10, ⟨by decide, by decide⟩, by decide +kernel, by decide⟩, tw_1112, by decide, (RX7, TX7, 8), rfl, tw_1113⟩
abbrev MX11_hold : mm_M := (yX11_hold, cX11_hold, 7, (some .int), [])
theorem tw_1048 : Cond.methodLink "SootQueen" 172 ⟨"SootQueen$Told", "weight", "(II)I"⟩ ∈ lw_tbl := List.mem_append_right _ (List.mem_of_getElem? (i := 1048) (by decide +kernel))
theorem tw_1051 : Cond.code ⟨"SootQueen$Told", "weight", "(II)I"⟩ prog_12_method_3_code 4 (some .int) ∈ lw_tbl := List.mem_append_right _ (List.mem_of_getElem? (i := 1051) (by decide +kernel))
theorem tw_1049 : Cond.instanceMethod ⟨"SootQueen$Told", "weight", "(II)I"⟩ ∈ lw_tbl := List.mem_append_right _ (List.mem_of_getElem? (i := 1049) (by decide +kernel))
theorem tw_1050 : Cond.selects "SootQueen$Told" ⟨"SootQueen$Told", "weight", "(II)I"⟩ ⟨"SootQueen$Told", "weight", "(II)I"⟩ ∈ lw_tbl := List.mem_append_right _ (List.mem_of_getElem? (i := 1050) (by decide +kernel))
theorem cw_X11_172 : mm_CV RX11 172 MX10_weight 10 2 := ⟨⟨Or.inl tw_1048, tw_1051, tw_2, ⟨by decide, by decide⟩, by decide +kernel, by decide⟩, tw_1049, by decide, (RX10, TX10, 11), rfl, tw_1050⟩
abbrev MX11_isOut : mm_M := (yX11_isOut, cX11_isOut, 2, (some .int), [])
theorem tw_1313 : Cond.methodLink "SootQueen" 316 ⟨"SootQueen$Played", "outBehind", "(I)I"⟩ ∈ lw_tbl := List.mem_append_right _ (List.mem_of_getElem? (i := 1313) (by decide +kernel))
theorem tw_1316 : Cond.code ⟨"SootQueen$Played", "outBehind", "(I)I"⟩ prog_9_method_6_code 2 (some .int) ∈ lw_tbl := List.mem_append_right _ (List.mem_of_getElem? (i := 1316) (by decide +kernel))
theorem tw_1314 : Cond.instanceMethod ⟨"SootQueen$Played", "outBehind", "(I)I"⟩ ∈ lw_tbl := List.mem_append_right _ (List.mem_of_getElem? (i := 1314) (by decide +kernel))
theorem tw_1315 : Cond.selects "SootQueen$Played" ⟨"SootQueen$Played", "outBehind", "(I)I"⟩ ⟨"SootQueen$Played", "outBehind", "(I)I"⟩ ∈ lw_tbl := List.mem_append_right _ (List.mem_of_getElem? (i := 1315) (by decide +kernel))
theorem cw_X11_316 : mm_CV RX11 316 MX7_outBehind 7 1 := ⟨⟨Or.inl tw_1313, tw_1316, tw_10, ⟨by decide, by decide⟩, by decide +kernel, by decide⟩, tw_1314, by decide, (RX7, TX7, 8), rfl, tw_1315⟩
abbrev MX11_peeped : mm_M := (yX11_peeped, cX11_peeped, 11, (some .long), [])
theorem tw_225 : Cond.fieldLinkNest "SootQueen" 276 "SootQueen$Draw" "size" "I" "SootQueen" ∈ lw_tbl := List.mem_append_right _ (List.mem_of_getElem? (i := 225) (by decide +kernel))
theorem fl_X11_276 : mm_FL RX11 276 2 3 9 := ⟨(RX2, TX2, 9), rfl, rfl, by decide, by decide, Or.inr ⟨_, tw_225⟩⟩
abbrev MX11_person : mm_M := (yX11_person, cX11_person, 3, (some .int), [])
theorem tw_1053 : Cond.methodLink "SootQueen" 182 ⟨"SootQueen$Game", "rulePlace", "(I)I"⟩ ∈ lw_tbl := List.mem_append_right _ (List.mem_of_getElem? (i := 1053) (by decide +kernel))
theorem cw_X11_182 : mm_CV RX11 182 MX4_rulePlace 4 1 := ⟨⟨Or.inl tw_1053, tw_1056, tw_9, ⟨by decide, by decide⟩, by decide +kernel, by decide⟩, tw_1054, by decide, (RX4, TX4, 12), rfl, tw_1055⟩
abbrev MX11_play : mm_M := (yX11_play, cX11_play, 3, (some .int), [])
theorem tw_1067 : Cond.methodLink "SootQueen" 202 ⟨"SootQueen$Game", "placeNow", "()I"⟩ ∈ lw_tbl := List.mem_append_right _ (List.mem_of_getElem? (i := 1067) (by decide +kernel))
theorem cw_X11_202 : mm_CV RX11 202 MX4_placeNow 4 0 := ⟨⟨Or.inl tw_1067, tw_1070, tw_9, ⟨by decide, by decide⟩, by decide +kernel, by decide⟩, tw_1068, by decide, (RX4, TX4, 12), rfl, tw_1069⟩
abbrev MX11_rank : mm_M := (yX11_rank, cX11_rank, 6, (some .int), [])
abbrev MX11_seats : mm_M := (yX11_seats, cX11_seats, 3, (some .int), [])
theorem tw_1244 : Cond.methodLink "SootQueen" 280 ⟨"SootQueen$Outlook", "trySeats", "(LSootQueen$Game;I)V"⟩ ∈ lw_tbl := List.mem_append_right _ (List.mem_of_getElem? (i := 1244) (by decide +kernel))
theorem tw_1247 : Cond.code ⟨"SootQueen$Outlook", "trySeats", "(LSootQueen$Game;I)V"⟩ prog_8_method_6_code 7 none ∈ lw_tbl := List.mem_append_right _ (List.mem_of_getElem? (i := 1247) (by decide +kernel))
theorem tw_1245 : Cond.instanceMethod ⟨"SootQueen$Outlook", "trySeats", "(LSootQueen$Game;I)V"⟩ ∈ lw_tbl := List.mem_append_right _ (List.mem_of_getElem? (i := 1245) (by decide +kernel))
theorem tw_1246 : Cond.selects "SootQueen$Outlook" ⟨"SootQueen$Outlook", "trySeats", "(LSootQueen$Game;I)V"⟩ ⟨"SootQueen$Outlook", "trySeats", "(LSootQueen$Game;I)V"⟩ ∈ lw_tbl := List.mem_append_right _ (List.mem_of_getElem? (i := 1246) (by decide +kernel))
theorem cw_X11_280 : mm_CV RX11 280 MX6_trySeats 6 2 := ⟨⟨Or.inl tw_1244, tw_1247, tw_11, ⟨by decide, by decide⟩, by decide +kernel, by decide⟩, tw_1245, by decide, (RX6, TX6, 12), rfl, tw_1246⟩
theorem tw_388 : Cond.fieldLinkNest "SootQueen" 284 "SootQueen$Outlook" "firstOrder" "I" "SootQueen" ∈ lw_tbl := List.mem_append_right _ (List.mem_of_getElem? (i := 388) (by decide +kernel))
theorem fl_X11_284 : mm_FL RX11 284 6 7 12 := ⟨(RX6, TX6, 12), rfl, rfl, by decide, by decide, Or.inr ⟨_, tw_388⟩⟩
abbrev MX11_table : mm_M := (yX11_table, cX11_table, 4, (some .int), [])
theorem tw_543 : Cond.fieldLink "SootQueen" 28 "SootQueen" "reader" "LSootQueen$Reader;" ∈ lw_tbl := List.mem_append_right _ (List.mem_of_getElem? (i := 543) (by decide +kernel))
theorem fl_X11_28 : mm_FL RX11 28 11 3 19 := ⟨(RX11, TX11, 19), rfl, rfl, by decide, by decide, Or.inl tw_543⟩
theorem tw_542 : Cond.fieldLink "SootQueen" 20 "SootQueen" "draft" "LSootQueen$Told;" ∈ lw_tbl := List.mem_append_right _ (List.mem_of_getElem? (i := 542) (by decide +kernel))
theorem fl_X11_20 : mm_FL RX11 20 11 2 19 := ⟨(RX11, TX11, 19), rfl, rfl, by decide, by decide, Or.inl tw_542⟩
theorem tw_780 : Cond.methodLink "SootQueen" 105 ⟨"SootQueen$Reader", "read", "(LSootQueen$Told;[II)I"⟩ ∈ lw_tbl := List.mem_append_right _ (List.mem_of_getElem? (i := 780) (by decide +kernel))
theorem tw_783 : Cond.code ⟨"SootQueen$Reader", "read", "(LSootQueen$Told;[II)I"⟩ prog_10_method_2_code 7 (some .int) ∈ lw_tbl := List.mem_append_right _ (List.mem_of_getElem? (i := 783) (by decide +kernel))
theorem tw_781 : Cond.instanceMethod ⟨"SootQueen$Reader", "read", "(LSootQueen$Told;[II)I"⟩ ∈ lw_tbl := List.mem_append_right _ (List.mem_of_getElem? (i := 781) (by decide +kernel))
theorem tw_782 : Cond.selects "SootQueen$Reader" ⟨"SootQueen$Reader", "read", "(LSootQueen$Told;[II)I"⟩ ⟨"SootQueen$Reader", "read", "(LSootQueen$Told;[II)I"⟩ ∈ lw_tbl := List.mem_append_right _ (List.mem_of_getElem? (i := 782) (by decide +kernel))
theorem cw_X11_105 : mm_CV RX11 105 MX8_read 8 3 := ⟨⟨Or.inl tw_780, tw_783, tw_4, ⟨by decide, by decide⟩, by decide +kernel, by decide⟩, tw_781, by decide, (RX8, TX8, 7), rfl, tw_782⟩
theorem fp_X11_88 : mm_FP RX11 88 11 16 19 .int := ⟨fl_X11_88, (RX11, TX11, 19), rfl, rfl, by decide +kernel⟩
theorem fp_X11_16 : mm_FP RX11 16 11 1 19 (.object "SootQueen$Told") := ⟨fl_X11_16, (RX11, TX11, 19), rfl, rfl, by decide +kernel⟩
theorem fp_X11_20 : mm_FP RX11 20 11 2 19 (.object "SootQueen$Told") := ⟨fl_X11_20, (RX11, TX11, 19), rfl, rfl, by decide +kernel⟩
theorem tw_471 : Cond.methodLink "SootQueen" 92 ⟨"SootQueen", "lay", "()V"⟩ ∈ lw_tbl := List.mem_append_right _ (List.mem_of_getElem? (i := 471) (by decide +kernel))
theorem tw_474 : Cond.code ⟨"SootQueen", "lay", "()V"⟩ prog_1_method_28_code 1 none ∈ lw_tbl := List.mem_append_right _ (List.mem_of_getElem? (i := 474) (by decide +kernel))
theorem tw_473 : Cond.instanceMethod ⟨"SootQueen", "lay", "()V"⟩ ∈ lw_tbl := List.mem_append_right _ (List.mem_of_getElem? (i := 473) (by decide +kernel))
theorem sw_0 : Cond.selects "SootQueen" ⟨"SootQueen", "lay", "()V"⟩ ⟨"SootQueen", "lay", "()V"⟩ ∈ lw_tbl := List.mem_append_left _ (List.mem_of_getElem? (i := 0) (by decide +kernel))
theorem cw_X11_92 : mm_CV RX11 92 MX11_lay 11 0 := ⟨⟨Or.inl tw_471, tw_474, tw_1, ⟨by decide, by decide⟩, by decide +kernel, by decide⟩, tw_473, by decide, (RX11, TX11, 19), rfl, sw_0⟩
theorem tw_183 : Cond.fieldLinkNest "SootQueen" 109 "SootQueen$Reader" "place" "I" "SootQueen" ∈ lw_tbl := List.mem_append_right _ (List.mem_of_getElem? (i := 183) (by decide +kernel))
theorem fl_X11_109 : mm_FL RX11 109 8 6 7 := ⟨(RX8, TX8, 7), rfl, rfl, by decide, by decide, Or.inr ⟨_, tw_183⟩⟩
theorem fp_X11_112 : mm_FP RX11 112 11 17 19 .int := ⟨fl_X11_112, (RX11, TX11, 19), rfl, rfl, by decide +kernel⟩
abbrev MX11_two : mm_M := (yX11_two, cX11_two, 4, (some .long), [])
theorem tw_1150 : Cond.methodLink "SootQueen" 251 ⟨"SootQueen", "twoWithQueen", "(IZ)J"⟩ ∈ lw_tbl := List.mem_append_right _ (List.mem_of_getElem? (i := 1150) (by decide +kernel))
theorem tw_1152 : Cond.code ⟨"SootQueen", "twoWithQueen", "(IZ)J"⟩ prog_1_method_40_code 4 (some .long) ∈ lw_tbl := List.mem_append_right _ (List.mem_of_getElem? (i := 1152) (by decide +kernel))
theorem tw_1151 : Cond.static ⟨"SootQueen", "twoWithQueen", "(IZ)J"⟩ ∈ lw_tbl := List.mem_append_right _ (List.mem_of_getElem? (i := 1151) (by decide +kernel))
theorem cw_X11_251 : mm_CS RX11 251 MX11_twoWithQueen 2 := ⟨⟨Or.inl tw_1150, tw_1152, tw_1, ⟨by decide, by decide⟩, by decide +kernel, by decide⟩, tw_1151⟩
abbrev MX11_wouldLose : mm_M := (yX11_wouldLose, cX11_wouldLose, 7, (some .int), [])
theorem tw_1302 : Cond.methodLink "SootQueen" 313 ⟨"SootQueen", "loserIf", "(I)I"⟩ ∈ lw_tbl := List.mem_append_right _ (List.mem_of_getElem? (i := 1302) (by decide +kernel))
theorem tw_1305 : Cond.code ⟨"SootQueen", "loserIf", "(I)I"⟩ prog_1_method_35_code 2 (some .int) ∈ lw_tbl := List.mem_append_right _ (List.mem_of_getElem? (i := 1305) (by decide +kernel))
theorem tw_1304 : Cond.instanceMethod ⟨"SootQueen", "loserIf", "(I)I"⟩ ∈ lw_tbl := List.mem_append_right _ (List.mem_of_getElem? (i := 1304) (by decide +kernel))
theorem sw_49 : Cond.selects "SootQueen" ⟨"SootQueen", "loserIf", "(I)I"⟩ ⟨"SootQueen", "loserIf", "(I)I"⟩ ∈ lw_tbl := List.mem_append_left _ (List.mem_of_getElem? (i := 49) (by decide +kernel))
theorem cw_X11_313 : mm_CV RX11 313 MX11_loserIf 11 1 := ⟨⟨Or.inl tw_1302, tw_1305, tw_1, ⟨by decide, by decide⟩, by decide +kernel, by decide⟩, tw_1304, by decide, (RX11, TX11, 19), rfl, sw_49⟩
theorem dX11_need_0 : decode cX11_need 0 = .ok (.iload_n 0, 1) := by decide +kernel
theorem dX11_need_1 : decode cX11_need 1 = .ok (.ifCond .ne 11, 3) := by decide +kernel
theorem dX11_need_4 : decode cX11_need 4 = .ok (.new 147, 3) := by decide +kernel
theorem dX11_need_7 : decode cX11_need 7 = .ok (.dup, 1) := by decide +kernel
theorem dX11_need_8 : decode cX11_need 8 = .ok (.invokespecial 149, 3) := by decide +kernel
theorem dX11_need_11 : decode cX11_need 11 = .ok (.athrow, 1) := by decide +kernel
theorem dX11_need_12 : decode cX11_need 12 = .ok (.return_, 1) := by decide +kernel
def X11_need (e : mm_E) (i0 : Int32) (m : mm_V) : Option ((Unit ⊕ String) × mm_V) := if ¬ i0 = 0 then (some (.inl (), m)) else (some (.inr "java/util/NoSuchElementException", m))
theorem X11_need_ok {K : mm_K} {e : mm_E} (hz : e.2.1 = K.2.2.2.2) {d : Nat} (hd : 9 ≤ d) {i0 : Int32} {m : mm_V} {r : ((Unit ⊕ String) × mm_V)} (hr : X11_need e i0 m = some r) : mm_Cn K MX11_need d (mm_Xv e.1 r) [.int i0] (e.1, m) none := by
  obtain ⟨d, rfl⟩ : ∃ d', d = d' + 1 := ⟨d - 1, by omega⟩
  refine mm_entry (by decide) (Nat.le_of_ble_eq_true rfl) rfl (fun hok => ?_)
  unfold X11_need at hr
  refine mg_weak (L' := [some (.int i0)]) (mm_le_s mm_le_0) ?_
  refine ml_iload_n (pc := 0) dX11_need_0 rfl mm_get_0 ?_
  refine mb_if_ne (pc := 1) 12 dX11_need_1 rfl hr (fun hr => ?_) (fun hr => ?_)
  · exact mb_xvret dX11_need_12 rfl hr
  · exact mb_throw (mm_nse _ rfl) dX11_need_4 dX11_need_7 dX11_need_8 dX11_need_11 rfl (by omega) (Nat.le_of_ble_eq_true rfl) hr
theorem dX11_needPerson_0 : decode cX11_needPerson 0 = .ok (.aload_n 0, 1) := by decide +kernel
theorem dX11_needPerson_1 : decode cX11_needPerson 1 = .ok (.iload_n 1, 1) := by decide +kernel
theorem dX11_needPerson_2 : decode cX11_needPerson 2 = .ok (.invokevirtual 258, 3) := by decide +kernel
theorem dX11_needPerson_5 : decode cX11_needPerson 5 = .ok (.invokestatic 164, 3) := by decide +kernel
theorem dX11_needPerson_8 : decode cX11_needPerson 8 = .ok (.return_, 1) := by decide +kernel
def X11_needPerson (e : mm_E) (a0 : Nat) (i1 : Int32) (m : mm_V) : Option ((Unit ⊕ String) × mm_V) := (X11_isPerson e a0 i1 m).bind fun r1 => mm_bx (X11_need e r1.1 r1.2) fun r2 => some (.inl (), r2.2)
theorem X11_needPerson_ok {K : mm_K} {e : mm_E} (hz : e.2.1 = K.2.2.2.2) {d : Nat} (hd : 10 ≤ d) {a0 : Nat} {i1 : Int32} (h0 : e.1 a0 = some (11, 19)) {m : mm_V} {r : ((Unit ⊕ String) × mm_V)} (hr : X11_needPerson e a0 i1 m = some r) : mm_Cn K MX11_needPerson d (mm_Xv e.1 r) [.ref a0, .int i1] (e.1, m) none := by
  obtain ⟨d, rfl⟩ : ∃ d', d = d' + 1 := ⟨d - 1, by omega⟩
  refine mm_entry (by decide) (Nat.le_of_ble_eq_true rfl) rfl (fun hok => ?_)
  unfold X11_needPerson at hr
  refine mg_weak (L' := [some (.ref a0), some (.int i1)]) (mm_le_s (mm_le_s mm_le_0)) ?_
  refine ml_aload_n (pc := 0) dX11_needPerson_0 rfl mm_get_0 ?_
  refine ml_iload_n (pc := 1) dX11_needPerson_1 rfl (mm_get_s mm_get_0) ?_
  refine mb_cVi (pc := 2) (As := [.int i1]) (rest := []) dX11_needPerson_2 cw_X11_258 h0 hr (fun v hv => X11_isPerson_ok hz (by omega) h0 hv) rfl (Nat.le_of_ble_eq_true rfl) (Nat.zero_le _) (Nat.zero_le _) (fun r1 hr => ?_)
  refine mb_xSv (pc := 5) (As := [.int r1.1]) (rest := []) dX11_needPerson_5 cw_X11_164 tw_1037  rfl hr (fun v hv => X11_need_ok hz (by omega)  hv) rfl (Nat.le_of_ble_eq_true rfl) (fun r2 hr => ?_)
  exact mb_xvret dX11_needPerson_8 rfl hr
theorem dX11_belief_0 : decode cX11_belief 0 = .ok (.aload_n 0, 1) := by decide +kernel
theorem dX11_belief_1 : decode cX11_belief 1 = .ok (.iload_n 1, 1) := by decide +kernel
theorem dX11_belief_2 : decode cX11_belief 2 = .ok (.invokevirtual 150, 3) := by decide +kernel
theorem dX11_belief_5 : decode cX11_belief 5 = .ok (.iload_n 2, 1) := by decide +kernel
theorem dX11_belief_6 : decode cX11_belief 6 = .ok (.iconst (-1), 1) := by decide +kernel
theorem dX11_belief_7 : decode cX11_belief 7 = .ok (.if_icmp .eq 11, 3) := by decide +kernel
theorem dX11_belief_10 : decode cX11_belief 10 = .ok (.aload_n 0, 1) := by decide +kernel
theorem dX11_belief_11 : decode cX11_belief 11 = .ok (.iload_n 2, 1) := by decide +kernel
theorem dX11_belief_12 : decode cX11_belief 12 = .ok (.invokevirtual 258, 3) := by decide +kernel
theorem dX11_belief_15 : decode cX11_belief 15 = .ok (.ifCond .eq 7, 3) := by decide +kernel
theorem dX11_belief_18 : decode cX11_belief 18 = .ok (.iconst 1, 1) := by decide +kernel
theorem dX11_belief_19 : decode cX11_belief 19 = .ok (.goto 4, 3) := by decide +kernel
theorem dX11_belief_22 : decode cX11_belief 22 = .ok (.iconst 0, 1) := by decide +kernel
theorem dX11_belief_23 : decode cX11_belief 23 = .ok (.invokestatic 164, 3) := by decide +kernel
theorem dX11_belief_26 : decode cX11_belief 26 = .ok (.aload_n 0, 1) := by decide +kernel
theorem dX11_belief_27 : decode cX11_belief 27 = .ok (.iload_n 1, 1) := by decide +kernel
theorem dX11_belief_28 : decode cX11_belief 28 = .ok (.iconst (-1), 1) := by decide +kernel
theorem dX11_belief_29 : decode cX11_belief 29 = .ok (.invokevirtual 261, 3) := by decide +kernel
theorem dX11_belief_32 : decode cX11_belief 32 = .ok (.ifCond .ne 6, 3) := by decide +kernel
theorem dX11_belief_35 : decode cX11_belief 35 = .ok (.bipush (-2), 2) := by decide +kernel
theorem dX11_belief_37 : decode cX11_belief 37 = .ok (.ireturn, 1) := by decide +kernel
theorem dX11_belief_38 : decode cX11_belief 38 = .ok (.iload_n 2, 1) := by decide +kernel
theorem dX11_belief_39 : decode cX11_belief 39 = .ok (.iconst (-1), 1) := by decide +kernel
theorem dX11_belief_40 : decode cX11_belief 40 = .ok (.if_icmp .ne 13, 3) := by decide +kernel
theorem dX11_belief_43 : decode cX11_belief 43 = .ok (.aload_n 0, 1) := by decide +kernel
theorem dX11_belief_44 : decode cX11_belief 44 = .ok (.getfield 84, 3) := by decide +kernel
theorem dX11_belief_47 : decode cX11_belief 47 = .ok (.getfield 265, 3) := by decide +kernel
theorem dX11_belief_50 : decode cX11_belief 50 = .ok (.goto 11, 3) := by decide +kernel
theorem dX11_belief_53 : decode cX11_belief 53 = .ok (.aload_n 0, 1) := by decide +kernel
theorem dX11_belief_54 : decode cX11_belief 54 = .ok (.getfield 84, 3) := by decide +kernel
theorem dX11_belief_57 : decode cX11_belief 57 = .ok (.iload_n 2, 1) := by decide +kernel
theorem dX11_belief_58 : decode cX11_belief 58 = .ok (.invokevirtual 268, 3) := by decide +kernel
theorem dX11_belief_61 : decode cX11_belief 61 = .ok (.ireturn, 1) := by decide +kernel
def X11_belief_b61 (e : mm_E) (t0 : Int32) (m : mm_V) : Option ((Int32 ⊕ String) × mm_V) := some (.inl t0, m)
theorem X11_belief_b61_ok {K : mm_K} {e : mm_E} (hz : e.2.1 = K.2.2.2.2) {d : Nat} (hd : 255 ≤ d) {t0 : Int32} {a0 : Nat} (h0 : e.1 a0 = some (11, 19)) {m : mm_V} {r : ((Int32 ⊕ String) × mm_V)} (hr : X11_belief_b61 e t0 m = some r) : mm_G K MX11_belief d (mm_Xi e.1 r) 61 [none, none, none] [.int t0] (e.1, m) none 0 0 := by
  obtain ⟨d, rfl⟩ : ∃ d', d = d' + 1 := ⟨d - 1, by omega⟩
  unfold X11_belief_b61 at hr
  exact mb_xiret dX11_belief_61 rfl hr
def X11_belief_b23 (e : mm_E) (a0 : Nat) (i1 : Int32) (i2 : Int32) (t0 : Int32) (m : mm_V) : Option ((Int32 ⊕ String) × mm_V) := mm_bx (X11_need e t0 m) fun r1 => (X11_believe e a0 i1 (-1 : Int32) r1.2).bind fun r2 => if ¬ r2.1 = 0 then (if ¬ i2 = (-1 : Int32) then ((mm_gr e.1 r2.2 11 19 a0 13).bind fun c3 => if e.1 c3 = some (0, 13) then ((X0_holding e c3 i2 r2.2).bind fun r4 => X11_belief_b61 e  r4.1 r4.2) else none) else ((mm_gr e.1 r2.2 11 19 a0 13).bind fun c6 => (mm_gi e.1 r2.2 0 13 c6 12).bind fun x7 => X11_belief_b61 e  x7 r2.2)) else (some (.inl (-2 : Int32), r2.2))
theorem X11_belief_b23_ok {K : mm_K} {e : mm_E} (hz : e.2.1 = K.2.2.2.2) {d : Nat} (hd : 255 ≤ d) {a0 : Nat} {i1 : Int32} {i2 : Int32} {t0 : Int32} (h0 : e.1 a0 = some (11, 19)) {m : mm_V} {r : ((Int32 ⊕ String) × mm_V)} (hr : X11_belief_b23 e a0 i1 i2 t0 m = some r) : mm_G K MX11_belief d (mm_Xi e.1 r) 23 [some (.ref a0), some (.int i1), some (.int i2)] [.int t0] (e.1, m) none 0 0 := by
  obtain ⟨d, rfl⟩ : ∃ d', d = d' + 1 := ⟨d - 1, by omega⟩
  unfold X11_belief_b23 at hr
  refine mb_xSv (pc := 23) (As := [.int t0]) (rest := []) dX11_belief_23 cw_X11_164 tw_1037  rfl hr (fun v hv => X11_need_ok hz (by omega)  hv) rfl (Nat.le_of_ble_eq_true rfl) (fun r1 hr => ?_)
  refine ml_aload_n (pc := 26) dX11_belief_26 rfl mm_get_0 ?_
  refine ml_iload_n (pc := 27) dX11_belief_27 rfl (mm_get_s mm_get_0) ?_
  refine mg_iconst (pc := 28) dX11_belief_28 kc_m1 ?_
  refine mb_cVi (pc := 29) (As := [.int i1, .int (-1 : Int32)]) (rest := []) dX11_belief_29 cw_X11_261 h0 hr (fun v hv => X11_believe_ok hz (by omega) h0 hv) rfl (Nat.le_of_ble_eq_true rfl) (Nat.zero_le _) (Nat.zero_le _) (fun r2 hr => ?_)
  refine mb_if_ne (pc := 32) 38 dX11_belief_32 rfl hr (fun hr => ?_) (fun hr => ?_)
  · refine ml_iload_n (pc := 38) dX11_belief_38 rfl (mm_get_s (mm_get_s mm_get_0)) ?_
    refine mg_iconst (pc := 39) dX11_belief_39 kc_m1 ?_
    refine mb_icmp_ne (pc := 40) 53 dX11_belief_40 rfl hr (fun hr => ?_) (fun hr => ?_)
    · refine ml_aload_n (pc := 53) dX11_belief_53 rfl mm_get_0 ?_
      refine mb_gr (pc := 54) dX11_belief_54 fl_X11_84 hr (fun c3 hr => ?_)
      refine ml_iload_n (pc := 57) dX11_belief_57 rfl (mm_get_s (mm_get_s mm_get_0)) ?_
      refine mb_ck hr (fun hb5 hr => ?_)
      refine mb_cVi (pc := 58) (As := [.int i2]) (rest := []) dX11_belief_58 cw_X11_268 hb5 hr (fun v hv => X0_holding_ok hz (by omega) hb5 hv) rfl (Nat.le_of_ble_eq_true rfl) (Nat.zero_le _) (Nat.zero_le _) (fun r4 hr => ?_)
      exact mg_weak (mm_le_n (mm_le_n (mm_le_n mm_le_0))) (X11_belief_b61_ok hz hd h0 hr)
    · refine ml_aload_n (pc := 43) dX11_belief_43 rfl mm_get_0 ?_
      refine mb_gr (pc := 44) dX11_belief_44 fl_X11_84 hr (fun c6 hr => ?_)
      refine mb_gi (pc := 47) dX11_belief_47 fl_X11_265 hr (fun x7 hr => ?_)
      refine mg_goto (pc := 50) 61 dX11_belief_50 rfl ?_
      exact mg_weak (mm_le_n (mm_le_n (mm_le_n mm_le_0))) (X11_belief_b61_ok hz hd h0 hr)
  · refine mg_bipush (pc := 35) dX11_belief_35 kb_m2 ?_
    exact mb_xiret dX11_belief_37 rfl hr
def X11_belief_b18 (e : mm_E) (a0 : Nat) (i1 : Int32) (i2 : Int32) (m : mm_V) : Option ((Int32 ⊕ String) × mm_V) := X11_belief_b23 e a0 i1 i2 (1 : Int32) m
theorem X11_belief_b18_ok {K : mm_K} {e : mm_E} (hz : e.2.1 = K.2.2.2.2) {d : Nat} (hd : 255 ≤ d) {a0 : Nat} {i1 : Int32} {i2 : Int32} (h0 : e.1 a0 = some (11, 19)) {m : mm_V} {r : ((Int32 ⊕ String) × mm_V)} (hr : X11_belief_b18 e a0 i1 i2 m = some r) : mm_G K MX11_belief d (mm_Xi e.1 r) 18 [some (.ref a0), some (.int i1), some (.int i2)] [] (e.1, m) none 0 0 := by
  obtain ⟨d, rfl⟩ : ∃ d', d = d' + 1 := ⟨d - 1, by omega⟩
  unfold X11_belief_b18 at hr
  refine mg_iconst (pc := 18) dX11_belief_18 kc_1 ?_
  refine mg_goto (pc := 19) 23 dX11_belief_19 rfl ?_
  exact mg_weak (mm_le_s (mm_le_s (mm_le_s mm_le_0))) (X11_belief_b23_ok hz hd h0 hr)
def X11_belief (e : mm_E) (a0 : Nat) (i1 : Int32) (i2 : Int32) (m : mm_V) : Option ((Int32 ⊕ String) × mm_V) := mm_bx (X11_needPerson e a0 i1 m) fun r1 => if i2 = (-1 : Int32) then (X11_belief_b18 e a0 i1 i2  r1.2) else ((X11_isPerson e a0 i2 r1.2).bind fun r2 => if r2.1 = 0 then (X11_belief_b23 e a0 i1 i2 (0 : Int32) r2.2) else (X11_belief_b18 e a0 i1 i2  r2.2))
theorem X11_belief_ok {K : mm_K} {e : mm_E} (hz : e.2.1 = K.2.2.2.2) {d : Nat} (hd : 255 ≤ d) {a0 : Nat} {i1 : Int32} {i2 : Int32} (h0 : e.1 a0 = some (11, 19)) {m : mm_V} {r : ((Int32 ⊕ String) × mm_V)} (hr : X11_belief e a0 i1 i2 m = some r) : mm_Cn K MX11_belief d (mm_Xi e.1 r) [.ref a0, .int i1, .int i2] (e.1, m) none := by
  obtain ⟨d, rfl⟩ : ∃ d', d = d' + 1 := ⟨d - 1, by omega⟩
  refine mm_entry (by decide) (Nat.le_of_ble_eq_true rfl) rfl (fun hok => ?_)
  unfold X11_belief at hr
  refine mg_weak (L' := [some (.ref a0), some (.int i1), some (.int i2)]) (mm_le_s (mm_le_s (mm_le_s mm_le_0))) ?_
  refine ml_aload_n (pc := 0) dX11_belief_0 rfl mm_get_0 ?_
  refine ml_iload_n (pc := 1) dX11_belief_1 rfl (mm_get_s mm_get_0) ?_
  refine mb_xVv (pc := 2) (As := [.int i1]) (rest := []) dX11_belief_2 cw_X11_150 tw_1029 h0 rfl hr (fun v hv => X11_needPerson_ok hz (by omega) h0 hv) rfl (Nat.le_of_ble_eq_true rfl) (fun r1 hr => ?_)
  refine ml_iload_n (pc := 5) dX11_belief_5 rfl (mm_get_s (mm_get_s mm_get_0)) ?_
  refine mg_iconst (pc := 6) dX11_belief_6 kc_m1 ?_
  refine mb_icmp_eq (pc := 7) 18 dX11_belief_7 rfl hr (fun hr => ?_) (fun hr => ?_)
  · exact mg_weak (mm_le_s (mm_le_s (mm_le_s mm_le_0))) (X11_belief_b18_ok hz hd h0 hr)
  · refine ml_aload_n (pc := 10) dX11_belief_10 rfl mm_get_0 ?_
    refine ml_iload_n (pc := 11) dX11_belief_11 rfl (mm_get_s (mm_get_s mm_get_0)) ?_
    refine mb_cVi (pc := 12) (As := [.int i2]) (rest := []) dX11_belief_12 cw_X11_258 h0 hr (fun v hv => X11_isPerson_ok hz (by omega) h0 hv) rfl (Nat.le_of_ble_eq_true rfl) (Nat.zero_le _) (Nat.zero_le _) (fun r2 hr => ?_)
    refine mb_if_eq (pc := 15) 22 dX11_belief_15 rfl hr (fun hr => ?_) (fun hr => ?_)
    · refine mg_iconst (pc := 22) dX11_belief_22 kc_0 ?_
      exact mg_weak (mm_le_s (mm_le_s (mm_le_s mm_le_0))) (X11_belief_b23_ok hz hd h0 hr)
    · exact mg_weak (mm_le_s (mm_le_s (mm_le_s mm_le_0))) (X11_belief_b18_ok hz hd h0 hr)
theorem dX11_needArgument_0 : decode cX11_needArgument 0 = .ok (.iload_n 0, 1) := by decide +kernel
theorem dX11_needArgument_1 : decode cX11_needArgument 1 = .ok (.ifCond .ne 11, 3) := by decide +kernel
theorem dX11_needArgument_4 : decode cX11_needArgument 4 = .ok (.new 102, 3) := by decide +kernel
theorem dX11_needArgument_7 : decode cX11_needArgument 7 = .ok (.dup, 1) := by decide +kernel
theorem dX11_needArgument_8 : decode cX11_needArgument 8 = .ok (.invokespecial 104, 3) := by decide +kernel
theorem dX11_needArgument_11 : decode cX11_needArgument 11 = .ok (.athrow, 1) := by decide +kernel
theorem dX11_needArgument_12 : decode cX11_needArgument 12 = .ok (.return_, 1) := by decide +kernel
def X11_needArgument (e : mm_E) (i0 : Int32) (m : mm_V) : Option ((Unit ⊕ String) × mm_V) := if ¬ i0 = 0 then (some (.inl (), m)) else (some (.inr "java/lang/IllegalArgumentException", m))
theorem X11_needArgument_ok {K : mm_K} {e : mm_E} (hz : e.2.1 = K.2.2.2.2) {d : Nat} (hd : 9 ≤ d) {i0 : Int32} {m : mm_V} {r : ((Unit ⊕ String) × mm_V)} (hr : X11_needArgument e i0 m = some r) : mm_Cn K MX11_needArgument d (mm_Xv e.1 r) [.int i0] (e.1, m) none := by
  obtain ⟨d, rfl⟩ : ∃ d', d = d' + 1 := ⟨d - 1, by omega⟩
  refine mm_entry (by decide) (Nat.le_of_ble_eq_true rfl) rfl (fun hok => ?_)
  unfold X11_needArgument at hr
  refine mg_weak (L' := [some (.int i0)]) (mm_le_s mm_le_0) ?_
  refine ml_iload_n (pc := 0) dX11_needArgument_0 rfl mm_get_0 ?_
  refine mb_if_ne (pc := 1) 12 dX11_needArgument_1 rfl hr (fun hr => ?_) (fun hr => ?_)
  · exact mb_xvret dX11_needArgument_12 rfl hr
  · exact mb_throw (mm_iae _ rfl) dX11_needArgument_4 dX11_needArgument_7 dX11_needArgument_8 dX11_needArgument_11 rfl (by omega) (Nat.le_of_ble_eq_true rfl) hr
theorem dX11_blind_0 : decode cX11_blind 0 = .ok (.aload_n 0, 1) := by decide +kernel
theorem dX11_blind_1 : decode cX11_blind 1 = .ok (.iload_n 1, 1) := by decide +kernel
theorem dX11_blind_2 : decode cX11_blind 2 = .ok (.invokevirtual 150, 3) := by decide +kernel
theorem dX11_blind_5 : decode cX11_blind 5 = .ok (.iload_n 3, 1) := by decide +kernel
theorem dX11_blind_6 : decode cX11_blind 6 = .ok (.ifCond .lt 12, 3) := by decide +kernel
theorem dX11_blind_9 : decode cX11_blind 9 = .ok (.iload_n 3, 1) := by decide +kernel
theorem dX11_blind_10 : decode cX11_blind 10 = .ok (.iconst 5, 1) := by decide +kernel
theorem dX11_blind_11 : decode cX11_blind 11 = .ok (.if_icmp .gt 7, 3) := by decide +kernel
theorem dX11_blind_14 : decode cX11_blind 14 = .ok (.iconst 1, 1) := by decide +kernel
theorem dX11_blind_15 : decode cX11_blind 15 = .ok (.goto 4, 3) := by decide +kernel
theorem dX11_blind_18 : decode cX11_blind 18 = .ok (.iconst 0, 1) := by decide +kernel
theorem dX11_blind_19 : decode cX11_blind 19 = .ok (.invokestatic 164, 3) := by decide +kernel
theorem dX11_blind_22 : decode cX11_blind 22 = .ok (.iload_n 2, 1) := by decide +kernel
theorem dX11_blind_23 : decode cX11_blind 23 = .ok (.ifCond .lt 12, 3) := by decide +kernel
theorem dX11_blind_26 : decode cX11_blind 26 = .ok (.iload_n 2, 1) := by decide +kernel
theorem dX11_blind_27 : decode cX11_blind 27 = .ok (.iconst 4, 1) := by decide +kernel
theorem dX11_blind_28 : decode cX11_blind 28 = .ok (.if_icmp .gt 7, 3) := by decide +kernel
theorem dX11_blind_31 : decode cX11_blind 31 = .ok (.iconst 1, 1) := by decide +kernel
theorem dX11_blind_32 : decode cX11_blind 32 = .ok (.goto 4, 3) := by decide +kernel
theorem dX11_blind_35 : decode cX11_blind 35 = .ok (.iconst 0, 1) := by decide +kernel
theorem dX11_blind_36 : decode cX11_blind 36 = .ok (.invokestatic 199, 3) := by decide +kernel
theorem dX11_blind_39 : decode cX11_blind 39 = .ok (.aload_n 0, 1) := by decide +kernel
theorem dX11_blind_40 : decode cX11_blind 40 = .ok (.getfield 75, 3) := by decide +kernel
theorem dX11_blind_43 : decode cX11_blind 43 = .ok (.aload_n 0, 1) := by decide +kernel
theorem dX11_blind_44 : decode cX11_blind 44 = .ok (.getfield 45, 3) := by decide +kernel
theorem dX11_blind_47 : decode cX11_blind 47 = .ok (.iload_n 1, 1) := by decide +kernel
theorem dX11_blind_48 : decode cX11_blind 48 = .ok (.iload_n 2, 1) := by decide +kernel
theorem dX11_blind_49 : decode cX11_blind 49 = .ok (.invokevirtual 228, 3) := by decide +kernel
theorem dX11_blind_52 : decode cX11_blind 52 = .ok (.ifCond .ne 7, 3) := by decide +kernel
theorem dX11_blind_55 : decode cX11_blind 55 = .ok (.ldc2_w 232, 3) := by decide +kernel
theorem dX11_blind_58 : decode cX11_blind 58 = .ok (.lreturn, 1) := by decide +kernel
theorem dX11_blind_59 : decode cX11_blind 59 = .ok (.iload_n 3, 1) := by decide +kernel
theorem dX11_blind_60 : decode cX11_blind 60 = .ok (.iconst 2, 1) := by decide +kernel
theorem dX11_blind_61 : decode cX11_blind 61 = .ok (.if_icmp .ge 13, 3) := by decide +kernel
theorem dX11_blind_64 : decode cX11_blind 64 = .ok (.aload_n 0, 1) := by decide +kernel
theorem dX11_blind_65 : decode cX11_blind 65 = .ok (.getfield 75, 3) := by decide +kernel
theorem dX11_blind_68 : decode cX11_blind 68 = .ok (.getfield 234, 3) := by decide +kernel
theorem dX11_blind_71 : decode cX11_blind 71 = .ok (.goto 25, 3) := by decide +kernel
theorem dX11_blind_74 : decode cX11_blind 74 = .ok (.iload_n 3, 1) := by decide +kernel
theorem dX11_blind_75 : decode cX11_blind 75 = .ok (.iconst 4, 1) := by decide +kernel
theorem dX11_blind_76 : decode cX11_blind 76 = .ok (.if_icmp .ge 13, 3) := by decide +kernel
theorem dX11_blind_79 : decode cX11_blind 79 = .ok (.aload_n 0, 1) := by decide +kernel
theorem dX11_blind_80 : decode cX11_blind 80 = .ok (.getfield 75, 3) := by decide +kernel
theorem dX11_blind_83 : decode cX11_blind 83 = .ok (.getfield 238, 3) := by decide +kernel
theorem dX11_blind_86 : decode cX11_blind 86 = .ok (.goto 10, 3) := by decide +kernel
theorem dX11_blind_89 : decode cX11_blind 89 = .ok (.aload_n 0, 1) := by decide +kernel
theorem dX11_blind_90 : decode cX11_blind 90 = .ok (.getfield 75, 3) := by decide +kernel
theorem dX11_blind_93 : decode cX11_blind 93 = .ok (.getfield 241, 3) := by decide +kernel
theorem dX11_blind_96 : decode cX11_blind 96 = .ok (.lstore 4, 2) := by decide +kernel
theorem dX11_blind_98 : decode cX11_blind 98 = .ok (.lload 4, 2) := by decide +kernel
theorem dX11_blind_100 : decode cX11_blind 100 = .ok (.aload_n 0, 1) := by decide +kernel
theorem dX11_blind_101 : decode cX11_blind 101 = .ok (.getfield 75, 3) := by decide +kernel
theorem dX11_blind_104 : decode cX11_blind 104 = .ok (.getfield 244, 3) := by decide +kernel
theorem dX11_blind_107 : decode cX11_blind 107 = .ok (.iload_n 3, 1) := by decide +kernel
theorem dX11_blind_108 : decode cX11_blind 108 = .ok (.ifCond .eq 13, 3) := by decide +kernel
theorem dX11_blind_111 : decode cX11_blind 111 = .ok (.iload_n 3, 1) := by decide +kernel
theorem dX11_blind_112 : decode cX11_blind 112 = .ok (.iconst 2, 1) := by decide +kernel
theorem dX11_blind_113 : decode cX11_blind 113 = .ok (.if_icmp .eq 8, 3) := by decide +kernel
theorem dX11_blind_116 : decode cX11_blind 116 = .ok (.iload_n 3, 1) := by decide +kernel
theorem dX11_blind_117 : decode cX11_blind 117 = .ok (.iconst 4, 1) := by decide +kernel
theorem dX11_blind_118 : decode cX11_blind 118 = .ok (.if_icmp .ne 7, 3) := by decide +kernel
theorem dX11_blind_121 : decode cX11_blind 121 = .ok (.iconst 1, 1) := by decide +kernel
theorem dX11_blind_122 : decode cX11_blind 122 = .ok (.goto 4, 3) := by decide +kernel
theorem dX11_blind_125 : decode cX11_blind 125 = .ok (.iconst 0, 1) := by decide +kernel
theorem dX11_blind_126 : decode cX11_blind 126 = .ok (.invokestatic 247, 3) := by decide +kernel
theorem dX11_blind_129 : decode cX11_blind 129 = .ok (.lreturn, 1) := by decide +kernel
def X11_blind_b126 (e : mm_E) (t0 : Int64) (t1 : Int64) (t2 : Int32) (m : mm_V) : Option ((Int64 ⊕ String) × mm_V) := (X11_lowest e t0 t1 t2 m).bind fun r1 => some (.inl r1.1, r1.2)
theorem X11_blind_b126_ok {K : mm_K} {e : mm_E} (hz : e.2.1 = K.2.2.2.2) {d : Nat} (hd : 98 ≤ d) {t0 : Int64} {t1 : Int64} {t2 : Int32} {a0 : Nat} (h0 : e.1 a0 = some (11, 19)) {m : mm_V} {r : ((Int64 ⊕ String) × mm_V)} (hr : X11_blind_b126 e t0 t1 t2 m = some r) : mm_G K MX11_blind d (mm_Xl e.1 r) 126 [none, none, none, none, none, none] [.int t2, .long t1, .long t0] (e.1, m) none 0 0 := by
  obtain ⟨d, rfl⟩ : ∃ d', d = d' + 1 := ⟨d - 1, by omega⟩
  unfold X11_blind_b126 at hr
  refine mb_cSl (pc := 126) (As := [.long t0, .long t1, .int t2]) (rest := []) dX11_blind_126 cw_X11_247  hr (fun v hv => X11_lowest_ok hz (by omega)  hv) rfl (Nat.le_of_ble_eq_true rfl) (Nat.zero_le _) (Nat.zero_le _) (fun r1 hr => ?_)
  exact mb_xlret dX11_blind_129 rfl hr
def X11_blind_b121 (e : mm_E) (t0 : Int64) (t1 : Int64) (m : mm_V) : Option ((Int64 ⊕ String) × mm_V) := X11_blind_b126 e  t0 t1 (1 : Int32) m
theorem X11_blind_b121_ok {K : mm_K} {e : mm_E} (hz : e.2.1 = K.2.2.2.2) {d : Nat} (hd : 98 ≤ d) {t0 : Int64} {t1 : Int64} {a0 : Nat} (h0 : e.1 a0 = some (11, 19)) {m : mm_V} {r : ((Int64 ⊕ String) × mm_V)} (hr : X11_blind_b121 e t0 t1 m = some r) : mm_G K MX11_blind d (mm_Xl e.1 r) 121 [none, none, none, none, none, none] [.long t1, .long t0] (e.1, m) none 0 0 := by
  obtain ⟨d, rfl⟩ : ∃ d', d = d' + 1 := ⟨d - 1, by omega⟩
  unfold X11_blind_b121 at hr
  refine mg_iconst (pc := 121) dX11_blind_121 kc_1 ?_
  refine mg_goto (pc := 122) 126 dX11_blind_122 rfl ?_
  exact mg_weak (mm_le_n (mm_le_n (mm_le_n (mm_le_n (mm_le_n (mm_le_n mm_le_0)))))) (X11_blind_b126_ok hz hd h0 hr)
def X11_blind_b96 (e : mm_E) (a0 : Nat) (i3 : Int32) (t0 : Int64) (m : mm_V) : Option ((Int64 ⊕ String) × mm_V) := (mm_gr e.1 m 11 19 a0 12).bind fun c1 => (mm_gl e.1 m 6 12 c1 8).bind fun y2 => if i3 = 0 then (X11_blind_b121 e  t0 y2 m) else (if i3 = (2 : Int32) then (X11_blind_b121 e  t0 y2 m) else (if ¬ i3 = (4 : Int32) then (X11_blind_b126 e  t0 y2 (0 : Int32) m) else (X11_blind_b121 e  t0 y2 m)))
theorem X11_blind_b96_ok {K : mm_K} {e : mm_E} (hz : e.2.1 = K.2.2.2.2) {d : Nat} (hd : 98 ≤ d) {a0 : Nat} {i3 : Int32} {t0 : Int64} (h0 : e.1 a0 = some (11, 19)) {m : mm_V} {r : ((Int64 ⊕ String) × mm_V)} (hr : X11_blind_b96 e a0 i3 t0 m = some r) : mm_G K MX11_blind d (mm_Xl e.1 r) 96 [some (.ref a0), none, none, some (.int i3), none, none] [.long t0] (e.1, m) none 0 0 := by
  obtain ⟨d, rfl⟩ : ∃ d', d = d' + 1 := ⟨d - 1, by omega⟩
  unfold X11_blind_b96 at hr
  refine ml_lstore (pc := 96) dX11_blind_96 (Nat.le_of_ble_eq_true rfl) (mm_st2_s (mm_st2_s (mm_st2_s mm_st2_i))) ?_
  refine ml_lload (pc := 98) dX11_blind_98 (mm_get_s (mm_get_s (mm_get_s (mm_get_s mm_get_0)))) ?_
  refine ml_aload_n (pc := 100) dX11_blind_100 rfl mm_get_0 ?_
  refine mb_gr (pc := 101) dX11_blind_101 fl_X11_75 hr (fun c1 hr => ?_)
  refine mb_gl (pc := 104) dX11_blind_104 fl_X11_244 hr (fun y2 hr => ?_)
  refine ml_iload_n (pc := 107) dX11_blind_107 rfl (mm_get_s (mm_get_s (mm_get_s mm_get_0))) ?_
  refine mb_if_eq (pc := 108) 121 dX11_blind_108 rfl hr (fun hr => ?_) (fun hr => ?_)
  · exact mg_weak (mm_le_n (mm_le_n (mm_le_n (mm_le_n (mm_le_n (mm_le_n mm_le_0)))))) (X11_blind_b121_ok hz hd h0 hr)
  · refine ml_iload_n (pc := 111) dX11_blind_111 rfl (mm_get_s (mm_get_s (mm_get_s mm_get_0))) ?_
    refine mg_iconst (pc := 112) dX11_blind_112 kc_2 ?_
    refine mb_icmp_eq (pc := 113) 121 dX11_blind_113 rfl hr (fun hr => ?_) (fun hr => ?_)
    · exact mg_weak (mm_le_n (mm_le_n (mm_le_n (mm_le_n (mm_le_n (mm_le_n mm_le_0)))))) (X11_blind_b121_ok hz hd h0 hr)
    · refine ml_iload_n (pc := 116) dX11_blind_116 rfl (mm_get_s (mm_get_s (mm_get_s mm_get_0))) ?_
      refine mg_iconst (pc := 117) dX11_blind_117 kc_4 ?_
      refine mb_icmp_ne (pc := 118) 125 dX11_blind_118 rfl hr (fun hr => ?_) (fun hr => ?_)
      · refine mg_iconst (pc := 125) dX11_blind_125 kc_0 ?_
        exact mg_weak (mm_le_n (mm_le_n (mm_le_n (mm_le_n (mm_le_n (mm_le_n mm_le_0)))))) (X11_blind_b126_ok hz hd h0 hr)
      · exact mg_weak (mm_le_n (mm_le_n (mm_le_n (mm_le_n (mm_le_n (mm_le_n mm_le_0)))))) (X11_blind_b121_ok hz hd h0 hr)
def X11_blind_b36 (e : mm_E) (a0 : Nat) (i1 : Int32) (i2 : Int32) (i3 : Int32) (t0 : Int32) (m : mm_V) : Option ((Int64 ⊕ String) × mm_V) := mm_bx (X11_needArgument e t0 m) fun r1 => (mm_gr e.1 r1.2 11 19 a0 12).bind fun c2 => (mm_gr e.1 r1.2 11 19 a0 6).bind fun c3 => if e.1 c2 = some (6, 12) then ((X6_spread e c2 c3 i1 i2 r1.2).bind fun r4 => if ¬ r4.1 = 0 then (if (2 : Int32) ≤ i3 then (if (4 : Int32) ≤ i3 then ((mm_gr e.1 r4.2 11 19 a0 12).bind fun c6 => (mm_gl e.1 r4.2 6 12 c6 11).bind fun y7 => X11_blind_b96 e a0 i3 y7 r4.2) else ((mm_gr e.1 r4.2 11 19 a0 12).bind fun c8 => (mm_gl e.1 r4.2 6 12 c8 10).bind fun y9 => X11_blind_b96 e a0 i3 y9 r4.2)) else ((mm_gr e.1 r4.2 11 19 a0 12).bind fun c10 => (mm_gl e.1 r4.2 6 12 c10 9).bind fun y11 => X11_blind_b96 e a0 i3 y11 r4.2)) else (some (.inl (-2 : Int64), r4.2))) else none
theorem X11_blind_b36_ok {K : mm_K} {e : mm_E} (hz : e.2.1 = K.2.2.2.2) {d : Nat} (hd : 98 ≤ d) {a0 : Nat} {i1 : Int32} {i2 : Int32} {i3 : Int32} {t0 : Int32} (h0 : e.1 a0 = some (11, 19)) {m : mm_V} {r : ((Int64 ⊕ String) × mm_V)} (hr : X11_blind_b36 e a0 i1 i2 i3 t0 m = some r) : mm_G K MX11_blind d (mm_Xl e.1 r) 36 [some (.ref a0), some (.int i1), some (.int i2), some (.int i3), none, none] [.int t0] (e.1, m) none 0 0 := by
  obtain ⟨d, rfl⟩ : ∃ d', d = d' + 1 := ⟨d - 1, by omega⟩
  unfold X11_blind_b36 at hr
  refine mb_xSv (pc := 36) (As := [.int t0]) (rest := []) dX11_blind_36 cw_X11_199 tw_1064  rfl hr (fun v hv => X11_needArgument_ok hz (by omega)  hv) rfl (Nat.le_of_ble_eq_true rfl) (fun r1 hr => ?_)
  refine ml_aload_n (pc := 39) dX11_blind_39 rfl mm_get_0 ?_
  refine mb_gr (pc := 40) dX11_blind_40 fl_X11_75 hr (fun c2 hr => ?_)
  refine ml_aload_n (pc := 43) dX11_blind_43 rfl mm_get_0 ?_
  refine mb_gr (pc := 44) dX11_blind_44 fl_X11_45 hr (fun c3 hr => ?_)
  refine ml_iload_n (pc := 47) dX11_blind_47 rfl (mm_get_s mm_get_0) ?_
  refine ml_iload_n (pc := 48) dX11_blind_48 rfl (mm_get_s (mm_get_s mm_get_0)) ?_
  refine mb_ck hr (fun hb5 hr => ?_)
  refine mb_cVi (pc := 49) (As := [.ref c3, .int i1, .int i2]) (rest := []) dX11_blind_49 cw_X11_228 hb5 hr (fun v hv => X6_spread_ok hz (by omega) hb5 hv) rfl (Nat.le_of_ble_eq_true rfl) (Nat.zero_le _) (Nat.zero_le _) (fun r4 hr => ?_)
  refine mb_if_ne (pc := 52) 59 dX11_blind_52 rfl hr (fun hr => ?_) (fun hr => ?_)
  · refine ml_iload_n (pc := 59) dX11_blind_59 rfl (mm_get_s (mm_get_s (mm_get_s mm_get_0))) ?_
    refine mg_iconst (pc := 60) dX11_blind_60 kc_2 ?_
    refine mb_icmp_ge (pc := 61) 74 dX11_blind_61 rfl hr (fun hr => ?_) (fun hr => ?_)
    · refine ml_iload_n (pc := 74) dX11_blind_74 rfl (mm_get_s (mm_get_s (mm_get_s mm_get_0))) ?_
      refine mg_iconst (pc := 75) dX11_blind_75 kc_4 ?_
      refine mb_icmp_ge (pc := 76) 89 dX11_blind_76 rfl hr (fun hr => ?_) (fun hr => ?_)
      · refine ml_aload_n (pc := 89) dX11_blind_89 rfl mm_get_0 ?_
        refine mb_gr (pc := 90) dX11_blind_90 fl_X11_75 hr (fun c6 hr => ?_)
        refine mb_gl (pc := 93) dX11_blind_93 fl_X11_241 hr (fun y7 hr => ?_)
        exact mg_weak (mm_le_s (mm_le_n (mm_le_n (mm_le_s (mm_le_n (mm_le_n mm_le_0)))))) (X11_blind_b96_ok hz hd h0 hr)
      · refine ml_aload_n (pc := 79) dX11_blind_79 rfl mm_get_0 ?_
        refine mb_gr (pc := 80) dX11_blind_80 fl_X11_75 hr (fun c8 hr => ?_)
        refine mb_gl (pc := 83) dX11_blind_83 fl_X11_238 hr (fun y9 hr => ?_)
        refine mg_goto (pc := 86) 96 dX11_blind_86 rfl ?_
        exact mg_weak (mm_le_s (mm_le_n (mm_le_n (mm_le_s (mm_le_n (mm_le_n mm_le_0)))))) (X11_blind_b96_ok hz hd h0 hr)
    · refine ml_aload_n (pc := 64) dX11_blind_64 rfl mm_get_0 ?_
      refine mb_gr (pc := 65) dX11_blind_65 fl_X11_75 hr (fun c10 hr => ?_)
      refine mb_gl (pc := 68) dX11_blind_68 fl_X11_234 hr (fun y11 hr => ?_)
      refine mg_goto (pc := 71) 96 dX11_blind_71 rfl ?_
      exact mg_weak (mm_le_s (mm_le_n (mm_le_n (mm_le_s (mm_le_n (mm_le_n mm_le_0)))))) (X11_blind_b96_ok hz hd h0 hr)
  · refine mg_ldc2 (pc := 55) dX11_blind_55 (v := (-2 : Int64)) tw_1139 ?_
    exact mb_xlret dX11_blind_58 rfl hr
def X11_blind_b35 (e : mm_E) (a0 : Nat) (i1 : Int32) (i2 : Int32) (i3 : Int32) (m : mm_V) : Option ((Int64 ⊕ String) × mm_V) := X11_blind_b36 e a0 i1 i2 i3 (0 : Int32) m
theorem X11_blind_b35_ok {K : mm_K} {e : mm_E} (hz : e.2.1 = K.2.2.2.2) {d : Nat} (hd : 98 ≤ d) {a0 : Nat} {i1 : Int32} {i2 : Int32} {i3 : Int32} (h0 : e.1 a0 = some (11, 19)) {m : mm_V} {r : ((Int64 ⊕ String) × mm_V)} (hr : X11_blind_b35 e a0 i1 i2 i3 m = some r) : mm_G K MX11_blind d (mm_Xl e.1 r) 35 [some (.ref a0), some (.int i1), some (.int i2), some (.int i3), none, none] [] (e.1, m) none 0 0 := by
  obtain ⟨d, rfl⟩ : ∃ d', d = d' + 1 := ⟨d - 1, by omega⟩
  unfold X11_blind_b35 at hr
  refine mg_iconst (pc := 35) dX11_blind_35 kc_0 ?_
  exact mg_weak (mm_le_s (mm_le_s (mm_le_s (mm_le_s (mm_le_n (mm_le_n mm_le_0)))))) (X11_blind_b36_ok hz hd h0 hr)
def X11_blind_b19 (e : mm_E) (a0 : Nat) (i1 : Int32) (i2 : Int32) (i3 : Int32) (t0 : Int32) (m : mm_V) : Option ((Int64 ⊕ String) × mm_V) := mm_bx (X11_need e t0 m) fun r1 => if i2 < 0 then (X11_blind_b35 e a0 i1 i2 i3  r1.2) else (if (4 : Int32) < i2 then (X11_blind_b35 e a0 i1 i2 i3  r1.2) else (X11_blind_b36 e a0 i1 i2 i3 (1 : Int32) r1.2))
theorem X11_blind_b19_ok {K : mm_K} {e : mm_E} (hz : e.2.1 = K.2.2.2.2) {d : Nat} (hd : 98 ≤ d) {a0 : Nat} {i1 : Int32} {i2 : Int32} {i3 : Int32} {t0 : Int32} (h0 : e.1 a0 = some (11, 19)) {m : mm_V} {r : ((Int64 ⊕ String) × mm_V)} (hr : X11_blind_b19 e a0 i1 i2 i3 t0 m = some r) : mm_G K MX11_blind d (mm_Xl e.1 r) 19 [some (.ref a0), some (.int i1), some (.int i2), some (.int i3), none, none] [.int t0] (e.1, m) none 0 0 := by
  obtain ⟨d, rfl⟩ : ∃ d', d = d' + 1 := ⟨d - 1, by omega⟩
  unfold X11_blind_b19 at hr
  refine mb_xSv (pc := 19) (As := [.int t0]) (rest := []) dX11_blind_19 cw_X11_164 tw_1037  rfl hr (fun v hv => X11_need_ok hz (by omega)  hv) rfl (Nat.le_of_ble_eq_true rfl) (fun r1 hr => ?_)
  refine ml_iload_n (pc := 22) dX11_blind_22 rfl (mm_get_s (mm_get_s mm_get_0)) ?_
  refine mb_if_lt (pc := 23) 35 dX11_blind_23 rfl hr (fun hr => ?_) (fun hr => ?_)
  · exact mg_weak (mm_le_s (mm_le_s (mm_le_s (mm_le_s (mm_le_n (mm_le_n mm_le_0)))))) (X11_blind_b35_ok hz hd h0 hr)
  · refine ml_iload_n (pc := 26) dX11_blind_26 rfl (mm_get_s (mm_get_s mm_get_0)) ?_
    refine mg_iconst (pc := 27) dX11_blind_27 kc_4 ?_
    refine mb_icmp_gt (pc := 28) 35 dX11_blind_28 rfl hr (fun hr => ?_) (fun hr => ?_)
    · exact mg_weak (mm_le_s (mm_le_s (mm_le_s (mm_le_s (mm_le_n (mm_le_n mm_le_0)))))) (X11_blind_b35_ok hz hd h0 hr)
    · refine mg_iconst (pc := 31) dX11_blind_31 kc_1 ?_
      refine mg_goto (pc := 32) 36 dX11_blind_32 rfl ?_
      exact mg_weak (mm_le_s (mm_le_s (mm_le_s (mm_le_s (mm_le_n (mm_le_n mm_le_0)))))) (X11_blind_b36_ok hz hd h0 hr)
def X11_blind_b18 (e : mm_E) (a0 : Nat) (i1 : Int32) (i2 : Int32) (i3 : Int32) (m : mm_V) : Option ((Int64 ⊕ String) × mm_V) := X11_blind_b19 e a0 i1 i2 i3 (0 : Int32) m
theorem X11_blind_b18_ok {K : mm_K} {e : mm_E} (hz : e.2.1 = K.2.2.2.2) {d : Nat} (hd : 98 ≤ d) {a0 : Nat} {i1 : Int32} {i2 : Int32} {i3 : Int32} (h0 : e.1 a0 = some (11, 19)) {m : mm_V} {r : ((Int64 ⊕ String) × mm_V)} (hr : X11_blind_b18 e a0 i1 i2 i3 m = some r) : mm_G K MX11_blind d (mm_Xl e.1 r) 18 [some (.ref a0), some (.int i1), some (.int i2), some (.int i3), none, none] [] (e.1, m) none 0 0 := by
  obtain ⟨d, rfl⟩ : ∃ d', d = d' + 1 := ⟨d - 1, by omega⟩
  unfold X11_blind_b18 at hr
  refine mg_iconst (pc := 18) dX11_blind_18 kc_0 ?_
  exact mg_weak (mm_le_s (mm_le_s (mm_le_s (mm_le_s (mm_le_n (mm_le_n mm_le_0)))))) (X11_blind_b19_ok hz hd h0 hr)
def X11_blind (e : mm_E) (a0 : Nat) (i1 : Int32) (i2 : Int32) (i3 : Int32) (m : mm_V) : Option ((Int64 ⊕ String) × mm_V) := mm_bx (X11_needPerson e a0 i1 m) fun r1 => if i3 < 0 then (X11_blind_b18 e a0 i1 i2 i3  r1.2) else (if (5 : Int32) < i3 then (X11_blind_b18 e a0 i1 i2 i3  r1.2) else (X11_blind_b19 e a0 i1 i2 i3 (1 : Int32) r1.2))
theorem X11_blind_ok {K : mm_K} {e : mm_E} (hz : e.2.1 = K.2.2.2.2) {d : Nat} (hd : 98 ≤ d) {a0 : Nat} {i1 : Int32} {i2 : Int32} {i3 : Int32} (h0 : e.1 a0 = some (11, 19)) {m : mm_V} {r : ((Int64 ⊕ String) × mm_V)} (hr : X11_blind e a0 i1 i2 i3 m = some r) : mm_Cn K MX11_blind d (mm_Xl e.1 r) [.ref a0, .int i1, .int i2, .int i3] (e.1, m) none := by
  obtain ⟨d, rfl⟩ : ∃ d', d = d' + 1 := ⟨d - 1, by omega⟩
  refine mm_entry (by decide) (Nat.le_of_ble_eq_true rfl) rfl (fun hok => ?_)
  unfold X11_blind at hr
  refine mg_weak (L' := [some (.ref a0), some (.int i1), some (.int i2), some (.int i3), none, none]) (mm_le_s (mm_le_s (mm_le_s (mm_le_s (mm_le_e (mm_le_e mm_le_0)))))) ?_
  refine ml_aload_n (pc := 0) dX11_blind_0 rfl mm_get_0 ?_
  refine ml_iload_n (pc := 1) dX11_blind_1 rfl (mm_get_s mm_get_0) ?_
  refine mb_xVv (pc := 2) (As := [.int i1]) (rest := []) dX11_blind_2 cw_X11_150 tw_1029 h0 rfl hr (fun v hv => X11_needPerson_ok hz (by omega) h0 hv) rfl (Nat.le_of_ble_eq_true rfl) (fun r1 hr => ?_)
  refine ml_iload_n (pc := 5) dX11_blind_5 rfl (mm_get_s (mm_get_s (mm_get_s mm_get_0))) ?_
  refine mb_if_lt (pc := 6) 18 dX11_blind_6 rfl hr (fun hr => ?_) (fun hr => ?_)
  · exact mg_weak (mm_le_s (mm_le_s (mm_le_s (mm_le_s (mm_le_n (mm_le_n mm_le_0)))))) (X11_blind_b18_ok hz hd h0 hr)
  · refine ml_iload_n (pc := 9) dX11_blind_9 rfl (mm_get_s (mm_get_s (mm_get_s mm_get_0))) ?_
    refine mg_iconst (pc := 10) dX11_blind_10 kc_5 ?_
    refine mb_icmp_gt (pc := 11) 18 dX11_blind_11 rfl hr (fun hr => ?_) (fun hr => ?_)
    · exact mg_weak (mm_le_s (mm_le_s (mm_le_s (mm_le_s (mm_le_n (mm_le_n mm_le_0)))))) (X11_blind_b18_ok hz hd h0 hr)
    · refine mg_iconst (pc := 14) dX11_blind_14 kc_1 ?_
      refine mg_goto (pc := 15) 19 dX11_blind_15 rfl ?_
      exact mg_weak (mm_le_s (mm_le_s (mm_le_s (mm_le_s (mm_le_n (mm_le_n mm_le_0)))))) (X11_blind_b19_ok hz hd h0 hr)
theorem dX11_choose_0 : decode cX11_choose 0 = .ok (.aload_n 0, 1) := by decide +kernel
theorem dX11_choose_1 : decode cX11_choose 1 = .ok (.iload_n 1, 1) := by decide +kernel
theorem dX11_choose_2 : decode cX11_choose 2 = .ok (.invokevirtual 150, 3) := by decide +kernel
theorem dX11_choose_5 : decode cX11_choose 5 = .ok (.iload_n 2, 1) := by decide +kernel
theorem dX11_choose_6 : decode cX11_choose 6 = .ok (.ifCond .eq 8, 3) := by decide +kernel
theorem dX11_choose_9 : decode cX11_choose 9 = .ok (.iload_n 2, 1) := by decide +kernel
theorem dX11_choose_10 : decode cX11_choose 10 = .ok (.iconst 1, 1) := by decide +kernel
theorem dX11_choose_11 : decode cX11_choose 11 = .ok (.if_icmp .ne 7, 3) := by decide +kernel
theorem dX11_choose_14 : decode cX11_choose 14 = .ok (.iconst 1, 1) := by decide +kernel
theorem dX11_choose_15 : decode cX11_choose 15 = .ok (.goto 4, 3) := by decide +kernel
theorem dX11_choose_18 : decode cX11_choose 18 = .ok (.iconst 0, 1) := by decide +kernel
theorem dX11_choose_19 : decode cX11_choose 19 = .ok (.invokestatic 164, 3) := by decide +kernel
theorem dX11_choose_22 : decode cX11_choose 22 = .ok (.aload_n 0, 1) := by decide +kernel
theorem dX11_choose_23 : decode cX11_choose 23 = .ok (.getfield 45, 3) := by decide +kernel
theorem dX11_choose_26 : decode cX11_choose 26 = .ok (.invokevirtual 124, 3) := by decide +kernel
theorem dX11_choose_29 : decode cX11_choose 29 = .ok (.ifCond .ne 14, 3) := by decide +kernel
theorem dX11_choose_32 : decode cX11_choose 32 = .ok (.aload_n 0, 1) := by decide +kernel
theorem dX11_choose_33 : decode cX11_choose 33 = .ok (.getfield 45, 3) := by decide +kernel
theorem dX11_choose_36 : decode cX11_choose 36 = .ok (.iload_n 1, 1) := by decide +kernel
theorem dX11_choose_37 : decode cX11_choose 37 = .ok (.invokevirtual 176, 3) := by decide +kernel
theorem dX11_choose_40 : decode cX11_choose 40 = .ok (.ifCond .eq 5, 3) := by decide +kernel
theorem dX11_choose_43 : decode cX11_choose 43 = .ok (.iconst (-1), 1) := by decide +kernel
theorem dX11_choose_44 : decode cX11_choose 44 = .ok (.ireturn, 1) := by decide +kernel
theorem dX11_choose_45 : decode cX11_choose 45 = .ok (.aload_n 0, 1) := by decide +kernel
theorem dX11_choose_46 : decode cX11_choose 46 = .ok (.getfield 45, 3) := by decide +kernel
theorem dX11_choose_49 : decode cX11_choose 49 = .ok (.iload_n 1, 1) := by decide +kernel
theorem dX11_choose_50 : decode cX11_choose 50 = .ok (.invokevirtual 179, 3) := by decide +kernel
theorem dX11_choose_53 : decode cX11_choose 53 = .ok (.istore_n 3, 1) := by decide +kernel
theorem dX11_choose_54 : decode cX11_choose 54 = .ok (.aload_n 0, 1) := by decide +kernel
theorem dX11_choose_55 : decode cX11_choose 55 = .ok (.iload_n 1, 1) := by decide +kernel
theorem dX11_choose_56 : decode cX11_choose 56 = .ok (.iload_n 3, 1) := by decide +kernel
theorem dX11_choose_57 : decode cX11_choose 57 = .ok (.invokevirtual 261, 3) := by decide +kernel
theorem dX11_choose_60 : decode cX11_choose 60 = .ok (.ifCond .ne 6, 3) := by decide +kernel
theorem dX11_choose_63 : decode cX11_choose 63 = .ok (.bipush (-2), 2) := by decide +kernel
theorem dX11_choose_65 : decode cX11_choose 65 = .ok (.ireturn, 1) := by decide +kernel
theorem dX11_choose_66 : decode cX11_choose 66 = .ok (.iconst 0, 1) := by decide +kernel
theorem dX11_choose_67 : decode cX11_choose 67 = .ok (.istore 4, 2) := by decide +kernel
theorem dX11_choose_69 : decode cX11_choose 69 = .ok (.iconst 1, 1) := by decide +kernel
theorem dX11_choose_70 : decode cX11_choose 70 = .ok (.istore 5, 2) := by decide +kernel
theorem dX11_choose_72 : decode cX11_choose 72 = .ok (.iload 5, 2) := by decide +kernel
theorem dX11_choose_74 : decode cX11_choose 74 = .ok (.aload_n 0, 1) := by decide +kernel
theorem dX11_choose_75 : decode cX11_choose 75 = .ok (.getfield 45, 3) := by decide +kernel
theorem dX11_choose_78 : decode cX11_choose 78 = .ok (.iload_n 3, 1) := by decide +kernel
theorem dX11_choose_79 : decode cX11_choose 79 = .ok (.invokevirtual 153, 3) := by decide +kernel
theorem dX11_choose_82 : decode cX11_choose 82 = .ok (.getfield 157, 3) := by decide +kernel
theorem dX11_choose_85 : decode cX11_choose 85 = .ok (.if_icmp .ge 39, 3) := by decide +kernel
theorem dX11_choose_88 : decode cX11_choose 88 = .ok (.aload_n 0, 1) := by decide +kernel
theorem dX11_choose_89 : decode cX11_choose 89 = .ok (.getfield 84, 3) := by decide +kernel
theorem dX11_choose_92 : decode cX11_choose 92 = .ok (.iload 5, 2) := by decide +kernel
theorem dX11_choose_94 : decode cX11_choose 94 = .ok (.invokevirtual 277, 3) := by decide +kernel
theorem dX11_choose_97 : decode cX11_choose 97 = .ok (.aload_n 0, 1) := by decide +kernel
theorem dX11_choose_98 : decode cX11_choose 98 = .ok (.getfield 84, 3) := by decide +kernel
theorem dX11_choose_101 : decode cX11_choose 101 = .ok (.iload 4, 2) := by decide +kernel
theorem dX11_choose_103 : decode cX11_choose 103 = .ok (.invokevirtual 277, 3) := by decide +kernel
theorem dX11_choose_106 : decode cX11_choose 106 = .ok (.if_icmp .ge 8, 3) := by decide +kernel
theorem dX11_choose_109 : decode cX11_choose 109 = .ok (.iload 5, 2) := by decide +kernel
theorem dX11_choose_111 : decode cX11_choose 111 = .ok (.goto 5, 3) := by decide +kernel
theorem dX11_choose_114 : decode cX11_choose 114 = .ok (.iload 4, 2) := by decide +kernel
theorem dX11_choose_116 : decode cX11_choose 116 = .ok (.istore 4, 2) := by decide +kernel
theorem dX11_choose_118 : decode cX11_choose 118 = .ok (.iinc 5 1, 3) := by decide +kernel
theorem dX11_choose_121 : decode cX11_choose 121 = .ok (.goto (-49), 3) := by decide +kernel
theorem dX11_choose_124 : decode cX11_choose 124 = .ok (.iload_n 2, 1) := by decide +kernel
theorem dX11_choose_125 : decode cX11_choose 125 = .ok (.ifCond .ne 8, 3) := by decide +kernel
theorem dX11_choose_128 : decode cX11_choose 128 = .ok (.iload 4, 2) := by decide +kernel
theorem dX11_choose_130 : decode cX11_choose 130 = .ok (.goto 12, 3) := by decide +kernel
theorem dX11_choose_133 : decode cX11_choose 133 = .ok (.aload_n 0, 1) := by decide +kernel
theorem dX11_choose_134 : decode cX11_choose 134 = .ok (.getfield 84, 3) := by decide +kernel
theorem dX11_choose_137 : decode cX11_choose 137 = .ok (.iload 4, 2) := by decide +kernel
theorem dX11_choose_139 : decode cX11_choose 139 = .ok (.invokevirtual 277, 3) := by decide +kernel
theorem dX11_choose_142 : decode cX11_choose 142 = .ok (.ireturn, 1) := by decide +kernel
def X11_choose_b142 (e : mm_E) (t0 : Int32) (m : mm_V) : Option ((Int32 ⊕ String) × mm_V) := some (.inl t0, m)
theorem X11_choose_b142_ok {K : mm_K} {e : mm_E} (hz : e.2.1 = K.2.2.2.2) {d : Nat} (hd : 255 ≤ d) {t0 : Int32} {a0 : Nat} (h0 : e.1 a0 = some (11, 19)) {m : mm_V} {r : ((Int32 ⊕ String) × mm_V)} (hr : X11_choose_b142 e t0 m = some r) : mm_G K MX11_choose d (mm_Xi e.1 r) 142 [none, none, none, none, none, none] [.int t0] (e.1, m) none 0 0 := by
  obtain ⟨d, rfl⟩ : ∃ d', d = d' + 1 := ⟨d - 1, by omega⟩
  unfold X11_choose_b142 at hr
  exact mb_xiret dX11_choose_142 rfl hr
def X11_choose_b116 (e : mm_E) (k72 : Int32 → Int32 → mm_V → Option ((Int32 ⊕ String) × mm_V)) (a0 : Nat) (i2 : Int32) (i3 : Int32) (i5 : Int32) (t0 : Int32) (m : mm_V) : Option ((Int32 ⊕ String) × mm_V) := k72 t0 (i5 + 1) m
theorem X11_choose_b116_ok {K : mm_K} {e : mm_E} (hz : e.2.1 = K.2.2.2.2) {d : Nat} (hd : 255 ≤ d) {a0 : Nat} {i2 : Int32} {i3 : Int32} {i5 : Int32} {t0 : Int32} (h0 : e.1 a0 = some (11, 19)) {k72 : Int32 → Int32 → mm_V → Option ((Int32 ⊕ String) × mm_V)} (hk72 : ∀ (w4 : Int32) (w5 : Int32) (m : mm_V) (r : ((Int32 ⊕ String) × mm_V)), k72 w4 w5 m = some r → mm_G K MX11_choose d (mm_Xi e.1 r) 72 [some (.ref a0), none, some (.int i2), some (.int i3), some (.int w4), some (.int w5)] [] (e.1, m) none 0 0) {m : mm_V} {r : ((Int32 ⊕ String) × mm_V)} (hr : X11_choose_b116 e k72 a0 i2 i3 i5 t0 m = some r) : mm_G K MX11_choose d (mm_Xi e.1 r) 116 [some (.ref a0), none, some (.int i2), some (.int i3), none, some (.int i5)] [.int t0] (e.1, m) none 0 0 := by
  obtain ⟨d, rfl⟩ : ∃ d', d = d' + 1 := ⟨d - 1, by omega⟩
  unfold X11_choose_b116 at hr
  refine ml_istore (pc := 116) dX11_choose_116 (Nat.le_of_ble_eq_true rfl) (mm_st1_s (mm_st1_s (mm_st1_s mm_st1_i))) ?_
  refine ml_iinc (pc := 118) dX11_choose_118 (mm_get_s (mm_get_s (mm_get_s (mm_get_s (mm_get_s mm_get_0))))) (congrArg (fun z => i5 + z) kc_1) (Nat.le_of_ble_eq_true rfl) (mm_st1_s (mm_st1_s (mm_st1_s (mm_st1_s mm_st1_i)))) ?_
  refine mg_goto (pc := 121) 72 dX11_choose_121 rfl ?_
  exact mg_weak (mm_le_s (mm_le_n (mm_le_s (mm_le_s (mm_le_s (mm_le_s mm_le_0)))))) (hk72 _ _ _ _ hr)
def X11_choose_L72 (e : mm_E) (a0 : Nat) (i2 : Int32) (i3 : Int32) : Nat → Int32 → Int32 → mm_V → Option ((Int32 ⊕ String) × mm_V)
  | 0, _, _, _ => none
  | n + 1, i4, i5, m => (mm_gr e.1 m 11 19 a0 6).bind fun c1 => if e.1 c1 = some (4, 12) then ((X4_fanAt e c1 i3 m).bind fun r2 => (mm_gi e.1 r2.2 3 2 r2.1 1).bind fun x4 => if x4 ≤ i5 then (if ¬ i2 = 0 then ((mm_gr e.1 r2.2 11 19 a0 13).bind fun c5 => if e.1 c5 = some (0, 13) then ((X0_queenAt e c5 i4 r2.2).bind fun r6 => X11_choose_b142 e  r6.1 r6.2) else none) else (X11_choose_b142 e  i4 r2.2)) else ((mm_gr e.1 r2.2 11 19 a0 13).bind fun c8 => if e.1 c8 = some (0, 13) then ((X0_queenAt e c8 i5 r2.2).bind fun r9 => (mm_gr e.1 r9.2 11 19 a0 13).bind fun c11 => if e.1 c11 = some (0, 13) then ((X0_queenAt e c11 i4 r9.2).bind fun r12 => if r12.1 ≤ r9.1 then (X11_choose_b116 e (X11_choose_L72 e a0 i2 i3 n) a0 i2 i3 i5 i4 r12.2) else (X11_choose_b116 e (X11_choose_L72 e a0 i2 i3 n) a0 i2 i3 i5 i5 r12.2)) else none) else none)) else none
theorem X11_choose_L72_ok {K : mm_K} {e : mm_E} (hz : e.2.1 = K.2.2.2.2) {d : Nat} (hd : 255 ≤ d) {a0 : Nat} {i2 : Int32} {i3 : Int32} (h0 : e.1 a0 = some (11, 19)) : ∀ (n : Nat) (i4 : Int32) (i5 : Int32) (m : mm_V) (r : ((Int32 ⊕ String) × mm_V)), X11_choose_L72 e a0 i2 i3 n i4 i5 m = some r → mm_G K MX11_choose d (mm_Xi e.1 r) 72 [some (.ref a0), none, some (.int i2), some (.int i3), some (.int i4), some (.int i5)] [] (e.1, m) none 0 0 := by
  obtain ⟨d, rfl⟩ : ∃ d', d = d' + 1 := ⟨d - 1, by omega⟩
  intro n
  induction n with
  | zero => intro i4 i5 m r hr; unfold X11_choose_L72 at hr; cases hr
  | succ n ih =>
    intro i4 i5 m r hr
    unfold X11_choose_L72 at hr
    refine ml_iload (pc := 72) dX11_choose_72 (mm_get_s (mm_get_s (mm_get_s (mm_get_s (mm_get_s mm_get_0))))) ?_
    refine ml_aload_n (pc := 74) dX11_choose_74 rfl mm_get_0 ?_
    refine mb_gr (pc := 75) dX11_choose_75 fl_X11_45 hr (fun c1 hr => ?_)
    refine ml_iload_n (pc := 78) dX11_choose_78 rfl (mm_get_s (mm_get_s (mm_get_s mm_get_0))) ?_
    refine mb_ck hr (fun hb3 hr => ?_)
    refine mb_cVr (pc := 79) (As := [.int i3]) (rest := [.int i5]) dX11_choose_79 cw_X11_153 hb3 hr (fun v hv => X4_fanAt_ok hz (by omega) hb3 hv) rfl (Nat.le_of_ble_eq_true rfl) (Nat.zero_le _) (Nat.zero_le _) (fun r2 hr => ?_)
    refine mb_gi (pc := 82) dX11_choose_82 fl_X11_157 hr (fun x4 hr => ?_)
    refine mb_icmp_ge (pc := 85) 124 dX11_choose_85 rfl hr (fun hr => ?_) (fun hr => ?_)
    · refine ml_iload_n (pc := 124) dX11_choose_124 rfl (mm_get_s (mm_get_s mm_get_0)) ?_
      refine mb_if_ne (pc := 125) 133 dX11_choose_125 rfl hr (fun hr => ?_) (fun hr => ?_)
      · refine ml_aload_n (pc := 133) dX11_choose_133 rfl mm_get_0 ?_
        refine mb_gr (pc := 134) dX11_choose_134 fl_X11_84 hr (fun c5 hr => ?_)
        refine ml_iload (pc := 137) dX11_choose_137 (mm_get_s (mm_get_s (mm_get_s (mm_get_s mm_get_0)))) ?_
        refine mb_ck hr (fun hb7 hr => ?_)
        refine mb_cVi (pc := 139) (As := [.int i4]) (rest := []) dX11_choose_139 cw_X11_277 hb7 hr (fun v hv => X0_queenAt_ok hz (by omega) hb7 hv) rfl (Nat.le_of_ble_eq_true rfl) (Nat.zero_le _) (Nat.zero_le _) (fun r6 hr => ?_)
        exact mg_weak (mm_le_n (mm_le_n (mm_le_n (mm_le_n (mm_le_n (mm_le_n mm_le_0)))))) (X11_choose_b142_ok hz hd h0 hr)
      · refine ml_iload (pc := 128) dX11_choose_128 (mm_get_s (mm_get_s (mm_get_s (mm_get_s mm_get_0)))) ?_
        refine mg_goto (pc := 130) 142 dX11_choose_130 rfl ?_
        exact mg_weak (mm_le_n (mm_le_n (mm_le_n (mm_le_n (mm_le_n (mm_le_n mm_le_0)))))) (X11_choose_b142_ok hz hd h0 hr)
    · refine ml_aload_n (pc := 88) dX11_choose_88 rfl mm_get_0 ?_
      refine mb_gr (pc := 89) dX11_choose_89 fl_X11_84 hr (fun c8 hr => ?_)
      refine ml_iload (pc := 92) dX11_choose_92 (mm_get_s (mm_get_s (mm_get_s (mm_get_s (mm_get_s mm_get_0))))) ?_
      refine mb_ck hr (fun hb10 hr => ?_)
      refine mb_cVi (pc := 94) (As := [.int i5]) (rest := []) dX11_choose_94 cw_X11_277 hb10 hr (fun v hv => X0_queenAt_ok hz (by omega) hb10 hv) rfl (Nat.le_of_ble_eq_true rfl) (Nat.zero_le _) (Nat.zero_le _) (fun r9 hr => ?_)
      refine ml_aload_n (pc := 97) dX11_choose_97 rfl mm_get_0 ?_
      refine mb_gr (pc := 98) dX11_choose_98 fl_X11_84 hr (fun c11 hr => ?_)
      refine ml_iload (pc := 101) dX11_choose_101 (mm_get_s (mm_get_s (mm_get_s (mm_get_s mm_get_0)))) ?_
      refine mb_ck hr (fun hb13 hr => ?_)
      refine mb_cVi (pc := 103) (As := [.int i4]) (rest := [.int r9.1]) dX11_choose_103 cw_X11_277 hb13 hr (fun v hv => X0_queenAt_ok hz (by omega) hb13 hv) rfl (Nat.le_of_ble_eq_true rfl) (Nat.zero_le _) (Nat.zero_le _) (fun r12 hr => ?_)
      refine mb_icmp_ge (pc := 106) 114 dX11_choose_106 rfl hr (fun hr => ?_) (fun hr => ?_)
      · refine ml_iload (pc := 114) dX11_choose_114 (mm_get_s (mm_get_s (mm_get_s (mm_get_s mm_get_0)))) ?_
        exact mg_weak (mm_le_s (mm_le_n (mm_le_s (mm_le_s (mm_le_n (mm_le_s mm_le_0)))))) (X11_choose_b116_ok hz hd h0 ih hr)
      · refine ml_iload (pc := 109) dX11_choose_109 (mm_get_s (mm_get_s (mm_get_s (mm_get_s (mm_get_s mm_get_0))))) ?_
        refine mg_goto (pc := 111) 116 dX11_choose_111 rfl ?_
        exact mg_weak (mm_le_s (mm_le_n (mm_le_s (mm_le_s (mm_le_n (mm_le_s mm_le_0)))))) (X11_choose_b116_ok hz hd h0 ih hr)
def X11_choose_b43 (e : mm_E) (m : mm_V) : Option ((Int32 ⊕ String) × mm_V) := some (.inl (-1 : Int32), m)
theorem X11_choose_b43_ok {K : mm_K} {e : mm_E} (hz : e.2.1 = K.2.2.2.2) {d : Nat} (hd : 255 ≤ d) {a0 : Nat} (h0 : e.1 a0 = some (11, 19)) {m : mm_V} {r : ((Int32 ⊕ String) × mm_V)} (hr : X11_choose_b43 e m = some r) : mm_G K MX11_choose d (mm_Xi e.1 r) 43 [none, none, none, none, none, none] [] (e.1, m) none 0 0 := by
  obtain ⟨d, rfl⟩ : ∃ d', d = d' + 1 := ⟨d - 1, by omega⟩
  unfold X11_choose_b43 at hr
  refine mg_iconst (pc := 43) dX11_choose_43 kc_m1 ?_
  exact mb_xiret dX11_choose_44 rfl hr
def X11_choose_b19 (e : mm_E) (a0 : Nat) (i1 : Int32) (i2 : Int32) (t0 : Int32) (m : mm_V) : Option ((Int32 ⊕ String) × mm_V) := mm_bx (X11_need e t0 m) fun r1 => (mm_gr e.1 r1.2 11 19 a0 6).bind fun c2 => if e.1 c2 = some (4, 12) then ((X4_over e c2 r1.2).bind fun r3 => if ¬ r3.1 = 0 then (X11_choose_b43 e   r3.2) else ((mm_gr e.1 r3.2 11 19 a0 6).bind fun c5 => if e.1 c5 = some (4, 12) then ((X4_isEmpty e c5 i1 r3.2).bind fun r6 => if r6.1 = 0 then ((mm_gr e.1 r6.2 11 19 a0 6).bind fun c8 => if e.1 c8 = some (4, 12) then ((X4_source e c8 i1 r6.2).bind fun r9 => (X11_believe e a0 i1 r9.1 r9.2).bind fun r11 => if ¬ r11.1 = 0 then (X11_choose_L72 e a0 i2 r9.1 e.2.2 (0 : Int32) (1 : Int32) r11.2) else (some (.inl (-2 : Int32), r11.2))) else none) else (X11_choose_b43 e   r6.2)) else none)) else none
theorem X11_choose_b19_ok {K : mm_K} {e : mm_E} (hz : e.2.1 = K.2.2.2.2) {d : Nat} (hd : 255 ≤ d) {a0 : Nat} {i1 : Int32} {i2 : Int32} {t0 : Int32} (h0 : e.1 a0 = some (11, 19)) {m : mm_V} {r : ((Int32 ⊕ String) × mm_V)} (hr : X11_choose_b19 e a0 i1 i2 t0 m = some r) : mm_G K MX11_choose d (mm_Xi e.1 r) 19 [some (.ref a0), some (.int i1), some (.int i2), none, none, none] [.int t0] (e.1, m) none 0 0 := by
  obtain ⟨d, rfl⟩ : ∃ d', d = d' + 1 := ⟨d - 1, by omega⟩
  unfold X11_choose_b19 at hr
  refine mb_xSv (pc := 19) (As := [.int t0]) (rest := []) dX11_choose_19 cw_X11_164 tw_1037  rfl hr (fun v hv => X11_need_ok hz (by omega)  hv) rfl (Nat.le_of_ble_eq_true rfl) (fun r1 hr => ?_)
  refine ml_aload_n (pc := 22) dX11_choose_22 rfl mm_get_0 ?_
  refine mb_gr (pc := 23) dX11_choose_23 fl_X11_45 hr (fun c2 hr => ?_)
  refine mb_ck hr (fun hb4 hr => ?_)
  refine mb_cVi (pc := 26) (As := []) (rest := []) dX11_choose_26 cw_X11_124 hb4 hr (fun v hv => X4_over_ok hz (by omega) hb4 hv) rfl (Nat.le_of_ble_eq_true rfl) (Nat.zero_le _) (Nat.zero_le _) (fun r3 hr => ?_)
  refine mb_if_ne (pc := 29) 43 dX11_choose_29 rfl hr (fun hr => ?_) (fun hr => ?_)
  · exact mg_weak (mm_le_n (mm_le_n (mm_le_n (mm_le_n (mm_le_n (mm_le_n mm_le_0)))))) (X11_choose_b43_ok hz hd h0 hr)
  · refine ml_aload_n (pc := 32) dX11_choose_32 rfl mm_get_0 ?_
    refine mb_gr (pc := 33) dX11_choose_33 fl_X11_45 hr (fun c5 hr => ?_)
    refine ml_iload_n (pc := 36) dX11_choose_36 rfl (mm_get_s mm_get_0) ?_
    refine mb_ck hr (fun hb7 hr => ?_)
    refine mb_cVi (pc := 37) (As := [.int i1]) (rest := []) dX11_choose_37 cw_X11_176 hb7 hr (fun v hv => X4_isEmpty_ok hz (by omega) hb7 hv) rfl (Nat.le_of_ble_eq_true rfl) (Nat.zero_le _) (Nat.zero_le _) (fun r6 hr => ?_)
    refine mb_if_eq (pc := 40) 45 dX11_choose_40 rfl hr (fun hr => ?_) (fun hr => ?_)
    · refine ml_aload_n (pc := 45) dX11_choose_45 rfl mm_get_0 ?_
      refine mb_gr (pc := 46) dX11_choose_46 fl_X11_45 hr (fun c8 hr => ?_)
      refine ml_iload_n (pc := 49) dX11_choose_49 rfl (mm_get_s mm_get_0) ?_
      refine mb_ck hr (fun hb10 hr => ?_)
      refine mb_cVi (pc := 50) (As := [.int i1]) (rest := []) dX11_choose_50 cw_X11_179 hb10 hr (fun v hv => X4_source_ok hz (by omega) hb10 hv) rfl (Nat.le_of_ble_eq_true rfl) (Nat.zero_le _) (Nat.zero_le _) (fun r9 hr => ?_)
      refine ml_istore_n (pc := 53) dX11_choose_53 rfl (Nat.le_of_ble_eq_true rfl) (mm_st1_s (mm_st1_s mm_st1_i)) ?_
      refine ml_aload_n (pc := 54) dX11_choose_54 rfl mm_get_0 ?_
      refine ml_iload_n (pc := 55) dX11_choose_55 rfl (mm_get_s mm_get_0) ?_
      refine ml_iload_n (pc := 56) dX11_choose_56 rfl (mm_get_s (mm_get_s (mm_get_s mm_get_0))) ?_
      refine mb_cVi (pc := 57) (As := [.int i1, .int r9.1]) (rest := []) dX11_choose_57 cw_X11_261 h0 hr (fun v hv => X11_believe_ok hz (by omega) h0 hv) rfl (Nat.le_of_ble_eq_true rfl) (Nat.zero_le _) (Nat.zero_le _) (fun r11 hr => ?_)
      refine mb_if_ne (pc := 60) 66 dX11_choose_60 rfl hr (fun hr => ?_) (fun hr => ?_)
      · refine mg_iconst (pc := 66) dX11_choose_66 kc_0 ?_
        refine ml_istore (pc := 67) dX11_choose_67 (Nat.le_of_ble_eq_true rfl) (mm_st1_s (mm_st1_s (mm_st1_s mm_st1_i))) ?_
        refine mg_iconst (pc := 69) dX11_choose_69 kc_1 ?_
        refine ml_istore (pc := 70) dX11_choose_70 (Nat.le_of_ble_eq_true rfl) (mm_st1_s (mm_st1_s (mm_st1_s (mm_st1_s mm_st1_i)))) ?_
        exact mg_weak (mm_le_s (mm_le_n (mm_le_s (mm_le_s (mm_le_s (mm_le_s mm_le_0)))))) (X11_choose_L72_ok hz hd h0 _ _ _ _ _ hr)
      · refine mg_bipush (pc := 63) dX11_choose_63 kb_m2 ?_
        exact mb_xiret dX11_choose_65 rfl hr
    · exact mg_weak (mm_le_n (mm_le_n (mm_le_n (mm_le_n (mm_le_n (mm_le_n mm_le_0)))))) (X11_choose_b43_ok hz hd h0 hr)
def X11_choose_b14 (e : mm_E) (a0 : Nat) (i1 : Int32) (i2 : Int32) (m : mm_V) : Option ((Int32 ⊕ String) × mm_V) := X11_choose_b19 e a0 i1 i2 (1 : Int32) m
theorem X11_choose_b14_ok {K : mm_K} {e : mm_E} (hz : e.2.1 = K.2.2.2.2) {d : Nat} (hd : 255 ≤ d) {a0 : Nat} {i1 : Int32} {i2 : Int32} (h0 : e.1 a0 = some (11, 19)) {m : mm_V} {r : ((Int32 ⊕ String) × mm_V)} (hr : X11_choose_b14 e a0 i1 i2 m = some r) : mm_G K MX11_choose d (mm_Xi e.1 r) 14 [some (.ref a0), some (.int i1), some (.int i2), none, none, none] [] (e.1, m) none 0 0 := by
  obtain ⟨d, rfl⟩ : ∃ d', d = d' + 1 := ⟨d - 1, by omega⟩
  unfold X11_choose_b14 at hr
  refine mg_iconst (pc := 14) dX11_choose_14 kc_1 ?_
  refine mg_goto (pc := 15) 19 dX11_choose_15 rfl ?_
  exact mg_weak (mm_le_s (mm_le_s (mm_le_s (mm_le_n (mm_le_n (mm_le_n mm_le_0)))))) (X11_choose_b19_ok hz hd h0 hr)
def X11_choose (e : mm_E) (a0 : Nat) (i1 : Int32) (i2 : Int32) (m : mm_V) : Option ((Int32 ⊕ String) × mm_V) := mm_bx (X11_needPerson e a0 i1 m) fun r1 => if i2 = 0 then (X11_choose_b14 e a0 i1 i2  r1.2) else (if ¬ i2 = (1 : Int32) then (X11_choose_b19 e a0 i1 i2 (0 : Int32) r1.2) else (X11_choose_b14 e a0 i1 i2  r1.2))
theorem X11_choose_ok {K : mm_K} {e : mm_E} (hz : e.2.1 = K.2.2.2.2) {d : Nat} (hd : 255 ≤ d) {a0 : Nat} {i1 : Int32} {i2 : Int32} (h0 : e.1 a0 = some (11, 19)) {m : mm_V} {r : ((Int32 ⊕ String) × mm_V)} (hr : X11_choose e a0 i1 i2 m = some r) : mm_Cn K MX11_choose d (mm_Xi e.1 r) [.ref a0, .int i1, .int i2] (e.1, m) none := by
  obtain ⟨d, rfl⟩ : ∃ d', d = d' + 1 := ⟨d - 1, by omega⟩
  refine mm_entry (by decide) (Nat.le_of_ble_eq_true rfl) rfl (fun hok => ?_)
  unfold X11_choose at hr
  refine mg_weak (L' := [some (.ref a0), some (.int i1), some (.int i2), none, none, none]) (mm_le_s (mm_le_s (mm_le_s (mm_le_e (mm_le_e (mm_le_e mm_le_0)))))) ?_
  refine ml_aload_n (pc := 0) dX11_choose_0 rfl mm_get_0 ?_
  refine ml_iload_n (pc := 1) dX11_choose_1 rfl (mm_get_s mm_get_0) ?_
  refine mb_xVv (pc := 2) (As := [.int i1]) (rest := []) dX11_choose_2 cw_X11_150 tw_1029 h0 rfl hr (fun v hv => X11_needPerson_ok hz (by omega) h0 hv) rfl (Nat.le_of_ble_eq_true rfl) (fun r1 hr => ?_)
  refine ml_iload_n (pc := 5) dX11_choose_5 rfl (mm_get_s (mm_get_s mm_get_0)) ?_
  refine mb_if_eq (pc := 6) 14 dX11_choose_6 rfl hr (fun hr => ?_) (fun hr => ?_)
  · exact mg_weak (mm_le_s (mm_le_s (mm_le_s (mm_le_n (mm_le_n (mm_le_n mm_le_0)))))) (X11_choose_b14_ok hz hd h0 hr)
  · refine ml_iload_n (pc := 9) dX11_choose_9 rfl (mm_get_s (mm_get_s mm_get_0)) ?_
    refine mg_iconst (pc := 10) dX11_choose_10 kc_1 ?_
    refine mb_icmp_ne (pc := 11) 18 dX11_choose_11 rfl hr (fun hr => ?_) (fun hr => ?_)
    · refine mg_iconst (pc := 18) dX11_choose_18 kc_0 ?_
      exact mg_weak (mm_le_s (mm_le_s (mm_le_s (mm_le_n (mm_le_n (mm_le_n mm_le_0)))))) (X11_choose_b19_ok hz hd h0 hr)
    · exact mg_weak (mm_le_s (mm_le_s (mm_le_s (mm_le_n (mm_le_n (mm_le_n mm_le_0)))))) (X11_choose_b14_ok hz hd h0 hr)
theorem dX11_count_0 : decode cX11_count 0 = .ok (.iload_n 1, 1) := by decide +kernel
theorem dX11_count_1 : decode cX11_count 1 = .ok (.tableswitch 152 0 10 #[59, 67, 75, 83, 105, 113, 121, 129, 137, 142, 147], 59) := by decide +kernel
theorem dX11_count_60 : decode cX11_count 60 = .ok (.aload_n 0, 1) := by decide +kernel
theorem dX11_count_61 : decode cX11_count 61 = .ok (.getfield 16, 3) := by decide +kernel
theorem dX11_count_64 : decode cX11_count 64 = .ok (.getfield 115, 3) := by decide +kernel
theorem dX11_count_67 : decode cX11_count 67 = .ok (.ireturn, 1) := by decide +kernel
theorem dX11_count_68 : decode cX11_count 68 = .ok (.aload_n 0, 1) := by decide +kernel
theorem dX11_count_69 : decode cX11_count 69 = .ok (.getfield 16, 3) := by decide +kernel
theorem dX11_count_72 : decode cX11_count 72 = .ok (.getfield 118, 3) := by decide +kernel
theorem dX11_count_75 : decode cX11_count 75 = .ok (.ireturn, 1) := by decide +kernel
theorem dX11_count_76 : decode cX11_count 76 = .ok (.aload_n 0, 1) := by decide +kernel
theorem dX11_count_77 : decode cX11_count 77 = .ok (.getfield 16, 3) := by decide +kernel
theorem dX11_count_80 : decode cX11_count 80 = .ok (.getfield 121, 3) := by decide +kernel
theorem dX11_count_83 : decode cX11_count 83 = .ok (.ireturn, 1) := by decide +kernel
theorem dX11_count_84 : decode cX11_count 84 = .ok (.aload_n 0, 1) := by decide +kernel
theorem dX11_count_85 : decode cX11_count 85 = .ok (.getfield 45, 3) := by decide +kernel
theorem dX11_count_88 : decode cX11_count 88 = .ok (.invokevirtual 124, 3) := by decide +kernel
theorem dX11_count_91 : decode cX11_count 91 = .ok (.ifCond .eq 7, 3) := by decide +kernel
theorem dX11_count_94 : decode cX11_count 94 = .ok (.iconst (-1), 1) := by decide +kernel
theorem dX11_count_95 : decode cX11_count 95 = .ok (.goto 10, 3) := by decide +kernel
theorem dX11_count_98 : decode cX11_count 98 = .ok (.aload_n 0, 1) := by decide +kernel
theorem dX11_count_99 : decode cX11_count 99 = .ok (.getfield 45, 3) := by decide +kernel
theorem dX11_count_102 : decode cX11_count 102 = .ok (.getfield 128, 3) := by decide +kernel
theorem dX11_count_105 : decode cX11_count 105 = .ok (.ireturn, 1) := by decide +kernel
theorem dX11_count_106 : decode cX11_count 106 = .ok (.aload_n 0, 1) := by decide +kernel
theorem dX11_count_107 : decode cX11_count 107 = .ok (.getfield 45, 3) := by decide +kernel
theorem dX11_count_110 : decode cX11_count 110 = .ok (.getfield 131, 3) := by decide +kernel
theorem dX11_count_113 : decode cX11_count 113 = .ok (.ireturn, 1) := by decide +kernel
theorem dX11_count_114 : decode cX11_count 114 = .ok (.aload_n 0, 1) := by decide +kernel
theorem dX11_count_115 : decode cX11_count 115 = .ok (.getfield 35, 3) := by decide +kernel
theorem dX11_count_118 : decode cX11_count 118 = .ok (.getfield 134, 3) := by decide +kernel
theorem dX11_count_121 : decode cX11_count 121 = .ok (.ireturn, 1) := by decide +kernel
theorem dX11_count_122 : decode cX11_count 122 = .ok (.aload_n 0, 1) := by decide +kernel
theorem dX11_count_123 : decode cX11_count 123 = .ok (.getfield 45, 3) := by decide +kernel
theorem dX11_count_126 : decode cX11_count 126 = .ok (.invokevirtual 137, 3) := by decide +kernel
theorem dX11_count_129 : decode cX11_count 129 = .ok (.ireturn, 1) := by decide +kernel
theorem dX11_count_130 : decode cX11_count 130 = .ok (.aload_n 0, 1) := by decide +kernel
theorem dX11_count_131 : decode cX11_count 131 = .ok (.getfield 45, 3) := by decide +kernel
theorem dX11_count_134 : decode cX11_count 134 = .ok (.invokevirtual 141, 3) := by decide +kernel
theorem dX11_count_137 : decode cX11_count 137 = .ok (.ireturn, 1) := by decide +kernel
theorem dX11_count_138 : decode cX11_count 138 = .ok (.aload_n 0, 1) := by decide +kernel
theorem dX11_count_139 : decode cX11_count 139 = .ok (.getfield 95, 3) := by decide +kernel
theorem dX11_count_142 : decode cX11_count 142 = .ok (.ireturn, 1) := by decide +kernel
theorem dX11_count_143 : decode cX11_count 143 = .ok (.aload_n 0, 1) := by decide +kernel
theorem dX11_count_144 : decode cX11_count 144 = .ok (.getfield 112, 3) := by decide +kernel
theorem dX11_count_147 : decode cX11_count 147 = .ok (.ireturn, 1) := by decide +kernel
theorem dX11_count_148 : decode cX11_count 148 = .ok (.aload_n 0, 1) := by decide +kernel
theorem dX11_count_149 : decode cX11_count 149 = .ok (.getfield 144, 3) := by decide +kernel
theorem dX11_count_152 : decode cX11_count 152 = .ok (.ireturn, 1) := by decide +kernel
theorem dX11_count_153 : decode cX11_count 153 = .ok (.new 147, 3) := by decide +kernel
theorem dX11_count_156 : decode cX11_count 156 = .ok (.dup, 1) := by decide +kernel
theorem dX11_count_157 : decode cX11_count 157 = .ok (.invokespecial 149, 3) := by decide +kernel
theorem dX11_count_160 : decode cX11_count 160 = .ok (.athrow, 1) := by decide +kernel
def X11_count_b105 (e : mm_E) (t0 : Int32) (m : mm_V) : Option ((Int32 ⊕ String) × mm_V) := some (.inl t0, m)
theorem X11_count_b105_ok {K : mm_K} {e : mm_E} (hz : e.2.1 = K.2.2.2.2) {d : Nat} (hd : 9 ≤ d) {t0 : Int32} {a0 : Nat} (h0 : e.1 a0 = some (11, 19)) {m : mm_V} {r : ((Int32 ⊕ String) × mm_V)} (hr : X11_count_b105 e t0 m = some r) : mm_G K MX11_count d (mm_Xi e.1 r) 105 [none, none] [.int t0] (e.1, m) none 0 0 := by
  obtain ⟨d, rfl⟩ : ∃ d', d = d' + 1 := ⟨d - 1, by omega⟩
  unfold X11_count_b105 at hr
  exact mb_xiret dX11_count_105 rfl hr
def X11_count (e : mm_E) (a0 : Nat) (i1 : Int32) (m : mm_V) : Option ((Int32 ⊕ String) × mm_V) := if i1 = (0 : Int32) then ((mm_gr e.1 m 11 19 a0 1).bind fun c1 => (mm_gi e.1 m 10 11 c1 6).bind fun x2 => some (.inl x2, m)) else (if i1 = (1 : Int32) then ((mm_gr e.1 m 11 19 a0 1).bind fun c4 => (mm_gi e.1 m 10 11 c4 7).bind fun x5 => some (.inl x5, m)) else (if i1 = (2 : Int32) then ((mm_gr e.1 m 11 19 a0 1).bind fun c7 => (mm_gi e.1 m 10 11 c7 8).bind fun x8 => some (.inl x8, m)) else (if i1 = (3 : Int32) then ((mm_gr e.1 m 11 19 a0 6).bind fun c10 => if e.1 c10 = some (4, 12) then ((X4_over e c10 m).bind fun r11 => if r11.1 = 0 then ((mm_gr e.1 r11.2 11 19 a0 6).bind fun c13 => (mm_gi e.1 r11.2 4 12 c13 10).bind fun x14 => X11_count_b105 e  x14 r11.2) else (X11_count_b105 e  (-1 : Int32) r11.2)) else none) else (if i1 = (4 : Int32) then ((mm_gr e.1 m 11 19 a0 6).bind fun c16 => (mm_gi e.1 m 4 12 c16 11).bind fun x17 => some (.inl x17, m)) else (if i1 = (5 : Int32) then ((mm_gr e.1 m 11 19 a0 4).bind fun c19 => (mm_gi e.1 m 5 4 c19 3).bind fun x20 => some (.inl x20, m)) else (if i1 = (6 : Int32) then ((mm_gr e.1 m 11 19 a0 6).bind fun c22 => if e.1 c22 = some (4, 12) then ((X4_queenHolder e c22 m).bind fun r23 => some (.inl r23.1, r23.2)) else none) else (if i1 = (7 : Int32) then ((mm_gr e.1 m 11 19 a0 6).bind fun c26 => if e.1 c26 = some (4, 12) then ((X4_loser e c26 m).bind fun r27 => some (.inl r27.1, r27.2)) else none) else (if i1 = (8 : Int32) then ((mm_gi e.1 m 11 19 a0 15).bind fun x30 => some (.inl x30, m)) else (if i1 = (9 : Int32) then ((mm_gi e.1 m 11 19 a0 17).bind fun x32 => some (.inl x32, m)) else (if i1 = (10 : Int32) then ((mm_gi e.1 m 11 19 a0 18).bind fun x34 => some (.inl x34, m)) else (some (.inr "java/util/NoSuchElementException", m))))))))))))
theorem X11_count_ok {K : mm_K} {e : mm_E} (hz : e.2.1 = K.2.2.2.2) {d : Nat} (hd : 9 ≤ d) {a0 : Nat} {i1 : Int32} (h0 : e.1 a0 = some (11, 19)) {m : mm_V} {r : ((Int32 ⊕ String) × mm_V)} (hr : X11_count e a0 i1 m = some r) : mm_Cn K MX11_count d (mm_Xi e.1 r) [.ref a0, .int i1] (e.1, m) none := by
  obtain ⟨d, rfl⟩ : ∃ d', d = d' + 1 := ⟨d - 1, by omega⟩
  refine mm_entry (by decide) (Nat.le_of_ble_eq_true rfl) rfl (fun hok => ?_)
  unfold X11_count at hr
  refine mg_weak (L' := [some (.ref a0), some (.int i1)]) (mm_le_s (mm_le_s mm_le_0)) ?_
  refine ml_iload_n (pc := 0) dX11_count_0 rfl (mm_get_s mm_get_0) ?_
  refine mb_ite hr (fun hc hr => ?_) (fun hc3 hr => ?_)
  · refine mg_tableK (pc := 1) (59) 60 dX11_count_1 hc (by decide +kernel) rfl ?_
    refine ml_aload_n (pc := 60) dX11_count_60 rfl mm_get_0 ?_
    refine mb_gr (pc := 61) dX11_count_61 fl_X11_16 hr (fun c1 hr => ?_)
    refine mb_gi (pc := 64) dX11_count_64 fl_X11_115 hr (fun x2 hr => ?_)
    exact mb_xiret dX11_count_67 rfl hr
  refine mb_ite hr (fun hc hr => ?_) (fun hc6 hr => ?_)
  · refine mg_tableK (pc := 1) (67) 68 dX11_count_1 hc (by decide +kernel) rfl ?_
    refine ml_aload_n (pc := 68) dX11_count_68 rfl mm_get_0 ?_
    refine mb_gr (pc := 69) dX11_count_69 fl_X11_16 hr (fun c4 hr => ?_)
    refine mb_gi (pc := 72) dX11_count_72 fl_X11_118 hr (fun x5 hr => ?_)
    exact mb_xiret dX11_count_75 rfl hr
  refine mb_ite hr (fun hc hr => ?_) (fun hc9 hr => ?_)
  · refine mg_tableK (pc := 1) (75) 76 dX11_count_1 hc (by decide +kernel) rfl ?_
    refine ml_aload_n (pc := 76) dX11_count_76 rfl mm_get_0 ?_
    refine mb_gr (pc := 77) dX11_count_77 fl_X11_16 hr (fun c7 hr => ?_)
    refine mb_gi (pc := 80) dX11_count_80 fl_X11_121 hr (fun x8 hr => ?_)
    exact mb_xiret dX11_count_83 rfl hr
  refine mb_ite hr (fun hc hr => ?_) (fun hc15 hr => ?_)
  · refine mg_tableK (pc := 1) (83) 84 dX11_count_1 hc (by decide +kernel) rfl ?_
    refine ml_aload_n (pc := 84) dX11_count_84 rfl mm_get_0 ?_
    refine mb_gr (pc := 85) dX11_count_85 fl_X11_45 hr (fun c10 hr => ?_)
    refine mb_ck hr (fun hb12 hr => ?_)
    refine mb_cVi (pc := 88) (As := []) (rest := []) dX11_count_88 cw_X11_124 hb12 hr (fun v hv => X4_over_ok hz (by omega) hb12 hv) rfl (Nat.le_of_ble_eq_true rfl) (Nat.zero_le _) (Nat.zero_le _) (fun r11 hr => ?_)
    refine mb_if_eq (pc := 91) 98 dX11_count_91 rfl hr (fun hr => ?_) (fun hr => ?_)
    · refine ml_aload_n (pc := 98) dX11_count_98 rfl mm_get_0 ?_
      refine mb_gr (pc := 99) dX11_count_99 fl_X11_45 hr (fun c13 hr => ?_)
      refine mb_gi (pc := 102) dX11_count_102 fl_X11_128 hr (fun x14 hr => ?_)
      exact mg_weak (mm_le_n (mm_le_n mm_le_0)) (X11_count_b105_ok hz hd h0 hr)
    · refine mg_iconst (pc := 94) dX11_count_94 kc_m1 ?_
      refine mg_goto (pc := 95) 105 dX11_count_95 rfl ?_
      exact mg_weak (mm_le_n (mm_le_n mm_le_0)) (X11_count_b105_ok hz hd h0 hr)
  refine mb_ite hr (fun hc hr => ?_) (fun hc18 hr => ?_)
  · refine mg_tableK (pc := 1) (105) 106 dX11_count_1 hc (by decide +kernel) rfl ?_
    refine ml_aload_n (pc := 106) dX11_count_106 rfl mm_get_0 ?_
    refine mb_gr (pc := 107) dX11_count_107 fl_X11_45 hr (fun c16 hr => ?_)
    refine mb_gi (pc := 110) dX11_count_110 fl_X11_131 hr (fun x17 hr => ?_)
    exact mb_xiret dX11_count_113 rfl hr
  refine mb_ite hr (fun hc hr => ?_) (fun hc21 hr => ?_)
  · refine mg_tableK (pc := 1) (113) 114 dX11_count_1 hc (by decide +kernel) rfl ?_
    refine ml_aload_n (pc := 114) dX11_count_114 rfl mm_get_0 ?_
    refine mb_gr (pc := 115) dX11_count_115 fl_X11_35 hr (fun c19 hr => ?_)
    refine mb_gi (pc := 118) dX11_count_118 fl_X11_134 hr (fun x20 hr => ?_)
    exact mb_xiret dX11_count_121 rfl hr
  refine mb_ite hr (fun hc hr => ?_) (fun hc25 hr => ?_)
  · refine mg_tableK (pc := 1) (121) 122 dX11_count_1 hc (by decide +kernel) rfl ?_
    refine ml_aload_n (pc := 122) dX11_count_122 rfl mm_get_0 ?_
    refine mb_gr (pc := 123) dX11_count_123 fl_X11_45 hr (fun c22 hr => ?_)
    refine mb_ck hr (fun hb24 hr => ?_)
    refine mb_cVi (pc := 126) (As := []) (rest := []) dX11_count_126 cw_X11_137 hb24 hr (fun v hv => X4_queenHolder_ok hz (by omega) hb24 hv) rfl (Nat.le_of_ble_eq_true rfl) (Nat.zero_le _) (Nat.zero_le _) (fun r23 hr => ?_)
    exact mb_xiret dX11_count_129 rfl hr
  refine mb_ite hr (fun hc hr => ?_) (fun hc29 hr => ?_)
  · refine mg_tableK (pc := 1) (129) 130 dX11_count_1 hc (by decide +kernel) rfl ?_
    refine ml_aload_n (pc := 130) dX11_count_130 rfl mm_get_0 ?_
    refine mb_gr (pc := 131) dX11_count_131 fl_X11_45 hr (fun c26 hr => ?_)
    refine mb_ck hr (fun hb28 hr => ?_)
    refine mb_cVi (pc := 134) (As := []) (rest := []) dX11_count_134 cw_X11_141 hb28 hr (fun v hv => X4_loser_ok hz (by omega) hb28 hv) rfl (Nat.le_of_ble_eq_true rfl) (Nat.zero_le _) (Nat.zero_le _) (fun r27 hr => ?_)
    exact mb_xiret dX11_count_137 rfl hr
  refine mb_ite hr (fun hc hr => ?_) (fun hc31 hr => ?_)
  · refine mg_tableK (pc := 1) (137) 138 dX11_count_1 hc (by decide +kernel) rfl ?_
    refine ml_aload_n (pc := 138) dX11_count_138 rfl mm_get_0 ?_
    refine mb_gi (pc := 139) dX11_count_139 fl_X11_95 hr (fun x30 hr => ?_)
    exact mb_xiret dX11_count_142 rfl hr
  refine mb_ite hr (fun hc hr => ?_) (fun hc33 hr => ?_)
  · refine mg_tableK (pc := 1) (142) 143 dX11_count_1 hc (by decide +kernel) rfl ?_
    refine ml_aload_n (pc := 143) dX11_count_143 rfl mm_get_0 ?_
    refine mb_gi (pc := 144) dX11_count_144 fl_X11_112 hr (fun x32 hr => ?_)
    exact mb_xiret dX11_count_147 rfl hr
  refine mb_ite hr (fun hc hr => ?_) (fun hc35 hr => ?_)
  · refine mg_tableK (pc := 1) (147) 148 dX11_count_1 hc (by decide +kernel) rfl ?_
    refine ml_aload_n (pc := 148) dX11_count_148 rfl mm_get_0 ?_
    refine mb_gi (pc := 149) dX11_count_149 fl_X11_144 hr (fun x34 hr => ?_)
    exact mb_xiret dX11_count_152 rfl hr
  refine mg_tableD (pc := 1) 153 dX11_count_1 ((mm_nin_c hc3 (mm_nin_c hc6 (mm_nin_c hc9 (mm_nin_c hc15 (mm_nin_c hc18 (mm_nin_c hc21 (mm_nin_c hc25 (mm_nin_c hc29 (mm_nin_c hc31 (mm_nin_c hc33 (mm_nin_c hc35 mm_nin_0))))))))))) : ∀ y ∈ [(0 : Int32), (1 : Int32), (2 : Int32), (3 : Int32), (4 : Int32), (5 : Int32), (6 : Int32), (7 : Int32), (8 : Int32), (9 : Int32), (10 : Int32)], ¬ i1 = y) (by decide +kernel) rfl ?_
  exact mb_throw (mm_nse _ rfl) dX11_count_153 dX11_count_156 dX11_count_157 dX11_count_160 rfl (by omega) (Nat.le_of_ble_eq_true rfl) hr
theorem dX11_ends_0 : decode cX11_ends 0 = .ok (.iload_n 1, 1) := by decide +kernel
theorem dX11_ends_1 : decode cX11_ends 1 = .ok (.ifCond .eq 8, 3) := by decide +kernel
theorem dX11_ends_4 : decode cX11_ends 4 = .ok (.iload_n 1, 1) := by decide +kernel
theorem dX11_ends_5 : decode cX11_ends 5 = .ok (.iconst 1, 1) := by decide +kernel
theorem dX11_ends_6 : decode cX11_ends 6 = .ok (.if_icmp .ne 7, 3) := by decide +kernel
theorem dX11_ends_9 : decode cX11_ends 9 = .ok (.iconst 1, 1) := by decide +kernel
theorem dX11_ends_10 : decode cX11_ends 10 = .ok (.goto 4, 3) := by decide +kernel
theorem dX11_ends_13 : decode cX11_ends 13 = .ok (.iconst 0, 1) := by decide +kernel
theorem dX11_ends_14 : decode cX11_ends 14 = .ok (.invokestatic 164, 3) := by decide +kernel
theorem dX11_ends_17 : decode cX11_ends 17 = .ok (.aload_n 0, 1) := by decide +kernel
theorem dX11_ends_18 : decode cX11_ends 18 = .ok (.invokevirtual 216, 3) := by decide +kernel
theorem dX11_ends_21 : decode cX11_ends 21 = .ok (.iload_n 1, 1) := by decide +kernel
theorem dX11_ends_22 : decode cX11_ends 22 = .ok (.ifCond .ne 13, 3) := by decide +kernel
theorem dX11_ends_25 : decode cX11_ends 25 = .ok (.aload_n 0, 1) := by decide +kernel
theorem dX11_ends_26 : decode cX11_ends 26 = .ok (.getfield 68, 3) := by decide +kernel
theorem dX11_ends_29 : decode cX11_ends 29 = .ok (.getfield 219, 3) := by decide +kernel
theorem dX11_ends_32 : decode cX11_ends 32 = .ok (.goto 10, 3) := by decide +kernel
theorem dX11_ends_35 : decode cX11_ends 35 = .ok (.aload_n 0, 1) := by decide +kernel
theorem dX11_ends_36 : decode cX11_ends 36 = .ok (.getfield 68, 3) := by decide +kernel
theorem dX11_ends_39 : decode cX11_ends 39 = .ok (.getfield 221, 3) := by decide +kernel
theorem dX11_ends_42 : decode cX11_ends 42 = .ok (.ireturn, 1) := by decide +kernel
def X11_ends_b42 (e : mm_E) (t0 : Int32) (m : mm_V) : Option ((Int32 ⊕ String) × mm_V) := some (.inl t0, m)
theorem X11_ends_b42_ok {K : mm_K} {e : mm_E} (hz : e.2.1 = K.2.2.2.2) {d : Nat} (hd : 10 ≤ d) {t0 : Int32} {a0 : Nat} (h0 : e.1 a0 = some (11, 19)) {m : mm_V} {r : ((Int32 ⊕ String) × mm_V)} (hr : X11_ends_b42 e t0 m = some r) : mm_G K MX11_ends d (mm_Xi e.1 r) 42 [none, none] [.int t0] (e.1, m) none 0 0 := by
  obtain ⟨d, rfl⟩ : ∃ d', d = d' + 1 := ⟨d - 1, by omega⟩
  unfold X11_ends_b42 at hr
  exact mb_xiret dX11_ends_42 rfl hr
def X11_ends_b14 (e : mm_E) (a0 : Nat) (i1 : Int32) (t0 : Int32) (m : mm_V) : Option ((Int32 ⊕ String) × mm_V) := mm_bx (X11_need e t0 m) fun r1 => (X11_playFromNow e a0 r1.2).bind fun r2 => if ¬ i1 = 0 then ((mm_gr e.1 r2 11 19 a0 11).bind fun c3 => (mm_gi e.1 r2 7 8 c3 5).bind fun x4 => X11_ends_b42 e  x4 r2) else ((mm_gr e.1 r2 11 19 a0 11).bind fun c5 => (mm_gi e.1 r2 7 8 c5 4).bind fun x6 => X11_ends_b42 e  x6 r2)
theorem X11_ends_b14_ok {K : mm_K} {e : mm_E} (hz : e.2.1 = K.2.2.2.2) {d : Nat} (hd : 10 ≤ d) {a0 : Nat} {i1 : Int32} {t0 : Int32} (h0 : e.1 a0 = some (11, 19)) {m : mm_V} {r : ((Int32 ⊕ String) × mm_V)} (hr : X11_ends_b14 e a0 i1 t0 m = some r) : mm_G K MX11_ends d (mm_Xi e.1 r) 14 [some (.ref a0), some (.int i1)] [.int t0] (e.1, m) none 0 0 := by
  obtain ⟨d, rfl⟩ : ∃ d', d = d' + 1 := ⟨d - 1, by omega⟩
  unfold X11_ends_b14 at hr
  refine mb_xSv (pc := 14) (As := [.int t0]) (rest := []) dX11_ends_14 cw_X11_164 tw_1037  rfl hr (fun v hv => X11_need_ok hz (by omega)  hv) rfl (Nat.le_of_ble_eq_true rfl) (fun r1 hr => ?_)
  refine ml_aload_n (pc := 17) dX11_ends_17 rfl mm_get_0 ?_
  refine mb_cVv (pc := 18) (As := []) (rest := []) dX11_ends_18 cw_X11_216 h0 hr (fun v hv => X11_playFromNow_ok hz (by omega) h0 hv) rfl (Nat.le_of_ble_eq_true rfl) (Nat.zero_le _) (Nat.zero_le _) (fun r2 hr => ?_)
  refine ml_iload_n (pc := 21) dX11_ends_21 rfl (mm_get_s mm_get_0) ?_
  refine mb_if_ne (pc := 22) 35 dX11_ends_22 rfl hr (fun hr => ?_) (fun hr => ?_)
  · refine ml_aload_n (pc := 35) dX11_ends_35 rfl mm_get_0 ?_
    refine mb_gr (pc := 36) dX11_ends_36 fl_X11_68 hr (fun c3 hr => ?_)
    refine mb_gi (pc := 39) dX11_ends_39 fl_X11_221 hr (fun x4 hr => ?_)
    exact mg_weak (mm_le_n (mm_le_n mm_le_0)) (X11_ends_b42_ok hz hd h0 hr)
  · refine ml_aload_n (pc := 25) dX11_ends_25 rfl mm_get_0 ?_
    refine mb_gr (pc := 26) dX11_ends_26 fl_X11_68 hr (fun c5 hr => ?_)
    refine mb_gi (pc := 29) dX11_ends_29 fl_X11_219 hr (fun x6 hr => ?_)
    refine mg_goto (pc := 32) 42 dX11_ends_32 rfl ?_
    exact mg_weak (mm_le_n (mm_le_n mm_le_0)) (X11_ends_b42_ok hz hd h0 hr)
def X11_ends_b9 (e : mm_E) (a0 : Nat) (i1 : Int32) (m : mm_V) : Option ((Int32 ⊕ String) × mm_V) := X11_ends_b14 e a0 i1 (1 : Int32) m
theorem X11_ends_b9_ok {K : mm_K} {e : mm_E} (hz : e.2.1 = K.2.2.2.2) {d : Nat} (hd : 10 ≤ d) {a0 : Nat} {i1 : Int32} (h0 : e.1 a0 = some (11, 19)) {m : mm_V} {r : ((Int32 ⊕ String) × mm_V)} (hr : X11_ends_b9 e a0 i1 m = some r) : mm_G K MX11_ends d (mm_Xi e.1 r) 9 [some (.ref a0), some (.int i1)] [] (e.1, m) none 0 0 := by
  obtain ⟨d, rfl⟩ : ∃ d', d = d' + 1 := ⟨d - 1, by omega⟩
  unfold X11_ends_b9 at hr
  refine mg_iconst (pc := 9) dX11_ends_9 kc_1 ?_
  refine mg_goto (pc := 10) 14 dX11_ends_10 rfl ?_
  exact mg_weak (mm_le_s (mm_le_s mm_le_0)) (X11_ends_b14_ok hz hd h0 hr)
def X11_ends (e : mm_E) (a0 : Nat) (i1 : Int32) (m : mm_V) : Option ((Int32 ⊕ String) × mm_V) := if i1 = 0 then (X11_ends_b9 e a0 i1  m) else (if ¬ i1 = (1 : Int32) then (X11_ends_b14 e a0 i1 (0 : Int32) m) else (X11_ends_b9 e a0 i1  m))
theorem X11_ends_ok {K : mm_K} {e : mm_E} (hz : e.2.1 = K.2.2.2.2) {d : Nat} (hd : 10 ≤ d) {a0 : Nat} {i1 : Int32} (h0 : e.1 a0 = some (11, 19)) {m : mm_V} {r : ((Int32 ⊕ String) × mm_V)} (hr : X11_ends e a0 i1 m = some r) : mm_Cn K MX11_ends d (mm_Xi e.1 r) [.ref a0, .int i1] (e.1, m) none := by
  obtain ⟨d, rfl⟩ : ∃ d', d = d' + 1 := ⟨d - 1, by omega⟩
  refine mm_entry (by decide) (Nat.le_of_ble_eq_true rfl) rfl (fun hok => ?_)
  unfold X11_ends at hr
  refine mg_weak (L' := [some (.ref a0), some (.int i1)]) (mm_le_s (mm_le_s mm_le_0)) ?_
  refine ml_iload_n (pc := 0) dX11_ends_0 rfl (mm_get_s mm_get_0) ?_
  refine mb_if_eq (pc := 1) 9 dX11_ends_1 rfl hr (fun hr => ?_) (fun hr => ?_)
  · exact mg_weak (mm_le_s (mm_le_s mm_le_0)) (X11_ends_b9_ok hz hd h0 hr)
  · refine ml_iload_n (pc := 4) dX11_ends_4 rfl (mm_get_s mm_get_0) ?_
    refine mg_iconst (pc := 5) dX11_ends_5 kc_1 ?_
    refine mb_icmp_ne (pc := 6) 13 dX11_ends_6 rfl hr (fun hr => ?_) (fun hr => ?_)
    · refine mg_iconst (pc := 13) dX11_ends_13 kc_0 ?_
      exact mg_weak (mm_le_s (mm_le_s mm_le_0)) (X11_ends_b14_ok hz hd h0 hr)
    · exact mg_weak (mm_le_s (mm_le_s mm_le_0)) (X11_ends_b9_ok hz hd h0 hr)
theorem dX11_evenings_0 : decode cX11_evenings 0 = .ok (.iload 5, 2) := by decide +kernel
theorem dX11_evenings_2 : decode cX11_evenings 2 = .ok (.iconst (-1), 1) := by decide +kernel
theorem dX11_evenings_3 : decode cX11_evenings 3 = .ok (.if_icmp .eq 26, 3) := by decide +kernel
theorem dX11_evenings_6 : decode cX11_evenings 6 = .ok (.iload 5, 2) := by decide +kernel
theorem dX11_evenings_8 : decode cX11_evenings 8 = .ok (.bipush (-2), 2) := by decide +kernel
theorem dX11_evenings_10 : decode cX11_evenings 10 = .ok (.if_icmp .eq 19, 3) := by decide +kernel
theorem dX11_evenings_13 : decode cX11_evenings 13 = .ok (.iload 5, 2) := by decide +kernel
theorem dX11_evenings_15 : decode cX11_evenings 15 = .ok (.bipush (-3), 2) := by decide +kernel
theorem dX11_evenings_17 : decode cX11_evenings 17 = .ok (.if_icmp .eq 12, 3) := by decide +kernel
theorem dX11_evenings_20 : decode cX11_evenings 20 = .ok (.aload_n 0, 1) := by decide +kernel
theorem dX11_evenings_21 : decode cX11_evenings 21 = .ok (.iload 5, 2) := by decide +kernel
theorem dX11_evenings_23 : decode cX11_evenings 23 = .ok (.invokevirtual 258, 3) := by decide +kernel
theorem dX11_evenings_26 : decode cX11_evenings 26 = .ok (.ifCond .eq 7, 3) := by decide +kernel
theorem dX11_evenings_29 : decode cX11_evenings 29 = .ok (.iconst 1, 1) := by decide +kernel
theorem dX11_evenings_30 : decode cX11_evenings 30 = .ok (.goto 4, 3) := by decide +kernel
theorem dX11_evenings_33 : decode cX11_evenings 33 = .ok (.iconst 0, 1) := by decide +kernel
theorem dX11_evenings_34 : decode cX11_evenings 34 = .ok (.invokestatic 164, 3) := by decide +kernel
theorem dX11_evenings_37 : decode cX11_evenings 37 = .ok (.iload_n 2, 1) := by decide +kernel
theorem dX11_evenings_38 : decode cX11_evenings 38 = .ok (.ifCond .lt 13, 3) := by decide +kernel
theorem dX11_evenings_41 : decode cX11_evenings 41 = .ok (.iload_n 2, 1) := by decide +kernel
theorem dX11_evenings_42 : decode cX11_evenings 42 = .ok (.bipush 60, 2) := by decide +kernel
theorem dX11_evenings_44 : decode cX11_evenings 44 = .ok (.if_icmp .gt 7, 3) := by decide +kernel
theorem dX11_evenings_47 : decode cX11_evenings 47 = .ok (.iconst 1, 1) := by decide +kernel
theorem dX11_evenings_48 : decode cX11_evenings 48 = .ok (.goto 4, 3) := by decide +kernel
theorem dX11_evenings_51 : decode cX11_evenings 51 = .ok (.iconst 0, 1) := by decide +kernel
theorem dX11_evenings_52 : decode cX11_evenings 52 = .ok (.invokestatic 199, 3) := by decide +kernel
theorem dX11_evenings_55 : decode cX11_evenings 55 = .ok (.iload_n 3, 1) := by decide +kernel
theorem dX11_evenings_56 : decode cX11_evenings 56 = .ok (.ifCond .lt 12, 3) := by decide +kernel
theorem dX11_evenings_59 : decode cX11_evenings 59 = .ok (.iload_n 3, 1) := by decide +kernel
theorem dX11_evenings_60 : decode cX11_evenings 60 = .ok (.iconst 3, 1) := by decide +kernel
theorem dX11_evenings_61 : decode cX11_evenings 61 = .ok (.if_icmp .gt 7, 3) := by decide +kernel
theorem dX11_evenings_64 : decode cX11_evenings 64 = .ok (.iconst 1, 1) := by decide +kernel
theorem dX11_evenings_65 : decode cX11_evenings 65 = .ok (.goto 4, 3) := by decide +kernel
theorem dX11_evenings_68 : decode cX11_evenings 68 = .ok (.iconst 0, 1) := by decide +kernel
theorem dX11_evenings_69 : decode cX11_evenings 69 = .ok (.invokestatic 199, 3) := by decide +kernel
theorem dX11_evenings_72 : decode cX11_evenings 72 = .ok (.aload_n 0, 1) := by decide +kernel
theorem dX11_evenings_73 : decode cX11_evenings 73 = .ok (.getfield 75, 3) := by decide +kernel
theorem dX11_evenings_76 : decode cX11_evenings 76 = .ok (.invokevirtual 293, 3) := by decide +kernel
theorem dX11_evenings_79 : decode cX11_evenings 79 = .ok (.iconst 0, 1) := by decide +kernel
theorem dX11_evenings_80 : decode cX11_evenings 80 = .ok (.istore 6, 2) := by decide +kernel
theorem dX11_evenings_82 : decode cX11_evenings 82 = .ok (.iload 6, 2) := by decide +kernel
theorem dX11_evenings_84 : decode cX11_evenings 84 = .ok (.iload_n 2, 1) := by decide +kernel
theorem dX11_evenings_85 : decode cX11_evenings 85 = .ok (.if_icmp .ge 46, 3) := by decide +kernel
theorem dX11_evenings_88 : decode cX11_evenings 88 = .ok (.aload_n 0, 1) := by decide +kernel
theorem dX11_evenings_89 : decode cX11_evenings 89 = .ok (.getfield 55, 3) := by decide +kernel
theorem dX11_evenings_92 : decode cX11_evenings 92 = .ok (.aload_n 0, 1) := by decide +kernel
theorem dX11_evenings_93 : decode cX11_evenings 93 = .ok (.getfield 16, 3) := by decide +kernel
theorem dX11_evenings_96 : decode cX11_evenings 96 = .ok (.iload_n 3, 1) := by decide +kernel
theorem dX11_evenings_97 : decode cX11_evenings 97 = .ok (.iload 4, 2) := by decide +kernel
theorem dX11_evenings_99 : decode cX11_evenings 99 = .ok (.invokevirtual 296, 3) := by decide +kernel
theorem dX11_evenings_102 : decode cX11_evenings 102 = .ok (.aload_n 0, 1) := by decide +kernel
theorem dX11_evenings_103 : decode cX11_evenings 103 = .ok (.getfield 55, 3) := by decide +kernel
theorem dX11_evenings_106 : decode cX11_evenings 106 = .ok (.iload_n 1, 1) := by decide +kernel
theorem dX11_evenings_107 : decode cX11_evenings 107 = .ok (.iload 6, 2) := by decide +kernel
theorem dX11_evenings_109 : decode cX11_evenings 109 = .ok (.iadd, 1) := by decide +kernel
theorem dX11_evenings_110 : decode cX11_evenings 110 = .ok (.invokevirtual 300, 3) := by decide +kernel
theorem dX11_evenings_113 : decode cX11_evenings 113 = .ok (.aload_n 0, 1) := by decide +kernel
theorem dX11_evenings_114 : decode cX11_evenings 114 = .ok (.getfield 75, 3) := by decide +kernel
theorem dX11_evenings_117 : decode cX11_evenings 117 = .ok (.aload_n 0, 1) := by decide +kernel
theorem dX11_evenings_118 : decode cX11_evenings 118 = .ok (.getfield 55, 3) := by decide +kernel
theorem dX11_evenings_121 : decode cX11_evenings 121 = .ok (.invokevirtual 303, 3) := by decide +kernel
theorem dX11_evenings_124 : decode cX11_evenings 124 = .ok (.pop, 1) := by decide +kernel
theorem dX11_evenings_125 : decode cX11_evenings 125 = .ok (.iinc 6 1, 3) := by decide +kernel
theorem dX11_evenings_128 : decode cX11_evenings 128 = .ok (.goto (-46), 3) := by decide +kernel
theorem dX11_evenings_131 : decode cX11_evenings 131 = .ok (.iload 5, 2) := by decide +kernel
theorem dX11_evenings_133 : decode cX11_evenings 133 = .ok (.bipush (-3), 2) := by decide +kernel
theorem dX11_evenings_135 : decode cX11_evenings 135 = .ok (.if_icmp .ne 18, 3) := by decide +kernel
theorem dX11_evenings_138 : decode cX11_evenings 138 = .ok (.aload_n 0, 1) := by decide +kernel
theorem dX11_evenings_139 : decode cX11_evenings 139 = .ok (.getfield 75, 3) := by decide +kernel
theorem dX11_evenings_142 : decode cX11_evenings 142 = .ok (.aload_n 0, 1) := by decide +kernel
theorem dX11_evenings_143 : decode cX11_evenings 143 = .ok (.getfield 16, 3) := by decide +kernel
theorem dX11_evenings_146 : decode cX11_evenings 146 = .ok (.getfield 115, 3) := by decide +kernel
theorem dX11_evenings_149 : decode cX11_evenings 149 = .ok (.invokevirtual 307, 3) := by decide +kernel
theorem dX11_evenings_152 : decode cX11_evenings 152 = .ok (.ireturn, 1) := by decide +kernel
theorem dX11_evenings_153 : decode cX11_evenings 153 = .ok (.iload 5, 2) := by decide +kernel
theorem dX11_evenings_155 : decode cX11_evenings 155 = .ok (.bipush (-2), 2) := by decide +kernel
theorem dX11_evenings_157 : decode cX11_evenings 157 = .ok (.if_icmp .ne 11, 3) := by decide +kernel
theorem dX11_evenings_160 : decode cX11_evenings 160 = .ok (.aload_n 0, 1) := by decide +kernel
theorem dX11_evenings_161 : decode cX11_evenings 161 = .ok (.getfield 75, 3) := by decide +kernel
theorem dX11_evenings_164 : decode cX11_evenings 164 = .ok (.getfield 310, 3) := by decide +kernel
theorem dX11_evenings_167 : decode cX11_evenings 167 = .ok (.ireturn, 1) := by decide +kernel
theorem dX11_evenings_168 : decode cX11_evenings 168 = .ok (.iload 5, 2) := by decide +kernel
theorem dX11_evenings_170 : decode cX11_evenings 170 = .ok (.iconst (-1), 1) := by decide +kernel
theorem dX11_evenings_171 : decode cX11_evenings 171 = .ok (.if_icmp .ne 13, 3) := by decide +kernel
theorem dX11_evenings_174 : decode cX11_evenings 174 = .ok (.aload_n 0, 1) := by decide +kernel
theorem dX11_evenings_175 : decode cX11_evenings 175 = .ok (.getfield 75, 3) := by decide +kernel
theorem dX11_evenings_178 : decode cX11_evenings 178 = .ok (.getfield 290, 3) := by decide +kernel
theorem dX11_evenings_181 : decode cX11_evenings 181 = .ok (.goto 12, 3) := by decide +kernel
theorem dX11_evenings_184 : decode cX11_evenings 184 = .ok (.aload_n 0, 1) := by decide +kernel
theorem dX11_evenings_185 : decode cX11_evenings 185 = .ok (.getfield 75, 3) := by decide +kernel
theorem dX11_evenings_188 : decode cX11_evenings 188 = .ok (.iload 5, 2) := by decide +kernel
theorem dX11_evenings_190 : decode cX11_evenings 190 = .ok (.invokevirtual 287, 3) := by decide +kernel
theorem dX11_evenings_193 : decode cX11_evenings 193 = .ok (.ireturn, 1) := by decide +kernel
def X11_evenings_b193 (e : mm_E) (t0 : Int32) (m : mm_V) : Option ((Int32 ⊕ String) × mm_V) := some (.inl t0, m)
theorem X11_evenings_b193_ok {K : mm_K} {e : mm_E} (hz : e.2.1 = K.2.2.2.2) {d : Nat} (hd : 10 ≤ d) {t0 : Int32} {a0 : Nat} (h0 : e.1 a0 = some (11, 19)) {m : mm_V} {r : ((Int32 ⊕ String) × mm_V)} (hr : X11_evenings_b193 e t0 m = some r) : mm_G K MX11_evenings d (mm_Xi e.1 r) 193 [none, none, none, none, none, none, none] [.int t0] (e.1, m) none 0 0 := by
  obtain ⟨d, rfl⟩ : ∃ d', d = d' + 1 := ⟨d - 1, by omega⟩
  unfold X11_evenings_b193 at hr
  exact mb_xiret dX11_evenings_193 rfl hr
def X11_evenings_L82 (e : mm_E) (a0 : Nat) (i1 : Int32) (i2 : Int32) (i3 : Int32) (i4 : Int32) (i5 : Int32) : Nat → Int32 → mm_V → Option ((Int32 ⊕ String) × mm_V)
  | 0, _, _ => none
  | n + 1, i6, m => if i2 ≤ i6 then (if ¬ i5 = (-3 : Int32) then (if ¬ i5 = (-2 : Int32) then (if ¬ i5 = (-1 : Int32) then ((mm_gr e.1 m 11 19 a0 12).bind fun c1 => if e.1 c1 = some (6, 12) then ((X6_losses e c1 i5 m).bind fun r2 => X11_evenings_b193 e  r2.1 r2.2) else none) else ((mm_gr e.1 m 11 19 a0 12).bind fun c4 => (mm_gi e.1 m 6 12 c4 5).bind fun x5 => X11_evenings_b193 e  x5 m)) else ((mm_gr e.1 m 11 19 a0 12).bind fun c6 => (mm_gi e.1 m 6 12 c6 6).bind fun x7 => some (.inl x7, m))) else ((mm_gr e.1 m 11 19 a0 12).bind fun c8 => (mm_gr e.1 m 11 19 a0 1).bind fun c9 => (mm_gi e.1 m 10 11 c9 6).bind fun x10 => if e.1 c8 = some (6, 12) then ((X6_mostByLeast e c8 x10 m).bind fun r11 => some (.inl r11.1, r11.2)) else none)) else ((mm_gr e.1 m 11 19 a0 9).bind fun c13 => (mm_gr e.1 m 11 19 a0 1).bind fun c14 => if e.1 c13 = some (4, 12) then ((X4_open e c13 c14 i3 i4 m).bind fun r15 => (mm_gr e.1 r15 11 19 a0 9).bind fun c17 => if e.1 c17 = some (4, 12) then ((X4_deal e c17 (i1 + i6) r15).bind fun r18 => (mm_gr e.1 r18 11 19 a0 12).bind fun c20 => (mm_gr e.1 r18 11 19 a0 9).bind fun c21 => if e.1 c20 = some (6, 12) then ((X6_playOut e c20 c21 r18).bind fun r22 => X11_evenings_L82 e a0 i1 i2 i3 i4 i5 n (i6 + 1) r22.2) else none) else none) else none)
theorem X11_evenings_L82_ok {K : mm_K} {e : mm_E} (hz : e.2.1 = K.2.2.2.2) {d : Nat} (hd : 10 ≤ d) {a0 : Nat} {i1 : Int32} {i2 : Int32} {i3 : Int32} {i4 : Int32} {i5 : Int32} (h0 : e.1 a0 = some (11, 19)) : ∀ (n : Nat) (i6 : Int32) (m : mm_V) (r : ((Int32 ⊕ String) × mm_V)), X11_evenings_L82 e a0 i1 i2 i3 i4 i5 n i6 m = some r → mm_G K MX11_evenings d (mm_Xi e.1 r) 82 [some (.ref a0), some (.int i1), some (.int i2), some (.int i3), some (.int i4), some (.int i5), some (.int i6)] [] (e.1, m) none 0 0 := by
  obtain ⟨d, rfl⟩ : ∃ d', d = d' + 1 := ⟨d - 1, by omega⟩
  intro n
  induction n with
  | zero => intro i6 m r hr; unfold X11_evenings_L82 at hr; cases hr
  | succ n ih =>
    intro i6 m r hr
    unfold X11_evenings_L82 at hr
    refine ml_iload (pc := 82) dX11_evenings_82 (mm_get_s (mm_get_s (mm_get_s (mm_get_s (mm_get_s (mm_get_s mm_get_0)))))) ?_
    refine ml_iload_n (pc := 84) dX11_evenings_84 rfl (mm_get_s (mm_get_s mm_get_0)) ?_
    refine mb_icmp_ge (pc := 85) 131 dX11_evenings_85 rfl hr (fun hr => ?_) (fun hr => ?_)
    · refine ml_iload (pc := 131) dX11_evenings_131 (mm_get_s (mm_get_s (mm_get_s (mm_get_s (mm_get_s mm_get_0))))) ?_
      refine mg_bipush (pc := 133) dX11_evenings_133 kb_m3 ?_
      refine mb_icmp_ne (pc := 135) 153 dX11_evenings_135 rfl hr (fun hr => ?_) (fun hr => ?_)
      · refine ml_iload (pc := 153) dX11_evenings_153 (mm_get_s (mm_get_s (mm_get_s (mm_get_s (mm_get_s mm_get_0))))) ?_
        refine mg_bipush (pc := 155) dX11_evenings_155 kb_m2 ?_
        refine mb_icmp_ne (pc := 157) 168 dX11_evenings_157 rfl hr (fun hr => ?_) (fun hr => ?_)
        · refine ml_iload (pc := 168) dX11_evenings_168 (mm_get_s (mm_get_s (mm_get_s (mm_get_s (mm_get_s mm_get_0))))) ?_
          refine mg_iconst (pc := 170) dX11_evenings_170 kc_m1 ?_
          refine mb_icmp_ne (pc := 171) 184 dX11_evenings_171 rfl hr (fun hr => ?_) (fun hr => ?_)
          · refine ml_aload_n (pc := 184) dX11_evenings_184 rfl mm_get_0 ?_
            refine mb_gr (pc := 185) dX11_evenings_185 fl_X11_75 hr (fun c1 hr => ?_)
            refine ml_iload (pc := 188) dX11_evenings_188 (mm_get_s (mm_get_s (mm_get_s (mm_get_s (mm_get_s mm_get_0))))) ?_
            refine mb_ck hr (fun hb3 hr => ?_)
            refine mb_cVi (pc := 190) (As := [.int i5]) (rest := []) dX11_evenings_190 cw_X11_287 hb3 hr (fun v hv => X6_losses_ok hz (by omega) hb3 hv) rfl (Nat.le_of_ble_eq_true rfl) (Nat.zero_le _) (Nat.zero_le _) (fun r2 hr => ?_)
            exact mg_weak (mm_le_n (mm_le_n (mm_le_n (mm_le_n (mm_le_n (mm_le_n (mm_le_n mm_le_0))))))) (X11_evenings_b193_ok hz hd h0 hr)
          · refine ml_aload_n (pc := 174) dX11_evenings_174 rfl mm_get_0 ?_
            refine mb_gr (pc := 175) dX11_evenings_175 fl_X11_75 hr (fun c4 hr => ?_)
            refine mb_gi (pc := 178) dX11_evenings_178 fl_X11_290 hr (fun x5 hr => ?_)
            refine mg_goto (pc := 181) 193 dX11_evenings_181 rfl ?_
            exact mg_weak (mm_le_n (mm_le_n (mm_le_n (mm_le_n (mm_le_n (mm_le_n (mm_le_n mm_le_0))))))) (X11_evenings_b193_ok hz hd h0 hr)
        · refine ml_aload_n (pc := 160) dX11_evenings_160 rfl mm_get_0 ?_
          refine mb_gr (pc := 161) dX11_evenings_161 fl_X11_75 hr (fun c6 hr => ?_)
          refine mb_gi (pc := 164) dX11_evenings_164 fl_X11_310 hr (fun x7 hr => ?_)
          exact mb_xiret dX11_evenings_167 rfl hr
      · refine ml_aload_n (pc := 138) dX11_evenings_138 rfl mm_get_0 ?_
        refine mb_gr (pc := 139) dX11_evenings_139 fl_X11_75 hr (fun c8 hr => ?_)
        refine ml_aload_n (pc := 142) dX11_evenings_142 rfl mm_get_0 ?_
        refine mb_gr (pc := 143) dX11_evenings_143 fl_X11_16 hr (fun c9 hr => ?_)
        refine mb_gi (pc := 146) dX11_evenings_146 fl_X11_115 hr (fun x10 hr => ?_)
        refine mb_ck hr (fun hb12 hr => ?_)
        refine mb_cVi (pc := 149) (As := [.int x10]) (rest := []) dX11_evenings_149 cw_X11_307 hb12 hr (fun v hv => X6_mostByLeast_ok hz (by omega) hb12 hv) rfl (Nat.le_of_ble_eq_true rfl) (Nat.zero_le _) (Nat.zero_le _) (fun r11 hr => ?_)
        exact mb_xiret dX11_evenings_152 rfl hr
    · refine ml_aload_n (pc := 88) dX11_evenings_88 rfl mm_get_0 ?_
      refine mb_gr (pc := 89) dX11_evenings_89 fl_X11_55 hr (fun c13 hr => ?_)
      refine ml_aload_n (pc := 92) dX11_evenings_92 rfl mm_get_0 ?_
      refine mb_gr (pc := 93) dX11_evenings_93 fl_X11_16 hr (fun c14 hr => ?_)
      refine ml_iload_n (pc := 96) dX11_evenings_96 rfl (mm_get_s (mm_get_s (mm_get_s mm_get_0))) ?_
      refine ml_iload (pc := 97) dX11_evenings_97 (mm_get_s (mm_get_s (mm_get_s (mm_get_s mm_get_0)))) ?_
      refine mb_ck hr (fun hb16 hr => ?_)
      refine mb_cVv (pc := 99) (As := [.ref c14, .int i3, .int i4]) (rest := []) dX11_evenings_99 cw_X11_296 hb16 hr (fun v hv => X4_open_ok hz (by omega) hb16 hv) rfl (Nat.le_of_ble_eq_true rfl) (Nat.zero_le _) (Nat.zero_le _) (fun r15 hr => ?_)
      refine ml_aload_n (pc := 102) dX11_evenings_102 rfl mm_get_0 ?_
      refine mb_gr (pc := 103) dX11_evenings_103 fl_X11_55 hr (fun c17 hr => ?_)
      refine ml_iload_n (pc := 106) dX11_evenings_106 rfl (mm_get_s mm_get_0) ?_
      refine ml_iload (pc := 107) dX11_evenings_107 (mm_get_s (mm_get_s (mm_get_s (mm_get_s (mm_get_s (mm_get_s mm_get_0)))))) ?_
      refine mg_iadd (pc := 109) dX11_evenings_109 ?_
      refine mb_ck hr (fun hb19 hr => ?_)
      refine mb_cVv (pc := 110) (As := [.int (i1 + i6)]) (rest := []) dX11_evenings_110 cw_X11_300 hb19 hr (fun v hv => X4_deal_ok hz (by omega) hb19 hv) rfl (Nat.le_of_ble_eq_true rfl) (Nat.zero_le _) (Nat.zero_le _) (fun r18 hr => ?_)
      refine ml_aload_n (pc := 113) dX11_evenings_113 rfl mm_get_0 ?_
      refine mb_gr (pc := 114) dX11_evenings_114 fl_X11_75 hr (fun c20 hr => ?_)
      refine ml_aload_n (pc := 117) dX11_evenings_117 rfl mm_get_0 ?_
      refine mb_gr (pc := 118) dX11_evenings_118 fl_X11_55 hr (fun c21 hr => ?_)
      refine mb_ck hr (fun hb23 hr => ?_)
      refine mb_cVi (pc := 121) (As := [.ref c21]) (rest := []) dX11_evenings_121 cw_X11_303 hb23 hr (fun v hv => X6_playOut_ok hz (by omega) hb23 hv) rfl (Nat.le_of_ble_eq_true rfl) (Nat.zero_le _) (Nat.zero_le _) (fun r22 hr => ?_)
      refine mg_pop (pc := 124) dX11_evenings_124 rfl ?_
      refine ml_iinc (pc := 125) dX11_evenings_125 (mm_get_s (mm_get_s (mm_get_s (mm_get_s (mm_get_s (mm_get_s mm_get_0)))))) (congrArg (fun z => i6 + z) kc_1) (Nat.le_of_ble_eq_true rfl) (mm_st1_s (mm_st1_s (mm_st1_s (mm_st1_s (mm_st1_s mm_st1_i))))) ?_
      refine mg_goto (pc := 128) 82 dX11_evenings_128 rfl ?_
      exact mg_weak (mm_le_s (mm_le_s (mm_le_s (mm_le_s (mm_le_s (mm_le_s (mm_le_s mm_le_0))))))) (ih _ _ _ hr)
def X11_evenings_b69 (e : mm_E) (a0 : Nat) (i1 : Int32) (i2 : Int32) (i3 : Int32) (i4 : Int32) (i5 : Int32) (t0 : Int32) (m : mm_V) : Option ((Int32 ⊕ String) × mm_V) := mm_bx (X11_needArgument e t0 m) fun r1 => (mm_gr e.1 r1.2 11 19 a0 12).bind fun c2 => if e.1 c2 = some (6, 12) then ((X6_begin e c2 r1.2).bind fun r3 => X11_evenings_L82 e a0 i1 i2 i3 i4 i5 e.2.2 (0 : Int32) r3) else none
theorem X11_evenings_b69_ok {K : mm_K} {e : mm_E} (hz : e.2.1 = K.2.2.2.2) {d : Nat} (hd : 10 ≤ d) {a0 : Nat} {i1 : Int32} {i2 : Int32} {i3 : Int32} {i4 : Int32} {i5 : Int32} {t0 : Int32} (h0 : e.1 a0 = some (11, 19)) {m : mm_V} {r : ((Int32 ⊕ String) × mm_V)} (hr : X11_evenings_b69 e a0 i1 i2 i3 i4 i5 t0 m = some r) : mm_G K MX11_evenings d (mm_Xi e.1 r) 69 [some (.ref a0), some (.int i1), some (.int i2), some (.int i3), some (.int i4), some (.int i5), none] [.int t0] (e.1, m) none 0 0 := by
  obtain ⟨d, rfl⟩ : ∃ d', d = d' + 1 := ⟨d - 1, by omega⟩
  unfold X11_evenings_b69 at hr
  refine mb_xSv (pc := 69) (As := [.int t0]) (rest := []) dX11_evenings_69 cw_X11_199 tw_1064  rfl hr (fun v hv => X11_needArgument_ok hz (by omega)  hv) rfl (Nat.le_of_ble_eq_true rfl) (fun r1 hr => ?_)
  refine ml_aload_n (pc := 72) dX11_evenings_72 rfl mm_get_0 ?_
  refine mb_gr (pc := 73) dX11_evenings_73 fl_X11_75 hr (fun c2 hr => ?_)
  refine mb_ck hr (fun hb4 hr => ?_)
  refine mb_cVv (pc := 76) (As := []) (rest := []) dX11_evenings_76 cw_X11_293 hb4 hr (fun v hv => X6_begin_ok hz (by omega) hb4 hv) rfl (Nat.le_of_ble_eq_true rfl) (Nat.zero_le _) (Nat.zero_le _) (fun r3 hr => ?_)
  refine mg_iconst (pc := 79) dX11_evenings_79 kc_0 ?_
  refine ml_istore (pc := 80) dX11_evenings_80 (Nat.le_of_ble_eq_true rfl) (mm_st1_s (mm_st1_s (mm_st1_s (mm_st1_s (mm_st1_s mm_st1_i))))) ?_
  exact mg_weak (mm_le_s (mm_le_s (mm_le_s (mm_le_s (mm_le_s (mm_le_s (mm_le_s mm_le_0))))))) (X11_evenings_L82_ok hz hd h0 _ _ _ _ hr)
def X11_evenings_b68 (e : mm_E) (a0 : Nat) (i1 : Int32) (i2 : Int32) (i3 : Int32) (i4 : Int32) (i5 : Int32) (m : mm_V) : Option ((Int32 ⊕ String) × mm_V) := X11_evenings_b69 e a0 i1 i2 i3 i4 i5 (0 : Int32) m
theorem X11_evenings_b68_ok {K : mm_K} {e : mm_E} (hz : e.2.1 = K.2.2.2.2) {d : Nat} (hd : 10 ≤ d) {a0 : Nat} {i1 : Int32} {i2 : Int32} {i3 : Int32} {i4 : Int32} {i5 : Int32} (h0 : e.1 a0 = some (11, 19)) {m : mm_V} {r : ((Int32 ⊕ String) × mm_V)} (hr : X11_evenings_b68 e a0 i1 i2 i3 i4 i5 m = some r) : mm_G K MX11_evenings d (mm_Xi e.1 r) 68 [some (.ref a0), some (.int i1), some (.int i2), some (.int i3), some (.int i4), some (.int i5), none] [] (e.1, m) none 0 0 := by
  obtain ⟨d, rfl⟩ : ∃ d', d = d' + 1 := ⟨d - 1, by omega⟩
  unfold X11_evenings_b68 at hr
  refine mg_iconst (pc := 68) dX11_evenings_68 kc_0 ?_
  exact mg_weak (mm_le_s (mm_le_s (mm_le_s (mm_le_s (mm_le_s (mm_le_s (mm_le_n mm_le_0))))))) (X11_evenings_b69_ok hz hd h0 hr)
def X11_evenings_b52 (e : mm_E) (a0 : Nat) (i1 : Int32) (i2 : Int32) (i3 : Int32) (i4 : Int32) (i5 : Int32) (t0 : Int32) (m : mm_V) : Option ((Int32 ⊕ String) × mm_V) := mm_bx (X11_needArgument e t0 m) fun r1 => if i3 < 0 then (X11_evenings_b68 e a0 i1 i2 i3 i4 i5  r1.2) else (if (3 : Int32) < i3 then (X11_evenings_b68 e a0 i1 i2 i3 i4 i5  r1.2) else (X11_evenings_b69 e a0 i1 i2 i3 i4 i5 (1 : Int32) r1.2))
theorem X11_evenings_b52_ok {K : mm_K} {e : mm_E} (hz : e.2.1 = K.2.2.2.2) {d : Nat} (hd : 10 ≤ d) {a0 : Nat} {i1 : Int32} {i2 : Int32} {i3 : Int32} {i4 : Int32} {i5 : Int32} {t0 : Int32} (h0 : e.1 a0 = some (11, 19)) {m : mm_V} {r : ((Int32 ⊕ String) × mm_V)} (hr : X11_evenings_b52 e a0 i1 i2 i3 i4 i5 t0 m = some r) : mm_G K MX11_evenings d (mm_Xi e.1 r) 52 [some (.ref a0), some (.int i1), some (.int i2), some (.int i3), some (.int i4), some (.int i5), none] [.int t0] (e.1, m) none 0 0 := by
  obtain ⟨d, rfl⟩ : ∃ d', d = d' + 1 := ⟨d - 1, by omega⟩
  unfold X11_evenings_b52 at hr
  refine mb_xSv (pc := 52) (As := [.int t0]) (rest := []) dX11_evenings_52 cw_X11_199 tw_1064  rfl hr (fun v hv => X11_needArgument_ok hz (by omega)  hv) rfl (Nat.le_of_ble_eq_true rfl) (fun r1 hr => ?_)
  refine ml_iload_n (pc := 55) dX11_evenings_55 rfl (mm_get_s (mm_get_s (mm_get_s mm_get_0))) ?_
  refine mb_if_lt (pc := 56) 68 dX11_evenings_56 rfl hr (fun hr => ?_) (fun hr => ?_)
  · exact mg_weak (mm_le_s (mm_le_s (mm_le_s (mm_le_s (mm_le_s (mm_le_s (mm_le_n mm_le_0))))))) (X11_evenings_b68_ok hz hd h0 hr)
  · refine ml_iload_n (pc := 59) dX11_evenings_59 rfl (mm_get_s (mm_get_s (mm_get_s mm_get_0))) ?_
    refine mg_iconst (pc := 60) dX11_evenings_60 kc_3 ?_
    refine mb_icmp_gt (pc := 61) 68 dX11_evenings_61 rfl hr (fun hr => ?_) (fun hr => ?_)
    · exact mg_weak (mm_le_s (mm_le_s (mm_le_s (mm_le_s (mm_le_s (mm_le_s (mm_le_n mm_le_0))))))) (X11_evenings_b68_ok hz hd h0 hr)
    · refine mg_iconst (pc := 64) dX11_evenings_64 kc_1 ?_
      refine mg_goto (pc := 65) 69 dX11_evenings_65 rfl ?_
      exact mg_weak (mm_le_s (mm_le_s (mm_le_s (mm_le_s (mm_le_s (mm_le_s (mm_le_n mm_le_0))))))) (X11_evenings_b69_ok hz hd h0 hr)
def X11_evenings_b51 (e : mm_E) (a0 : Nat) (i1 : Int32) (i2 : Int32) (i3 : Int32) (i4 : Int32) (i5 : Int32) (m : mm_V) : Option ((Int32 ⊕ String) × mm_V) := X11_evenings_b52 e a0 i1 i2 i3 i4 i5 (0 : Int32) m
theorem X11_evenings_b51_ok {K : mm_K} {e : mm_E} (hz : e.2.1 = K.2.2.2.2) {d : Nat} (hd : 10 ≤ d) {a0 : Nat} {i1 : Int32} {i2 : Int32} {i3 : Int32} {i4 : Int32} {i5 : Int32} (h0 : e.1 a0 = some (11, 19)) {m : mm_V} {r : ((Int32 ⊕ String) × mm_V)} (hr : X11_evenings_b51 e a0 i1 i2 i3 i4 i5 m = some r) : mm_G K MX11_evenings d (mm_Xi e.1 r) 51 [some (.ref a0), some (.int i1), some (.int i2), some (.int i3), some (.int i4), some (.int i5), none] [] (e.1, m) none 0 0 := by
  obtain ⟨d, rfl⟩ : ∃ d', d = d' + 1 := ⟨d - 1, by omega⟩
  unfold X11_evenings_b51 at hr
  refine mg_iconst (pc := 51) dX11_evenings_51 kc_0 ?_
  exact mg_weak (mm_le_s (mm_le_s (mm_le_s (mm_le_s (mm_le_s (mm_le_s (mm_le_n mm_le_0))))))) (X11_evenings_b52_ok hz hd h0 hr)
def X11_evenings_b34 (e : mm_E) (a0 : Nat) (i1 : Int32) (i2 : Int32) (i3 : Int32) (i4 : Int32) (i5 : Int32) (t0 : Int32) (m : mm_V) : Option ((Int32 ⊕ String) × mm_V) := mm_bx (X11_need e t0 m) fun r1 => if i2 < 0 then (X11_evenings_b51 e a0 i1 i2 i3 i4 i5  r1.2) else (if (60 : Int32) < i2 then (X11_evenings_b51 e a0 i1 i2 i3 i4 i5  r1.2) else (X11_evenings_b52 e a0 i1 i2 i3 i4 i5 (1 : Int32) r1.2))
theorem X11_evenings_b34_ok {K : mm_K} {e : mm_E} (hz : e.2.1 = K.2.2.2.2) {d : Nat} (hd : 10 ≤ d) {a0 : Nat} {i1 : Int32} {i2 : Int32} {i3 : Int32} {i4 : Int32} {i5 : Int32} {t0 : Int32} (h0 : e.1 a0 = some (11, 19)) {m : mm_V} {r : ((Int32 ⊕ String) × mm_V)} (hr : X11_evenings_b34 e a0 i1 i2 i3 i4 i5 t0 m = some r) : mm_G K MX11_evenings d (mm_Xi e.1 r) 34 [some (.ref a0), some (.int i1), some (.int i2), some (.int i3), some (.int i4), some (.int i5), none] [.int t0] (e.1, m) none 0 0 := by
  obtain ⟨d, rfl⟩ : ∃ d', d = d' + 1 := ⟨d - 1, by omega⟩
  unfold X11_evenings_b34 at hr
  refine mb_xSv (pc := 34) (As := [.int t0]) (rest := []) dX11_evenings_34 cw_X11_164 tw_1037  rfl hr (fun v hv => X11_need_ok hz (by omega)  hv) rfl (Nat.le_of_ble_eq_true rfl) (fun r1 hr => ?_)
  refine ml_iload_n (pc := 37) dX11_evenings_37 rfl (mm_get_s (mm_get_s mm_get_0)) ?_
  refine mb_if_lt (pc := 38) 51 dX11_evenings_38 rfl hr (fun hr => ?_) (fun hr => ?_)
  · exact mg_weak (mm_le_s (mm_le_s (mm_le_s (mm_le_s (mm_le_s (mm_le_s (mm_le_n mm_le_0))))))) (X11_evenings_b51_ok hz hd h0 hr)
  · refine ml_iload_n (pc := 41) dX11_evenings_41 rfl (mm_get_s (mm_get_s mm_get_0)) ?_
    refine mg_bipush (pc := 42) dX11_evenings_42 kb_60 ?_
    refine mb_icmp_gt (pc := 44) 51 dX11_evenings_44 rfl hr (fun hr => ?_) (fun hr => ?_)
    · exact mg_weak (mm_le_s (mm_le_s (mm_le_s (mm_le_s (mm_le_s (mm_le_s (mm_le_n mm_le_0))))))) (X11_evenings_b51_ok hz hd h0 hr)
    · refine mg_iconst (pc := 47) dX11_evenings_47 kc_1 ?_
      refine mg_goto (pc := 48) 52 dX11_evenings_48 rfl ?_
      exact mg_weak (mm_le_s (mm_le_s (mm_le_s (mm_le_s (mm_le_s (mm_le_s (mm_le_n mm_le_0))))))) (X11_evenings_b52_ok hz hd h0 hr)
def X11_evenings_b29 (e : mm_E) (a0 : Nat) (i1 : Int32) (i2 : Int32) (i3 : Int32) (i4 : Int32) (i5 : Int32) (m : mm_V) : Option ((Int32 ⊕ String) × mm_V) := X11_evenings_b34 e a0 i1 i2 i3 i4 i5 (1 : Int32) m
theorem X11_evenings_b29_ok {K : mm_K} {e : mm_E} (hz : e.2.1 = K.2.2.2.2) {d : Nat} (hd : 10 ≤ d) {a0 : Nat} {i1 : Int32} {i2 : Int32} {i3 : Int32} {i4 : Int32} {i5 : Int32} (h0 : e.1 a0 = some (11, 19)) {m : mm_V} {r : ((Int32 ⊕ String) × mm_V)} (hr : X11_evenings_b29 e a0 i1 i2 i3 i4 i5 m = some r) : mm_G K MX11_evenings d (mm_Xi e.1 r) 29 [some (.ref a0), some (.int i1), some (.int i2), some (.int i3), some (.int i4), some (.int i5), none] [] (e.1, m) none 0 0 := by
  obtain ⟨d, rfl⟩ : ∃ d', d = d' + 1 := ⟨d - 1, by omega⟩
  unfold X11_evenings_b29 at hr
  refine mg_iconst (pc := 29) dX11_evenings_29 kc_1 ?_
  refine mg_goto (pc := 30) 34 dX11_evenings_30 rfl ?_
  exact mg_weak (mm_le_s (mm_le_s (mm_le_s (mm_le_s (mm_le_s (mm_le_s (mm_le_n mm_le_0))))))) (X11_evenings_b34_ok hz hd h0 hr)
def X11_evenings (e : mm_E) (a0 : Nat) (i1 : Int32) (i2 : Int32) (i3 : Int32) (i4 : Int32) (i5 : Int32) (m : mm_V) : Option ((Int32 ⊕ String) × mm_V) := if i5 = (-1 : Int32) then (X11_evenings_b29 e a0 i1 i2 i3 i4 i5  m) else (if i5 = (-2 : Int32) then (X11_evenings_b29 e a0 i1 i2 i3 i4 i5  m) else (if i5 = (-3 : Int32) then (X11_evenings_b29 e a0 i1 i2 i3 i4 i5  m) else ((X11_isPerson e a0 i5 m).bind fun r1 => if r1.1 = 0 then (X11_evenings_b34 e a0 i1 i2 i3 i4 i5 (0 : Int32) r1.2) else (X11_evenings_b29 e a0 i1 i2 i3 i4 i5  r1.2))))
theorem X11_evenings_ok {K : mm_K} {e : mm_E} (hz : e.2.1 = K.2.2.2.2) {d : Nat} (hd : 10 ≤ d) {a0 : Nat} {i1 : Int32} {i2 : Int32} {i3 : Int32} {i4 : Int32} {i5 : Int32} (h0 : e.1 a0 = some (11, 19)) {m : mm_V} {r : ((Int32 ⊕ String) × mm_V)} (hr : X11_evenings e a0 i1 i2 i3 i4 i5 m = some r) : mm_Cn K MX11_evenings d (mm_Xi e.1 r) [.ref a0, .int i1, .int i2, .int i3, .int i4, .int i5] (e.1, m) none := by
  obtain ⟨d, rfl⟩ : ∃ d', d = d' + 1 := ⟨d - 1, by omega⟩
  refine mm_entry (by decide) (Nat.le_of_ble_eq_true rfl) rfl (fun hok => ?_)
  unfold X11_evenings at hr
  refine mg_weak (L' := [some (.ref a0), some (.int i1), some (.int i2), some (.int i3), some (.int i4), some (.int i5), none]) (mm_le_s (mm_le_s (mm_le_s (mm_le_s (mm_le_s (mm_le_s (mm_le_e mm_le_0))))))) ?_
  refine ml_iload (pc := 0) dX11_evenings_0 (mm_get_s (mm_get_s (mm_get_s (mm_get_s (mm_get_s mm_get_0))))) ?_
  refine mg_iconst (pc := 2) dX11_evenings_2 kc_m1 ?_
  refine mb_icmp_eq (pc := 3) 29 dX11_evenings_3 rfl hr (fun hr => ?_) (fun hr => ?_)
  · exact mg_weak (mm_le_s (mm_le_s (mm_le_s (mm_le_s (mm_le_s (mm_le_s (mm_le_n mm_le_0))))))) (X11_evenings_b29_ok hz hd h0 hr)
  · refine ml_iload (pc := 6) dX11_evenings_6 (mm_get_s (mm_get_s (mm_get_s (mm_get_s (mm_get_s mm_get_0))))) ?_
    refine mg_bipush (pc := 8) dX11_evenings_8 kb_m2 ?_
    refine mb_icmp_eq (pc := 10) 29 dX11_evenings_10 rfl hr (fun hr => ?_) (fun hr => ?_)
    · exact mg_weak (mm_le_s (mm_le_s (mm_le_s (mm_le_s (mm_le_s (mm_le_s (mm_le_n mm_le_0))))))) (X11_evenings_b29_ok hz hd h0 hr)
    · refine ml_iload (pc := 13) dX11_evenings_13 (mm_get_s (mm_get_s (mm_get_s (mm_get_s (mm_get_s mm_get_0))))) ?_
      refine mg_bipush (pc := 15) dX11_evenings_15 kb_m3 ?_
      refine mb_icmp_eq (pc := 17) 29 dX11_evenings_17 rfl hr (fun hr => ?_) (fun hr => ?_)
      · exact mg_weak (mm_le_s (mm_le_s (mm_le_s (mm_le_s (mm_le_s (mm_le_s (mm_le_n mm_le_0))))))) (X11_evenings_b29_ok hz hd h0 hr)
      · refine ml_aload_n (pc := 20) dX11_evenings_20 rfl mm_get_0 ?_
        refine ml_iload (pc := 21) dX11_evenings_21 (mm_get_s (mm_get_s (mm_get_s (mm_get_s (mm_get_s mm_get_0))))) ?_
        refine mb_cVi (pc := 23) (As := [.int i5]) (rest := []) dX11_evenings_23 cw_X11_258 h0 hr (fun v hv => X11_isPerson_ok hz (by omega) h0 hv) rfl (Nat.le_of_ble_eq_true rfl) (Nat.zero_le _) (Nat.zero_le _) (fun r1 hr => ?_)
        refine mb_if_eq (pc := 26) 33 dX11_evenings_26 rfl hr (fun hr => ?_) (fun hr => ?_)
        · refine mg_iconst (pc := 33) dX11_evenings_33 kc_0 ?_
          exact mg_weak (mm_le_s (mm_le_s (mm_le_s (mm_le_s (mm_le_s (mm_le_s (mm_le_n mm_le_0))))))) (X11_evenings_b34_ok hz hd h0 hr)
        · exact mg_weak (mm_le_s (mm_le_s (mm_le_s (mm_le_s (mm_le_s (mm_le_s (mm_le_n mm_le_0))))))) (X11_evenings_b29_ok hz hd h0 hr)
theorem dX11_face_0 : decode cX11_face 0 = .ok (.iload_n 3, 1) := by decide +kernel
theorem dX11_face_1 : decode cX11_face 1 = .ok (.ifCond .lt 12, 3) := by decide +kernel
theorem dX11_face_4 : decode cX11_face 4 = .ok (.iload_n 3, 1) := by decide +kernel
theorem dX11_face_5 : decode cX11_face 5 = .ok (.iconst 4, 1) := by decide +kernel
theorem dX11_face_6 : decode cX11_face 6 = .ok (.if_icmp .gt 7, 3) := by decide +kernel
theorem dX11_face_9 : decode cX11_face 9 = .ok (.iconst 1, 1) := by decide +kernel
theorem dX11_face_10 : decode cX11_face 10 = .ok (.goto 4, 3) := by decide +kernel
theorem dX11_face_13 : decode cX11_face 13 = .ok (.iconst 0, 1) := by decide +kernel
theorem dX11_face_14 : decode cX11_face 14 = .ok (.invokestatic 164, 3) := by decide +kernel
theorem dX11_face_17 : decode cX11_face 17 = .ok (.iload_n 1, 1) := by decide +kernel
theorem dX11_face_18 : decode cX11_face 18 = .ok (.iconst 2, 1) := by decide +kernel
theorem dX11_face_19 : decode cX11_face 19 = .ok (.if_icmp .lt 13, 3) := by decide +kernel
theorem dX11_face_22 : decode cX11_face 22 = .ok (.iload_n 1, 1) := by decide +kernel
theorem dX11_face_23 : decode cX11_face 23 = .ok (.bipush 6, 2) := by decide +kernel
theorem dX11_face_25 : decode cX11_face 25 = .ok (.if_icmp .gt 7, 3) := by decide +kernel
theorem dX11_face_28 : decode cX11_face 28 = .ok (.iconst 1, 1) := by decide +kernel
theorem dX11_face_29 : decode cX11_face 29 = .ok (.goto 4, 3) := by decide +kernel
theorem dX11_face_32 : decode cX11_face 32 = .ok (.iconst 0, 1) := by decide +kernel
theorem dX11_face_33 : decode cX11_face 33 = .ok (.invokestatic 199, 3) := by decide +kernel
theorem dX11_face_36 : decode cX11_face 36 = .ok (.iload_n 2, 1) := by decide +kernel
theorem dX11_face_37 : decode cX11_face 37 = .ok (.ifCond .lt 13, 3) := by decide +kernel
theorem dX11_face_40 : decode cX11_face 40 = .ok (.iload_n 2, 1) := by decide +kernel
theorem dX11_face_41 : decode cX11_face 41 = .ok (.bipush 100, 2) := by decide +kernel
theorem dX11_face_43 : decode cX11_face 43 = .ok (.if_icmp .gt 7, 3) := by decide +kernel
theorem dX11_face_46 : decode cX11_face 46 = .ok (.iconst 1, 1) := by decide +kernel
theorem dX11_face_47 : decode cX11_face 47 = .ok (.goto 4, 3) := by decide +kernel
theorem dX11_face_50 : decode cX11_face 50 = .ok (.iconst 0, 1) := by decide +kernel
theorem dX11_face_51 : decode cX11_face 51 = .ok (.invokestatic 199, 3) := by decide +kernel
theorem dX11_face_54 : decode cX11_face 54 = .ok (.iload_n 3, 1) := by decide +kernel
theorem dX11_face_55 : decode cX11_face 55 = .ok (.iconst 4, 1) := by decide +kernel
theorem dX11_face_56 : decode cX11_face 56 = .ok (.if_icmp .ne 21, 3) := by decide +kernel
theorem dX11_face_59 : decode cX11_face 59 = .ok (.iload_n 2, 1) := by decide +kernel
theorem dX11_face_60 : decode cX11_face 60 = .ok (.iload_n 1, 1) := by decide +kernel
theorem dX11_face_61 : decode cX11_face 61 = .ok (.iconst 1, 1) := by decide +kernel
theorem dX11_face_62 : decode cX11_face 62 = .ok (.isub, 1) := by decide +kernel
theorem dX11_face_63 : decode cX11_face 63 = .ok (.imul, 1) := by decide +kernel
theorem dX11_face_64 : decode cX11_face 64 = .ok (.bipush 100, 2) := by decide +kernel
theorem dX11_face_66 : decode cX11_face 66 = .ok (.iload_n 2, 1) := by decide +kernel
theorem dX11_face_67 : decode cX11_face 67 = .ok (.isub, 1) := by decide +kernel
theorem dX11_face_68 : decode cX11_face 68 = .ok (.if_icmp .lt 7, 3) := by decide +kernel
theorem dX11_face_71 : decode cX11_face 71 = .ok (.iconst 0, 1) := by decide +kernel
theorem dX11_face_72 : decode cX11_face 72 = .ok (.goto 4, 3) := by decide +kernel
theorem dX11_face_75 : decode cX11_face 75 = .ok (.iconst 1, 1) := by decide +kernel
theorem dX11_face_76 : decode cX11_face 76 = .ok (.ireturn, 1) := by decide +kernel
theorem dX11_face_77 : decode cX11_face 77 = .ok (.iload_n 3, 1) := by decide +kernel
theorem dX11_face_78 : decode cX11_face 78 = .ok (.iconst 2, 1) := by decide +kernel
theorem dX11_face_79 : decode cX11_face 79 = .ok (.if_icmp .ge 22, 3) := by decide +kernel
theorem dX11_face_82 : decode cX11_face 82 = .ok (.iload_n 2, 1) := by decide +kernel
theorem dX11_face_83 : decode cX11_face 83 = .ok (.i2l, 1) := by decide +kernel
theorem dX11_face_84 : decode cX11_face 84 = .ok (.ldc2_w 328, 3) := by decide +kernel
theorem dX11_face_87 : decode cX11_face 87 = .ok (.iload_n 3, 1) := by decide +kernel
theorem dX11_face_88 : decode cX11_face 88 = .ok (.ifCond .ne 7, 3) := by decide +kernel
theorem dX11_face_91 : decode cX11_face 91 = .ok (.iconst 1, 1) := by decide +kernel
theorem dX11_face_92 : decode cX11_face 92 = .ok (.goto 4, 3) := by decide +kernel
theorem dX11_face_95 : decode cX11_face 95 = .ok (.iconst 0, 1) := by decide +kernel
theorem dX11_face_96 : decode cX11_face 96 = .ok (.invokestatic 247, 3) := by decide +kernel
theorem dX11_face_99 : decode cX11_face 99 = .ok (.l2i, 1) := by decide +kernel
theorem dX11_face_100 : decode cX11_face 100 = .ok (.ireturn, 1) := by decide +kernel
theorem dX11_face_101 : decode cX11_face 101 = .ok (.bipush 100, 2) := by decide +kernel
theorem dX11_face_103 : decode cX11_face 103 = .ok (.iload_n 2, 1) := by decide +kernel
theorem dX11_face_104 : decode cX11_face 104 = .ok (.isub, 1) := by decide +kernel
theorem dX11_face_105 : decode cX11_face 105 = .ok (.i2l, 1) := by decide +kernel
theorem dX11_face_106 : decode cX11_face 106 = .ok (.bipush 100, 2) := by decide +kernel
theorem dX11_face_108 : decode cX11_face 108 = .ok (.iload_n 1, 1) := by decide +kernel
theorem dX11_face_109 : decode cX11_face 109 = .ok (.iconst 1, 1) := by decide +kernel
theorem dX11_face_110 : decode cX11_face 110 = .ok (.isub, 1) := by decide +kernel
theorem dX11_face_111 : decode cX11_face 111 = .ok (.imul, 1) := by decide +kernel
theorem dX11_face_112 : decode cX11_face 112 = .ok (.i2l, 1) := by decide +kernel
theorem dX11_face_113 : decode cX11_face 113 = .ok (.iload_n 3, 1) := by decide +kernel
theorem dX11_face_114 : decode cX11_face 114 = .ok (.iconst 2, 1) := by decide +kernel
theorem dX11_face_115 : decode cX11_face 115 = .ok (.if_icmp .ne 7, 3) := by decide +kernel
theorem dX11_face_118 : decode cX11_face 118 = .ok (.iconst 1, 1) := by decide +kernel
theorem dX11_face_119 : decode cX11_face 119 = .ok (.goto 4, 3) := by decide +kernel
theorem dX11_face_122 : decode cX11_face 122 = .ok (.iconst 0, 1) := by decide +kernel
theorem dX11_face_123 : decode cX11_face 123 = .ok (.invokestatic 247, 3) := by decide +kernel
theorem dX11_face_126 : decode cX11_face 126 = .ok (.l2i, 1) := by decide +kernel
theorem dX11_face_127 : decode cX11_face 127 = .ok (.ireturn, 1) := by decide +kernel
def X11_face_b123 (e : mm_E) (t0 : Int64) (t1 : Int64) (t2 : Int32) (m : mm_V) : Option ((Int32 ⊕ String) × mm_V) := (X11_lowest e t0 t1 t2 m).bind fun r1 => some (.inl r1.1.toInt32, r1.2)
theorem X11_face_b123_ok {K : mm_K} {e : mm_E} (hz : e.2.1 = K.2.2.2.2) {d : Nat} (hd : 10 ≤ d) {t0 : Int64} {t1 : Int64} {t2 : Int32} {a0 : Nat} (h0 : e.1 a0 = some (11, 19)) {m : mm_V} {r : ((Int32 ⊕ String) × mm_V)} (hr : X11_face_b123 e t0 t1 t2 m = some r) : mm_G K MX11_face d (mm_Xi e.1 r) 123 [none, none, none, none] [.int t2, .long t1, .long t0] (e.1, m) none 0 0 := by
  obtain ⟨d, rfl⟩ : ∃ d', d = d' + 1 := ⟨d - 1, by omega⟩
  unfold X11_face_b123 at hr
  refine mb_cSl (pc := 123) (As := [.long t0, .long t1, .int t2]) (rest := []) dX11_face_123 cw_X11_247  hr (fun v hv => X11_lowest_ok hz (by omega)  hv) rfl (Nat.le_of_ble_eq_true rfl) (Nat.zero_le _) (Nat.zero_le _) (fun r1 hr => ?_)
  refine mg_l2i (pc := 126) dX11_face_126 ?_
  exact mb_xiret dX11_face_127 rfl hr
def X11_face_b96 (e : mm_E) (t0 : Int64) (t1 : Int64) (t2 : Int32) (m : mm_V) : Option ((Int32 ⊕ String) × mm_V) := (X11_lowest e t0 t1 t2 m).bind fun r1 => some (.inl r1.1.toInt32, r1.2)
theorem X11_face_b96_ok {K : mm_K} {e : mm_E} (hz : e.2.1 = K.2.2.2.2) {d : Nat} (hd : 10 ≤ d) {t0 : Int64} {t1 : Int64} {t2 : Int32} {a0 : Nat} (h0 : e.1 a0 = some (11, 19)) {m : mm_V} {r : ((Int32 ⊕ String) × mm_V)} (hr : X11_face_b96 e t0 t1 t2 m = some r) : mm_G K MX11_face d (mm_Xi e.1 r) 96 [none, none, none, none] [.int t2, .long t1, .long t0] (e.1, m) none 0 0 := by
  obtain ⟨d, rfl⟩ : ∃ d', d = d' + 1 := ⟨d - 1, by omega⟩
  unfold X11_face_b96 at hr
  refine mb_cSl (pc := 96) (As := [.long t0, .long t1, .int t2]) (rest := []) dX11_face_96 cw_X11_247  hr (fun v hv => X11_lowest_ok hz (by omega)  hv) rfl (Nat.le_of_ble_eq_true rfl) (Nat.zero_le _) (Nat.zero_le _) (fun r1 hr => ?_)
  refine mg_l2i (pc := 99) dX11_face_99 ?_
  exact mb_xiret dX11_face_100 rfl hr
def X11_face_b76 (e : mm_E) (t0 : Int32) (m : mm_V) : Option ((Int32 ⊕ String) × mm_V) := some (.inl t0, m)
theorem X11_face_b76_ok {K : mm_K} {e : mm_E} (hz : e.2.1 = K.2.2.2.2) {d : Nat} (hd : 10 ≤ d) {t0 : Int32} {a0 : Nat} (h0 : e.1 a0 = some (11, 19)) {m : mm_V} {r : ((Int32 ⊕ String) × mm_V)} (hr : X11_face_b76 e t0 m = some r) : mm_G K MX11_face d (mm_Xi e.1 r) 76 [none, none, none, none] [.int t0] (e.1, m) none 0 0 := by
  obtain ⟨d, rfl⟩ : ∃ d', d = d' + 1 := ⟨d - 1, by omega⟩
  unfold X11_face_b76 at hr
  exact mb_xiret dX11_face_76 rfl hr
def X11_face_b51 (e : mm_E) (i1 : Int32) (i2 : Int32) (i3 : Int32) (t0 : Int32) (m : mm_V) : Option ((Int32 ⊕ String) × mm_V) := mm_bx (X11_needArgument e t0 m) fun r1 => if ¬ i3 = (4 : Int32) then (if (2 : Int32) ≤ i3 then (if ¬ i3 = (2 : Int32) then (X11_face_b123 e  ((100 : Int32) - i2).toInt64 ((100 : Int32) * (i1 - (1 : Int32))).toInt64 (0 : Int32) r1.2) else (X11_face_b123 e  ((100 : Int32) - i2).toInt64 ((100 : Int32) * (i1 - (1 : Int32))).toInt64 (1 : Int32) r1.2)) else (if ¬ i3 = 0 then (X11_face_b96 e  i2.toInt64 (100 : Int64) (0 : Int32) r1.2) else (X11_face_b96 e  i2.toInt64 (100 : Int64) (1 : Int32) r1.2))) else (if (i2 * (i1 - (1 : Int32))) < ((100 : Int32) - i2) then (X11_face_b76 e  (1 : Int32) r1.2) else (X11_face_b76 e  (0 : Int32) r1.2))
theorem X11_face_b51_ok {K : mm_K} {e : mm_E} (hz : e.2.1 = K.2.2.2.2) {d : Nat} (hd : 10 ≤ d) {i1 : Int32} {i2 : Int32} {i3 : Int32} {t0 : Int32} {a0 : Nat} (h0 : e.1 a0 = some (11, 19)) {m : mm_V} {r : ((Int32 ⊕ String) × mm_V)} (hr : X11_face_b51 e i1 i2 i3 t0 m = some r) : mm_G K MX11_face d (mm_Xi e.1 r) 51 [none, some (.int i1), some (.int i2), some (.int i3)] [.int t0] (e.1, m) none 0 0 := by
  obtain ⟨d, rfl⟩ : ∃ d', d = d' + 1 := ⟨d - 1, by omega⟩
  unfold X11_face_b51 at hr
  refine mb_xSv (pc := 51) (As := [.int t0]) (rest := []) dX11_face_51 cw_X11_199 tw_1064  rfl hr (fun v hv => X11_needArgument_ok hz (by omega)  hv) rfl (Nat.le_of_ble_eq_true rfl) (fun r1 hr => ?_)
  refine ml_iload_n (pc := 54) dX11_face_54 rfl (mm_get_s (mm_get_s (mm_get_s mm_get_0))) ?_
  refine mg_iconst (pc := 55) dX11_face_55 kc_4 ?_
  refine mb_icmp_ne (pc := 56) 77 dX11_face_56 rfl hr (fun hr => ?_) (fun hr => ?_)
  · refine ml_iload_n (pc := 77) dX11_face_77 rfl (mm_get_s (mm_get_s (mm_get_s mm_get_0))) ?_
    refine mg_iconst (pc := 78) dX11_face_78 kc_2 ?_
    refine mb_icmp_ge (pc := 79) 101 dX11_face_79 rfl hr (fun hr => ?_) (fun hr => ?_)
    · refine mg_bipush (pc := 101) dX11_face_101 kb_100 ?_
      refine ml_iload_n (pc := 103) dX11_face_103 rfl (mm_get_s (mm_get_s mm_get_0)) ?_
      refine mg_isub (pc := 104) dX11_face_104 ?_
      refine mg_i2l (pc := 105) dX11_face_105 ?_
      refine mg_bipush (pc := 106) dX11_face_106 kb_100 ?_
      refine ml_iload_n (pc := 108) dX11_face_108 rfl (mm_get_s mm_get_0) ?_
      refine mg_iconst (pc := 109) dX11_face_109 kc_1 ?_
      refine mg_isub (pc := 110) dX11_face_110 ?_
      refine mg_imul (pc := 111) dX11_face_111 ?_
      refine mg_i2l (pc := 112) dX11_face_112 ?_
      refine ml_iload_n (pc := 113) dX11_face_113 rfl (mm_get_s (mm_get_s (mm_get_s mm_get_0))) ?_
      refine mg_iconst (pc := 114) dX11_face_114 kc_2 ?_
      refine mb_icmp_ne (pc := 115) 122 dX11_face_115 rfl hr (fun hr => ?_) (fun hr => ?_)
      · refine mg_iconst (pc := 122) dX11_face_122 kc_0 ?_
        exact mg_weak (mm_le_n (mm_le_n (mm_le_n (mm_le_n mm_le_0)))) (X11_face_b123_ok hz hd h0 hr)
      · refine mg_iconst (pc := 118) dX11_face_118 kc_1 ?_
        refine mg_goto (pc := 119) 123 dX11_face_119 rfl ?_
        exact mg_weak (mm_le_n (mm_le_n (mm_le_n (mm_le_n mm_le_0)))) (X11_face_b123_ok hz hd h0 hr)
    · refine ml_iload_n (pc := 82) dX11_face_82 rfl (mm_get_s (mm_get_s mm_get_0)) ?_
      refine mg_i2l (pc := 83) dX11_face_83 ?_
      refine mg_ldc2 (pc := 84) dX11_face_84 (v := (100 : Int64)) tw_1347 ?_
      refine ml_iload_n (pc := 87) dX11_face_87 rfl (mm_get_s (mm_get_s (mm_get_s mm_get_0))) ?_
      refine mb_if_ne (pc := 88) 95 dX11_face_88 rfl hr (fun hr => ?_) (fun hr => ?_)
      · refine mg_iconst (pc := 95) dX11_face_95 kc_0 ?_
        exact mg_weak (mm_le_n (mm_le_n (mm_le_n (mm_le_n mm_le_0)))) (X11_face_b96_ok hz hd h0 hr)
      · refine mg_iconst (pc := 91) dX11_face_91 kc_1 ?_
        refine mg_goto (pc := 92) 96 dX11_face_92 rfl ?_
        exact mg_weak (mm_le_n (mm_le_n (mm_le_n (mm_le_n mm_le_0)))) (X11_face_b96_ok hz hd h0 hr)
  · refine ml_iload_n (pc := 59) dX11_face_59 rfl (mm_get_s (mm_get_s mm_get_0)) ?_
    refine ml_iload_n (pc := 60) dX11_face_60 rfl (mm_get_s mm_get_0) ?_
    refine mg_iconst (pc := 61) dX11_face_61 kc_1 ?_
    refine mg_isub (pc := 62) dX11_face_62 ?_
    refine mg_imul (pc := 63) dX11_face_63 ?_
    refine mg_bipush (pc := 64) dX11_face_64 kb_100 ?_
    refine ml_iload_n (pc := 66) dX11_face_66 rfl (mm_get_s (mm_get_s mm_get_0)) ?_
    refine mg_isub (pc := 67) dX11_face_67 ?_
    refine mb_icmp_lt (pc := 68) 75 dX11_face_68 rfl hr (fun hr => ?_) (fun hr => ?_)
    · refine mg_iconst (pc := 75) dX11_face_75 kc_1 ?_
      exact mg_weak (mm_le_n (mm_le_n (mm_le_n (mm_le_n mm_le_0)))) (X11_face_b76_ok hz hd h0 hr)
    · refine mg_iconst (pc := 71) dX11_face_71 kc_0 ?_
      refine mg_goto (pc := 72) 76 dX11_face_72 rfl ?_
      exact mg_weak (mm_le_n (mm_le_n (mm_le_n (mm_le_n mm_le_0)))) (X11_face_b76_ok hz hd h0 hr)
def X11_face_b50 (e : mm_E) (i1 : Int32) (i2 : Int32) (i3 : Int32) (m : mm_V) : Option ((Int32 ⊕ String) × mm_V) := X11_face_b51 e i1 i2 i3 (0 : Int32) m
theorem X11_face_b50_ok {K : mm_K} {e : mm_E} (hz : e.2.1 = K.2.2.2.2) {d : Nat} (hd : 10 ≤ d) {i1 : Int32} {i2 : Int32} {i3 : Int32} {a0 : Nat} (h0 : e.1 a0 = some (11, 19)) {m : mm_V} {r : ((Int32 ⊕ String) × mm_V)} (hr : X11_face_b50 e i1 i2 i3 m = some r) : mm_G K MX11_face d (mm_Xi e.1 r) 50 [none, some (.int i1), some (.int i2), some (.int i3)] [] (e.1, m) none 0 0 := by
  obtain ⟨d, rfl⟩ : ∃ d', d = d' + 1 := ⟨d - 1, by omega⟩
  unfold X11_face_b50 at hr
  refine mg_iconst (pc := 50) dX11_face_50 kc_0 ?_
  exact mg_weak (mm_le_n (mm_le_s (mm_le_s (mm_le_s mm_le_0)))) (X11_face_b51_ok hz hd h0 hr)
def X11_face_b33 (e : mm_E) (i1 : Int32) (i2 : Int32) (i3 : Int32) (t0 : Int32) (m : mm_V) : Option ((Int32 ⊕ String) × mm_V) := mm_bx (X11_needArgument e t0 m) fun r1 => if i2 < 0 then (X11_face_b50 e i1 i2 i3  r1.2) else (if (100 : Int32) < i2 then (X11_face_b50 e i1 i2 i3  r1.2) else (X11_face_b51 e i1 i2 i3 (1 : Int32) r1.2))
theorem X11_face_b33_ok {K : mm_K} {e : mm_E} (hz : e.2.1 = K.2.2.2.2) {d : Nat} (hd : 10 ≤ d) {i1 : Int32} {i2 : Int32} {i3 : Int32} {t0 : Int32} {a0 : Nat} (h0 : e.1 a0 = some (11, 19)) {m : mm_V} {r : ((Int32 ⊕ String) × mm_V)} (hr : X11_face_b33 e i1 i2 i3 t0 m = some r) : mm_G K MX11_face d (mm_Xi e.1 r) 33 [none, some (.int i1), some (.int i2), some (.int i3)] [.int t0] (e.1, m) none 0 0 := by
  obtain ⟨d, rfl⟩ : ∃ d', d = d' + 1 := ⟨d - 1, by omega⟩
  unfold X11_face_b33 at hr
  refine mb_xSv (pc := 33) (As := [.int t0]) (rest := []) dX11_face_33 cw_X11_199 tw_1064  rfl hr (fun v hv => X11_needArgument_ok hz (by omega)  hv) rfl (Nat.le_of_ble_eq_true rfl) (fun r1 hr => ?_)
  refine ml_iload_n (pc := 36) dX11_face_36 rfl (mm_get_s (mm_get_s mm_get_0)) ?_
  refine mb_if_lt (pc := 37) 50 dX11_face_37 rfl hr (fun hr => ?_) (fun hr => ?_)
  · exact mg_weak (mm_le_n (mm_le_s (mm_le_s (mm_le_s mm_le_0)))) (X11_face_b50_ok hz hd h0 hr)
  · refine ml_iload_n (pc := 40) dX11_face_40 rfl (mm_get_s (mm_get_s mm_get_0)) ?_
    refine mg_bipush (pc := 41) dX11_face_41 kb_100 ?_
    refine mb_icmp_gt (pc := 43) 50 dX11_face_43 rfl hr (fun hr => ?_) (fun hr => ?_)
    · exact mg_weak (mm_le_n (mm_le_s (mm_le_s (mm_le_s mm_le_0)))) (X11_face_b50_ok hz hd h0 hr)
    · refine mg_iconst (pc := 46) dX11_face_46 kc_1 ?_
      refine mg_goto (pc := 47) 51 dX11_face_47 rfl ?_
      exact mg_weak (mm_le_n (mm_le_s (mm_le_s (mm_le_s mm_le_0)))) (X11_face_b51_ok hz hd h0 hr)
def X11_face_b32 (e : mm_E) (i1 : Int32) (i2 : Int32) (i3 : Int32) (m : mm_V) : Option ((Int32 ⊕ String) × mm_V) := X11_face_b33 e i1 i2 i3 (0 : Int32) m
theorem X11_face_b32_ok {K : mm_K} {e : mm_E} (hz : e.2.1 = K.2.2.2.2) {d : Nat} (hd : 10 ≤ d) {i1 : Int32} {i2 : Int32} {i3 : Int32} {a0 : Nat} (h0 : e.1 a0 = some (11, 19)) {m : mm_V} {r : ((Int32 ⊕ String) × mm_V)} (hr : X11_face_b32 e i1 i2 i3 m = some r) : mm_G K MX11_face d (mm_Xi e.1 r) 32 [none, some (.int i1), some (.int i2), some (.int i3)] [] (e.1, m) none 0 0 := by
  obtain ⟨d, rfl⟩ : ∃ d', d = d' + 1 := ⟨d - 1, by omega⟩
  unfold X11_face_b32 at hr
  refine mg_iconst (pc := 32) dX11_face_32 kc_0 ?_
  exact mg_weak (mm_le_n (mm_le_s (mm_le_s (mm_le_s mm_le_0)))) (X11_face_b33_ok hz hd h0 hr)
def X11_face_b14 (e : mm_E) (i1 : Int32) (i2 : Int32) (i3 : Int32) (t0 : Int32) (m : mm_V) : Option ((Int32 ⊕ String) × mm_V) := mm_bx (X11_need e t0 m) fun r1 => if i1 < (2 : Int32) then (X11_face_b32 e i1 i2 i3  r1.2) else (if (6 : Int32) < i1 then (X11_face_b32 e i1 i2 i3  r1.2) else (X11_face_b33 e i1 i2 i3 (1 : Int32) r1.2))
theorem X11_face_b14_ok {K : mm_K} {e : mm_E} (hz : e.2.1 = K.2.2.2.2) {d : Nat} (hd : 10 ≤ d) {i1 : Int32} {i2 : Int32} {i3 : Int32} {t0 : Int32} {a0 : Nat} (h0 : e.1 a0 = some (11, 19)) {m : mm_V} {r : ((Int32 ⊕ String) × mm_V)} (hr : X11_face_b14 e i1 i2 i3 t0 m = some r) : mm_G K MX11_face d (mm_Xi e.1 r) 14 [none, some (.int i1), some (.int i2), some (.int i3)] [.int t0] (e.1, m) none 0 0 := by
  obtain ⟨d, rfl⟩ : ∃ d', d = d' + 1 := ⟨d - 1, by omega⟩
  unfold X11_face_b14 at hr
  refine mb_xSv (pc := 14) (As := [.int t0]) (rest := []) dX11_face_14 cw_X11_164 tw_1037  rfl hr (fun v hv => X11_need_ok hz (by omega)  hv) rfl (Nat.le_of_ble_eq_true rfl) (fun r1 hr => ?_)
  refine ml_iload_n (pc := 17) dX11_face_17 rfl (mm_get_s mm_get_0) ?_
  refine mg_iconst (pc := 18) dX11_face_18 kc_2 ?_
  refine mb_icmp_lt (pc := 19) 32 dX11_face_19 rfl hr (fun hr => ?_) (fun hr => ?_)
  · exact mg_weak (mm_le_n (mm_le_s (mm_le_s (mm_le_s mm_le_0)))) (X11_face_b32_ok hz hd h0 hr)
  · refine ml_iload_n (pc := 22) dX11_face_22 rfl (mm_get_s mm_get_0) ?_
    refine mg_bipush (pc := 23) dX11_face_23 kb_6 ?_
    refine mb_icmp_gt (pc := 25) 32 dX11_face_25 rfl hr (fun hr => ?_) (fun hr => ?_)
    · exact mg_weak (mm_le_n (mm_le_s (mm_le_s (mm_le_s mm_le_0)))) (X11_face_b32_ok hz hd h0 hr)
    · refine mg_iconst (pc := 28) dX11_face_28 kc_1 ?_
      refine mg_goto (pc := 29) 33 dX11_face_29 rfl ?_
      exact mg_weak (mm_le_n (mm_le_s (mm_le_s (mm_le_s mm_le_0)))) (X11_face_b33_ok hz hd h0 hr)
def X11_face_b13 (e : mm_E) (i1 : Int32) (i2 : Int32) (i3 : Int32) (m : mm_V) : Option ((Int32 ⊕ String) × mm_V) := X11_face_b14 e i1 i2 i3 (0 : Int32) m
theorem X11_face_b13_ok {K : mm_K} {e : mm_E} (hz : e.2.1 = K.2.2.2.2) {d : Nat} (hd : 10 ≤ d) {i1 : Int32} {i2 : Int32} {i3 : Int32} {a0 : Nat} (h0 : e.1 a0 = some (11, 19)) {m : mm_V} {r : ((Int32 ⊕ String) × mm_V)} (hr : X11_face_b13 e i1 i2 i3 m = some r) : mm_G K MX11_face d (mm_Xi e.1 r) 13 [none, some (.int i1), some (.int i2), some (.int i3)] [] (e.1, m) none 0 0 := by
  obtain ⟨d, rfl⟩ : ∃ d', d = d' + 1 := ⟨d - 1, by omega⟩
  unfold X11_face_b13 at hr
  refine mg_iconst (pc := 13) dX11_face_13 kc_0 ?_
  exact mg_weak (mm_le_n (mm_le_s (mm_le_s (mm_le_s mm_le_0)))) (X11_face_b14_ok hz hd h0 hr)
def X11_face (e : mm_E) (a0 : Nat) (i1 : Int32) (i2 : Int32) (i3 : Int32) (m : mm_V) : Option ((Int32 ⊕ String) × mm_V) := if i3 < 0 then (X11_face_b13 e i1 i2 i3  m) else (if (4 : Int32) < i3 then (X11_face_b13 e i1 i2 i3  m) else (X11_face_b14 e i1 i2 i3 (1 : Int32) m))
theorem X11_face_ok {K : mm_K} {e : mm_E} (hz : e.2.1 = K.2.2.2.2) {d : Nat} (hd : 10 ≤ d) {a0 : Nat} {i1 : Int32} {i2 : Int32} {i3 : Int32} (h0 : e.1 a0 = some (11, 19)) {m : mm_V} {r : ((Int32 ⊕ String) × mm_V)} (hr : X11_face e a0 i1 i2 i3 m = some r) : mm_Cn K MX11_face d (mm_Xi e.1 r) [.ref a0, .int i1, .int i2, .int i3] (e.1, m) none := by
  obtain ⟨d, rfl⟩ : ∃ d', d = d' + 1 := ⟨d - 1, by omega⟩
  refine mm_entry (by decide) (Nat.le_of_ble_eq_true rfl) rfl (fun hok => ?_)
  unfold X11_face at hr
  refine mg_weak (L' := [some (.ref a0), some (.int i1), some (.int i2), some (.int i3)]) (mm_le_s (mm_le_s (mm_le_s (mm_le_s mm_le_0)))) ?_
  refine ml_iload_n (pc := 0) dX11_face_0 rfl (mm_get_s (mm_get_s (mm_get_s mm_get_0))) ?_
  refine mb_if_lt (pc := 1) 13 dX11_face_1 rfl hr (fun hr => ?_) (fun hr => ?_)
  · exact mg_weak (mm_le_n (mm_le_s (mm_le_s (mm_le_s mm_le_0)))) (X11_face_b13_ok hz hd h0 hr)
  · refine ml_iload_n (pc := 4) dX11_face_4 rfl (mm_get_s (mm_get_s (mm_get_s mm_get_0))) ?_
    refine mg_iconst (pc := 5) dX11_face_5 kc_4 ?_
    refine mb_icmp_gt (pc := 6) 13 dX11_face_6 rfl hr (fun hr => ?_) (fun hr => ?_)
    · exact mg_weak (mm_le_n (mm_le_s (mm_le_s (mm_le_s mm_le_0)))) (X11_face_b13_ok hz hd h0 hr)
    · refine mg_iconst (pc := 9) dX11_face_9 kc_1 ?_
      refine mg_goto (pc := 10) 14 dX11_face_10 rfl ?_
      exact mg_weak (mm_le_n (mm_le_s (mm_le_s (mm_le_s mm_le_0)))) (X11_face_b14_ok hz hd h0 hr)
theorem dX11_fan_0 : decode cX11_fan 0 = .ok (.aload_n 0, 1) := by decide +kernel
theorem dX11_fan_1 : decode cX11_fan 1 = .ok (.iload_n 1, 1) := by decide +kernel
theorem dX11_fan_2 : decode cX11_fan 2 = .ok (.invokevirtual 150, 3) := by decide +kernel
theorem dX11_fan_5 : decode cX11_fan 5 = .ok (.aload_n 0, 1) := by decide +kernel
theorem dX11_fan_6 : decode cX11_fan 6 = .ok (.getfield 45, 3) := by decide +kernel
theorem dX11_fan_9 : decode cX11_fan 9 = .ok (.iload_n 1, 1) := by decide +kernel
theorem dX11_fan_10 : decode cX11_fan 10 = .ok (.invokevirtual 153, 3) := by decide +kernel
theorem dX11_fan_13 : decode cX11_fan 13 = .ok (.astore_n 3, 1) := by decide +kernel
theorem dX11_fan_14 : decode cX11_fan 14 = .ok (.iload_n 2, 1) := by decide +kernel
theorem dX11_fan_15 : decode cX11_fan 15 = .ok (.iconst (-1), 1) := by decide +kernel
theorem dX11_fan_16 : decode cX11_fan 16 = .ok (.if_icmp .ne 8, 3) := by decide +kernel
theorem dX11_fan_19 : decode cX11_fan 19 = .ok (.aload_n 3, 1) := by decide +kernel
theorem dX11_fan_20 : decode cX11_fan 20 = .ok (.getfield 157, 3) := by decide +kernel
theorem dX11_fan_23 : decode cX11_fan 23 = .ok (.ireturn, 1) := by decide +kernel
theorem dX11_fan_24 : decode cX11_fan 24 = .ok (.aload_n 3, 1) := by decide +kernel
theorem dX11_fan_25 : decode cX11_fan 25 = .ok (.iload_n 2, 1) := by decide +kernel
theorem dX11_fan_26 : decode cX11_fan 26 = .ok (.invokevirtual 160, 3) := by decide +kernel
theorem dX11_fan_29 : decode cX11_fan 29 = .ok (.invokestatic 164, 3) := by decide +kernel
theorem dX11_fan_32 : decode cX11_fan 32 = .ok (.aload_n 3, 1) := by decide +kernel
theorem dX11_fan_33 : decode cX11_fan 33 = .ok (.iload_n 2, 1) := by decide +kernel
theorem dX11_fan_34 : decode cX11_fan 34 = .ok (.invokevirtual 168, 3) := by decide +kernel
theorem dX11_fan_37 : decode cX11_fan 37 = .ok (.ireturn, 1) := by decide +kernel
def X11_fan (e : mm_E) (a0 : Nat) (i1 : Int32) (i2 : Int32) (m : mm_V) : Option ((Int32 ⊕ String) × mm_V) := mm_bx (X11_needPerson e a0 i1 m) fun r1 => (mm_gr e.1 r1.2 11 19 a0 6).bind fun c2 => if e.1 c2 = some (4, 12) then ((X4_fanAt e c2 i1 r1.2).bind fun r3 => if ¬ i2 = (-1 : Int32) then (if e.1 r3.1 = some (3, 2) then ((X3_hasPlace e r3.1 i2 r3.2).bind fun r5 => mm_bx (X11_need e r5.1 r5.2) fun r7 => if e.1 r3.1 = some (3, 2) then ((X3_card e r3.1 i2 r7.2).bind fun r8 => some (.inl r8.1, r8.2)) else none) else none) else ((mm_gi e.1 r3.2 3 2 r3.1 1).bind fun x10 => some (.inl x10, r3.2))) else none
theorem X11_fan_ok {K : mm_K} {e : mm_E} (hz : e.2.1 = K.2.2.2.2) {d : Nat} (hd : 11 ≤ d) {a0 : Nat} {i1 : Int32} {i2 : Int32} (h0 : e.1 a0 = some (11, 19)) {m : mm_V} {r : ((Int32 ⊕ String) × mm_V)} (hr : X11_fan e a0 i1 i2 m = some r) : mm_Cn K MX11_fan d (mm_Xi e.1 r) [.ref a0, .int i1, .int i2] (e.1, m) none := by
  obtain ⟨d, rfl⟩ : ∃ d', d = d' + 1 := ⟨d - 1, by omega⟩
  refine mm_entry (by decide) (Nat.le_of_ble_eq_true rfl) rfl (fun hok => ?_)
  unfold X11_fan at hr
  refine mg_weak (L' := [some (.ref a0), some (.int i1), some (.int i2), none]) (mm_le_s (mm_le_s (mm_le_s (mm_le_e mm_le_0)))) ?_
  refine ml_aload_n (pc := 0) dX11_fan_0 rfl mm_get_0 ?_
  refine ml_iload_n (pc := 1) dX11_fan_1 rfl (mm_get_s mm_get_0) ?_
  refine mb_xVv (pc := 2) (As := [.int i1]) (rest := []) dX11_fan_2 cw_X11_150 tw_1029 h0 rfl hr (fun v hv => X11_needPerson_ok hz (by omega) h0 hv) rfl (Nat.le_of_ble_eq_true rfl) (fun r1 hr => ?_)
  refine ml_aload_n (pc := 5) dX11_fan_5 rfl mm_get_0 ?_
  refine mb_gr (pc := 6) dX11_fan_6 fl_X11_45 hr (fun c2 hr => ?_)
  refine ml_iload_n (pc := 9) dX11_fan_9 rfl (mm_get_s mm_get_0) ?_
  refine mb_ck hr (fun hb4 hr => ?_)
  refine mb_cVr (pc := 10) (As := [.int i1]) (rest := []) dX11_fan_10 cw_X11_153 hb4 hr (fun v hv => X4_fanAt_ok hz (by omega) hb4 hv) rfl (Nat.le_of_ble_eq_true rfl) (Nat.zero_le _) (Nat.zero_le _) (fun r3 hr => ?_)
  refine ml_astore_n (pc := 13) dX11_fan_13 rfl (Nat.le_of_ble_eq_true rfl) (mm_st1_s (mm_st1_s mm_st1_i)) ?_
  refine ml_iload_n (pc := 14) dX11_fan_14 rfl (mm_get_s (mm_get_s mm_get_0)) ?_
  refine mg_iconst (pc := 15) dX11_fan_15 kc_m1 ?_
  refine mb_icmp_ne (pc := 16) 24 dX11_fan_16 rfl hr (fun hr => ?_) (fun hr => ?_)
  · refine ml_aload_n (pc := 24) dX11_fan_24 rfl (mm_get_s (mm_get_s (mm_get_s mm_get_0))) ?_
    refine ml_iload_n (pc := 25) dX11_fan_25 rfl (mm_get_s (mm_get_s mm_get_0)) ?_
    refine mb_ck hr (fun hb6 hr => ?_)
    refine mb_cVi (pc := 26) (As := [.int i2]) (rest := []) dX11_fan_26 cw_X11_160 hb6 hr (fun v hv => X3_hasPlace_ok hz (by omega) hb6 hv) rfl (Nat.le_of_ble_eq_true rfl) (Nat.zero_le _) (Nat.zero_le _) (fun r5 hr => ?_)
    refine mb_xSv (pc := 29) (As := [.int r5.1]) (rest := []) dX11_fan_29 cw_X11_164 tw_1037  rfl hr (fun v hv => X11_need_ok hz (by omega)  hv) rfl (Nat.le_of_ble_eq_true rfl) (fun r7 hr => ?_)
    refine ml_aload_n (pc := 32) dX11_fan_32 rfl (mm_get_s (mm_get_s (mm_get_s mm_get_0))) ?_
    refine ml_iload_n (pc := 33) dX11_fan_33 rfl (mm_get_s (mm_get_s mm_get_0)) ?_
    refine mb_ck hr (fun hb9 hr => ?_)
    refine mb_cVi (pc := 34) (As := [.int i2]) (rest := []) dX11_fan_34 cw_X11_168 hb9 hr (fun v hv => X3_card_ok hz (by omega) hb9 hv) rfl (Nat.le_of_ble_eq_true rfl) (Nat.zero_le _) (Nat.zero_le _) (fun r8 hr => ?_)
    exact mb_xiret dX11_fan_37 rfl hr
  · refine ml_aload_n (pc := 19) dX11_fan_19 rfl (mm_get_s (mm_get_s (mm_get_s mm_get_0))) ?_
    refine mb_gi (pc := 20) dX11_fan_20 fl_X11_157 hr (fun x10 hr => ?_)
    exact mb_xiret dX11_fan_23 rfl hr
theorem dX11_habit_0 : decode cX11_habit 0 = .ok (.aload_n 0, 1) := by decide +kernel
theorem dX11_habit_1 : decode cX11_habit 1 = .ok (.iload_n 1, 1) := by decide +kernel
theorem dX11_habit_2 : decode cX11_habit 2 = .ok (.invokevirtual 150, 3) := by decide +kernel
theorem dX11_habit_5 : decode cX11_habit 5 = .ok (.iload_n 2, 1) := by decide +kernel
theorem dX11_habit_6 : decode cX11_habit 6 = .ok (.ifCond .lt 13, 3) := by decide +kernel
theorem dX11_habit_9 : decode cX11_habit 9 = .ok (.iload_n 2, 1) := by decide +kernel
theorem dX11_habit_10 : decode cX11_habit 10 = .ok (.bipush 9, 2) := by decide +kernel
theorem dX11_habit_12 : decode cX11_habit 12 = .ok (.if_icmp .gt 7, 3) := by decide +kernel
theorem dX11_habit_15 : decode cX11_habit 15 = .ok (.iconst 1, 1) := by decide +kernel
theorem dX11_habit_16 : decode cX11_habit 16 = .ok (.goto 4, 3) := by decide +kernel
theorem dX11_habit_19 : decode cX11_habit 19 = .ok (.iconst 0, 1) := by decide +kernel
theorem dX11_habit_20 : decode cX11_habit 20 = .ok (.invokestatic 164, 3) := by decide +kernel
theorem dX11_habit_23 : decode cX11_habit 23 = .ok (.iload_n 2, 1) := by decide +kernel
theorem dX11_habit_24 : decode cX11_habit 24 = .ok (.bipush 6, 2) := by decide +kernel
theorem dX11_habit_26 : decode cX11_habit 26 = .ok (.if_icmp .gt 10, 3) := by decide +kernel
theorem dX11_habit_29 : decode cX11_habit 29 = .ok (.aload_n 0, 1) := by decide +kernel
theorem dX11_habit_30 : decode cX11_habit 30 = .ok (.iload_n 1, 1) := by decide +kernel
theorem dX11_habit_31 : decode cX11_habit 31 = .ok (.iload_n 2, 1) := by decide +kernel
theorem dX11_habit_32 : decode cX11_habit 32 = .ok (.invokevirtual 319, 3) := by decide +kernel
theorem dX11_habit_35 : decode cX11_habit 35 = .ok (.ireturn, 1) := by decide +kernel
theorem dX11_habit_36 : decode cX11_habit 36 = .ok (.iload_n 2, 1) := by decide +kernel
theorem dX11_habit_37 : decode cX11_habit 37 = .ok (.bipush 7, 2) := by decide +kernel
theorem dX11_habit_39 : decode cX11_habit 39 = .ok (.if_icmp .ne 9, 3) := by decide +kernel
theorem dX11_habit_42 : decode cX11_habit 42 = .ok (.aload_n 0, 1) := by decide +kernel
theorem dX11_habit_43 : decode cX11_habit 43 = .ok (.iload_n 1, 1) := by decide +kernel
theorem dX11_habit_44 : decode cX11_habit 44 = .ok (.invokevirtual 322, 3) := by decide +kernel
theorem dX11_habit_47 : decode cX11_habit 47 = .ok (.ireturn, 1) := by decide +kernel
theorem dX11_habit_48 : decode cX11_habit 48 = .ok (.iconst 0, 1) := by decide +kernel
theorem dX11_habit_49 : decode cX11_habit 49 = .ok (.istore_n 3, 1) := by decide +kernel
theorem dX11_habit_50 : decode cX11_habit 50 = .ok (.iconst 0, 1) := by decide +kernel
theorem dX11_habit_51 : decode cX11_habit 51 = .ok (.istore 4, 2) := by decide +kernel
theorem dX11_habit_53 : decode cX11_habit 53 = .ok (.iload 4, 2) := by decide +kernel
theorem dX11_habit_55 : decode cX11_habit 55 = .ok (.aload_n 0, 1) := by decide +kernel
theorem dX11_habit_56 : decode cX11_habit 56 = .ok (.getfield 35, 3) := by decide +kernel
theorem dX11_habit_59 : decode cX11_habit 59 = .ok (.getfield 134, 3) := by decide +kernel
theorem dX11_habit_62 : decode cX11_habit 62 = .ok (.if_icmp .ge 54, 3) := by decide +kernel
theorem dX11_habit_65 : decode cX11_habit 65 = .ok (.aload_n 0, 1) := by decide +kernel
theorem dX11_habit_66 : decode cX11_habit 66 = .ok (.getfield 35, 3) := by decide +kernel
theorem dX11_habit_69 : decode cX11_habit 69 = .ok (.iload 4, 2) := by decide +kernel
theorem dX11_habit_71 : decode cX11_habit 71 = .ok (.invokevirtual 205, 3) := by decide +kernel
theorem dX11_habit_74 : decode cX11_habit 74 = .ok (.astore 5, 2) := by decide +kernel
theorem dX11_habit_76 : decode cX11_habit 76 = .ok (.aload 5, 2) := by decide +kernel
theorem dX11_habit_78 : decode cX11_habit 78 = .ok (.getfield 325, 3) := by decide +kernel
theorem dX11_habit_81 : decode cX11_habit 81 = .ok (.iload_n 1, 1) := by decide +kernel
theorem dX11_habit_82 : decode cX11_habit 82 = .ok (.if_icmp .ne 28, 3) := by decide +kernel
theorem dX11_habit_85 : decode cX11_habit 85 = .ok (.aload 5, 2) := by decide +kernel
theorem dX11_habit_87 : decode cX11_habit 87 = .ok (.getfield 274, 3) := by decide +kernel
theorem dX11_habit_90 : decode cX11_habit 90 = .ok (.ifCond .eq 20, 3) := by decide +kernel
theorem dX11_habit_93 : decode cX11_habit 93 = .ok (.iload_n 2, 1) := by decide +kernel
theorem dX11_habit_94 : decode cX11_habit 94 = .ok (.bipush 8, 2) := by decide +kernel
theorem dX11_habit_96 : decode cX11_habit 96 = .ok (.if_icmp .eq 11, 3) := by decide +kernel
theorem dX11_habit_99 : decode cX11_habit 99 = .ok (.aload 5, 2) := by decide +kernel
theorem dX11_habit_101 : decode cX11_habit 101 = .ok (.getfield 197, 3) := by decide +kernel
theorem dX11_habit_104 : decode cX11_habit 104 = .ok (.ifCond .ne 6, 3) := by decide +kernel
theorem dX11_habit_107 : decode cX11_habit 107 = .ok (.iinc 3 1, 3) := by decide +kernel
theorem dX11_habit_110 : decode cX11_habit 110 = .ok (.iinc 4 1, 3) := by decide +kernel
theorem dX11_habit_113 : decode cX11_habit 113 = .ok (.goto (-60), 3) := by decide +kernel
theorem dX11_habit_116 : decode cX11_habit 116 = .ok (.iload_n 3, 1) := by decide +kernel
theorem dX11_habit_117 : decode cX11_habit 117 = .ok (.ireturn, 1) := by decide +kernel
def X11_habit_b110 (e : mm_E) (k53 : Int32 → Int32 → mm_V → Option ((Int32 ⊕ String) × mm_V)) (a0 : Nat) (i1 : Int32) (i2 : Int32) (i3 : Int32) (i4 : Int32) (m : mm_V) : Option ((Int32 ⊕ String) × mm_V) := k53 i3 (i4 + 1) m
theorem X11_habit_b110_ok {K : mm_K} {e : mm_E} (hz : e.2.1 = K.2.2.2.2) {d : Nat} (hd : 11 ≤ d) {a0 : Nat} {i1 : Int32} {i2 : Int32} {i3 : Int32} {i4 : Int32} (h0 : e.1 a0 = some (11, 19)) {k53 : Int32 → Int32 → mm_V → Option ((Int32 ⊕ String) × mm_V)} (hk53 : ∀ (w3 : Int32) (w4 : Int32) (m : mm_V) (r : ((Int32 ⊕ String) × mm_V)), k53 w3 w4 m = some r → mm_G K MX11_habit d (mm_Xi e.1 r) 53 [some (.ref a0), some (.int i1), some (.int i2), some (.int w3), some (.int w4), none] [] (e.1, m) none 0 0) {m : mm_V} {r : ((Int32 ⊕ String) × mm_V)} (hr : X11_habit_b110 e k53 a0 i1 i2 i3 i4 m = some r) : mm_G K MX11_habit d (mm_Xi e.1 r) 110 [some (.ref a0), some (.int i1), some (.int i2), some (.int i3), some (.int i4), none] [] (e.1, m) none 0 0 := by
  obtain ⟨d, rfl⟩ : ∃ d', d = d' + 1 := ⟨d - 1, by omega⟩
  unfold X11_habit_b110 at hr
  refine ml_iinc (pc := 110) dX11_habit_110 (mm_get_s (mm_get_s (mm_get_s (mm_get_s mm_get_0)))) (congrArg (fun z => i4 + z) kc_1) (Nat.le_of_ble_eq_true rfl) (mm_st1_s (mm_st1_s (mm_st1_s mm_st1_i))) ?_
  refine mg_goto (pc := 113) 53 dX11_habit_113 rfl ?_
  exact mg_weak (mm_le_s (mm_le_s (mm_le_s (mm_le_s (mm_le_s (mm_le_n mm_le_0)))))) (hk53 _ _ _ _ hr)
def X11_habit_b107 (e : mm_E) (k53 : Int32 → Int32 → mm_V → Option ((Int32 ⊕ String) × mm_V)) (a0 : Nat) (i1 : Int32) (i2 : Int32) (i3 : Int32) (i4 : Int32) (m : mm_V) : Option ((Int32 ⊕ String) × mm_V) := X11_habit_b110 e k53 a0 i1 i2 (i3 + 1) i4  m
theorem X11_habit_b107_ok {K : mm_K} {e : mm_E} (hz : e.2.1 = K.2.2.2.2) {d : Nat} (hd : 11 ≤ d) {a0 : Nat} {i1 : Int32} {i2 : Int32} {i3 : Int32} {i4 : Int32} (h0 : e.1 a0 = some (11, 19)) {k53 : Int32 → Int32 → mm_V → Option ((Int32 ⊕ String) × mm_V)} (hk53 : ∀ (w3 : Int32) (w4 : Int32) (m : mm_V) (r : ((Int32 ⊕ String) × mm_V)), k53 w3 w4 m = some r → mm_G K MX11_habit d (mm_Xi e.1 r) 53 [some (.ref a0), some (.int i1), some (.int i2), some (.int w3), some (.int w4), none] [] (e.1, m) none 0 0) {m : mm_V} {r : ((Int32 ⊕ String) × mm_V)} (hr : X11_habit_b107 e k53 a0 i1 i2 i3 i4 m = some r) : mm_G K MX11_habit d (mm_Xi e.1 r) 107 [some (.ref a0), some (.int i1), some (.int i2), some (.int i3), some (.int i4), none] [] (e.1, m) none 0 0 := by
  obtain ⟨d, rfl⟩ : ∃ d', d = d' + 1 := ⟨d - 1, by omega⟩
  unfold X11_habit_b107 at hr
  refine ml_iinc (pc := 107) dX11_habit_107 (mm_get_s (mm_get_s (mm_get_s mm_get_0))) (congrArg (fun z => i3 + z) kc_1) (Nat.le_of_ble_eq_true rfl) (mm_st1_s (mm_st1_s mm_st1_i)) ?_
  exact mg_weak (mm_le_s (mm_le_s (mm_le_s (mm_le_s (mm_le_s (mm_le_n mm_le_0)))))) (X11_habit_b110_ok hz hd h0 hk53 hr)
def X11_habit_L53 (e : mm_E) (a0 : Nat) (i1 : Int32) (i2 : Int32) : Nat → Int32 → Int32 → mm_V → Option ((Int32 ⊕ String) × mm_V)
  | 0, _, _, _ => none
  | n + 1, i3, i4, m => (mm_gr e.1 m 11 19 a0 4).bind fun c1 => (mm_gi e.1 m 5 4 c1 3).bind fun x2 => if x2 ≤ i4 then (some (.inl i3, m)) else ((mm_gr e.1 m 11 19 a0 4).bind fun c3 => if e.1 c3 = some (5, 4) then ((X5_at e c3 i4 m).bind fun r4 => (mm_gi e.1 r4.2 2 9 r4.1 1).bind fun x6 => if ¬ x6 = i1 then (X11_habit_b110 e (X11_habit_L53 e a0 i1 i2 n) a0 i1 i2 i3 i4  r4.2) else ((mm_gi e.1 r4.2 2 9 r4.1 4).bind fun x7 => if x7 = 0 then (X11_habit_b110 e (X11_habit_L53 e a0 i1 i2 n) a0 i1 i2 i3 i4  r4.2) else (if i2 = (8 : Int32) then (X11_habit_b107 e (X11_habit_L53 e a0 i1 i2 n) a0 i1 i2 i3 i4  r4.2) else ((mm_gi e.1 r4.2 2 9 r4.1 5).bind fun x8 => if ¬ x8 = 0 then (X11_habit_b110 e (X11_habit_L53 e a0 i1 i2 n) a0 i1 i2 i3 i4  r4.2) else (X11_habit_b107 e (X11_habit_L53 e a0 i1 i2 n) a0 i1 i2 i3 i4  r4.2))))) else none)
theorem X11_habit_L53_ok {K : mm_K} {e : mm_E} (hz : e.2.1 = K.2.2.2.2) {d : Nat} (hd : 11 ≤ d) {a0 : Nat} {i1 : Int32} {i2 : Int32} (h0 : e.1 a0 = some (11, 19)) : ∀ (n : Nat) (i3 : Int32) (i4 : Int32) (m : mm_V) (r : ((Int32 ⊕ String) × mm_V)), X11_habit_L53 e a0 i1 i2 n i3 i4 m = some r → mm_G K MX11_habit d (mm_Xi e.1 r) 53 [some (.ref a0), some (.int i1), some (.int i2), some (.int i3), some (.int i4), none] [] (e.1, m) none 0 0 := by
  obtain ⟨d, rfl⟩ : ∃ d', d = d' + 1 := ⟨d - 1, by omega⟩
  intro n
  induction n with
  | zero => intro i3 i4 m r hr; unfold X11_habit_L53 at hr; cases hr
  | succ n ih =>
    intro i3 i4 m r hr
    unfold X11_habit_L53 at hr
    refine ml_iload (pc := 53) dX11_habit_53 (mm_get_s (mm_get_s (mm_get_s (mm_get_s mm_get_0)))) ?_
    refine ml_aload_n (pc := 55) dX11_habit_55 rfl mm_get_0 ?_
    refine mb_gr (pc := 56) dX11_habit_56 fl_X11_35 hr (fun c1 hr => ?_)
    refine mb_gi (pc := 59) dX11_habit_59 fl_X11_134 hr (fun x2 hr => ?_)
    refine mb_icmp_ge (pc := 62) 116 dX11_habit_62 rfl hr (fun hr => ?_) (fun hr => ?_)
    · refine ml_iload_n (pc := 116) dX11_habit_116 rfl (mm_get_s (mm_get_s (mm_get_s mm_get_0))) ?_
      exact mb_xiret dX11_habit_117 rfl hr
    · refine ml_aload_n (pc := 65) dX11_habit_65 rfl mm_get_0 ?_
      refine mb_gr (pc := 66) dX11_habit_66 fl_X11_35 hr (fun c3 hr => ?_)
      refine ml_iload (pc := 69) dX11_habit_69 (mm_get_s (mm_get_s (mm_get_s (mm_get_s mm_get_0)))) ?_
      refine mb_ck hr (fun hb5 hr => ?_)
      refine mb_cVr (pc := 71) (As := [.int i4]) (rest := []) dX11_habit_71 cw_X11_205 hb5 hr (fun v hv => X5_at_ok hz (by omega) hb5 hv) rfl (Nat.le_of_ble_eq_true rfl) (Nat.zero_le _) (Nat.zero_le _) (fun r4 hr => ?_)
      refine ml_astore (pc := 74) dX11_habit_74 (Nat.le_of_ble_eq_true rfl) (mm_st1_s (mm_st1_s (mm_st1_s (mm_st1_s mm_st1_i)))) ?_
      refine ml_aload (pc := 76) dX11_habit_76 (mm_get_s (mm_get_s (mm_get_s (mm_get_s (mm_get_s mm_get_0))))) ?_
      refine mb_gi (pc := 78) dX11_habit_78 fl_X11_325 hr (fun x6 hr => ?_)
      refine ml_iload_n (pc := 81) dX11_habit_81 rfl (mm_get_s mm_get_0) ?_
      refine mb_icmp_ne (pc := 82) 110 dX11_habit_82 rfl hr (fun hr => ?_) (fun hr => ?_)
      · exact mg_weak (mm_le_s (mm_le_s (mm_le_s (mm_le_s (mm_le_s (mm_le_n mm_le_0)))))) (X11_habit_b110_ok hz hd h0 ih hr)
      · refine ml_aload (pc := 85) dX11_habit_85 (mm_get_s (mm_get_s (mm_get_s (mm_get_s (mm_get_s mm_get_0))))) ?_
        refine mb_gi (pc := 87) dX11_habit_87 fl_X11_274 hr (fun x7 hr => ?_)
        refine mb_if_eq (pc := 90) 110 dX11_habit_90 rfl hr (fun hr => ?_) (fun hr => ?_)
        · exact mg_weak (mm_le_s (mm_le_s (mm_le_s (mm_le_s (mm_le_s (mm_le_n mm_le_0)))))) (X11_habit_b110_ok hz hd h0 ih hr)
        · refine ml_iload_n (pc := 93) dX11_habit_93 rfl (mm_get_s (mm_get_s mm_get_0)) ?_
          refine mg_bipush (pc := 94) dX11_habit_94 kb_8 ?_
          refine mb_icmp_eq (pc := 96) 107 dX11_habit_96 rfl hr (fun hr => ?_) (fun hr => ?_)
          · exact mg_weak (mm_le_s (mm_le_s (mm_le_s (mm_le_s (mm_le_s (mm_le_n mm_le_0)))))) (X11_habit_b107_ok hz hd h0 ih hr)
          · refine ml_aload (pc := 99) dX11_habit_99 (mm_get_s (mm_get_s (mm_get_s (mm_get_s (mm_get_s mm_get_0))))) ?_
            refine mb_gi (pc := 101) dX11_habit_101 fl_X11_197 hr (fun x8 hr => ?_)
            refine mb_if_ne (pc := 104) 110 dX11_habit_104 rfl hr (fun hr => ?_) (fun hr => ?_)
            · exact mg_weak (mm_le_s (mm_le_s (mm_le_s (mm_le_s (mm_le_s (mm_le_n mm_le_0)))))) (X11_habit_b110_ok hz hd h0 ih hr)
            · exact mg_weak (mm_le_s (mm_le_s (mm_le_s (mm_le_s (mm_le_s (mm_le_n mm_le_0)))))) (X11_habit_b107_ok hz hd h0 ih hr)
def X11_habit_b20 (e : mm_E) (a0 : Nat) (i1 : Int32) (i2 : Int32) (t0 : Int32) (m : mm_V) : Option ((Int32 ⊕ String) × mm_V) := mm_bx (X11_need e t0 m) fun r1 => if (6 : Int32) < i2 then (if ¬ i2 = (7 : Int32) then (X11_habit_L53 e a0 i1 i2 e.2.2 (0 : Int32) (0 : Int32) r1.2) else ((X11_favourite e a0 i1 r1.2).bind fun r2 => some (.inl r2.1, r2.2))) else ((X11_drawnAt e a0 i1 i2 r1.2).bind fun r3 => some (.inl r3.1, r3.2))
theorem X11_habit_b20_ok {K : mm_K} {e : mm_E} (hz : e.2.1 = K.2.2.2.2) {d : Nat} (hd : 11 ≤ d) {a0 : Nat} {i1 : Int32} {i2 : Int32} {t0 : Int32} (h0 : e.1 a0 = some (11, 19)) {m : mm_V} {r : ((Int32 ⊕ String) × mm_V)} (hr : X11_habit_b20 e a0 i1 i2 t0 m = some r) : mm_G K MX11_habit d (mm_Xi e.1 r) 20 [some (.ref a0), some (.int i1), some (.int i2), none, none, none] [.int t0] (e.1, m) none 0 0 := by
  obtain ⟨d, rfl⟩ : ∃ d', d = d' + 1 := ⟨d - 1, by omega⟩
  unfold X11_habit_b20 at hr
  refine mb_xSv (pc := 20) (As := [.int t0]) (rest := []) dX11_habit_20 cw_X11_164 tw_1037  rfl hr (fun v hv => X11_need_ok hz (by omega)  hv) rfl (Nat.le_of_ble_eq_true rfl) (fun r1 hr => ?_)
  refine ml_iload_n (pc := 23) dX11_habit_23 rfl (mm_get_s (mm_get_s mm_get_0)) ?_
  refine mg_bipush (pc := 24) dX11_habit_24 kb_6 ?_
  refine mb_icmp_gt (pc := 26) 36 dX11_habit_26 rfl hr (fun hr => ?_) (fun hr => ?_)
  · refine ml_iload_n (pc := 36) dX11_habit_36 rfl (mm_get_s (mm_get_s mm_get_0)) ?_
    refine mg_bipush (pc := 37) dX11_habit_37 kb_7 ?_
    refine mb_icmp_ne (pc := 39) 48 dX11_habit_39 rfl hr (fun hr => ?_) (fun hr => ?_)
    · refine mg_iconst (pc := 48) dX11_habit_48 kc_0 ?_
      refine ml_istore_n (pc := 49) dX11_habit_49 rfl (Nat.le_of_ble_eq_true rfl) (mm_st1_s (mm_st1_s mm_st1_i)) ?_
      refine mg_iconst (pc := 50) dX11_habit_50 kc_0 ?_
      refine ml_istore (pc := 51) dX11_habit_51 (Nat.le_of_ble_eq_true rfl) (mm_st1_s (mm_st1_s (mm_st1_s mm_st1_i))) ?_
      exact mg_weak (mm_le_s (mm_le_s (mm_le_s (mm_le_s (mm_le_s (mm_le_n mm_le_0)))))) (X11_habit_L53_ok hz hd h0 _ _ _ _ _ hr)
    · refine ml_aload_n (pc := 42) dX11_habit_42 rfl mm_get_0 ?_
      refine ml_iload_n (pc := 43) dX11_habit_43 rfl (mm_get_s mm_get_0) ?_
      refine mb_cVi (pc := 44) (As := [.int i1]) (rest := []) dX11_habit_44 cw_X11_322 h0 hr (fun v hv => X11_favourite_ok hz (by omega) h0 hv) rfl (Nat.le_of_ble_eq_true rfl) (Nat.zero_le _) (Nat.zero_le _) (fun r2 hr => ?_)
      exact mb_xiret dX11_habit_47 rfl hr
  · refine ml_aload_n (pc := 29) dX11_habit_29 rfl mm_get_0 ?_
    refine ml_iload_n (pc := 30) dX11_habit_30 rfl (mm_get_s mm_get_0) ?_
    refine ml_iload_n (pc := 31) dX11_habit_31 rfl (mm_get_s (mm_get_s mm_get_0)) ?_
    refine mb_cVi (pc := 32) (As := [.int i1, .int i2]) (rest := []) dX11_habit_32 cw_X11_319 h0 hr (fun v hv => X11_drawnAt_ok hz (by omega) h0 hv) rfl (Nat.le_of_ble_eq_true rfl) (Nat.zero_le _) (Nat.zero_le _) (fun r3 hr => ?_)
    exact mb_xiret dX11_habit_35 rfl hr
def X11_habit_b19 (e : mm_E) (a0 : Nat) (i1 : Int32) (i2 : Int32) (m : mm_V) : Option ((Int32 ⊕ String) × mm_V) := X11_habit_b20 e a0 i1 i2 (0 : Int32) m
theorem X11_habit_b19_ok {K : mm_K} {e : mm_E} (hz : e.2.1 = K.2.2.2.2) {d : Nat} (hd : 11 ≤ d) {a0 : Nat} {i1 : Int32} {i2 : Int32} (h0 : e.1 a0 = some (11, 19)) {m : mm_V} {r : ((Int32 ⊕ String) × mm_V)} (hr : X11_habit_b19 e a0 i1 i2 m = some r) : mm_G K MX11_habit d (mm_Xi e.1 r) 19 [some (.ref a0), some (.int i1), some (.int i2), none, none, none] [] (e.1, m) none 0 0 := by
  obtain ⟨d, rfl⟩ : ∃ d', d = d' + 1 := ⟨d - 1, by omega⟩
  unfold X11_habit_b19 at hr
  refine mg_iconst (pc := 19) dX11_habit_19 kc_0 ?_
  exact mg_weak (mm_le_s (mm_le_s (mm_le_s (mm_le_n (mm_le_n (mm_le_n mm_le_0)))))) (X11_habit_b20_ok hz hd h0 hr)
def X11_habit (e : mm_E) (a0 : Nat) (i1 : Int32) (i2 : Int32) (m : mm_V) : Option ((Int32 ⊕ String) × mm_V) := mm_bx (X11_needPerson e a0 i1 m) fun r1 => if i2 < 0 then (X11_habit_b19 e a0 i1 i2  r1.2) else (if (9 : Int32) < i2 then (X11_habit_b19 e a0 i1 i2  r1.2) else (X11_habit_b20 e a0 i1 i2 (1 : Int32) r1.2))
theorem X11_habit_ok {K : mm_K} {e : mm_E} (hz : e.2.1 = K.2.2.2.2) {d : Nat} (hd : 11 ≤ d) {a0 : Nat} {i1 : Int32} {i2 : Int32} (h0 : e.1 a0 = some (11, 19)) {m : mm_V} {r : ((Int32 ⊕ String) × mm_V)} (hr : X11_habit e a0 i1 i2 m = some r) : mm_Cn K MX11_habit d (mm_Xi e.1 r) [.ref a0, .int i1, .int i2] (e.1, m) none := by
  obtain ⟨d, rfl⟩ : ∃ d', d = d' + 1 := ⟨d - 1, by omega⟩
  refine mm_entry (by decide) (Nat.le_of_ble_eq_true rfl) rfl (fun hok => ?_)
  unfold X11_habit at hr
  refine mg_weak (L' := [some (.ref a0), some (.int i1), some (.int i2), none, none, none]) (mm_le_s (mm_le_s (mm_le_s (mm_le_e (mm_le_e (mm_le_e mm_le_0)))))) ?_
  refine ml_aload_n (pc := 0) dX11_habit_0 rfl mm_get_0 ?_
  refine ml_iload_n (pc := 1) dX11_habit_1 rfl (mm_get_s mm_get_0) ?_
  refine mb_xVv (pc := 2) (As := [.int i1]) (rest := []) dX11_habit_2 cw_X11_150 tw_1029 h0 rfl hr (fun v hv => X11_needPerson_ok hz (by omega) h0 hv) rfl (Nat.le_of_ble_eq_true rfl) (fun r1 hr => ?_)
  refine ml_iload_n (pc := 5) dX11_habit_5 rfl (mm_get_s (mm_get_s mm_get_0)) ?_
  refine mb_if_lt (pc := 6) 19 dX11_habit_6 rfl hr (fun hr => ?_) (fun hr => ?_)
  · exact mg_weak (mm_le_s (mm_le_s (mm_le_s (mm_le_n (mm_le_n (mm_le_n mm_le_0)))))) (X11_habit_b19_ok hz hd h0 hr)
  · refine ml_iload_n (pc := 9) dX11_habit_9 rfl (mm_get_s (mm_get_s mm_get_0)) ?_
    refine mg_bipush (pc := 10) dX11_habit_10 kb_9 ?_
    refine mb_icmp_gt (pc := 12) 19 dX11_habit_12 rfl hr (fun hr => ?_) (fun hr => ?_)
    · exact mg_weak (mm_le_s (mm_le_s (mm_le_s (mm_le_n (mm_le_n (mm_le_n mm_le_0)))))) (X11_habit_b19_ok hz hd h0 hr)
    · refine mg_iconst (pc := 15) dX11_habit_15 kc_1 ?_
      refine mg_goto (pc := 16) 20 dX11_habit_16 rfl ?_
      exact mg_weak (mm_le_s (mm_le_s (mm_le_s (mm_le_n (mm_le_n (mm_le_n mm_le_0)))))) (X11_habit_b20_ok hz hd h0 hr)
theorem dX11_has_0 : decode cX11_has 0 = .ok (.aload_n 0, 1) := by decide +kernel
theorem dX11_has_1 : decode cX11_has 1 = .ok (.iload_n 1, 1) := by decide +kernel
theorem dX11_has_2 : decode cX11_has 2 = .ok (.invokevirtual 150, 3) := by decide +kernel
theorem dX11_has_5 : decode cX11_has 5 = .ok (.aload_n 0, 1) := by decide +kernel
theorem dX11_has_6 : decode cX11_has 6 = .ok (.invokevirtual 216, 3) := by decide +kernel
theorem dX11_has_9 : decode cX11_has 9 = .ok (.aload_n 0, 1) := by decide +kernel
theorem dX11_has_10 : decode cX11_has 10 = .ok (.getfield 68, 3) := by decide +kernel
theorem dX11_has_13 : decode cX11_has 13 = .ok (.iload_n 1, 1) := by decide +kernel
theorem dX11_has_14 : decode cX11_has 14 = .ok (.iload_n 2, 1) := by decide +kernel
theorem dX11_has_15 : decode cX11_has 15 = .ok (.invokevirtual 224, 3) := by decide +kernel
theorem dX11_has_18 : decode cX11_has 18 = .ok (.ireturn, 1) := by decide +kernel
def X11_has (e : mm_E) (a0 : Nat) (i1 : Int32) (i2 : Int32) (m : mm_V) : Option ((Int32 ⊕ String) × mm_V) := mm_bx (X11_needPerson e a0 i1 m) fun r1 => (X11_playFromNow e a0 r1.2).bind fun r2 => (mm_gr e.1 r2 11 19 a0 11).bind fun c3 => if e.1 c3 = some (7, 8) then ((X7_behind e c3 i1 i2 r2).bind fun r4 => some (.inl r4.1, r4.2)) else none
theorem X11_has_ok {K : mm_K} {e : mm_E} (hz : e.2.1 = K.2.2.2.2) {d : Nat} (hd : 11 ≤ d) {a0 : Nat} {i1 : Int32} {i2 : Int32} (h0 : e.1 a0 = some (11, 19)) {m : mm_V} {r : ((Int32 ⊕ String) × mm_V)} (hr : X11_has e a0 i1 i2 m = some r) : mm_Cn K MX11_has d (mm_Xi e.1 r) [.ref a0, .int i1, .int i2] (e.1, m) none := by
  obtain ⟨d, rfl⟩ : ∃ d', d = d' + 1 := ⟨d - 1, by omega⟩
  refine mm_entry (by decide) (Nat.le_of_ble_eq_true rfl) rfl (fun hok => ?_)
  unfold X11_has at hr
  refine mg_weak (L' := [some (.ref a0), some (.int i1), some (.int i2)]) (mm_le_s (mm_le_s (mm_le_s mm_le_0))) ?_
  refine ml_aload_n (pc := 0) dX11_has_0 rfl mm_get_0 ?_
  refine ml_iload_n (pc := 1) dX11_has_1 rfl (mm_get_s mm_get_0) ?_
  refine mb_xVv (pc := 2) (As := [.int i1]) (rest := []) dX11_has_2 cw_X11_150 tw_1029 h0 rfl hr (fun v hv => X11_needPerson_ok hz (by omega) h0 hv) rfl (Nat.le_of_ble_eq_true rfl) (fun r1 hr => ?_)
  refine ml_aload_n (pc := 5) dX11_has_5 rfl mm_get_0 ?_
  refine mb_cVv (pc := 6) (As := []) (rest := []) dX11_has_6 cw_X11_216 h0 hr (fun v hv => X11_playFromNow_ok hz (by omega) h0 hv) rfl (Nat.le_of_ble_eq_true rfl) (Nat.zero_le _) (Nat.zero_le _) (fun r2 hr => ?_)
  refine ml_aload_n (pc := 9) dX11_has_9 rfl mm_get_0 ?_
  refine mb_gr (pc := 10) dX11_has_10 fl_X11_68 hr (fun c3 hr => ?_)
  refine ml_iload_n (pc := 13) dX11_has_13 rfl (mm_get_s mm_get_0) ?_
  refine ml_iload_n (pc := 14) dX11_has_14 rfl (mm_get_s (mm_get_s mm_get_0)) ?_
  refine mb_ck hr (fun hb5 hr => ?_)
  refine mb_cVi (pc := 15) (As := [.int i1, .int i2]) (rest := []) dX11_has_15 cw_X11_224 hb5 hr (fun v hv => X7_behind_ok hz (by omega) hb5 hv) rfl (Nat.le_of_ble_eq_true rfl) (Nat.zero_le _) (Nat.zero_le _) (fun r4 hr => ?_)
  exact mb_xiret dX11_has_18 rfl hr
theorem dX11_hold_0 : decode cX11_hold 0 = .ok (.aload_n 0, 1) := by decide +kernel
theorem dX11_hold_1 : decode cX11_hold 1 = .ok (.iload_n 1, 1) := by decide +kernel
theorem dX11_hold_2 : decode cX11_hold 2 = .ok (.invokevirtual 150, 3) := by decide +kernel
theorem dX11_hold_5 : decode cX11_hold 5 = .ok (.iload_n 3, 1) := by decide +kernel
theorem dX11_hold_6 : decode cX11_hold 6 = .ok (.ifCond .lt 12, 3) := by decide +kernel
theorem dX11_hold_9 : decode cX11_hold 9 = .ok (.iload_n 3, 1) := by decide +kernel
theorem dX11_hold_10 : decode cX11_hold 10 = .ok (.iconst 2, 1) := by decide +kernel
theorem dX11_hold_11 : decode cX11_hold 11 = .ok (.if_icmp .gt 7, 3) := by decide +kernel
theorem dX11_hold_14 : decode cX11_hold 14 = .ok (.iconst 1, 1) := by decide +kernel
theorem dX11_hold_15 : decode cX11_hold 15 = .ok (.goto 4, 3) := by decide +kernel
theorem dX11_hold_18 : decode cX11_hold 18 = .ok (.iconst 0, 1) := by decide +kernel
theorem dX11_hold_19 : decode cX11_hold 19 = .ok (.invokestatic 164, 3) := by decide +kernel
theorem dX11_hold_22 : decode cX11_hold 22 = .ok (.iload_n 2, 1) := by decide +kernel
theorem dX11_hold_23 : decode cX11_hold 23 = .ok (.iconst 1, 1) := by decide +kernel
theorem dX11_hold_24 : decode cX11_hold 24 = .ok (.if_icmp .lt 13, 3) := by decide +kernel
theorem dX11_hold_27 : decode cX11_hold 27 = .ok (.iload_n 2, 1) := by decide +kernel
theorem dX11_hold_28 : decode cX11_hold 28 = .ok (.bipush 6, 2) := by decide +kernel
theorem dX11_hold_30 : decode cX11_hold 30 = .ok (.if_icmp .gt 7, 3) := by decide +kernel
theorem dX11_hold_33 : decode cX11_hold 33 = .ok (.iconst 1, 1) := by decide +kernel
theorem dX11_hold_34 : decode cX11_hold 34 = .ok (.goto 4, 3) := by decide +kernel
theorem dX11_hold_37 : decode cX11_hold 37 = .ok (.iconst 0, 1) := by decide +kernel
theorem dX11_hold_38 : decode cX11_hold 38 = .ok (.invokestatic 199, 3) := by decide +kernel
theorem dX11_hold_41 : decode cX11_hold 41 = .ok (.iconst 0, 1) := by decide +kernel
theorem dX11_hold_42 : decode cX11_hold 42 = .ok (.istore 4, 2) := by decide +kernel
theorem dX11_hold_44 : decode cX11_hold 44 = .ok (.iconst 0, 1) := by decide +kernel
theorem dX11_hold_45 : decode cX11_hold 45 = .ok (.istore 5, 2) := by decide +kernel
theorem dX11_hold_47 : decode cX11_hold 47 = .ok (.iconst 0, 1) := by decide +kernel
theorem dX11_hold_48 : decode cX11_hold 48 = .ok (.istore 6, 2) := by decide +kernel
theorem dX11_hold_50 : decode cX11_hold 50 = .ok (.iload 6, 2) := by decide +kernel
theorem dX11_hold_52 : decode cX11_hold 52 = .ok (.iload_n 2, 1) := by decide +kernel
theorem dX11_hold_53 : decode cX11_hold 53 = .ok (.if_icmp .ge 56, 3) := by decide +kernel
theorem dX11_hold_56 : decode cX11_hold 56 = .ok (.iload 5, 2) := by decide +kernel
theorem dX11_hold_58 : decode cX11_hold 58 = .ok (.aload_n 0, 1) := by decide +kernel
theorem dX11_hold_59 : decode cX11_hold 59 = .ok (.getfield 16, 3) := by decide +kernel
theorem dX11_hold_62 : decode cX11_hold 62 = .ok (.iload_n 1, 1) := by decide +kernel
theorem dX11_hold_63 : decode cX11_hold 63 = .ok (.iload 6, 2) := by decide +kernel
theorem dX11_hold_65 : decode cX11_hold 65 = .ok (.invokevirtual 172, 3) := by decide +kernel
theorem dX11_hold_68 : decode cX11_hold 68 = .ok (.iadd, 1) := by decide +kernel
theorem dX11_hold_69 : decode cX11_hold 69 = .ok (.istore 5, 2) := by decide +kernel
theorem dX11_hold_71 : decode cX11_hold 71 = .ok (.aload_n 0, 1) := by decide +kernel
theorem dX11_hold_72 : decode cX11_hold 72 = .ok (.getfield 16, 3) := by decide +kernel
theorem dX11_hold_75 : decode cX11_hold 75 = .ok (.iload_n 1, 1) := by decide +kernel
theorem dX11_hold_76 : decode cX11_hold 76 = .ok (.iload 6, 2) := by decide +kernel
theorem dX11_hold_78 : decode cX11_hold 78 = .ok (.invokevirtual 172, 3) := by decide +kernel
theorem dX11_hold_81 : decode cX11_hold 81 = .ok (.aload_n 0, 1) := by decide +kernel
theorem dX11_hold_82 : decode cX11_hold 82 = .ok (.getfield 16, 3) := by decide +kernel
theorem dX11_hold_85 : decode cX11_hold 85 = .ok (.iload_n 1, 1) := by decide +kernel
theorem dX11_hold_86 : decode cX11_hold 86 = .ok (.iload 4, 2) := by decide +kernel
theorem dX11_hold_88 : decode cX11_hold 88 = .ok (.invokevirtual 172, 3) := by decide +kernel
theorem dX11_hold_91 : decode cX11_hold 91 = .ok (.if_icmp .le 8, 3) := by decide +kernel
theorem dX11_hold_94 : decode cX11_hold 94 = .ok (.iload 6, 2) := by decide +kernel
theorem dX11_hold_96 : decode cX11_hold 96 = .ok (.goto 5, 3) := by decide +kernel
theorem dX11_hold_99 : decode cX11_hold 99 = .ok (.iload 4, 2) := by decide +kernel
theorem dX11_hold_101 : decode cX11_hold 101 = .ok (.istore 4, 2) := by decide +kernel
theorem dX11_hold_103 : decode cX11_hold 103 = .ok (.iinc 6 1, 3) := by decide +kernel
theorem dX11_hold_106 : decode cX11_hold 106 = .ok (.goto (-56), 3) := by decide +kernel
theorem dX11_hold_109 : decode cX11_hold 109 = .ok (.iload_n 3, 1) := by decide +kernel
theorem dX11_hold_110 : decode cX11_hold 110 = .ok (.ifCond .ne 6, 3) := by decide +kernel
theorem dX11_hold_113 : decode cX11_hold 113 = .ok (.iload 4, 2) := by decide +kernel
theorem dX11_hold_115 : decode cX11_hold 115 = .ok (.ireturn, 1) := by decide +kernel
theorem dX11_hold_116 : decode cX11_hold 116 = .ok (.aload_n 0, 1) := by decide +kernel
theorem dX11_hold_117 : decode cX11_hold 117 = .ok (.getfield 16, 3) := by decide +kernel
theorem dX11_hold_120 : decode cX11_hold 120 = .ok (.iload_n 1, 1) := by decide +kernel
theorem dX11_hold_121 : decode cX11_hold 121 = .ok (.iload 4, 2) := by decide +kernel
theorem dX11_hold_123 : decode cX11_hold 123 = .ok (.invokevirtual 172, 3) := by decide +kernel
theorem dX11_hold_126 : decode cX11_hold 126 = .ok (.i2l, 1) := by decide +kernel
theorem dX11_hold_127 : decode cX11_hold 127 = .ok (.iload 5, 2) := by decide +kernel
theorem dX11_hold_129 : decode cX11_hold 129 = .ok (.ifCond .ne 7, 3) := by decide +kernel
theorem dX11_hold_132 : decode cX11_hold 132 = .ok (.lconst 1, 1) := by decide +kernel
theorem dX11_hold_133 : decode cX11_hold 133 = .ok (.goto 6, 3) := by decide +kernel
theorem dX11_hold_136 : decode cX11_hold 136 = .ok (.iload 5, 2) := by decide +kernel
theorem dX11_hold_138 : decode cX11_hold 138 = .ok (.i2l, 1) := by decide +kernel
theorem dX11_hold_139 : decode cX11_hold 139 = .ok (.iload_n 3, 1) := by decide +kernel
theorem dX11_hold_140 : decode cX11_hold 140 = .ok (.iconst 1, 1) := by decide +kernel
theorem dX11_hold_141 : decode cX11_hold 141 = .ok (.if_icmp .ne 7, 3) := by decide +kernel
theorem dX11_hold_144 : decode cX11_hold 144 = .ok (.iconst 1, 1) := by decide +kernel
theorem dX11_hold_145 : decode cX11_hold 145 = .ok (.goto 4, 3) := by decide +kernel
theorem dX11_hold_148 : decode cX11_hold 148 = .ok (.iconst 0, 1) := by decide +kernel
theorem dX11_hold_149 : decode cX11_hold 149 = .ok (.invokestatic 247, 3) := by decide +kernel
theorem dX11_hold_152 : decode cX11_hold 152 = .ok (.l2i, 1) := by decide +kernel
theorem dX11_hold_153 : decode cX11_hold 153 = .ok (.ireturn, 1) := by decide +kernel
def X11_hold_b149 (e : mm_E) (t0 : Int64) (t1 : Int64) (t2 : Int32) (m : mm_V) : Option ((Int32 ⊕ String) × mm_V) := (X11_lowest e t0 t1 t2 m).bind fun r1 => some (.inl r1.1.toInt32, r1.2)
theorem X11_hold_b149_ok {K : mm_K} {e : mm_E} (hz : e.2.1 = K.2.2.2.2) {d : Nat} (hd : 11 ≤ d) {t0 : Int64} {t1 : Int64} {t2 : Int32} {a0 : Nat} (h0 : e.1 a0 = some (11, 19)) {m : mm_V} {r : ((Int32 ⊕ String) × mm_V)} (hr : X11_hold_b149 e t0 t1 t2 m = some r) : mm_G K MX11_hold d (mm_Xi e.1 r) 149 [none, none, none, none, none, none, none] [.int t2, .long t1, .long t0] (e.1, m) none 0 0 := by
  obtain ⟨d, rfl⟩ : ∃ d', d = d' + 1 := ⟨d - 1, by omega⟩
  unfold X11_hold_b149 at hr
  refine mb_cSl (pc := 149) (As := [.long t0, .long t1, .int t2]) (rest := []) dX11_hold_149 cw_X11_247  hr (fun v hv => X11_lowest_ok hz (by omega)  hv) rfl (Nat.le_of_ble_eq_true rfl) (Nat.zero_le _) (Nat.zero_le _) (fun r1 hr => ?_)
  refine mg_l2i (pc := 152) dX11_hold_152 ?_
  exact mb_xiret dX11_hold_153 rfl hr
def X11_hold_b139 (e : mm_E) (i3 : Int32) (t0 : Int64) (t1 : Int64) (m : mm_V) : Option ((Int32 ⊕ String) × mm_V) := if ¬ i3 = (1 : Int32) then (X11_hold_b149 e  t0 t1 (0 : Int32) m) else (X11_hold_b149 e  t0 t1 (1 : Int32) m)
theorem X11_hold_b139_ok {K : mm_K} {e : mm_E} (hz : e.2.1 = K.2.2.2.2) {d : Nat} (hd : 11 ≤ d) {i3 : Int32} {t0 : Int64} {t1 : Int64} {a0 : Nat} (h0 : e.1 a0 = some (11, 19)) {m : mm_V} {r : ((Int32 ⊕ String) × mm_V)} (hr : X11_hold_b139 e i3 t0 t1 m = some r) : mm_G K MX11_hold d (mm_Xi e.1 r) 139 [none, none, none, some (.int i3), none, none, none] [.long t1, .long t0] (e.1, m) none 0 0 := by
  obtain ⟨d, rfl⟩ : ∃ d', d = d' + 1 := ⟨d - 1, by omega⟩
  unfold X11_hold_b139 at hr
  refine ml_iload_n (pc := 139) dX11_hold_139 rfl (mm_get_s (mm_get_s (mm_get_s mm_get_0))) ?_
  refine mg_iconst (pc := 140) dX11_hold_140 kc_1 ?_
  refine mb_icmp_ne (pc := 141) 148 dX11_hold_141 rfl hr (fun hr => ?_) (fun hr => ?_)
  · refine mg_iconst (pc := 148) dX11_hold_148 kc_0 ?_
    exact mg_weak (mm_le_n (mm_le_n (mm_le_n (mm_le_n (mm_le_n (mm_le_n (mm_le_n mm_le_0))))))) (X11_hold_b149_ok hz hd h0 hr)
  · refine mg_iconst (pc := 144) dX11_hold_144 kc_1 ?_
    refine mg_goto (pc := 145) 149 dX11_hold_145 rfl ?_
    exact mg_weak (mm_le_n (mm_le_n (mm_le_n (mm_le_n (mm_le_n (mm_le_n (mm_le_n mm_le_0))))))) (X11_hold_b149_ok hz hd h0 hr)
def X11_hold_b101 (e : mm_E) (k50 : Int32 → Int32 → Int32 → mm_V → Option ((Int32 ⊕ String) × mm_V)) (a0 : Nat) (i1 : Int32) (i2 : Int32) (i3 : Int32) (i5 : Int32) (i6 : Int32) (t0 : Int32) (m : mm_V) : Option ((Int32 ⊕ String) × mm_V) := k50 t0 i5 (i6 + 1) m
theorem X11_hold_b101_ok {K : mm_K} {e : mm_E} (hz : e.2.1 = K.2.2.2.2) {d : Nat} (hd : 11 ≤ d) {a0 : Nat} {i1 : Int32} {i2 : Int32} {i3 : Int32} {i5 : Int32} {i6 : Int32} {t0 : Int32} (h0 : e.1 a0 = some (11, 19)) {k50 : Int32 → Int32 → Int32 → mm_V → Option ((Int32 ⊕ String) × mm_V)} (hk50 : ∀ (w4 : Int32) (w5 : Int32) (w6 : Int32) (m : mm_V) (r : ((Int32 ⊕ String) × mm_V)), k50 w4 w5 w6 m = some r → mm_G K MX11_hold d (mm_Xi e.1 r) 50 [some (.ref a0), some (.int i1), some (.int i2), some (.int i3), some (.int w4), some (.int w5), some (.int w6)] [] (e.1, m) none 0 0) {m : mm_V} {r : ((Int32 ⊕ String) × mm_V)} (hr : X11_hold_b101 e k50 a0 i1 i2 i3 i5 i6 t0 m = some r) : mm_G K MX11_hold d (mm_Xi e.1 r) 101 [some (.ref a0), some (.int i1), some (.int i2), some (.int i3), none, some (.int i5), some (.int i6)] [.int t0] (e.1, m) none 0 0 := by
  obtain ⟨d, rfl⟩ : ∃ d', d = d' + 1 := ⟨d - 1, by omega⟩
  unfold X11_hold_b101 at hr
  refine ml_istore (pc := 101) dX11_hold_101 (Nat.le_of_ble_eq_true rfl) (mm_st1_s (mm_st1_s (mm_st1_s mm_st1_i))) ?_
  refine ml_iinc (pc := 103) dX11_hold_103 (mm_get_s (mm_get_s (mm_get_s (mm_get_s (mm_get_s (mm_get_s mm_get_0)))))) (congrArg (fun z => i6 + z) kc_1) (Nat.le_of_ble_eq_true rfl) (mm_st1_s (mm_st1_s (mm_st1_s (mm_st1_s (mm_st1_s mm_st1_i))))) ?_
  refine mg_goto (pc := 106) 50 dX11_hold_106 rfl ?_
  exact mg_weak (mm_le_s (mm_le_s (mm_le_s (mm_le_s (mm_le_s (mm_le_s (mm_le_s mm_le_0))))))) (hk50 _ _ _ _ _ hr)
def X11_hold_L50 (e : mm_E) (a0 : Nat) (i1 : Int32) (i2 : Int32) (i3 : Int32) : Nat → Int32 → Int32 → Int32 → mm_V → Option ((Int32 ⊕ String) × mm_V)
  | 0, _, _, _, _ => none
  | n + 1, i4, i5, i6, m => if i2 ≤ i6 then (if ¬ i3 = 0 then ((mm_gr e.1 m 11 19 a0 1).bind fun c1 => if e.1 c1 = some (10, 11) then ((X10_weight e c1 i1 i4 m).bind fun r2 => if ¬ i5 = 0 then (X11_hold_b139 e i3 r2.1.toInt64 i5.toInt64 r2.2) else (X11_hold_b139 e i3 r2.1.toInt64 (1 : Int64) r2.2)) else none) else (some (.inl i4, m))) else ((mm_gr e.1 m 11 19 a0 1).bind fun c4 => if e.1 c4 = some (10, 11) then ((X10_weight e c4 i1 i6 m).bind fun r5 => (mm_gr e.1 r5.2 11 19 a0 1).bind fun c7 => if e.1 c7 = some (10, 11) then ((X10_weight e c7 i1 i6 r5.2).bind fun r8 => (mm_gr e.1 r8.2 11 19 a0 1).bind fun c10 => if e.1 c10 = some (10, 11) then ((X10_weight e c10 i1 i4 r8.2).bind fun r11 => if r8.1 ≤ r11.1 then (X11_hold_b101 e (X11_hold_L50 e a0 i1 i2 i3 n) a0 i1 i2 i3 (i5 + r5.1) i6 i4 r11.2) else (X11_hold_b101 e (X11_hold_L50 e a0 i1 i2 i3 n) a0 i1 i2 i3 (i5 + r5.1) i6 i6 r11.2)) else none) else none) else none)
theorem X11_hold_L50_ok {K : mm_K} {e : mm_E} (hz : e.2.1 = K.2.2.2.2) {d : Nat} (hd : 11 ≤ d) {a0 : Nat} {i1 : Int32} {i2 : Int32} {i3 : Int32} (h0 : e.1 a0 = some (11, 19)) : ∀ (n : Nat) (i4 : Int32) (i5 : Int32) (i6 : Int32) (m : mm_V) (r : ((Int32 ⊕ String) × mm_V)), X11_hold_L50 e a0 i1 i2 i3 n i4 i5 i6 m = some r → mm_G K MX11_hold d (mm_Xi e.1 r) 50 [some (.ref a0), some (.int i1), some (.int i2), some (.int i3), some (.int i4), some (.int i5), some (.int i6)] [] (e.1, m) none 0 0 := by
  obtain ⟨d, rfl⟩ : ∃ d', d = d' + 1 := ⟨d - 1, by omega⟩
  intro n
  induction n with
  | zero => intro i4 i5 i6 m r hr; unfold X11_hold_L50 at hr; cases hr
  | succ n ih =>
    intro i4 i5 i6 m r hr
    unfold X11_hold_L50 at hr
    refine ml_iload (pc := 50) dX11_hold_50 (mm_get_s (mm_get_s (mm_get_s (mm_get_s (mm_get_s (mm_get_s mm_get_0)))))) ?_
    refine ml_iload_n (pc := 52) dX11_hold_52 rfl (mm_get_s (mm_get_s mm_get_0)) ?_
    refine mb_icmp_ge (pc := 53) 109 dX11_hold_53 rfl hr (fun hr => ?_) (fun hr => ?_)
    · refine ml_iload_n (pc := 109) dX11_hold_109 rfl (mm_get_s (mm_get_s (mm_get_s mm_get_0))) ?_
      refine mb_if_ne (pc := 110) 116 dX11_hold_110 rfl hr (fun hr => ?_) (fun hr => ?_)
      · refine ml_aload_n (pc := 116) dX11_hold_116 rfl mm_get_0 ?_
        refine mb_gr (pc := 117) dX11_hold_117 fl_X11_16 hr (fun c1 hr => ?_)
        refine ml_iload_n (pc := 120) dX11_hold_120 rfl (mm_get_s mm_get_0) ?_
        refine ml_iload (pc := 121) dX11_hold_121 (mm_get_s (mm_get_s (mm_get_s (mm_get_s mm_get_0)))) ?_
        refine mb_ck hr (fun hb3 hr => ?_)
        refine mb_cVi (pc := 123) (As := [.int i1, .int i4]) (rest := []) dX11_hold_123 cw_X11_172 hb3 hr (fun v hv => X10_weight_ok hz (by omega) hb3 hv) rfl (Nat.le_of_ble_eq_true rfl) (Nat.zero_le _) (Nat.zero_le _) (fun r2 hr => ?_)
        refine mg_i2l (pc := 126) dX11_hold_126 ?_
        refine ml_iload (pc := 127) dX11_hold_127 (mm_get_s (mm_get_s (mm_get_s (mm_get_s (mm_get_s mm_get_0))))) ?_
        refine mb_if_ne (pc := 129) 136 dX11_hold_129 rfl hr (fun hr => ?_) (fun hr => ?_)
        · refine ml_iload (pc := 136) dX11_hold_136 (mm_get_s (mm_get_s (mm_get_s (mm_get_s (mm_get_s mm_get_0))))) ?_
          refine mg_i2l (pc := 138) dX11_hold_138 ?_
          exact mg_weak (mm_le_n (mm_le_n (mm_le_n (mm_le_s (mm_le_n (mm_le_n (mm_le_n mm_le_0))))))) (X11_hold_b139_ok hz hd h0 hr)
        · refine mg_lconst (pc := 132) dX11_hold_132 (v := (1 : Int64)) (by decide) ?_
          refine mg_goto (pc := 133) 139 dX11_hold_133 rfl ?_
          exact mg_weak (mm_le_n (mm_le_n (mm_le_n (mm_le_s (mm_le_n (mm_le_n (mm_le_n mm_le_0))))))) (X11_hold_b139_ok hz hd h0 hr)
      · refine ml_iload (pc := 113) dX11_hold_113 (mm_get_s (mm_get_s (mm_get_s (mm_get_s mm_get_0)))) ?_
        exact mb_xiret dX11_hold_115 rfl hr
    · refine ml_iload (pc := 56) dX11_hold_56 (mm_get_s (mm_get_s (mm_get_s (mm_get_s (mm_get_s mm_get_0))))) ?_
      refine ml_aload_n (pc := 58) dX11_hold_58 rfl mm_get_0 ?_
      refine mb_gr (pc := 59) dX11_hold_59 fl_X11_16 hr (fun c4 hr => ?_)
      refine ml_iload_n (pc := 62) dX11_hold_62 rfl (mm_get_s mm_get_0) ?_
      refine ml_iload (pc := 63) dX11_hold_63 (mm_get_s (mm_get_s (mm_get_s (mm_get_s (mm_get_s (mm_get_s mm_get_0)))))) ?_
      refine mb_ck hr (fun hb6 hr => ?_)
      refine mb_cVi (pc := 65) (As := [.int i1, .int i6]) (rest := [.int i5]) dX11_hold_65 cw_X11_172 hb6 hr (fun v hv => X10_weight_ok hz (by omega) hb6 hv) rfl (Nat.le_of_ble_eq_true rfl) (Nat.zero_le _) (Nat.zero_le _) (fun r5 hr => ?_)
      refine mg_iadd (pc := 68) dX11_hold_68 ?_
      refine ml_istore (pc := 69) dX11_hold_69 (Nat.le_of_ble_eq_true rfl) (mm_st1_s (mm_st1_s (mm_st1_s (mm_st1_s mm_st1_i)))) ?_
      refine ml_aload_n (pc := 71) dX11_hold_71 rfl mm_get_0 ?_
      refine mb_gr (pc := 72) dX11_hold_72 fl_X11_16 hr (fun c7 hr => ?_)
      refine ml_iload_n (pc := 75) dX11_hold_75 rfl (mm_get_s mm_get_0) ?_
      refine ml_iload (pc := 76) dX11_hold_76 (mm_get_s (mm_get_s (mm_get_s (mm_get_s (mm_get_s (mm_get_s mm_get_0)))))) ?_
      refine mb_ck hr (fun hb9 hr => ?_)
      refine mb_cVi (pc := 78) (As := [.int i1, .int i6]) (rest := []) dX11_hold_78 cw_X11_172 hb9 hr (fun v hv => X10_weight_ok hz (by omega) hb9 hv) rfl (Nat.le_of_ble_eq_true rfl) (Nat.zero_le _) (Nat.zero_le _) (fun r8 hr => ?_)
      refine ml_aload_n (pc := 81) dX11_hold_81 rfl mm_get_0 ?_
      refine mb_gr (pc := 82) dX11_hold_82 fl_X11_16 hr (fun c10 hr => ?_)
      refine ml_iload_n (pc := 85) dX11_hold_85 rfl (mm_get_s mm_get_0) ?_
      refine ml_iload (pc := 86) dX11_hold_86 (mm_get_s (mm_get_s (mm_get_s (mm_get_s mm_get_0)))) ?_
      refine mb_ck hr (fun hb12 hr => ?_)
      refine mb_cVi (pc := 88) (As := [.int i1, .int i4]) (rest := [.int r8.1]) dX11_hold_88 cw_X11_172 hb12 hr (fun v hv => X10_weight_ok hz (by omega) hb12 hv) rfl (Nat.le_of_ble_eq_true rfl) (Nat.zero_le _) (Nat.zero_le _) (fun r11 hr => ?_)
      refine mb_icmp_le (pc := 91) 99 dX11_hold_91 rfl hr (fun hr => ?_) (fun hr => ?_)
      · refine ml_iload (pc := 99) dX11_hold_99 (mm_get_s (mm_get_s (mm_get_s (mm_get_s mm_get_0)))) ?_
        exact mg_weak (mm_le_s (mm_le_s (mm_le_s (mm_le_s (mm_le_n (mm_le_s (mm_le_s mm_le_0))))))) (X11_hold_b101_ok hz hd h0 ih hr)
      · refine ml_iload (pc := 94) dX11_hold_94 (mm_get_s (mm_get_s (mm_get_s (mm_get_s (mm_get_s (mm_get_s mm_get_0)))))) ?_
        refine mg_goto (pc := 96) 101 dX11_hold_96 rfl ?_
        exact mg_weak (mm_le_s (mm_le_s (mm_le_s (mm_le_s (mm_le_n (mm_le_s (mm_le_s mm_le_0))))))) (X11_hold_b101_ok hz hd h0 ih hr)
def X11_hold_b38 (e : mm_E) (a0 : Nat) (i1 : Int32) (i2 : Int32) (i3 : Int32) (t0 : Int32) (m : mm_V) : Option ((Int32 ⊕ String) × mm_V) := mm_bx (X11_needArgument e t0 m) fun r1 => X11_hold_L50 e a0 i1 i2 i3 e.2.2 (0 : Int32) (0 : Int32) (0 : Int32) r1.2
theorem X11_hold_b38_ok {K : mm_K} {e : mm_E} (hz : e.2.1 = K.2.2.2.2) {d : Nat} (hd : 11 ≤ d) {a0 : Nat} {i1 : Int32} {i2 : Int32} {i3 : Int32} {t0 : Int32} (h0 : e.1 a0 = some (11, 19)) {m : mm_V} {r : ((Int32 ⊕ String) × mm_V)} (hr : X11_hold_b38 e a0 i1 i2 i3 t0 m = some r) : mm_G K MX11_hold d (mm_Xi e.1 r) 38 [some (.ref a0), some (.int i1), some (.int i2), some (.int i3), none, none, none] [.int t0] (e.1, m) none 0 0 := by
  obtain ⟨d, rfl⟩ : ∃ d', d = d' + 1 := ⟨d - 1, by omega⟩
  unfold X11_hold_b38 at hr
  refine mb_xSv (pc := 38) (As := [.int t0]) (rest := []) dX11_hold_38 cw_X11_199 tw_1064  rfl hr (fun v hv => X11_needArgument_ok hz (by omega)  hv) rfl (Nat.le_of_ble_eq_true rfl) (fun r1 hr => ?_)
  refine mg_iconst (pc := 41) dX11_hold_41 kc_0 ?_
  refine ml_istore (pc := 42) dX11_hold_42 (Nat.le_of_ble_eq_true rfl) (mm_st1_s (mm_st1_s (mm_st1_s mm_st1_i))) ?_
  refine mg_iconst (pc := 44) dX11_hold_44 kc_0 ?_
  refine ml_istore (pc := 45) dX11_hold_45 (Nat.le_of_ble_eq_true rfl) (mm_st1_s (mm_st1_s (mm_st1_s (mm_st1_s mm_st1_i)))) ?_
  refine mg_iconst (pc := 47) dX11_hold_47 kc_0 ?_
  refine ml_istore (pc := 48) dX11_hold_48 (Nat.le_of_ble_eq_true rfl) (mm_st1_s (mm_st1_s (mm_st1_s (mm_st1_s (mm_st1_s mm_st1_i))))) ?_
  exact mg_weak (mm_le_s (mm_le_s (mm_le_s (mm_le_s (mm_le_s (mm_le_s (mm_le_s mm_le_0))))))) (X11_hold_L50_ok hz hd h0 _ _ _ _ _ _ hr)
def X11_hold_b37 (e : mm_E) (a0 : Nat) (i1 : Int32) (i2 : Int32) (i3 : Int32) (m : mm_V) : Option ((Int32 ⊕ String) × mm_V) := X11_hold_b38 e a0 i1 i2 i3 (0 : Int32) m
theorem X11_hold_b37_ok {K : mm_K} {e : mm_E} (hz : e.2.1 = K.2.2.2.2) {d : Nat} (hd : 11 ≤ d) {a0 : Nat} {i1 : Int32} {i2 : Int32} {i3 : Int32} (h0 : e.1 a0 = some (11, 19)) {m : mm_V} {r : ((Int32 ⊕ String) × mm_V)} (hr : X11_hold_b37 e a0 i1 i2 i3 m = some r) : mm_G K MX11_hold d (mm_Xi e.1 r) 37 [some (.ref a0), some (.int i1), some (.int i2), some (.int i3), none, none, none] [] (e.1, m) none 0 0 := by
  obtain ⟨d, rfl⟩ : ∃ d', d = d' + 1 := ⟨d - 1, by omega⟩
  unfold X11_hold_b37 at hr
  refine mg_iconst (pc := 37) dX11_hold_37 kc_0 ?_
  exact mg_weak (mm_le_s (mm_le_s (mm_le_s (mm_le_s (mm_le_n (mm_le_n (mm_le_n mm_le_0))))))) (X11_hold_b38_ok hz hd h0 hr)
def X11_hold_b19 (e : mm_E) (a0 : Nat) (i1 : Int32) (i2 : Int32) (i3 : Int32) (t0 : Int32) (m : mm_V) : Option ((Int32 ⊕ String) × mm_V) := mm_bx (X11_need e t0 m) fun r1 => if i2 < (1 : Int32) then (X11_hold_b37 e a0 i1 i2 i3  r1.2) else (if (6 : Int32) < i2 then (X11_hold_b37 e a0 i1 i2 i3  r1.2) else (X11_hold_b38 e a0 i1 i2 i3 (1 : Int32) r1.2))
theorem X11_hold_b19_ok {K : mm_K} {e : mm_E} (hz : e.2.1 = K.2.2.2.2) {d : Nat} (hd : 11 ≤ d) {a0 : Nat} {i1 : Int32} {i2 : Int32} {i3 : Int32} {t0 : Int32} (h0 : e.1 a0 = some (11, 19)) {m : mm_V} {r : ((Int32 ⊕ String) × mm_V)} (hr : X11_hold_b19 e a0 i1 i2 i3 t0 m = some r) : mm_G K MX11_hold d (mm_Xi e.1 r) 19 [some (.ref a0), some (.int i1), some (.int i2), some (.int i3), none, none, none] [.int t0] (e.1, m) none 0 0 := by
  obtain ⟨d, rfl⟩ : ∃ d', d = d' + 1 := ⟨d - 1, by omega⟩
  unfold X11_hold_b19 at hr
  refine mb_xSv (pc := 19) (As := [.int t0]) (rest := []) dX11_hold_19 cw_X11_164 tw_1037  rfl hr (fun v hv => X11_need_ok hz (by omega)  hv) rfl (Nat.le_of_ble_eq_true rfl) (fun r1 hr => ?_)
  refine ml_iload_n (pc := 22) dX11_hold_22 rfl (mm_get_s (mm_get_s mm_get_0)) ?_
  refine mg_iconst (pc := 23) dX11_hold_23 kc_1 ?_
  refine mb_icmp_lt (pc := 24) 37 dX11_hold_24 rfl hr (fun hr => ?_) (fun hr => ?_)
  · exact mg_weak (mm_le_s (mm_le_s (mm_le_s (mm_le_s (mm_le_n (mm_le_n (mm_le_n mm_le_0))))))) (X11_hold_b37_ok hz hd h0 hr)
  · refine ml_iload_n (pc := 27) dX11_hold_27 rfl (mm_get_s (mm_get_s mm_get_0)) ?_
    refine mg_bipush (pc := 28) dX11_hold_28 kb_6 ?_
    refine mb_icmp_gt (pc := 30) 37 dX11_hold_30 rfl hr (fun hr => ?_) (fun hr => ?_)
    · exact mg_weak (mm_le_s (mm_le_s (mm_le_s (mm_le_s (mm_le_n (mm_le_n (mm_le_n mm_le_0))))))) (X11_hold_b37_ok hz hd h0 hr)
    · refine mg_iconst (pc := 33) dX11_hold_33 kc_1 ?_
      refine mg_goto (pc := 34) 38 dX11_hold_34 rfl ?_
      exact mg_weak (mm_le_s (mm_le_s (mm_le_s (mm_le_s (mm_le_n (mm_le_n (mm_le_n mm_le_0))))))) (X11_hold_b38_ok hz hd h0 hr)
def X11_hold_b18 (e : mm_E) (a0 : Nat) (i1 : Int32) (i2 : Int32) (i3 : Int32) (m : mm_V) : Option ((Int32 ⊕ String) × mm_V) := X11_hold_b19 e a0 i1 i2 i3 (0 : Int32) m
theorem X11_hold_b18_ok {K : mm_K} {e : mm_E} (hz : e.2.1 = K.2.2.2.2) {d : Nat} (hd : 11 ≤ d) {a0 : Nat} {i1 : Int32} {i2 : Int32} {i3 : Int32} (h0 : e.1 a0 = some (11, 19)) {m : mm_V} {r : ((Int32 ⊕ String) × mm_V)} (hr : X11_hold_b18 e a0 i1 i2 i3 m = some r) : mm_G K MX11_hold d (mm_Xi e.1 r) 18 [some (.ref a0), some (.int i1), some (.int i2), some (.int i3), none, none, none] [] (e.1, m) none 0 0 := by
  obtain ⟨d, rfl⟩ : ∃ d', d = d' + 1 := ⟨d - 1, by omega⟩
  unfold X11_hold_b18 at hr
  refine mg_iconst (pc := 18) dX11_hold_18 kc_0 ?_
  exact mg_weak (mm_le_s (mm_le_s (mm_le_s (mm_le_s (mm_le_n (mm_le_n (mm_le_n mm_le_0))))))) (X11_hold_b19_ok hz hd h0 hr)
def X11_hold (e : mm_E) (a0 : Nat) (i1 : Int32) (i2 : Int32) (i3 : Int32) (m : mm_V) : Option ((Int32 ⊕ String) × mm_V) := mm_bx (X11_needPerson e a0 i1 m) fun r1 => if i3 < 0 then (X11_hold_b18 e a0 i1 i2 i3  r1.2) else (if (2 : Int32) < i3 then (X11_hold_b18 e a0 i1 i2 i3  r1.2) else (X11_hold_b19 e a0 i1 i2 i3 (1 : Int32) r1.2))
theorem X11_hold_ok {K : mm_K} {e : mm_E} (hz : e.2.1 = K.2.2.2.2) {d : Nat} (hd : 11 ≤ d) {a0 : Nat} {i1 : Int32} {i2 : Int32} {i3 : Int32} (h0 : e.1 a0 = some (11, 19)) {m : mm_V} {r : ((Int32 ⊕ String) × mm_V)} (hr : X11_hold e a0 i1 i2 i3 m = some r) : mm_Cn K MX11_hold d (mm_Xi e.1 r) [.ref a0, .int i1, .int i2, .int i3] (e.1, m) none := by
  obtain ⟨d, rfl⟩ : ∃ d', d = d' + 1 := ⟨d - 1, by omega⟩
  refine mm_entry (by decide) (Nat.le_of_ble_eq_true rfl) rfl (fun hok => ?_)
  unfold X11_hold at hr
  refine mg_weak (L' := [some (.ref a0), some (.int i1), some (.int i2), some (.int i3), none, none, none]) (mm_le_s (mm_le_s (mm_le_s (mm_le_s (mm_le_e (mm_le_e (mm_le_e mm_le_0))))))) ?_
  refine ml_aload_n (pc := 0) dX11_hold_0 rfl mm_get_0 ?_
  refine ml_iload_n (pc := 1) dX11_hold_1 rfl (mm_get_s mm_get_0) ?_
  refine mb_xVv (pc := 2) (As := [.int i1]) (rest := []) dX11_hold_2 cw_X11_150 tw_1029 h0 rfl hr (fun v hv => X11_needPerson_ok hz (by omega) h0 hv) rfl (Nat.le_of_ble_eq_true rfl) (fun r1 hr => ?_)
  refine ml_iload_n (pc := 5) dX11_hold_5 rfl (mm_get_s (mm_get_s (mm_get_s mm_get_0))) ?_
  refine mb_if_lt (pc := 6) 18 dX11_hold_6 rfl hr (fun hr => ?_) (fun hr => ?_)
  · exact mg_weak (mm_le_s (mm_le_s (mm_le_s (mm_le_s (mm_le_n (mm_le_n (mm_le_n mm_le_0))))))) (X11_hold_b18_ok hz hd h0 hr)
  · refine ml_iload_n (pc := 9) dX11_hold_9 rfl (mm_get_s (mm_get_s (mm_get_s mm_get_0))) ?_
    refine mg_iconst (pc := 10) dX11_hold_10 kc_2 ?_
    refine mb_icmp_gt (pc := 11) 18 dX11_hold_11 rfl hr (fun hr => ?_) (fun hr => ?_)
    · exact mg_weak (mm_le_s (mm_le_s (mm_le_s (mm_le_s (mm_le_n (mm_le_n (mm_le_n mm_le_0))))))) (X11_hold_b18_ok hz hd h0 hr)
    · refine mg_iconst (pc := 14) dX11_hold_14 kc_1 ?_
      refine mg_goto (pc := 15) 19 dX11_hold_15 rfl ?_
      exact mg_weak (mm_le_s (mm_le_s (mm_le_s (mm_le_s (mm_le_n (mm_le_n (mm_le_n mm_le_0))))))) (X11_hold_b19_ok hz hd h0 hr)
theorem dX11_isOut_0 : decode cX11_isOut 0 = .ok (.aload_n 0, 1) := by decide +kernel
theorem dX11_isOut_1 : decode cX11_isOut 1 = .ok (.iload_n 1, 1) := by decide +kernel
theorem dX11_isOut_2 : decode cX11_isOut 2 = .ok (.invokevirtual 150, 3) := by decide +kernel
theorem dX11_isOut_5 : decode cX11_isOut 5 = .ok (.aload_n 0, 1) := by decide +kernel
theorem dX11_isOut_6 : decode cX11_isOut 6 = .ok (.invokevirtual 216, 3) := by decide +kernel
theorem dX11_isOut_9 : decode cX11_isOut 9 = .ok (.aload_n 0, 1) := by decide +kernel
theorem dX11_isOut_10 : decode cX11_isOut 10 = .ok (.getfield 68, 3) := by decide +kernel
theorem dX11_isOut_13 : decode cX11_isOut 13 = .ok (.iload_n 1, 1) := by decide +kernel
theorem dX11_isOut_14 : decode cX11_isOut 14 = .ok (.invokevirtual 316, 3) := by decide +kernel
theorem dX11_isOut_17 : decode cX11_isOut 17 = .ok (.ireturn, 1) := by decide +kernel
def X11_isOut (e : mm_E) (a0 : Nat) (i1 : Int32) (m : mm_V) : Option ((Int32 ⊕ String) × mm_V) := mm_bx (X11_needPerson e a0 i1 m) fun r1 => (X11_playFromNow e a0 r1.2).bind fun r2 => (mm_gr e.1 r2 11 19 a0 11).bind fun c3 => if e.1 c3 = some (7, 8) then ((X7_outBehind e c3 i1 r2).bind fun r4 => some (.inl r4.1, r4.2)) else none
theorem X11_isOut_ok {K : mm_K} {e : mm_E} (hz : e.2.1 = K.2.2.2.2) {d : Nat} (hd : 11 ≤ d) {a0 : Nat} {i1 : Int32} (h0 : e.1 a0 = some (11, 19)) {m : mm_V} {r : ((Int32 ⊕ String) × mm_V)} (hr : X11_isOut e a0 i1 m = some r) : mm_Cn K MX11_isOut d (mm_Xi e.1 r) [.ref a0, .int i1] (e.1, m) none := by
  obtain ⟨d, rfl⟩ : ∃ d', d = d' + 1 := ⟨d - 1, by omega⟩
  refine mm_entry (by decide) (Nat.le_of_ble_eq_true rfl) rfl (fun hok => ?_)
  unfold X11_isOut at hr
  refine mg_weak (L' := [some (.ref a0), some (.int i1)]) (mm_le_s (mm_le_s mm_le_0)) ?_
  refine ml_aload_n (pc := 0) dX11_isOut_0 rfl mm_get_0 ?_
  refine ml_iload_n (pc := 1) dX11_isOut_1 rfl (mm_get_s mm_get_0) ?_
  refine mb_xVv (pc := 2) (As := [.int i1]) (rest := []) dX11_isOut_2 cw_X11_150 tw_1029 h0 rfl hr (fun v hv => X11_needPerson_ok hz (by omega) h0 hv) rfl (Nat.le_of_ble_eq_true rfl) (fun r1 hr => ?_)
  refine ml_aload_n (pc := 5) dX11_isOut_5 rfl mm_get_0 ?_
  refine mb_cVv (pc := 6) (As := []) (rest := []) dX11_isOut_6 cw_X11_216 h0 hr (fun v hv => X11_playFromNow_ok hz (by omega) h0 hv) rfl (Nat.le_of_ble_eq_true rfl) (Nat.zero_le _) (Nat.zero_le _) (fun r2 hr => ?_)
  refine ml_aload_n (pc := 9) dX11_isOut_9 rfl mm_get_0 ?_
  refine mb_gr (pc := 10) dX11_isOut_10 fl_X11_68 hr (fun c3 hr => ?_)
  refine ml_iload_n (pc := 13) dX11_isOut_13 rfl (mm_get_s mm_get_0) ?_
  refine mb_ck hr (fun hb5 hr => ?_)
  refine mb_cVi (pc := 14) (As := [.int i1]) (rest := []) dX11_isOut_14 cw_X11_316 hb5 hr (fun v hv => X7_outBehind_ok hz (by omega) hb5 hv) rfl (Nat.le_of_ble_eq_true rfl) (Nat.zero_le _) (Nat.zero_le _) (fun r4 hr => ?_)
  exact mb_xiret dX11_isOut_17 rfl hr
theorem dX11_peeped_0 : decode cX11_peeped 0 = .ok (.aload_n 0, 1) := by decide +kernel
theorem dX11_peeped_1 : decode cX11_peeped 1 = .ok (.iload_n 1, 1) := by decide +kernel
theorem dX11_peeped_2 : decode cX11_peeped 2 = .ok (.invokevirtual 150, 3) := by decide +kernel
theorem dX11_peeped_5 : decode cX11_peeped 5 = .ok (.iload_n 2, 1) := by decide +kernel
theorem dX11_peeped_6 : decode cX11_peeped 6 = .ok (.ifCond .lt 12, 3) := by decide +kernel
theorem dX11_peeped_9 : decode cX11_peeped 9 = .ok (.iload_n 2, 1) := by decide +kernel
theorem dX11_peeped_10 : decode cX11_peeped 10 = .ok (.iconst 3, 1) := by decide +kernel
theorem dX11_peeped_11 : decode cX11_peeped 11 = .ok (.if_icmp .gt 7, 3) := by decide +kernel
theorem dX11_peeped_14 : decode cX11_peeped 14 = .ok (.iconst 1, 1) := by decide +kernel
theorem dX11_peeped_15 : decode cX11_peeped 15 = .ok (.goto 4, 3) := by decide +kernel
theorem dX11_peeped_18 : decode cX11_peeped 18 = .ok (.iconst 0, 1) := by decide +kernel
theorem dX11_peeped_19 : decode cX11_peeped 19 = .ok (.invokestatic 164, 3) := by decide +kernel
theorem dX11_peeped_22 : decode cX11_peeped 22 = .ok (.lconst 1, 1) := by decide +kernel
theorem dX11_peeped_23 : decode cX11_peeped 23 = .ok (.lstore_n 3, 1) := by decide +kernel
theorem dX11_peeped_24 : decode cX11_peeped 24 = .ok (.lconst 1, 1) := by decide +kernel
theorem dX11_peeped_25 : decode cX11_peeped 25 = .ok (.lstore 5, 2) := by decide +kernel
theorem dX11_peeped_27 : decode cX11_peeped 27 = .ok (.iconst 0, 1) := by decide +kernel
theorem dX11_peeped_28 : decode cX11_peeped 28 = .ok (.istore 7, 2) := by decide +kernel
theorem dX11_peeped_30 : decode cX11_peeped 30 = .ok (.iconst 0, 1) := by decide +kernel
theorem dX11_peeped_31 : decode cX11_peeped 31 = .ok (.istore 8, 2) := by decide +kernel
theorem dX11_peeped_33 : decode cX11_peeped 33 = .ok (.aload_n 0, 1) := by decide +kernel
theorem dX11_peeped_34 : decode cX11_peeped 34 = .ok (.getfield 35, 3) := by decide +kernel
theorem dX11_peeped_37 : decode cX11_peeped 37 = .ok (.getfield 134, 3) := by decide +kernel
theorem dX11_peeped_40 : decode cX11_peeped 40 = .ok (.iconst 1, 1) := by decide +kernel
theorem dX11_peeped_41 : decode cX11_peeped 41 = .ok (.isub, 1) := by decide +kernel
theorem dX11_peeped_42 : decode cX11_peeped 42 = .ok (.istore 9, 2) := by decide +kernel
theorem dX11_peeped_44 : decode cX11_peeped 44 = .ok (.iload 9, 2) := by decide +kernel
theorem dX11_peeped_46 : decode cX11_peeped 46 = .ok (.ifCond .lt 87, 3) := by decide +kernel
theorem dX11_peeped_49 : decode cX11_peeped 49 = .ok (.aload_n 0, 1) := by decide +kernel
theorem dX11_peeped_50 : decode cX11_peeped 50 = .ok (.getfield 35, 3) := by decide +kernel
theorem dX11_peeped_53 : decode cX11_peeped 53 = .ok (.iload 9, 2) := by decide +kernel
theorem dX11_peeped_55 : decode cX11_peeped 55 = .ok (.invokevirtual 205, 3) := by decide +kernel
theorem dX11_peeped_58 : decode cX11_peeped 58 = .ok (.astore 10, 2) := by decide +kernel
theorem dX11_peeped_60 : decode cX11_peeped 60 = .ok (.aload 10, 2) := by decide +kernel
theorem dX11_peeped_62 : decode cX11_peeped 62 = .ok (.getfield 271, 3) := by decide +kernel
theorem dX11_peeped_65 : decode cX11_peeped 65 = .ok (.iload_n 1, 1) := by decide +kernel
theorem dX11_peeped_66 : decode cX11_peeped 66 = .ok (.if_icmp .ne 61, 3) := by decide +kernel
theorem dX11_peeped_69 : decode cX11_peeped 69 = .ok (.aload 10, 2) := by decide +kernel
theorem dX11_peeped_71 : decode cX11_peeped 71 = .ok (.getfield 274, 3) := by decide +kernel
theorem dX11_peeped_74 : decode cX11_peeped 74 = .ok (.ifCond .eq 53, 3) := by decide +kernel
theorem dX11_peeped_77 : decode cX11_peeped 77 = .ok (.iload 7, 2) := by decide +kernel
theorem dX11_peeped_79 : decode cX11_peeped 79 = .ok (.bipush 12, 2) := by decide +kernel
theorem dX11_peeped_81 : decode cX11_peeped 81 = .ok (.if_icmp .ge 25, 3) := by decide +kernel
theorem dX11_peeped_84 : decode cX11_peeped 84 = .ok (.lload_n 3, 1) := by decide +kernel
theorem dX11_peeped_85 : decode cX11_peeped 85 = .ok (.aload 10, 2) := by decide +kernel
theorem dX11_peeped_87 : decode cX11_peeped 87 = .ok (.getfield 276, 3) := by decide +kernel
theorem dX11_peeped_90 : decode cX11_peeped 90 = .ok (.iconst 1, 1) := by decide +kernel
theorem dX11_peeped_91 : decode cX11_peeped 91 = .ok (.isub, 1) := by decide +kernel
theorem dX11_peeped_92 : decode cX11_peeped 92 = .ok (.i2l, 1) := by decide +kernel
theorem dX11_peeped_93 : decode cX11_peeped 93 = .ok (.lmul, 1) := by decide +kernel
theorem dX11_peeped_94 : decode cX11_peeped 94 = .ok (.lstore_n 3, 1) := by decide +kernel
theorem dX11_peeped_95 : decode cX11_peeped 95 = .ok (.lload 5, 2) := by decide +kernel
theorem dX11_peeped_97 : decode cX11_peeped 97 = .ok (.aload 10, 2) := by decide +kernel
theorem dX11_peeped_99 : decode cX11_peeped 99 = .ok (.getfield 276, 3) := by decide +kernel
theorem dX11_peeped_102 : decode cX11_peeped 102 = .ok (.i2l, 1) := by decide +kernel
theorem dX11_peeped_103 : decode cX11_peeped 103 = .ok (.lmul, 1) := by decide +kernel
theorem dX11_peeped_104 : decode cX11_peeped 104 = .ok (.lstore 5, 2) := by decide +kernel
theorem dX11_peeped_106 : decode cX11_peeped 106 = .ok (.iinc 7 1, 3) := by decide +kernel
theorem dX11_peeped_109 : decode cX11_peeped 109 = .ok (.iload 8, 2) := by decide +kernel
theorem dX11_peeped_111 : decode cX11_peeped 111 = .ok (.aload 10, 2) := by decide +kernel
theorem dX11_peeped_113 : decode cX11_peeped 113 = .ok (.getfield 197, 3) := by decide +kernel
theorem dX11_peeped_116 : decode cX11_peeped 116 = .ok (.ifCond .ne 7, 3) := by decide +kernel
theorem dX11_peeped_119 : decode cX11_peeped 119 = .ok (.iconst 1, 1) := by decide +kernel
theorem dX11_peeped_120 : decode cX11_peeped 120 = .ok (.goto 4, 3) := by decide +kernel
theorem dX11_peeped_123 : decode cX11_peeped 123 = .ok (.iconst 0, 1) := by decide +kernel
theorem dX11_peeped_124 : decode cX11_peeped 124 = .ok (.iadd, 1) := by decide +kernel
theorem dX11_peeped_125 : decode cX11_peeped 125 = .ok (.istore 8, 2) := by decide +kernel
theorem dX11_peeped_127 : decode cX11_peeped 127 = .ok (.iinc 9 (-1), 3) := by decide +kernel
theorem dX11_peeped_130 : decode cX11_peeped 130 = .ok (.goto (-86), 3) := by decide +kernel
theorem dX11_peeped_133 : decode cX11_peeped 133 = .ok (.iload_n 2, 1) := by decide +kernel
theorem dX11_peeped_134 : decode cX11_peeped 134 = .ok (.iconst 2, 1) := by decide +kernel
theorem dX11_peeped_135 : decode cX11_peeped 135 = .ok (.if_icmp .lt 18, 3) := by decide +kernel
theorem dX11_peeped_138 : decode cX11_peeped 138 = .ok (.iload_n 2, 1) := by decide +kernel
theorem dX11_peeped_139 : decode cX11_peeped 139 = .ok (.iconst 2, 1) := by decide +kernel
theorem dX11_peeped_140 : decode cX11_peeped 140 = .ok (.if_icmp .ne 9, 3) := by decide +kernel
theorem dX11_peeped_143 : decode cX11_peeped 143 = .ok (.iload 7, 2) := by decide +kernel
theorem dX11_peeped_145 : decode cX11_peeped 145 = .ok (.i2l, 1) := by decide +kernel
theorem dX11_peeped_146 : decode cX11_peeped 146 = .ok (.goto 6, 3) := by decide +kernel
theorem dX11_peeped_149 : decode cX11_peeped 149 = .ok (.iload 8, 2) := by decide +kernel
theorem dX11_peeped_151 : decode cX11_peeped 151 = .ok (.i2l, 1) := by decide +kernel
theorem dX11_peeped_152 : decode cX11_peeped 152 = .ok (.lreturn, 1) := by decide +kernel
theorem dX11_peeped_153 : decode cX11_peeped 153 = .ok (.lload_n 3, 1) := by decide +kernel
theorem dX11_peeped_154 : decode cX11_peeped 154 = .ok (.lload 5, 2) := by decide +kernel
theorem dX11_peeped_156 : decode cX11_peeped 156 = .ok (.iload_n 2, 1) := by decide +kernel
theorem dX11_peeped_157 : decode cX11_peeped 157 = .ok (.ifCond .ne 7, 3) := by decide +kernel
theorem dX11_peeped_160 : decode cX11_peeped 160 = .ok (.iconst 1, 1) := by decide +kernel
theorem dX11_peeped_161 : decode cX11_peeped 161 = .ok (.goto 4, 3) := by decide +kernel
theorem dX11_peeped_164 : decode cX11_peeped 164 = .ok (.iconst 0, 1) := by decide +kernel
theorem dX11_peeped_165 : decode cX11_peeped 165 = .ok (.invokestatic 247, 3) := by decide +kernel
theorem dX11_peeped_168 : decode cX11_peeped 168 = .ok (.lreturn, 1) := by decide +kernel
def X11_peeped_b165 (e : mm_E) (t0 : Int64) (t1 : Int64) (t2 : Int32) (m : mm_V) : Option ((Int64 ⊕ String) × mm_V) := (X11_lowest e t0 t1 t2 m).bind fun r1 => some (.inl r1.1, r1.2)
theorem X11_peeped_b165_ok {K : mm_K} {e : mm_E} (hz : e.2.1 = K.2.2.2.2) {d : Nat} (hd : 11 ≤ d) {t0 : Int64} {t1 : Int64} {t2 : Int32} {a0 : Nat} (h0 : e.1 a0 = some (11, 19)) {m : mm_V} {r : ((Int64 ⊕ String) × mm_V)} (hr : X11_peeped_b165 e t0 t1 t2 m = some r) : mm_G K MX11_peeped d (mm_Xl e.1 r) 165 [none, none, none, none, none, none, none, none, none, none, none] [.int t2, .long t1, .long t0] (e.1, m) none 0 0 := by
  obtain ⟨d, rfl⟩ : ∃ d', d = d' + 1 := ⟨d - 1, by omega⟩
  unfold X11_peeped_b165 at hr
  refine mb_cSl (pc := 165) (As := [.long t0, .long t1, .int t2]) (rest := []) dX11_peeped_165 cw_X11_247  hr (fun v hv => X11_lowest_ok hz (by omega)  hv) rfl (Nat.le_of_ble_eq_true rfl) (Nat.zero_le _) (Nat.zero_le _) (fun r1 hr => ?_)
  exact mb_xlret dX11_peeped_168 rfl hr
def X11_peeped_b152 (e : mm_E) (t0 : Int64) (m : mm_V) : Option ((Int64 ⊕ String) × mm_V) := some (.inl t0, m)
theorem X11_peeped_b152_ok {K : mm_K} {e : mm_E} (hz : e.2.1 = K.2.2.2.2) {d : Nat} (hd : 11 ≤ d) {t0 : Int64} {a0 : Nat} (h0 : e.1 a0 = some (11, 19)) {m : mm_V} {r : ((Int64 ⊕ String) × mm_V)} (hr : X11_peeped_b152 e t0 m = some r) : mm_G K MX11_peeped d (mm_Xl e.1 r) 152 [none, none, none, none, none, none, none, none, none, none, none] [.long t0] (e.1, m) none 0 0 := by
  obtain ⟨d, rfl⟩ : ∃ d', d = d' + 1 := ⟨d - 1, by omega⟩
  unfold X11_peeped_b152 at hr
  exact mb_xlret dX11_peeped_152 rfl hr
def X11_peeped_b127 (e : mm_E) (k44 : Int64 → Int64 → Int32 → Int32 → Int32 → mm_V → Option ((Int64 ⊕ String) × mm_V)) (a0 : Nat) (i1 : Int32) (i2 : Int32) (j3 : Int64) (j5 : Int64) (i7 : Int32) (i8 : Int32) (i9 : Int32) (m : mm_V) : Option ((Int64 ⊕ String) × mm_V) := k44 j3 j5 i7 i8 (i9 + (-1)) m
theorem X11_peeped_b127_ok {K : mm_K} {e : mm_E} (hz : e.2.1 = K.2.2.2.2) {d : Nat} (hd : 11 ≤ d) {a0 : Nat} {i1 : Int32} {i2 : Int32} {j3 : Int64} {j5 : Int64} {i7 : Int32} {i8 : Int32} {i9 : Int32} (h0 : e.1 a0 = some (11, 19)) {k44 : Int64 → Int64 → Int32 → Int32 → Int32 → mm_V → Option ((Int64 ⊕ String) × mm_V)} (hk44 : ∀ (w3 : Int64) (w5 : Int64) (w7 : Int32) (w8 : Int32) (w9 : Int32) (m : mm_V) (r : ((Int64 ⊕ String) × mm_V)), k44 w3 w5 w7 w8 w9 m = some r → mm_G K MX11_peeped d (mm_Xl e.1 r) 44 [some (.ref a0), some (.int i1), some (.int i2), some (.long w3), none, some (.long w5), none, some (.int w7), some (.int w8), some (.int w9), none] [] (e.1, m) none 0 0) {m : mm_V} {r : ((Int64 ⊕ String) × mm_V)} (hr : X11_peeped_b127 e k44 a0 i1 i2 j3 j5 i7 i8 i9 m = some r) : mm_G K MX11_peeped d (mm_Xl e.1 r) 127 [some (.ref a0), some (.int i1), some (.int i2), some (.long j3), none, some (.long j5), none, some (.int i7), some (.int i8), some (.int i9), none] [] (e.1, m) none 0 0 := by
  obtain ⟨d, rfl⟩ : ∃ d', d = d' + 1 := ⟨d - 1, by omega⟩
  unfold X11_peeped_b127 at hr
  refine ml_iinc (pc := 127) dX11_peeped_127 (mm_get_s (mm_get_s (mm_get_s (mm_get_s (mm_get_s (mm_get_s (mm_get_s (mm_get_s (mm_get_s mm_get_0))))))))) (congrArg (fun z => i9 + z) kc_m1) (Nat.le_of_ble_eq_true rfl) (mm_st1_s (mm_st1_s (mm_st1_s (mm_st1_s (mm_st1_s (mm_st1_s (mm_st1_s (mm_st1_s mm_st1_i)))))))) ?_
  refine mg_goto (pc := 130) 44 dX11_peeped_130 rfl ?_
  exact mg_weak (mm_le_s (mm_le_s (mm_le_s (mm_le_s (mm_le_n (mm_le_s (mm_le_n (mm_le_s (mm_le_s (mm_le_s (mm_le_n mm_le_0))))))))))) (hk44 _ _ _ _ _ _ _ hr)
def X11_peeped_b124 (e : mm_E) (k44 : Int64 → Int64 → Int32 → Int32 → Int32 → mm_V → Option ((Int64 ⊕ String) × mm_V)) (a0 : Nat) (i1 : Int32) (i2 : Int32) (j3 : Int64) (j5 : Int64) (i7 : Int32) (i9 : Int32) (t0 : Int32) (t1 : Int32) (m : mm_V) : Option ((Int64 ⊕ String) × mm_V) := X11_peeped_b127 e k44 a0 i1 i2 j3 j5 i7 (t0 + t1) i9  m
theorem X11_peeped_b124_ok {K : mm_K} {e : mm_E} (hz : e.2.1 = K.2.2.2.2) {d : Nat} (hd : 11 ≤ d) {a0 : Nat} {i1 : Int32} {i2 : Int32} {j3 : Int64} {j5 : Int64} {i7 : Int32} {i9 : Int32} {t0 : Int32} {t1 : Int32} (h0 : e.1 a0 = some (11, 19)) {k44 : Int64 → Int64 → Int32 → Int32 → Int32 → mm_V → Option ((Int64 ⊕ String) × mm_V)} (hk44 : ∀ (w3 : Int64) (w5 : Int64) (w7 : Int32) (w8 : Int32) (w9 : Int32) (m : mm_V) (r : ((Int64 ⊕ String) × mm_V)), k44 w3 w5 w7 w8 w9 m = some r → mm_G K MX11_peeped d (mm_Xl e.1 r) 44 [some (.ref a0), some (.int i1), some (.int i2), some (.long w3), none, some (.long w5), none, some (.int w7), some (.int w8), some (.int w9), none] [] (e.1, m) none 0 0) {m : mm_V} {r : ((Int64 ⊕ String) × mm_V)} (hr : X11_peeped_b124 e k44 a0 i1 i2 j3 j5 i7 i9 t0 t1 m = some r) : mm_G K MX11_peeped d (mm_Xl e.1 r) 124 [some (.ref a0), some (.int i1), some (.int i2), some (.long j3), none, some (.long j5), none, some (.int i7), none, some (.int i9), none] [.int t1, .int t0] (e.1, m) none 0 0 := by
  obtain ⟨d, rfl⟩ : ∃ d', d = d' + 1 := ⟨d - 1, by omega⟩
  unfold X11_peeped_b124 at hr
  refine mg_iadd (pc := 124) dX11_peeped_124 ?_
  refine ml_istore (pc := 125) dX11_peeped_125 (Nat.le_of_ble_eq_true rfl) (mm_st1_s (mm_st1_s (mm_st1_s (mm_st1_s (mm_st1_s (mm_st1_s (mm_st1_s mm_st1_i))))))) ?_
  exact mg_weak (mm_le_s (mm_le_s (mm_le_s (mm_le_s (mm_le_n (mm_le_s (mm_le_n (mm_le_s (mm_le_s (mm_le_s (mm_le_n mm_le_0))))))))))) (X11_peeped_b127_ok hz hd h0 hk44 hr)
def X11_peeped_b106 (e : mm_E) (k44 : Int64 → Int64 → Int32 → Int32 → Int32 → mm_V → Option ((Int64 ⊕ String) × mm_V)) (a0 : Nat) (i1 : Int32) (i2 : Int32) (j3 : Int64) (j5 : Int64) (i7 : Int32) (i8 : Int32) (i9 : Int32) (a10 : Nat) (m : mm_V) : Option ((Int64 ⊕ String) × mm_V) := (mm_gi e.1 m 2 9 a10 5).bind fun x1 => if ¬ x1 = 0 then (X11_peeped_b124 e k44 a0 i1 i2 j3 j5 (i7 + 1) i9 i8 (0 : Int32) m) else (X11_peeped_b124 e k44 a0 i1 i2 j3 j5 (i7 + 1) i9 i8 (1 : Int32) m)
theorem X11_peeped_b106_ok {K : mm_K} {e : mm_E} (hz : e.2.1 = K.2.2.2.2) {d : Nat} (hd : 11 ≤ d) {a0 : Nat} {i1 : Int32} {i2 : Int32} {j3 : Int64} {j5 : Int64} {i7 : Int32} {i8 : Int32} {i9 : Int32} {a10 : Nat} (h0 : e.1 a0 = some (11, 19)) {k44 : Int64 → Int64 → Int32 → Int32 → Int32 → mm_V → Option ((Int64 ⊕ String) × mm_V)} (hk44 : ∀ (w3 : Int64) (w5 : Int64) (w7 : Int32) (w8 : Int32) (w9 : Int32) (m : mm_V) (r : ((Int64 ⊕ String) × mm_V)), k44 w3 w5 w7 w8 w9 m = some r → mm_G K MX11_peeped d (mm_Xl e.1 r) 44 [some (.ref a0), some (.int i1), some (.int i2), some (.long w3), none, some (.long w5), none, some (.int w7), some (.int w8), some (.int w9), none] [] (e.1, m) none 0 0) {m : mm_V} {r : ((Int64 ⊕ String) × mm_V)} (hr : X11_peeped_b106 e k44 a0 i1 i2 j3 j5 i7 i8 i9 a10 m = some r) : mm_G K MX11_peeped d (mm_Xl e.1 r) 106 [some (.ref a0), some (.int i1), some (.int i2), some (.long j3), none, some (.long j5), none, some (.int i7), some (.int i8), some (.int i9), some (.ref a10)] [] (e.1, m) none 0 0 := by
  obtain ⟨d, rfl⟩ : ∃ d', d = d' + 1 := ⟨d - 1, by omega⟩
  unfold X11_peeped_b106 at hr
  refine ml_iinc (pc := 106) dX11_peeped_106 (mm_get_s (mm_get_s (mm_get_s (mm_get_s (mm_get_s (mm_get_s (mm_get_s mm_get_0))))))) (congrArg (fun z => i7 + z) kc_1) (Nat.le_of_ble_eq_true rfl) (mm_st1_s (mm_st1_s (mm_st1_s (mm_st1_s (mm_st1_s (mm_st1_s mm_st1_n)))))) ?_
  refine ml_iload (pc := 109) dX11_peeped_109 (mm_get_s (mm_get_s (mm_get_s (mm_get_s (mm_get_s (mm_get_s (mm_get_s (mm_get_s mm_get_0)))))))) ?_
  refine ml_aload (pc := 111) dX11_peeped_111 (mm_get_s (mm_get_s (mm_get_s (mm_get_s (mm_get_s (mm_get_s (mm_get_s (mm_get_s (mm_get_s (mm_get_s mm_get_0)))))))))) ?_
  refine mb_gi (pc := 113) dX11_peeped_113 fl_X11_197 hr (fun x1 hr => ?_)
  refine mb_if_ne (pc := 116) 123 dX11_peeped_116 rfl hr (fun hr => ?_) (fun hr => ?_)
  · refine mg_iconst (pc := 123) dX11_peeped_123 kc_0 ?_
    exact mg_weak (mm_le_s (mm_le_s (mm_le_s (mm_le_s (mm_le_n (mm_le_s (mm_le_n (mm_le_s (mm_le_n (mm_le_s (mm_le_n mm_le_0))))))))))) (X11_peeped_b124_ok hz hd h0 hk44 hr)
  · refine mg_iconst (pc := 119) dX11_peeped_119 kc_1 ?_
    refine mg_goto (pc := 120) 124 dX11_peeped_120 rfl ?_
    exact mg_weak (mm_le_s (mm_le_s (mm_le_s (mm_le_s (mm_le_n (mm_le_s (mm_le_n (mm_le_s (mm_le_n (mm_le_s (mm_le_n mm_le_0))))))))))) (X11_peeped_b124_ok hz hd h0 hk44 hr)
def X11_peeped_L44 (e : mm_E) (a0 : Nat) (i1 : Int32) (i2 : Int32) : Nat → Int64 → Int64 → Int32 → Int32 → Int32 → mm_V → Option ((Int64 ⊕ String) × mm_V)
  | 0, _, _, _, _, _, _ => none
  | n + 1, j3, j5, i7, i8, i9, m => if i9 < 0 then (if i2 < (2 : Int32) then (if ¬ i2 = 0 then (X11_peeped_b165 e  j3 j5 (0 : Int32) m) else (X11_peeped_b165 e  j3 j5 (1 : Int32) m)) else (if ¬ i2 = (2 : Int32) then (X11_peeped_b152 e  i8.toInt64 m) else (X11_peeped_b152 e  i7.toInt64 m))) else ((mm_gr e.1 m 11 19 a0 4).bind fun c1 => if e.1 c1 = some (5, 4) then ((X5_at e c1 i9 m).bind fun r2 => (mm_gi e.1 r2.2 2 9 r2.1 0).bind fun x4 => if ¬ x4 = i1 then (X11_peeped_b127 e (X11_peeped_L44 e a0 i1 i2 n) a0 i1 i2 j3 j5 i7 i8 i9  r2.2) else ((mm_gi e.1 r2.2 2 9 r2.1 4).bind fun x5 => if x5 = 0 then (X11_peeped_b127 e (X11_peeped_L44 e a0 i1 i2 n) a0 i1 i2 j3 j5 i7 i8 i9  r2.2) else (if (12 : Int32) ≤ i7 then (X11_peeped_b106 e (X11_peeped_L44 e a0 i1 i2 n) a0 i1 i2 j3 j5 i7 i8 i9 r2.1  r2.2) else ((mm_gi e.1 r2.2 2 9 r2.1 3).bind fun x6 => (mm_gi e.1 r2.2 2 9 r2.1 3).bind fun x7 => X11_peeped_b106 e (X11_peeped_L44 e a0 i1 i2 n) a0 i1 i2 (j3 * (x6 - (1 : Int32)).toInt64) (j5 * x7.toInt64) i7 i8 i9 r2.1  r2.2)))) else none)
theorem X11_peeped_L44_ok {K : mm_K} {e : mm_E} (hz : e.2.1 = K.2.2.2.2) {d : Nat} (hd : 11 ≤ d) {a0 : Nat} {i1 : Int32} {i2 : Int32} (h0 : e.1 a0 = some (11, 19)) : ∀ (n : Nat) (j3 : Int64) (j5 : Int64) (i7 : Int32) (i8 : Int32) (i9 : Int32) (m : mm_V) (r : ((Int64 ⊕ String) × mm_V)), X11_peeped_L44 e a0 i1 i2 n j3 j5 i7 i8 i9 m = some r → mm_G K MX11_peeped d (mm_Xl e.1 r) 44 [some (.ref a0), some (.int i1), some (.int i2), some (.long j3), none, some (.long j5), none, some (.int i7), some (.int i8), some (.int i9), none] [] (e.1, m) none 0 0 := by
  obtain ⟨d, rfl⟩ : ∃ d', d = d' + 1 := ⟨d - 1, by omega⟩
  intro n
  induction n with
  | zero => intro j3 j5 i7 i8 i9 m r hr; unfold X11_peeped_L44 at hr; cases hr
  | succ n ih =>
    intro j3 j5 i7 i8 i9 m r hr
    unfold X11_peeped_L44 at hr
    refine ml_iload (pc := 44) dX11_peeped_44 (mm_get_s (mm_get_s (mm_get_s (mm_get_s (mm_get_s (mm_get_s (mm_get_s (mm_get_s (mm_get_s mm_get_0))))))))) ?_
    refine mb_if_lt (pc := 46) 133 dX11_peeped_46 rfl hr (fun hr => ?_) (fun hr => ?_)
    · refine ml_iload_n (pc := 133) dX11_peeped_133 rfl (mm_get_s (mm_get_s mm_get_0)) ?_
      refine mg_iconst (pc := 134) dX11_peeped_134 kc_2 ?_
      refine mb_icmp_lt (pc := 135) 153 dX11_peeped_135 rfl hr (fun hr => ?_) (fun hr => ?_)
      · refine ml_lload_n (pc := 153) dX11_peeped_153 rfl (mm_get_s (mm_get_s (mm_get_s mm_get_0))) ?_
        refine ml_lload (pc := 154) dX11_peeped_154 (mm_get_s (mm_get_s (mm_get_s (mm_get_s (mm_get_s mm_get_0))))) ?_
        refine ml_iload_n (pc := 156) dX11_peeped_156 rfl (mm_get_s (mm_get_s mm_get_0)) ?_
        refine mb_if_ne (pc := 157) 164 dX11_peeped_157 rfl hr (fun hr => ?_) (fun hr => ?_)
        · refine mg_iconst (pc := 164) dX11_peeped_164 kc_0 ?_
          exact mg_weak (mm_le_n (mm_le_n (mm_le_n (mm_le_n (mm_le_n (mm_le_n (mm_le_n (mm_le_n (mm_le_n (mm_le_n (mm_le_n mm_le_0))))))))))) (X11_peeped_b165_ok hz hd h0 hr)
        · refine mg_iconst (pc := 160) dX11_peeped_160 kc_1 ?_
          refine mg_goto (pc := 161) 165 dX11_peeped_161 rfl ?_
          exact mg_weak (mm_le_n (mm_le_n (mm_le_n (mm_le_n (mm_le_n (mm_le_n (mm_le_n (mm_le_n (mm_le_n (mm_le_n (mm_le_n mm_le_0))))))))))) (X11_peeped_b165_ok hz hd h0 hr)
      · refine ml_iload_n (pc := 138) dX11_peeped_138 rfl (mm_get_s (mm_get_s mm_get_0)) ?_
        refine mg_iconst (pc := 139) dX11_peeped_139 kc_2 ?_
        refine mb_icmp_ne (pc := 140) 149 dX11_peeped_140 rfl hr (fun hr => ?_) (fun hr => ?_)
        · refine ml_iload (pc := 149) dX11_peeped_149 (mm_get_s (mm_get_s (mm_get_s (mm_get_s (mm_get_s (mm_get_s (mm_get_s (mm_get_s mm_get_0)))))))) ?_
          refine mg_i2l (pc := 151) dX11_peeped_151 ?_
          exact mg_weak (mm_le_n (mm_le_n (mm_le_n (mm_le_n (mm_le_n (mm_le_n (mm_le_n (mm_le_n (mm_le_n (mm_le_n (mm_le_n mm_le_0))))))))))) (X11_peeped_b152_ok hz hd h0 hr)
        · refine ml_iload (pc := 143) dX11_peeped_143 (mm_get_s (mm_get_s (mm_get_s (mm_get_s (mm_get_s (mm_get_s (mm_get_s mm_get_0))))))) ?_
          refine mg_i2l (pc := 145) dX11_peeped_145 ?_
          refine mg_goto (pc := 146) 152 dX11_peeped_146 rfl ?_
          exact mg_weak (mm_le_n (mm_le_n (mm_le_n (mm_le_n (mm_le_n (mm_le_n (mm_le_n (mm_le_n (mm_le_n (mm_le_n (mm_le_n mm_le_0))))))))))) (X11_peeped_b152_ok hz hd h0 hr)
    · refine ml_aload_n (pc := 49) dX11_peeped_49 rfl mm_get_0 ?_
      refine mb_gr (pc := 50) dX11_peeped_50 fl_X11_35 hr (fun c1 hr => ?_)
      refine ml_iload (pc := 53) dX11_peeped_53 (mm_get_s (mm_get_s (mm_get_s (mm_get_s (mm_get_s (mm_get_s (mm_get_s (mm_get_s (mm_get_s mm_get_0))))))))) ?_
      refine mb_ck hr (fun hb3 hr => ?_)
      refine mb_cVr (pc := 55) (As := [.int i9]) (rest := []) dX11_peeped_55 cw_X11_205 hb3 hr (fun v hv => X5_at_ok hz (by omega) hb3 hv) rfl (Nat.le_of_ble_eq_true rfl) (Nat.zero_le _) (Nat.zero_le _) (fun r2 hr => ?_)
      refine ml_astore (pc := 58) dX11_peeped_58 (Nat.le_of_ble_eq_true rfl) (mm_st1_s (mm_st1_s (mm_st1_s (mm_st1_s (mm_st1_s (mm_st1_s (mm_st1_s (mm_st1_s (mm_st1_s mm_st1_i))))))))) ?_
      refine ml_aload (pc := 60) dX11_peeped_60 (mm_get_s (mm_get_s (mm_get_s (mm_get_s (mm_get_s (mm_get_s (mm_get_s (mm_get_s (mm_get_s (mm_get_s mm_get_0)))))))))) ?_
      refine mb_gi (pc := 62) dX11_peeped_62 fl_X11_271 hr (fun x4 hr => ?_)
      refine ml_iload_n (pc := 65) dX11_peeped_65 rfl (mm_get_s mm_get_0) ?_
      refine mb_icmp_ne (pc := 66) 127 dX11_peeped_66 rfl hr (fun hr => ?_) (fun hr => ?_)
      · exact mg_weak (mm_le_s (mm_le_s (mm_le_s (mm_le_s (mm_le_n (mm_le_s (mm_le_n (mm_le_s (mm_le_s (mm_le_s (mm_le_n mm_le_0))))))))))) (X11_peeped_b127_ok hz hd h0 ih hr)
      · refine ml_aload (pc := 69) dX11_peeped_69 (mm_get_s (mm_get_s (mm_get_s (mm_get_s (mm_get_s (mm_get_s (mm_get_s (mm_get_s (mm_get_s (mm_get_s mm_get_0)))))))))) ?_
        refine mb_gi (pc := 71) dX11_peeped_71 fl_X11_274 hr (fun x5 hr => ?_)
        refine mb_if_eq (pc := 74) 127 dX11_peeped_74 rfl hr (fun hr => ?_) (fun hr => ?_)
        · exact mg_weak (mm_le_s (mm_le_s (mm_le_s (mm_le_s (mm_le_n (mm_le_s (mm_le_n (mm_le_s (mm_le_s (mm_le_s (mm_le_n mm_le_0))))))))))) (X11_peeped_b127_ok hz hd h0 ih hr)
        · refine ml_iload (pc := 77) dX11_peeped_77 (mm_get_s (mm_get_s (mm_get_s (mm_get_s (mm_get_s (mm_get_s (mm_get_s mm_get_0))))))) ?_
          refine mg_bipush (pc := 79) dX11_peeped_79 kb_12 ?_
          refine mb_icmp_ge (pc := 81) 106 dX11_peeped_81 rfl hr (fun hr => ?_) (fun hr => ?_)
          · exact mg_weak (mm_le_s (mm_le_s (mm_le_s (mm_le_s (mm_le_n (mm_le_s (mm_le_n (mm_le_s (mm_le_s (mm_le_s (mm_le_s mm_le_0))))))))))) (X11_peeped_b106_ok hz hd h0 ih hr)
          · refine ml_lload_n (pc := 84) dX11_peeped_84 rfl (mm_get_s (mm_get_s (mm_get_s mm_get_0))) ?_
            refine ml_aload (pc := 85) dX11_peeped_85 (mm_get_s (mm_get_s (mm_get_s (mm_get_s (mm_get_s (mm_get_s (mm_get_s (mm_get_s (mm_get_s (mm_get_s mm_get_0)))))))))) ?_
            refine mb_gi (pc := 87) dX11_peeped_87 fl_X11_276 hr (fun x6 hr => ?_)
            refine mg_iconst (pc := 90) dX11_peeped_90 kc_1 ?_
            refine mg_isub (pc := 91) dX11_peeped_91 ?_
            refine mg_i2l (pc := 92) dX11_peeped_92 ?_
            refine mg_lmul (pc := 93) dX11_peeped_93 ?_
            refine ml_lstore_n (pc := 94) dX11_peeped_94 rfl (Nat.le_of_ble_eq_true rfl) (mm_st2_s (mm_st2_s mm_st2_i)) ?_
            refine ml_lload (pc := 95) dX11_peeped_95 (mm_get_s (mm_get_s (mm_get_s (mm_get_s (mm_get_s mm_get_0))))) ?_
            refine ml_aload (pc := 97) dX11_peeped_97 (mm_get_s (mm_get_s (mm_get_s (mm_get_s (mm_get_s (mm_get_s (mm_get_s (mm_get_s (mm_get_s (mm_get_s mm_get_0)))))))))) ?_
            refine mb_gi (pc := 99) dX11_peeped_99 fl_X11_276 hr (fun x7 hr => ?_)
            refine mg_i2l (pc := 102) dX11_peeped_102 ?_
            refine mg_lmul (pc := 103) dX11_peeped_103 ?_
            refine ml_lstore (pc := 104) dX11_peeped_104 (Nat.le_of_ble_eq_true rfl) (mm_st2_s (mm_st2_s (mm_st2_s (mm_st2_s mm_st2_n)))) ?_
            exact mg_weak (mm_le_s (mm_le_s (mm_le_s (mm_le_s (mm_le_n (mm_le_s (mm_le_n (mm_le_s (mm_le_s (mm_le_s (mm_le_s mm_le_0))))))))))) (X11_peeped_b106_ok hz hd h0 ih hr)
def X11_peeped_b19 (e : mm_E) (a0 : Nat) (i1 : Int32) (i2 : Int32) (t0 : Int32) (m : mm_V) : Option ((Int64 ⊕ String) × mm_V) := mm_bx (X11_need e t0 m) fun r1 => (mm_gr e.1 r1.2 11 19 a0 4).bind fun c2 => (mm_gi e.1 r1.2 5 4 c2 3).bind fun x3 => X11_peeped_L44 e a0 i1 i2 e.2.2 (1 : Int64) (1 : Int64) (0 : Int32) (0 : Int32) (x3 - (1 : Int32)) r1.2
theorem X11_peeped_b19_ok {K : mm_K} {e : mm_E} (hz : e.2.1 = K.2.2.2.2) {d : Nat} (hd : 11 ≤ d) {a0 : Nat} {i1 : Int32} {i2 : Int32} {t0 : Int32} (h0 : e.1 a0 = some (11, 19)) {m : mm_V} {r : ((Int64 ⊕ String) × mm_V)} (hr : X11_peeped_b19 e a0 i1 i2 t0 m = some r) : mm_G K MX11_peeped d (mm_Xl e.1 r) 19 [some (.ref a0), some (.int i1), some (.int i2), none, none, none, none, none, none, none, none] [.int t0] (e.1, m) none 0 0 := by
  obtain ⟨d, rfl⟩ : ∃ d', d = d' + 1 := ⟨d - 1, by omega⟩
  unfold X11_peeped_b19 at hr
  refine mb_xSv (pc := 19) (As := [.int t0]) (rest := []) dX11_peeped_19 cw_X11_164 tw_1037  rfl hr (fun v hv => X11_need_ok hz (by omega)  hv) rfl (Nat.le_of_ble_eq_true rfl) (fun r1 hr => ?_)
  refine mg_lconst (pc := 22) dX11_peeped_22 (v := (1 : Int64)) (by decide) ?_
  refine ml_lstore_n (pc := 23) dX11_peeped_23 rfl (Nat.le_of_ble_eq_true rfl) (mm_st2_s (mm_st2_s mm_st2_i)) ?_
  refine mg_lconst (pc := 24) dX11_peeped_24 (v := (1 : Int64)) (by decide) ?_
  refine ml_lstore (pc := 25) dX11_peeped_25 (Nat.le_of_ble_eq_true rfl) (mm_st2_s (mm_st2_s (mm_st2_s (mm_st2_s mm_st2_n)))) ?_
  refine mg_iconst (pc := 27) dX11_peeped_27 kc_0 ?_
  refine ml_istore (pc := 28) dX11_peeped_28 (Nat.le_of_ble_eq_true rfl) (mm_st1_s (mm_st1_s (mm_st1_s (mm_st1_s (mm_st1_s (mm_st1_s mm_st1_n)))))) ?_
  refine mg_iconst (pc := 30) dX11_peeped_30 kc_0 ?_
  refine ml_istore (pc := 31) dX11_peeped_31 (Nat.le_of_ble_eq_true rfl) (mm_st1_s (mm_st1_s (mm_st1_s (mm_st1_s (mm_st1_s (mm_st1_s (mm_st1_s mm_st1_i))))))) ?_
  refine ml_aload_n (pc := 33) dX11_peeped_33 rfl mm_get_0 ?_
  refine mb_gr (pc := 34) dX11_peeped_34 fl_X11_35 hr (fun c2 hr => ?_)
  refine mb_gi (pc := 37) dX11_peeped_37 fl_X11_134 hr (fun x3 hr => ?_)
  refine mg_iconst (pc := 40) dX11_peeped_40 kc_1 ?_
  refine mg_isub (pc := 41) dX11_peeped_41 ?_
  refine ml_istore (pc := 42) dX11_peeped_42 (Nat.le_of_ble_eq_true rfl) (mm_st1_s (mm_st1_s (mm_st1_s (mm_st1_s (mm_st1_s (mm_st1_s (mm_st1_s (mm_st1_s mm_st1_i)))))))) ?_
  exact mg_weak (mm_le_s (mm_le_s (mm_le_s (mm_le_s (mm_le_n (mm_le_s (mm_le_n (mm_le_s (mm_le_s (mm_le_s (mm_le_n mm_le_0))))))))))) (X11_peeped_L44_ok hz hd h0 _ _ _ _ _ _ _ _ hr)
def X11_peeped_b18 (e : mm_E) (a0 : Nat) (i1 : Int32) (i2 : Int32) (m : mm_V) : Option ((Int64 ⊕ String) × mm_V) := X11_peeped_b19 e a0 i1 i2 (0 : Int32) m
theorem X11_peeped_b18_ok {K : mm_K} {e : mm_E} (hz : e.2.1 = K.2.2.2.2) {d : Nat} (hd : 11 ≤ d) {a0 : Nat} {i1 : Int32} {i2 : Int32} (h0 : e.1 a0 = some (11, 19)) {m : mm_V} {r : ((Int64 ⊕ String) × mm_V)} (hr : X11_peeped_b18 e a0 i1 i2 m = some r) : mm_G K MX11_peeped d (mm_Xl e.1 r) 18 [some (.ref a0), some (.int i1), some (.int i2), none, none, none, none, none, none, none, none] [] (e.1, m) none 0 0 := by
  obtain ⟨d, rfl⟩ : ∃ d', d = d' + 1 := ⟨d - 1, by omega⟩
  unfold X11_peeped_b18 at hr
  refine mg_iconst (pc := 18) dX11_peeped_18 kc_0 ?_
  exact mg_weak (mm_le_s (mm_le_s (mm_le_s (mm_le_n (mm_le_n (mm_le_n (mm_le_n (mm_le_n (mm_le_n (mm_le_n (mm_le_n mm_le_0))))))))))) (X11_peeped_b19_ok hz hd h0 hr)
def X11_peeped (e : mm_E) (a0 : Nat) (i1 : Int32) (i2 : Int32) (m : mm_V) : Option ((Int64 ⊕ String) × mm_V) := mm_bx (X11_needPerson e a0 i1 m) fun r1 => if i2 < 0 then (X11_peeped_b18 e a0 i1 i2  r1.2) else (if (3 : Int32) < i2 then (X11_peeped_b18 e a0 i1 i2  r1.2) else (X11_peeped_b19 e a0 i1 i2 (1 : Int32) r1.2))
theorem X11_peeped_ok {K : mm_K} {e : mm_E} (hz : e.2.1 = K.2.2.2.2) {d : Nat} (hd : 11 ≤ d) {a0 : Nat} {i1 : Int32} {i2 : Int32} (h0 : e.1 a0 = some (11, 19)) {m : mm_V} {r : ((Int64 ⊕ String) × mm_V)} (hr : X11_peeped e a0 i1 i2 m = some r) : mm_Cn K MX11_peeped d (mm_Xl e.1 r) [.ref a0, .int i1, .int i2] (e.1, m) none := by
  obtain ⟨d, rfl⟩ : ∃ d', d = d' + 1 := ⟨d - 1, by omega⟩
  refine mm_entry (by decide) (Nat.le_of_ble_eq_true rfl) rfl (fun hok => ?_)
  unfold X11_peeped at hr
  refine mg_weak (L' := [some (.ref a0), some (.int i1), some (.int i2), none, none, none, none, none, none, none, none]) (mm_le_s (mm_le_s (mm_le_s (mm_le_e (mm_le_e (mm_le_e (mm_le_e (mm_le_e (mm_le_e (mm_le_e (mm_le_e mm_le_0))))))))))) ?_
  refine ml_aload_n (pc := 0) dX11_peeped_0 rfl mm_get_0 ?_
  refine ml_iload_n (pc := 1) dX11_peeped_1 rfl (mm_get_s mm_get_0) ?_
  refine mb_xVv (pc := 2) (As := [.int i1]) (rest := []) dX11_peeped_2 cw_X11_150 tw_1029 h0 rfl hr (fun v hv => X11_needPerson_ok hz (by omega) h0 hv) rfl (Nat.le_of_ble_eq_true rfl) (fun r1 hr => ?_)
  refine ml_iload_n (pc := 5) dX11_peeped_5 rfl (mm_get_s (mm_get_s mm_get_0)) ?_
  refine mb_if_lt (pc := 6) 18 dX11_peeped_6 rfl hr (fun hr => ?_) (fun hr => ?_)
  · exact mg_weak (mm_le_s (mm_le_s (mm_le_s (mm_le_n (mm_le_n (mm_le_n (mm_le_n (mm_le_n (mm_le_n (mm_le_n (mm_le_n mm_le_0))))))))))) (X11_peeped_b18_ok hz hd h0 hr)
  · refine ml_iload_n (pc := 9) dX11_peeped_9 rfl (mm_get_s (mm_get_s mm_get_0)) ?_
    refine mg_iconst (pc := 10) dX11_peeped_10 kc_3 ?_
    refine mb_icmp_gt (pc := 11) 18 dX11_peeped_11 rfl hr (fun hr => ?_) (fun hr => ?_)
    · exact mg_weak (mm_le_s (mm_le_s (mm_le_s (mm_le_n (mm_le_n (mm_le_n (mm_le_n (mm_le_n (mm_le_n (mm_le_n (mm_le_n mm_le_0))))))))))) (X11_peeped_b18_ok hz hd h0 hr)
    · refine mg_iconst (pc := 14) dX11_peeped_14 kc_1 ?_
      refine mg_goto (pc := 15) 19 dX11_peeped_15 rfl ?_
      exact mg_weak (mm_le_s (mm_le_s (mm_le_s (mm_le_n (mm_le_n (mm_le_n (mm_le_n (mm_le_n (mm_le_n (mm_le_n (mm_le_n mm_le_0))))))))))) (X11_peeped_b19_ok hz hd h0 hr)
theorem dX11_person_0 : decode cX11_person 0 = .ok (.aload_n 0, 1) := by decide +kernel
theorem dX11_person_1 : decode cX11_person 1 = .ok (.iload_n 1, 1) := by decide +kernel
theorem dX11_person_2 : decode cX11_person 2 = .ok (.invokevirtual 150, 3) := by decide +kernel
theorem dX11_person_5 : decode cX11_person 5 = .ok (.iload_n 2, 1) := by decide +kernel
theorem dX11_person_6 : decode cX11_person 6 = .ok (.ifCond .lt 13, 3) := by decide +kernel
theorem dX11_person_9 : decode cX11_person 9 = .ok (.iload_n 2, 1) := by decide +kernel
theorem dX11_person_10 : decode cX11_person 10 = .ok (.bipush 7, 2) := by decide +kernel
theorem dX11_person_12 : decode cX11_person 12 = .ok (.if_icmp .gt 7, 3) := by decide +kernel
theorem dX11_person_15 : decode cX11_person 15 = .ok (.iconst 1, 1) := by decide +kernel
theorem dX11_person_16 : decode cX11_person 16 = .ok (.goto 4, 3) := by decide +kernel
theorem dX11_person_19 : decode cX11_person 19 = .ok (.iconst 0, 1) := by decide +kernel
theorem dX11_person_20 : decode cX11_person 20 = .ok (.invokestatic 164, 3) := by decide +kernel
theorem dX11_person_23 : decode cX11_person 23 = .ok (.iload_n 2, 1) := by decide +kernel
theorem dX11_person_24 : decode cX11_person 24 = .ok (.iconst 2, 1) := by decide +kernel
theorem dX11_person_25 : decode cX11_person 25 = .ok (.if_icmp .lt 15, 3) := by decide +kernel
theorem dX11_person_28 : decode cX11_person 28 = .ok (.aload_n 0, 1) := by decide +kernel
theorem dX11_person_29 : decode cX11_person 29 = .ok (.getfield 16, 3) := by decide +kernel
theorem dX11_person_32 : decode cX11_person 32 = .ok (.iload_n 1, 1) := by decide +kernel
theorem dX11_person_33 : decode cX11_person 33 = .ok (.iload_n 2, 1) := by decide +kernel
theorem dX11_person_34 : decode cX11_person 34 = .ok (.iconst 2, 1) := by decide +kernel
theorem dX11_person_35 : decode cX11_person 35 = .ok (.isub, 1) := by decide +kernel
theorem dX11_person_36 : decode cX11_person 36 = .ok (.invokevirtual 172, 3) := by decide +kernel
theorem dX11_person_39 : decode cX11_person 39 = .ok (.ireturn, 1) := by decide +kernel
theorem dX11_person_40 : decode cX11_person 40 = .ok (.aload_n 0, 1) := by decide +kernel
theorem dX11_person_41 : decode cX11_person 41 = .ok (.getfield 45, 3) := by decide +kernel
theorem dX11_person_44 : decode cX11_person 44 = .ok (.invokevirtual 124, 3) := by decide +kernel
theorem dX11_person_47 : decode cX11_person 47 = .ok (.ifCond .ne 14, 3) := by decide +kernel
theorem dX11_person_50 : decode cX11_person 50 = .ok (.aload_n 0, 1) := by decide +kernel
theorem dX11_person_51 : decode cX11_person 51 = .ok (.getfield 45, 3) := by decide +kernel
theorem dX11_person_54 : decode cX11_person 54 = .ok (.iload_n 1, 1) := by decide +kernel
theorem dX11_person_55 : decode cX11_person 55 = .ok (.invokevirtual 176, 3) := by decide +kernel
theorem dX11_person_58 : decode cX11_person 58 = .ok (.ifCond .eq 5, 3) := by decide +kernel
theorem dX11_person_61 : decode cX11_person 61 = .ok (.iconst (-1), 1) := by decide +kernel
theorem dX11_person_62 : decode cX11_person 62 = .ok (.ireturn, 1) := by decide +kernel
theorem dX11_person_63 : decode cX11_person 63 = .ok (.iload_n 2, 1) := by decide +kernel
theorem dX11_person_64 : decode cX11_person 64 = .ok (.ifCond .ne 14, 3) := by decide +kernel
theorem dX11_person_67 : decode cX11_person 67 = .ok (.aload_n 0, 1) := by decide +kernel
theorem dX11_person_68 : decode cX11_person 68 = .ok (.getfield 45, 3) := by decide +kernel
theorem dX11_person_71 : decode cX11_person 71 = .ok (.iload_n 1, 1) := by decide +kernel
theorem dX11_person_72 : decode cX11_person 72 = .ok (.invokevirtual 179, 3) := by decide +kernel
theorem dX11_person_75 : decode cX11_person 75 = .ok (.goto 11, 3) := by decide +kernel
theorem dX11_person_78 : decode cX11_person 78 = .ok (.aload_n 0, 1) := by decide +kernel
theorem dX11_person_79 : decode cX11_person 79 = .ok (.getfield 45, 3) := by decide +kernel
theorem dX11_person_82 : decode cX11_person 82 = .ok (.iload_n 1, 1) := by decide +kernel
theorem dX11_person_83 : decode cX11_person 83 = .ok (.invokevirtual 182, 3) := by decide +kernel
theorem dX11_person_86 : decode cX11_person 86 = .ok (.ireturn, 1) := by decide +kernel
def X11_person_b86 (e : mm_E) (t0 : Int32) (m : mm_V) : Option ((Int32 ⊕ String) × mm_V) := some (.inl t0, m)
theorem X11_person_b86_ok {K : mm_K} {e : mm_E} (hz : e.2.1 = K.2.2.2.2) {d : Nat} (hd : 11 ≤ d) {t0 : Int32} {a0 : Nat} (h0 : e.1 a0 = some (11, 19)) {m : mm_V} {r : ((Int32 ⊕ String) × mm_V)} (hr : X11_person_b86 e t0 m = some r) : mm_G K MX11_person d (mm_Xi e.1 r) 86 [none, none, none] [.int t0] (e.1, m) none 0 0 := by
  obtain ⟨d, rfl⟩ : ∃ d', d = d' + 1 := ⟨d - 1, by omega⟩
  unfold X11_person_b86 at hr
  exact mb_xiret dX11_person_86 rfl hr
def X11_person_b61 (e : mm_E) (m : mm_V) : Option ((Int32 ⊕ String) × mm_V) := some (.inl (-1 : Int32), m)
theorem X11_person_b61_ok {K : mm_K} {e : mm_E} (hz : e.2.1 = K.2.2.2.2) {d : Nat} (hd : 11 ≤ d) {a0 : Nat} (h0 : e.1 a0 = some (11, 19)) {m : mm_V} {r : ((Int32 ⊕ String) × mm_V)} (hr : X11_person_b61 e m = some r) : mm_G K MX11_person d (mm_Xi e.1 r) 61 [none, none, none] [] (e.1, m) none 0 0 := by
  obtain ⟨d, rfl⟩ : ∃ d', d = d' + 1 := ⟨d - 1, by omega⟩
  unfold X11_person_b61 at hr
  refine mg_iconst (pc := 61) dX11_person_61 kc_m1 ?_
  exact mb_xiret dX11_person_62 rfl hr
def X11_person_b20 (e : mm_E) (a0 : Nat) (i1 : Int32) (i2 : Int32) (t0 : Int32) (m : mm_V) : Option ((Int32 ⊕ String) × mm_V) := mm_bx (X11_need e t0 m) fun r1 => if i2 < (2 : Int32) then ((mm_gr e.1 r1.2 11 19 a0 6).bind fun c2 => if e.1 c2 = some (4, 12) then ((X4_over e c2 r1.2).bind fun r3 => if ¬ r3.1 = 0 then (X11_person_b61 e   r3.2) else ((mm_gr e.1 r3.2 11 19 a0 6).bind fun c5 => if e.1 c5 = some (4, 12) then ((X4_isEmpty e c5 i1 r3.2).bind fun r6 => if r6.1 = 0 then (if ¬ i2 = 0 then ((mm_gr e.1 r6.2 11 19 a0 6).bind fun c8 => if e.1 c8 = some (4, 12) then ((X4_rulePlace e c8 i1 r6.2).bind fun r9 => X11_person_b86 e  r9.1 r9.2) else none) else ((mm_gr e.1 r6.2 11 19 a0 6).bind fun c11 => if e.1 c11 = some (4, 12) then ((X4_source e c11 i1 r6.2).bind fun r12 => X11_person_b86 e  r12.1 r12.2) else none)) else (X11_person_b61 e   r6.2)) else none)) else none) else ((mm_gr e.1 r1.2 11 19 a0 1).bind fun c14 => if e.1 c14 = some (10, 11) then ((X10_weight e c14 i1 (i2 - (2 : Int32)) r1.2).bind fun r15 => some (.inl r15.1, r15.2)) else none)
theorem X11_person_b20_ok {K : mm_K} {e : mm_E} (hz : e.2.1 = K.2.2.2.2) {d : Nat} (hd : 11 ≤ d) {a0 : Nat} {i1 : Int32} {i2 : Int32} {t0 : Int32} (h0 : e.1 a0 = some (11, 19)) {m : mm_V} {r : ((Int32 ⊕ String) × mm_V)} (hr : X11_person_b20 e a0 i1 i2 t0 m = some r) : mm_G K MX11_person d (mm_Xi e.1 r) 20 [some (.ref a0), some (.int i1), some (.int i2)] [.int t0] (e.1, m) none 0 0 := by
  obtain ⟨d, rfl⟩ : ∃ d', d = d' + 1 := ⟨d - 1, by omega⟩
  unfold X11_person_b20 at hr
  refine mb_xSv (pc := 20) (As := [.int t0]) (rest := []) dX11_person_20 cw_X11_164 tw_1037  rfl hr (fun v hv => X11_need_ok hz (by omega)  hv) rfl (Nat.le_of_ble_eq_true rfl) (fun r1 hr => ?_)
  refine ml_iload_n (pc := 23) dX11_person_23 rfl (mm_get_s (mm_get_s mm_get_0)) ?_
  refine mg_iconst (pc := 24) dX11_person_24 kc_2 ?_
  refine mb_icmp_lt (pc := 25) 40 dX11_person_25 rfl hr (fun hr => ?_) (fun hr => ?_)
  · refine ml_aload_n (pc := 40) dX11_person_40 rfl mm_get_0 ?_
    refine mb_gr (pc := 41) dX11_person_41 fl_X11_45 hr (fun c2 hr => ?_)
    refine mb_ck hr (fun hb4 hr => ?_)
    refine mb_cVi (pc := 44) (As := []) (rest := []) dX11_person_44 cw_X11_124 hb4 hr (fun v hv => X4_over_ok hz (by omega) hb4 hv) rfl (Nat.le_of_ble_eq_true rfl) (Nat.zero_le _) (Nat.zero_le _) (fun r3 hr => ?_)
    refine mb_if_ne (pc := 47) 61 dX11_person_47 rfl hr (fun hr => ?_) (fun hr => ?_)
    · exact mg_weak (mm_le_n (mm_le_n (mm_le_n mm_le_0))) (X11_person_b61_ok hz hd h0 hr)
    · refine ml_aload_n (pc := 50) dX11_person_50 rfl mm_get_0 ?_
      refine mb_gr (pc := 51) dX11_person_51 fl_X11_45 hr (fun c5 hr => ?_)
      refine ml_iload_n (pc := 54) dX11_person_54 rfl (mm_get_s mm_get_0) ?_
      refine mb_ck hr (fun hb7 hr => ?_)
      refine mb_cVi (pc := 55) (As := [.int i1]) (rest := []) dX11_person_55 cw_X11_176 hb7 hr (fun v hv => X4_isEmpty_ok hz (by omega) hb7 hv) rfl (Nat.le_of_ble_eq_true rfl) (Nat.zero_le _) (Nat.zero_le _) (fun r6 hr => ?_)
      refine mb_if_eq (pc := 58) 63 dX11_person_58 rfl hr (fun hr => ?_) (fun hr => ?_)
      · refine ml_iload_n (pc := 63) dX11_person_63 rfl (mm_get_s (mm_get_s mm_get_0)) ?_
        refine mb_if_ne (pc := 64) 78 dX11_person_64 rfl hr (fun hr => ?_) (fun hr => ?_)
        · refine ml_aload_n (pc := 78) dX11_person_78 rfl mm_get_0 ?_
          refine mb_gr (pc := 79) dX11_person_79 fl_X11_45 hr (fun c8 hr => ?_)
          refine ml_iload_n (pc := 82) dX11_person_82 rfl (mm_get_s mm_get_0) ?_
          refine mb_ck hr (fun hb10 hr => ?_)
          refine mb_cVi (pc := 83) (As := [.int i1]) (rest := []) dX11_person_83 cw_X11_182 hb10 hr (fun v hv => X4_rulePlace_ok hz (by omega) hb10 hv) rfl (Nat.le_of_ble_eq_true rfl) (Nat.zero_le _) (Nat.zero_le _) (fun r9 hr => ?_)
          exact mg_weak (mm_le_n (mm_le_n (mm_le_n mm_le_0))) (X11_person_b86_ok hz hd h0 hr)
        · refine ml_aload_n (pc := 67) dX11_person_67 rfl mm_get_0 ?_
          refine mb_gr (pc := 68) dX11_person_68 fl_X11_45 hr (fun c11 hr => ?_)
          refine ml_iload_n (pc := 71) dX11_person_71 rfl (mm_get_s mm_get_0) ?_
          refine mb_ck hr (fun hb13 hr => ?_)
          refine mb_cVi (pc := 72) (As := [.int i1]) (rest := []) dX11_person_72 cw_X11_179 hb13 hr (fun v hv => X4_source_ok hz (by omega) hb13 hv) rfl (Nat.le_of_ble_eq_true rfl) (Nat.zero_le _) (Nat.zero_le _) (fun r12 hr => ?_)
          refine mg_goto (pc := 75) 86 dX11_person_75 rfl ?_
          exact mg_weak (mm_le_n (mm_le_n (mm_le_n mm_le_0))) (X11_person_b86_ok hz hd h0 hr)
      · exact mg_weak (mm_le_n (mm_le_n (mm_le_n mm_le_0))) (X11_person_b61_ok hz hd h0 hr)
  · refine ml_aload_n (pc := 28) dX11_person_28 rfl mm_get_0 ?_
    refine mb_gr (pc := 29) dX11_person_29 fl_X11_16 hr (fun c14 hr => ?_)
    refine ml_iload_n (pc := 32) dX11_person_32 rfl (mm_get_s mm_get_0) ?_
    refine ml_iload_n (pc := 33) dX11_person_33 rfl (mm_get_s (mm_get_s mm_get_0)) ?_
    refine mg_iconst (pc := 34) dX11_person_34 kc_2 ?_
    refine mg_isub (pc := 35) dX11_person_35 ?_
    refine mb_ck hr (fun hb16 hr => ?_)
    refine mb_cVi (pc := 36) (As := [.int i1, .int (i2 - (2 : Int32))]) (rest := []) dX11_person_36 cw_X11_172 hb16 hr (fun v hv => X10_weight_ok hz (by omega) hb16 hv) rfl (Nat.le_of_ble_eq_true rfl) (Nat.zero_le _) (Nat.zero_le _) (fun r15 hr => ?_)
    exact mb_xiret dX11_person_39 rfl hr
def X11_person_b19 (e : mm_E) (a0 : Nat) (i1 : Int32) (i2 : Int32) (m : mm_V) : Option ((Int32 ⊕ String) × mm_V) := X11_person_b20 e a0 i1 i2 (0 : Int32) m
theorem X11_person_b19_ok {K : mm_K} {e : mm_E} (hz : e.2.1 = K.2.2.2.2) {d : Nat} (hd : 11 ≤ d) {a0 : Nat} {i1 : Int32} {i2 : Int32} (h0 : e.1 a0 = some (11, 19)) {m : mm_V} {r : ((Int32 ⊕ String) × mm_V)} (hr : X11_person_b19 e a0 i1 i2 m = some r) : mm_G K MX11_person d (mm_Xi e.1 r) 19 [some (.ref a0), some (.int i1), some (.int i2)] [] (e.1, m) none 0 0 := by
  obtain ⟨d, rfl⟩ : ∃ d', d = d' + 1 := ⟨d - 1, by omega⟩
  unfold X11_person_b19 at hr
  refine mg_iconst (pc := 19) dX11_person_19 kc_0 ?_
  exact mg_weak (mm_le_s (mm_le_s (mm_le_s mm_le_0))) (X11_person_b20_ok hz hd h0 hr)
def X11_person (e : mm_E) (a0 : Nat) (i1 : Int32) (i2 : Int32) (m : mm_V) : Option ((Int32 ⊕ String) × mm_V) := mm_bx (X11_needPerson e a0 i1 m) fun r1 => if i2 < 0 then (X11_person_b19 e a0 i1 i2  r1.2) else (if (7 : Int32) < i2 then (X11_person_b19 e a0 i1 i2  r1.2) else (X11_person_b20 e a0 i1 i2 (1 : Int32) r1.2))
theorem X11_person_ok {K : mm_K} {e : mm_E} (hz : e.2.1 = K.2.2.2.2) {d : Nat} (hd : 11 ≤ d) {a0 : Nat} {i1 : Int32} {i2 : Int32} (h0 : e.1 a0 = some (11, 19)) {m : mm_V} {r : ((Int32 ⊕ String) × mm_V)} (hr : X11_person e a0 i1 i2 m = some r) : mm_Cn K MX11_person d (mm_Xi e.1 r) [.ref a0, .int i1, .int i2] (e.1, m) none := by
  obtain ⟨d, rfl⟩ : ∃ d', d = d' + 1 := ⟨d - 1, by omega⟩
  refine mm_entry (by decide) (Nat.le_of_ble_eq_true rfl) rfl (fun hok => ?_)
  unfold X11_person at hr
  refine mg_weak (L' := [some (.ref a0), some (.int i1), some (.int i2)]) (mm_le_s (mm_le_s (mm_le_s mm_le_0))) ?_
  refine ml_aload_n (pc := 0) dX11_person_0 rfl mm_get_0 ?_
  refine ml_iload_n (pc := 1) dX11_person_1 rfl (mm_get_s mm_get_0) ?_
  refine mb_xVv (pc := 2) (As := [.int i1]) (rest := []) dX11_person_2 cw_X11_150 tw_1029 h0 rfl hr (fun v hv => X11_needPerson_ok hz (by omega) h0 hv) rfl (Nat.le_of_ble_eq_true rfl) (fun r1 hr => ?_)
  refine ml_iload_n (pc := 5) dX11_person_5 rfl (mm_get_s (mm_get_s mm_get_0)) ?_
  refine mb_if_lt (pc := 6) 19 dX11_person_6 rfl hr (fun hr => ?_) (fun hr => ?_)
  · exact mg_weak (mm_le_s (mm_le_s (mm_le_s mm_le_0))) (X11_person_b19_ok hz hd h0 hr)
  · refine ml_iload_n (pc := 9) dX11_person_9 rfl (mm_get_s (mm_get_s mm_get_0)) ?_
    refine mg_bipush (pc := 10) dX11_person_10 kb_7 ?_
    refine mb_icmp_gt (pc := 12) 19 dX11_person_12 rfl hr (fun hr => ?_) (fun hr => ?_)
    · exact mg_weak (mm_le_s (mm_le_s (mm_le_s mm_le_0))) (X11_person_b19_ok hz hd h0 hr)
    · refine mg_iconst (pc := 15) dX11_person_15 kc_1 ?_
      refine mg_goto (pc := 16) 20 dX11_person_16 rfl ?_
      exact mg_weak (mm_le_s (mm_le_s (mm_le_s mm_le_0))) (X11_person_b20_ok hz hd h0 hr)
theorem dX11_play_0 : decode cX11_play 0 = .ok (.iload_n 1, 1) := by decide +kernel
theorem dX11_play_1 : decode cX11_play 1 = .ok (.ifCond .lt 14, 3) := by decide +kernel
theorem dX11_play_4 : decode cX11_play 4 = .ok (.iload_n 1, 1) := by decide +kernel
theorem dX11_play_5 : decode cX11_play 5 = .ok (.sipush 200, 3) := by decide +kernel
theorem dX11_play_8 : decode cX11_play 8 = .ok (.if_icmp .gt 7, 3) := by decide +kernel
theorem dX11_play_11 : decode cX11_play 11 = .ok (.iconst 1, 1) := by decide +kernel
theorem dX11_play_12 : decode cX11_play 12 = .ok (.goto 4, 3) := by decide +kernel
theorem dX11_play_15 : decode cX11_play 15 = .ok (.iconst 0, 1) := by decide +kernel
theorem dX11_play_16 : decode cX11_play 16 = .ok (.invokestatic 199, 3) := by decide +kernel
theorem dX11_play_19 : decode cX11_play 19 = .ok (.iconst 0, 1) := by decide +kernel
theorem dX11_play_20 : decode cX11_play 20 = .ok (.istore_n 2, 1) := by decide +kernel
theorem dX11_play_21 : decode cX11_play 21 = .ok (.iload_n 2, 1) := by decide +kernel
theorem dX11_play_22 : decode cX11_play 22 = .ok (.iload_n 1, 1) := by decide +kernel
theorem dX11_play_23 : decode cX11_play 23 = .ok (.if_icmp .ge 40, 3) := by decide +kernel
theorem dX11_play_26 : decode cX11_play 26 = .ok (.aload_n 0, 1) := by decide +kernel
theorem dX11_play_27 : decode cX11_play 27 = .ok (.getfield 45, 3) := by decide +kernel
theorem dX11_play_30 : decode cX11_play 30 = .ok (.invokevirtual 124, 3) := by decide +kernel
theorem dX11_play_33 : decode cX11_play 33 = .ok (.ifCond .ne 30, 3) := by decide +kernel
theorem dX11_play_36 : decode cX11_play 36 = .ok (.aload_n 0, 1) := by decide +kernel
theorem dX11_play_37 : decode cX11_play 37 = .ok (.getfield 45, 3) := by decide +kernel
theorem dX11_play_40 : decode cX11_play 40 = .ok (.aload_n 0, 1) := by decide +kernel
theorem dX11_play_41 : decode cX11_play 41 = .ok (.getfield 45, 3) := by decide +kernel
theorem dX11_play_44 : decode cX11_play 44 = .ok (.invokevirtual 202, 3) := by decide +kernel
theorem dX11_play_47 : decode cX11_play 47 = .ok (.aload_n 0, 1) := by decide +kernel
theorem dX11_play_48 : decode cX11_play 48 = .ok (.getfield 35, 3) := by decide +kernel
theorem dX11_play_51 : decode cX11_play 51 = .ok (.invokevirtual 185, 3) := by decide +kernel
theorem dX11_play_54 : decode cX11_play 54 = .ok (.invokevirtual 189, 3) := by decide +kernel
theorem dX11_play_57 : decode cX11_play 57 = .ok (.iinc 2 1, 3) := by decide +kernel
theorem dX11_play_60 : decode cX11_play 60 = .ok (.goto (-39), 3) := by decide +kernel
theorem dX11_play_63 : decode cX11_play 63 = .ok (.iload_n 2, 1) := by decide +kernel
theorem dX11_play_64 : decode cX11_play 64 = .ok (.ireturn, 1) := by decide +kernel
def X11_play_b63 (e : mm_E) (i2 : Int32) (m : mm_V) : Option ((Int32 ⊕ String) × mm_V) := some (.inl i2, m)
theorem X11_play_b63_ok {K : mm_K} {e : mm_E} (hz : e.2.1 = K.2.2.2.2) {d : Nat} (hd : 10 ≤ d) {i2 : Int32} {a0 : Nat} (h0 : e.1 a0 = some (11, 19)) {m : mm_V} {r : ((Int32 ⊕ String) × mm_V)} (hr : X11_play_b63 e i2 m = some r) : mm_G K MX11_play d (mm_Xi e.1 r) 63 [none, none, some (.int i2)] [] (e.1, m) none 0 0 := by
  obtain ⟨d, rfl⟩ : ∃ d', d = d' + 1 := ⟨d - 1, by omega⟩
  unfold X11_play_b63 at hr
  refine ml_iload_n (pc := 63) dX11_play_63 rfl (mm_get_s (mm_get_s mm_get_0)) ?_
  exact mb_xiret dX11_play_64 rfl hr
def X11_play_L21 (e : mm_E) (a0 : Nat) (i1 : Int32) : Nat → Int32 → mm_V → Option ((Int32 ⊕ String) × mm_V)
  | 0, _, _ => none
  | n + 1, i2, m => if i1 ≤ i2 then (X11_play_b63 e i2  m) else ((mm_gr e.1 m 11 19 a0 6).bind fun c1 => if e.1 c1 = some (4, 12) then ((X4_over e c1 m).bind fun r2 => if ¬ r2.1 = 0 then (X11_play_b63 e i2  r2.2) else ((mm_gr e.1 r2.2 11 19 a0 6).bind fun c4 => (mm_gr e.1 r2.2 11 19 a0 6).bind fun c5 => if e.1 c5 = some (4, 12) then ((X4_placeNow e c5 r2.2).bind fun r6 => (mm_gr e.1 r6.2 11 19 a0 4).bind fun c8 => if e.1 c8 = some (5, 4) then ((X5_fresh e c8 r6.2).bind fun r9 => if e.1 c4 = some (4, 12) then ((X4_step e c4 r6.1 r9.1 r9.2).bind fun r11 => X11_play_L21 e a0 i1 n (i2 + 1) r11) else none) else none) else none)) else none)
theorem X11_play_L21_ok {K : mm_K} {e : mm_E} (hz : e.2.1 = K.2.2.2.2) {d : Nat} (hd : 10 ≤ d) {a0 : Nat} {i1 : Int32} (h0 : e.1 a0 = some (11, 19)) : ∀ (n : Nat) (i2 : Int32) (m : mm_V) (r : ((Int32 ⊕ String) × mm_V)), X11_play_L21 e a0 i1 n i2 m = some r → mm_G K MX11_play d (mm_Xi e.1 r) 21 [some (.ref a0), some (.int i1), some (.int i2)] [] (e.1, m) none 0 0 := by
  obtain ⟨d, rfl⟩ : ∃ d', d = d' + 1 := ⟨d - 1, by omega⟩
  intro n
  induction n with
  | zero => intro i2 m r hr; unfold X11_play_L21 at hr; cases hr
  | succ n ih =>
    intro i2 m r hr
    unfold X11_play_L21 at hr
    refine ml_iload_n (pc := 21) dX11_play_21 rfl (mm_get_s (mm_get_s mm_get_0)) ?_
    refine ml_iload_n (pc := 22) dX11_play_22 rfl (mm_get_s mm_get_0) ?_
    refine mb_icmp_ge (pc := 23) 63 dX11_play_23 rfl hr (fun hr => ?_) (fun hr => ?_)
    · exact mg_weak (mm_le_n (mm_le_n (mm_le_s mm_le_0))) (X11_play_b63_ok hz hd h0 hr)
    · refine ml_aload_n (pc := 26) dX11_play_26 rfl mm_get_0 ?_
      refine mb_gr (pc := 27) dX11_play_27 fl_X11_45 hr (fun c1 hr => ?_)
      refine mb_ck hr (fun hb3 hr => ?_)
      refine mb_cVi (pc := 30) (As := []) (rest := []) dX11_play_30 cw_X11_124 hb3 hr (fun v hv => X4_over_ok hz (by omega) hb3 hv) rfl (Nat.le_of_ble_eq_true rfl) (Nat.zero_le _) (Nat.zero_le _) (fun r2 hr => ?_)
      refine mb_if_ne (pc := 33) 63 dX11_play_33 rfl hr (fun hr => ?_) (fun hr => ?_)
      · exact mg_weak (mm_le_n (mm_le_n (mm_le_s mm_le_0))) (X11_play_b63_ok hz hd h0 hr)
      · refine ml_aload_n (pc := 36) dX11_play_36 rfl mm_get_0 ?_
        refine mb_gr (pc := 37) dX11_play_37 fl_X11_45 hr (fun c4 hr => ?_)
        refine ml_aload_n (pc := 40) dX11_play_40 rfl mm_get_0 ?_
        refine mb_gr (pc := 41) dX11_play_41 fl_X11_45 hr (fun c5 hr => ?_)
        refine mb_ck hr (fun hb7 hr => ?_)
        refine mb_cVi (pc := 44) (As := []) (rest := [.ref c4]) dX11_play_44 cw_X11_202 hb7 hr (fun v hv => X4_placeNow_ok hz (by omega) hb7 hv) rfl (Nat.le_of_ble_eq_true rfl) (Nat.zero_le _) (Nat.zero_le _) (fun r6 hr => ?_)
        refine ml_aload_n (pc := 47) dX11_play_47 rfl mm_get_0 ?_
        refine mb_gr (pc := 48) dX11_play_48 fl_X11_35 hr (fun c8 hr => ?_)
        refine mb_ck hr (fun hb10 hr => ?_)
        refine mb_cVr (pc := 51) (As := []) (rest := [.int r6.1, .ref c4]) dX11_play_51 cw_X11_185 hb10 hr (fun v hv => X5_fresh_ok hz (by omega) hb10 hv) rfl (Nat.le_of_ble_eq_true rfl) (Nat.zero_le _) (Nat.zero_le _) (fun r9 hr => ?_)
        refine mb_ck hr (fun hb12 hr => ?_)
        refine mb_cVv (pc := 54) (As := [.int r6.1, .ref r9.1]) (rest := []) dX11_play_54 cw_X11_189 hb12 hr (fun v hv => X4_step_ok hz (by omega) hb12 hv) rfl (Nat.le_of_ble_eq_true rfl) (Nat.zero_le _) (Nat.zero_le _) (fun r11 hr => ?_)
        refine ml_iinc (pc := 57) dX11_play_57 (mm_get_s (mm_get_s mm_get_0)) (congrArg (fun z => i2 + z) kc_1) (Nat.le_of_ble_eq_true rfl) (mm_st1_s mm_st1_i) ?_
        refine mg_goto (pc := 60) 21 dX11_play_60 rfl ?_
        exact mg_weak (mm_le_s (mm_le_s (mm_le_s mm_le_0))) (ih _ _ _ hr)
def X11_play_b16 (e : mm_E) (a0 : Nat) (i1 : Int32) (t0 : Int32) (m : mm_V) : Option ((Int32 ⊕ String) × mm_V) := mm_bx (X11_needArgument e t0 m) fun r1 => X11_play_L21 e a0 i1 e.2.2 (0 : Int32) r1.2
theorem X11_play_b16_ok {K : mm_K} {e : mm_E} (hz : e.2.1 = K.2.2.2.2) {d : Nat} (hd : 10 ≤ d) {a0 : Nat} {i1 : Int32} {t0 : Int32} (h0 : e.1 a0 = some (11, 19)) {m : mm_V} {r : ((Int32 ⊕ String) × mm_V)} (hr : X11_play_b16 e a0 i1 t0 m = some r) : mm_G K MX11_play d (mm_Xi e.1 r) 16 [some (.ref a0), some (.int i1), none] [.int t0] (e.1, m) none 0 0 := by
  obtain ⟨d, rfl⟩ : ∃ d', d = d' + 1 := ⟨d - 1, by omega⟩
  unfold X11_play_b16 at hr
  refine mb_xSv (pc := 16) (As := [.int t0]) (rest := []) dX11_play_16 cw_X11_199 tw_1064  rfl hr (fun v hv => X11_needArgument_ok hz (by omega)  hv) rfl (Nat.le_of_ble_eq_true rfl) (fun r1 hr => ?_)
  refine mg_iconst (pc := 19) dX11_play_19 kc_0 ?_
  refine ml_istore_n (pc := 20) dX11_play_20 rfl (Nat.le_of_ble_eq_true rfl) (mm_st1_s mm_st1_i) ?_
  exact mg_weak (mm_le_s (mm_le_s (mm_le_s mm_le_0))) (X11_play_L21_ok hz hd h0 _ _ _ _ hr)
def X11_play_b15 (e : mm_E) (a0 : Nat) (i1 : Int32) (m : mm_V) : Option ((Int32 ⊕ String) × mm_V) := X11_play_b16 e a0 i1 (0 : Int32) m
theorem X11_play_b15_ok {K : mm_K} {e : mm_E} (hz : e.2.1 = K.2.2.2.2) {d : Nat} (hd : 10 ≤ d) {a0 : Nat} {i1 : Int32} (h0 : e.1 a0 = some (11, 19)) {m : mm_V} {r : ((Int32 ⊕ String) × mm_V)} (hr : X11_play_b15 e a0 i1 m = some r) : mm_G K MX11_play d (mm_Xi e.1 r) 15 [some (.ref a0), some (.int i1), none] [] (e.1, m) none 0 0 := by
  obtain ⟨d, rfl⟩ : ∃ d', d = d' + 1 := ⟨d - 1, by omega⟩
  unfold X11_play_b15 at hr
  refine mg_iconst (pc := 15) dX11_play_15 kc_0 ?_
  exact mg_weak (mm_le_s (mm_le_s (mm_le_n mm_le_0))) (X11_play_b16_ok hz hd h0 hr)
def X11_play (e : mm_E) (a0 : Nat) (i1 : Int32) (m : mm_V) : Option ((Int32 ⊕ String) × mm_V) := if i1 < 0 then (X11_play_b15 e a0 i1  m) else (if (200 : Int32) < i1 then (X11_play_b15 e a0 i1  m) else (X11_play_b16 e a0 i1 (1 : Int32) m))
theorem X11_play_ok {K : mm_K} {e : mm_E} (hz : e.2.1 = K.2.2.2.2) {d : Nat} (hd : 10 ≤ d) {a0 : Nat} {i1 : Int32} (h0 : e.1 a0 = some (11, 19)) {m : mm_V} {r : ((Int32 ⊕ String) × mm_V)} (hr : X11_play e a0 i1 m = some r) : mm_Cn K MX11_play d (mm_Xi e.1 r) [.ref a0, .int i1] (e.1, m) none := by
  obtain ⟨d, rfl⟩ : ∃ d', d = d' + 1 := ⟨d - 1, by omega⟩
  refine mm_entry (by decide) (Nat.le_of_ble_eq_true rfl) rfl (fun hok => ?_)
  unfold X11_play at hr
  refine mg_weak (L' := [some (.ref a0), some (.int i1), none]) (mm_le_s (mm_le_s (mm_le_e mm_le_0))) ?_
  refine ml_iload_n (pc := 0) dX11_play_0 rfl (mm_get_s mm_get_0) ?_
  refine mb_if_lt (pc := 1) 15 dX11_play_1 rfl hr (fun hr => ?_) (fun hr => ?_)
  · exact mg_weak (mm_le_s (mm_le_s (mm_le_n mm_le_0))) (X11_play_b15_ok hz hd h0 hr)
  · refine ml_iload_n (pc := 4) dX11_play_4 rfl (mm_get_s mm_get_0) ?_
    refine mg_sipush (pc := 5) dX11_play_5 ks_200 ?_
    refine mb_icmp_gt (pc := 8) 15 dX11_play_8 rfl hr (fun hr => ?_) (fun hr => ?_)
    · exact mg_weak (mm_le_s (mm_le_s (mm_le_n mm_le_0))) (X11_play_b15_ok hz hd h0 hr)
    · refine mg_iconst (pc := 11) dX11_play_11 kc_1 ?_
      refine mg_goto (pc := 12) 16 dX11_play_12 rfl ?_
      exact mg_weak (mm_le_s (mm_le_s (mm_le_n mm_le_0))) (X11_play_b16_ok hz hd h0 hr)
theorem dX11_rank_0 : decode cX11_rank 0 = .ok (.aload_n 0, 1) := by decide +kernel
theorem dX11_rank_1 : decode cX11_rank 1 = .ok (.iload_n 1, 1) := by decide +kernel
theorem dX11_rank_2 : decode cX11_rank 2 = .ok (.invokevirtual 150, 3) := by decide +kernel
theorem dX11_rank_5 : decode cX11_rank 5 = .ok (.aload_n 0, 1) := by decide +kernel
theorem dX11_rank_6 : decode cX11_rank 6 = .ok (.invokevirtual 216, 3) := by decide +kernel
theorem dX11_rank_9 : decode cX11_rank 9 = .ok (.aload_n 0, 1) := by decide +kernel
theorem dX11_rank_10 : decode cX11_rank 10 = .ok (.getfield 68, 3) := by decide +kernel
theorem dX11_rank_13 : decode cX11_rank 13 = .ok (.iload_n 1, 1) := by decide +kernel
theorem dX11_rank_14 : decode cX11_rank 14 = .ok (.invokevirtual 316, 3) := by decide +kernel
theorem dX11_rank_17 : decode cX11_rank 17 = .ok (.istore_n 2, 1) := by decide +kernel
theorem dX11_rank_18 : decode cX11_rank 18 = .ok (.iload_n 2, 1) := by decide +kernel
theorem dX11_rank_19 : decode cX11_rank 19 = .ok (.iconst (-1), 1) := by decide +kernel
theorem dX11_rank_20 : decode cX11_rank 20 = .ok (.if_icmp .ne 5, 3) := by decide +kernel
theorem dX11_rank_23 : decode cX11_rank 23 = .ok (.iconst (-1), 1) := by decide +kernel
theorem dX11_rank_24 : decode cX11_rank 24 = .ok (.ireturn, 1) := by decide +kernel
theorem dX11_rank_25 : decode cX11_rank 25 = .ok (.iconst 0, 1) := by decide +kernel
theorem dX11_rank_26 : decode cX11_rank 26 = .ok (.istore_n 3, 1) := by decide +kernel
theorem dX11_rank_27 : decode cX11_rank 27 = .ok (.iconst 0, 1) := by decide +kernel
theorem dX11_rank_28 : decode cX11_rank 28 = .ok (.istore 4, 2) := by decide +kernel
theorem dX11_rank_30 : decode cX11_rank 30 = .ok (.iload 4, 2) := by decide +kernel
theorem dX11_rank_32 : decode cX11_rank 32 = .ok (.aload_n 0, 1) := by decide +kernel
theorem dX11_rank_33 : decode cX11_rank 33 = .ok (.getfield 16, 3) := by decide +kernel
theorem dX11_rank_36 : decode cX11_rank 36 = .ok (.getfield 115, 3) := by decide +kernel
theorem dX11_rank_39 : decode cX11_rank 39 = .ok (.if_icmp .ge 47, 3) := by decide +kernel
theorem dX11_rank_42 : decode cX11_rank 42 = .ok (.aload_n 0, 1) := by decide +kernel
theorem dX11_rank_43 : decode cX11_rank 43 = .ok (.getfield 68, 3) := by decide +kernel
theorem dX11_rank_46 : decode cX11_rank 46 = .ok (.iload 4, 2) := by decide +kernel
theorem dX11_rank_48 : decode cX11_rank 48 = .ok (.invokevirtual 316, 3) := by decide +kernel
theorem dX11_rank_51 : decode cX11_rank 51 = .ok (.istore 5, 2) := by decide +kernel
theorem dX11_rank_53 : decode cX11_rank 53 = .ok (.iload 5, 2) := by decide +kernel
theorem dX11_rank_55 : decode cX11_rank 55 = .ok (.iconst (-1), 1) := by decide +kernel
theorem dX11_rank_56 : decode cX11_rank 56 = .ok (.if_icmp .eq 24, 3) := by decide +kernel
theorem dX11_rank_59 : decode cX11_rank 59 = .ok (.iload 5, 2) := by decide +kernel
theorem dX11_rank_61 : decode cX11_rank 61 = .ok (.iload_n 2, 1) := by decide +kernel
theorem dX11_rank_62 : decode cX11_rank 62 = .ok (.if_icmp .lt 15, 3) := by decide +kernel
theorem dX11_rank_65 : decode cX11_rank 65 = .ok (.iload 5, 2) := by decide +kernel
theorem dX11_rank_67 : decode cX11_rank 67 = .ok (.iload_n 2, 1) := by decide +kernel
theorem dX11_rank_68 : decode cX11_rank 68 = .ok (.if_icmp .ne 12, 3) := by decide +kernel
theorem dX11_rank_71 : decode cX11_rank 71 = .ok (.iload 4, 2) := by decide +kernel
theorem dX11_rank_73 : decode cX11_rank 73 = .ok (.iload_n 1, 1) := by decide +kernel
theorem dX11_rank_74 : decode cX11_rank 74 = .ok (.if_icmp .ge 6, 3) := by decide +kernel
theorem dX11_rank_77 : decode cX11_rank 77 = .ok (.iinc 3 1, 3) := by decide +kernel
theorem dX11_rank_80 : decode cX11_rank 80 = .ok (.iinc 4 1, 3) := by decide +kernel
theorem dX11_rank_83 : decode cX11_rank 83 = .ok (.goto (-53), 3) := by decide +kernel
theorem dX11_rank_86 : decode cX11_rank 86 = .ok (.iload_n 3, 1) := by decide +kernel
theorem dX11_rank_87 : decode cX11_rank 87 = .ok (.ireturn, 1) := by decide +kernel
def X11_rank_b80 (e : mm_E) (k30 : Int32 → Int32 → mm_V → Option ((Int32 ⊕ String) × mm_V)) (a0 : Nat) (i1 : Int32) (i2 : Int32) (i3 : Int32) (i4 : Int32) (m : mm_V) : Option ((Int32 ⊕ String) × mm_V) := k30 i3 (i4 + 1) m
theorem X11_rank_b80_ok {K : mm_K} {e : mm_E} (hz : e.2.1 = K.2.2.2.2) {d : Nat} (hd : 11 ≤ d) {a0 : Nat} {i1 : Int32} {i2 : Int32} {i3 : Int32} {i4 : Int32} (h0 : e.1 a0 = some (11, 19)) {k30 : Int32 → Int32 → mm_V → Option ((Int32 ⊕ String) × mm_V)} (hk30 : ∀ (w3 : Int32) (w4 : Int32) (m : mm_V) (r : ((Int32 ⊕ String) × mm_V)), k30 w3 w4 m = some r → mm_G K MX11_rank d (mm_Xi e.1 r) 30 [some (.ref a0), some (.int i1), some (.int i2), some (.int w3), some (.int w4), none] [] (e.1, m) none 0 0) {m : mm_V} {r : ((Int32 ⊕ String) × mm_V)} (hr : X11_rank_b80 e k30 a0 i1 i2 i3 i4 m = some r) : mm_G K MX11_rank d (mm_Xi e.1 r) 80 [some (.ref a0), some (.int i1), some (.int i2), some (.int i3), some (.int i4), none] [] (e.1, m) none 0 0 := by
  obtain ⟨d, rfl⟩ : ∃ d', d = d' + 1 := ⟨d - 1, by omega⟩
  unfold X11_rank_b80 at hr
  refine ml_iinc (pc := 80) dX11_rank_80 (mm_get_s (mm_get_s (mm_get_s (mm_get_s mm_get_0)))) (congrArg (fun z => i4 + z) kc_1) (Nat.le_of_ble_eq_true rfl) (mm_st1_s (mm_st1_s (mm_st1_s mm_st1_i))) ?_
  refine mg_goto (pc := 83) 30 dX11_rank_83 rfl ?_
  exact mg_weak (mm_le_s (mm_le_s (mm_le_s (mm_le_s (mm_le_s (mm_le_n mm_le_0)))))) (hk30 _ _ _ _ hr)
def X11_rank_b77 (e : mm_E) (k30 : Int32 → Int32 → mm_V → Option ((Int32 ⊕ String) × mm_V)) (a0 : Nat) (i1 : Int32) (i2 : Int32) (i3 : Int32) (i4 : Int32) (m : mm_V) : Option ((Int32 ⊕ String) × mm_V) := X11_rank_b80 e k30 a0 i1 i2 (i3 + 1) i4  m
theorem X11_rank_b77_ok {K : mm_K} {e : mm_E} (hz : e.2.1 = K.2.2.2.2) {d : Nat} (hd : 11 ≤ d) {a0 : Nat} {i1 : Int32} {i2 : Int32} {i3 : Int32} {i4 : Int32} (h0 : e.1 a0 = some (11, 19)) {k30 : Int32 → Int32 → mm_V → Option ((Int32 ⊕ String) × mm_V)} (hk30 : ∀ (w3 : Int32) (w4 : Int32) (m : mm_V) (r : ((Int32 ⊕ String) × mm_V)), k30 w3 w4 m = some r → mm_G K MX11_rank d (mm_Xi e.1 r) 30 [some (.ref a0), some (.int i1), some (.int i2), some (.int w3), some (.int w4), none] [] (e.1, m) none 0 0) {m : mm_V} {r : ((Int32 ⊕ String) × mm_V)} (hr : X11_rank_b77 e k30 a0 i1 i2 i3 i4 m = some r) : mm_G K MX11_rank d (mm_Xi e.1 r) 77 [some (.ref a0), some (.int i1), some (.int i2), some (.int i3), some (.int i4), none] [] (e.1, m) none 0 0 := by
  obtain ⟨d, rfl⟩ : ∃ d', d = d' + 1 := ⟨d - 1, by omega⟩
  unfold X11_rank_b77 at hr
  refine ml_iinc (pc := 77) dX11_rank_77 (mm_get_s (mm_get_s (mm_get_s mm_get_0))) (congrArg (fun z => i3 + z) kc_1) (Nat.le_of_ble_eq_true rfl) (mm_st1_s (mm_st1_s mm_st1_i)) ?_
  exact mg_weak (mm_le_s (mm_le_s (mm_le_s (mm_le_s (mm_le_s (mm_le_n mm_le_0)))))) (X11_rank_b80_ok hz hd h0 hk30 hr)
def X11_rank_L30 (e : mm_E) (a0 : Nat) (i1 : Int32) (i2 : Int32) : Nat → Int32 → Int32 → mm_V → Option ((Int32 ⊕ String) × mm_V)
  | 0, _, _, _ => none
  | n + 1, i3, i4, m => (mm_gr e.1 m 11 19 a0 1).bind fun c1 => (mm_gi e.1 m 10 11 c1 6).bind fun x2 => if x2 ≤ i4 then (some (.inl i3, m)) else ((mm_gr e.1 m 11 19 a0 11).bind fun c3 => if e.1 c3 = some (7, 8) then ((X7_outBehind e c3 i4 m).bind fun r4 => if r4.1 = (-1 : Int32) then (X11_rank_b80 e (X11_rank_L30 e a0 i1 i2 n) a0 i1 i2 i3 i4  r4.2) else (if r4.1 < i2 then (X11_rank_b77 e (X11_rank_L30 e a0 i1 i2 n) a0 i1 i2 i3 i4  r4.2) else (if ¬ r4.1 = i2 then (X11_rank_b80 e (X11_rank_L30 e a0 i1 i2 n) a0 i1 i2 i3 i4  r4.2) else (if i1 ≤ i4 then (X11_rank_b80 e (X11_rank_L30 e a0 i1 i2 n) a0 i1 i2 i3 i4  r4.2) else (X11_rank_b77 e (X11_rank_L30 e a0 i1 i2 n) a0 i1 i2 i3 i4  r4.2))))) else none)
theorem X11_rank_L30_ok {K : mm_K} {e : mm_E} (hz : e.2.1 = K.2.2.2.2) {d : Nat} (hd : 11 ≤ d) {a0 : Nat} {i1 : Int32} {i2 : Int32} (h0 : e.1 a0 = some (11, 19)) : ∀ (n : Nat) (i3 : Int32) (i4 : Int32) (m : mm_V) (r : ((Int32 ⊕ String) × mm_V)), X11_rank_L30 e a0 i1 i2 n i3 i4 m = some r → mm_G K MX11_rank d (mm_Xi e.1 r) 30 [some (.ref a0), some (.int i1), some (.int i2), some (.int i3), some (.int i4), none] [] (e.1, m) none 0 0 := by
  obtain ⟨d, rfl⟩ : ∃ d', d = d' + 1 := ⟨d - 1, by omega⟩
  intro n
  induction n with
  | zero => intro i3 i4 m r hr; unfold X11_rank_L30 at hr; cases hr
  | succ n ih =>
    intro i3 i4 m r hr
    unfold X11_rank_L30 at hr
    refine ml_iload (pc := 30) dX11_rank_30 (mm_get_s (mm_get_s (mm_get_s (mm_get_s mm_get_0)))) ?_
    refine ml_aload_n (pc := 32) dX11_rank_32 rfl mm_get_0 ?_
    refine mb_gr (pc := 33) dX11_rank_33 fl_X11_16 hr (fun c1 hr => ?_)
    refine mb_gi (pc := 36) dX11_rank_36 fl_X11_115 hr (fun x2 hr => ?_)
    refine mb_icmp_ge (pc := 39) 86 dX11_rank_39 rfl hr (fun hr => ?_) (fun hr => ?_)
    · refine ml_iload_n (pc := 86) dX11_rank_86 rfl (mm_get_s (mm_get_s (mm_get_s mm_get_0))) ?_
      exact mb_xiret dX11_rank_87 rfl hr
    · refine ml_aload_n (pc := 42) dX11_rank_42 rfl mm_get_0 ?_
      refine mb_gr (pc := 43) dX11_rank_43 fl_X11_68 hr (fun c3 hr => ?_)
      refine ml_iload (pc := 46) dX11_rank_46 (mm_get_s (mm_get_s (mm_get_s (mm_get_s mm_get_0)))) ?_
      refine mb_ck hr (fun hb5 hr => ?_)
      refine mb_cVi (pc := 48) (As := [.int i4]) (rest := []) dX11_rank_48 cw_X11_316 hb5 hr (fun v hv => X7_outBehind_ok hz (by omega) hb5 hv) rfl (Nat.le_of_ble_eq_true rfl) (Nat.zero_le _) (Nat.zero_le _) (fun r4 hr => ?_)
      refine ml_istore (pc := 51) dX11_rank_51 (Nat.le_of_ble_eq_true rfl) (mm_st1_s (mm_st1_s (mm_st1_s (mm_st1_s mm_st1_i)))) ?_
      refine ml_iload (pc := 53) dX11_rank_53 (mm_get_s (mm_get_s (mm_get_s (mm_get_s (mm_get_s mm_get_0))))) ?_
      refine mg_iconst (pc := 55) dX11_rank_55 kc_m1 ?_
      refine mb_icmp_eq (pc := 56) 80 dX11_rank_56 rfl hr (fun hr => ?_) (fun hr => ?_)
      · exact mg_weak (mm_le_s (mm_le_s (mm_le_s (mm_le_s (mm_le_s (mm_le_n mm_le_0)))))) (X11_rank_b80_ok hz hd h0 ih hr)
      · refine ml_iload (pc := 59) dX11_rank_59 (mm_get_s (mm_get_s (mm_get_s (mm_get_s (mm_get_s mm_get_0))))) ?_
        refine ml_iload_n (pc := 61) dX11_rank_61 rfl (mm_get_s (mm_get_s mm_get_0)) ?_
        refine mb_icmp_lt (pc := 62) 77 dX11_rank_62 rfl hr (fun hr => ?_) (fun hr => ?_)
        · exact mg_weak (mm_le_s (mm_le_s (mm_le_s (mm_le_s (mm_le_s (mm_le_n mm_le_0)))))) (X11_rank_b77_ok hz hd h0 ih hr)
        · refine ml_iload (pc := 65) dX11_rank_65 (mm_get_s (mm_get_s (mm_get_s (mm_get_s (mm_get_s mm_get_0))))) ?_
          refine ml_iload_n (pc := 67) dX11_rank_67 rfl (mm_get_s (mm_get_s mm_get_0)) ?_
          refine mb_icmp_ne (pc := 68) 80 dX11_rank_68 rfl hr (fun hr => ?_) (fun hr => ?_)
          · exact mg_weak (mm_le_s (mm_le_s (mm_le_s (mm_le_s (mm_le_s (mm_le_n mm_le_0)))))) (X11_rank_b80_ok hz hd h0 ih hr)
          · refine ml_iload (pc := 71) dX11_rank_71 (mm_get_s (mm_get_s (mm_get_s (mm_get_s mm_get_0)))) ?_
            refine ml_iload_n (pc := 73) dX11_rank_73 rfl (mm_get_s mm_get_0) ?_
            refine mb_icmp_ge (pc := 74) 80 dX11_rank_74 rfl hr (fun hr => ?_) (fun hr => ?_)
            · exact mg_weak (mm_le_s (mm_le_s (mm_le_s (mm_le_s (mm_le_s (mm_le_n mm_le_0)))))) (X11_rank_b80_ok hz hd h0 ih hr)
            · exact mg_weak (mm_le_s (mm_le_s (mm_le_s (mm_le_s (mm_le_s (mm_le_n mm_le_0)))))) (X11_rank_b77_ok hz hd h0 ih hr)
def X11_rank (e : mm_E) (a0 : Nat) (i1 : Int32) (m : mm_V) : Option ((Int32 ⊕ String) × mm_V) := mm_bx (X11_needPerson e a0 i1 m) fun r1 => (X11_playFromNow e a0 r1.2).bind fun r2 => (mm_gr e.1 r2 11 19 a0 11).bind fun c3 => if e.1 c3 = some (7, 8) then ((X7_outBehind e c3 i1 r2).bind fun r4 => if ¬ r4.1 = (-1 : Int32) then (X11_rank_L30 e a0 i1 r4.1 e.2.2 (0 : Int32) (0 : Int32) r4.2) else (some (.inl (-1 : Int32), r4.2))) else none
theorem X11_rank_ok {K : mm_K} {e : mm_E} (hz : e.2.1 = K.2.2.2.2) {d : Nat} (hd : 11 ≤ d) {a0 : Nat} {i1 : Int32} (h0 : e.1 a0 = some (11, 19)) {m : mm_V} {r : ((Int32 ⊕ String) × mm_V)} (hr : X11_rank e a0 i1 m = some r) : mm_Cn K MX11_rank d (mm_Xi e.1 r) [.ref a0, .int i1] (e.1, m) none := by
  obtain ⟨d, rfl⟩ : ∃ d', d = d' + 1 := ⟨d - 1, by omega⟩
  refine mm_entry (by decide) (Nat.le_of_ble_eq_true rfl) rfl (fun hok => ?_)
  unfold X11_rank at hr
  refine mg_weak (L' := [some (.ref a0), some (.int i1), none, none, none, none]) (mm_le_s (mm_le_s (mm_le_e (mm_le_e (mm_le_e (mm_le_e mm_le_0)))))) ?_
  refine ml_aload_n (pc := 0) dX11_rank_0 rfl mm_get_0 ?_
  refine ml_iload_n (pc := 1) dX11_rank_1 rfl (mm_get_s mm_get_0) ?_
  refine mb_xVv (pc := 2) (As := [.int i1]) (rest := []) dX11_rank_2 cw_X11_150 tw_1029 h0 rfl hr (fun v hv => X11_needPerson_ok hz (by omega) h0 hv) rfl (Nat.le_of_ble_eq_true rfl) (fun r1 hr => ?_)
  refine ml_aload_n (pc := 5) dX11_rank_5 rfl mm_get_0 ?_
  refine mb_cVv (pc := 6) (As := []) (rest := []) dX11_rank_6 cw_X11_216 h0 hr (fun v hv => X11_playFromNow_ok hz (by omega) h0 hv) rfl (Nat.le_of_ble_eq_true rfl) (Nat.zero_le _) (Nat.zero_le _) (fun r2 hr => ?_)
  refine ml_aload_n (pc := 9) dX11_rank_9 rfl mm_get_0 ?_
  refine mb_gr (pc := 10) dX11_rank_10 fl_X11_68 hr (fun c3 hr => ?_)
  refine ml_iload_n (pc := 13) dX11_rank_13 rfl (mm_get_s mm_get_0) ?_
  refine mb_ck hr (fun hb5 hr => ?_)
  refine mb_cVi (pc := 14) (As := [.int i1]) (rest := []) dX11_rank_14 cw_X11_316 hb5 hr (fun v hv => X7_outBehind_ok hz (by omega) hb5 hv) rfl (Nat.le_of_ble_eq_true rfl) (Nat.zero_le _) (Nat.zero_le _) (fun r4 hr => ?_)
  refine ml_istore_n (pc := 17) dX11_rank_17 rfl (Nat.le_of_ble_eq_true rfl) (mm_st1_s mm_st1_i) ?_
  refine ml_iload_n (pc := 18) dX11_rank_18 rfl (mm_get_s (mm_get_s mm_get_0)) ?_
  refine mg_iconst (pc := 19) dX11_rank_19 kc_m1 ?_
  refine mb_icmp_ne (pc := 20) 25 dX11_rank_20 rfl hr (fun hr => ?_) (fun hr => ?_)
  · refine mg_iconst (pc := 25) dX11_rank_25 kc_0 ?_
    refine ml_istore_n (pc := 26) dX11_rank_26 rfl (Nat.le_of_ble_eq_true rfl) (mm_st1_s (mm_st1_s mm_st1_i)) ?_
    refine mg_iconst (pc := 27) dX11_rank_27 kc_0 ?_
    refine ml_istore (pc := 28) dX11_rank_28 (Nat.le_of_ble_eq_true rfl) (mm_st1_s (mm_st1_s (mm_st1_s mm_st1_i))) ?_
    exact mg_weak (mm_le_s (mm_le_s (mm_le_s (mm_le_s (mm_le_s (mm_le_n mm_le_0)))))) (X11_rank_L30_ok hz hd h0 _ _ _ _ _ hr)
  · refine mg_iconst (pc := 23) dX11_rank_23 kc_m1 ?_
    exact mb_xiret dX11_rank_24 rfl hr
theorem dX11_seats_0 : decode cX11_seats 0 = .ok (.aload_n 0, 1) := by decide +kernel
theorem dX11_seats_1 : decode cX11_seats 1 = .ok (.iload_n 1, 1) := by decide +kernel
theorem dX11_seats_2 : decode cX11_seats 2 = .ok (.invokevirtual 150, 3) := by decide +kernel
theorem dX11_seats_5 : decode cX11_seats 5 = .ok (.iload_n 2, 1) := by decide +kernel
theorem dX11_seats_6 : decode cX11_seats 6 = .ok (.ifCond .lt 12, 3) := by decide +kernel
theorem dX11_seats_9 : decode cX11_seats 9 = .ok (.iload_n 2, 1) := by decide +kernel
theorem dX11_seats_10 : decode cX11_seats 10 = .ok (.iconst 2, 1) := by decide +kernel
theorem dX11_seats_11 : decode cX11_seats 11 = .ok (.if_icmp .gt 7, 3) := by decide +kernel
theorem dX11_seats_14 : decode cX11_seats 14 = .ok (.iconst 1, 1) := by decide +kernel
theorem dX11_seats_15 : decode cX11_seats 15 = .ok (.goto 4, 3) := by decide +kernel
theorem dX11_seats_18 : decode cX11_seats 18 = .ok (.iconst 0, 1) := by decide +kernel
theorem dX11_seats_19 : decode cX11_seats 19 = .ok (.invokestatic 164, 3) := by decide +kernel
theorem dX11_seats_22 : decode cX11_seats 22 = .ok (.aload_n 0, 1) := by decide +kernel
theorem dX11_seats_23 : decode cX11_seats 23 = .ok (.getfield 75, 3) := by decide +kernel
theorem dX11_seats_26 : decode cX11_seats 26 = .ok (.aload_n 0, 1) := by decide +kernel
theorem dX11_seats_27 : decode cX11_seats 27 = .ok (.getfield 45, 3) := by decide +kernel
theorem dX11_seats_30 : decode cX11_seats 30 = .ok (.iload_n 1, 1) := by decide +kernel
theorem dX11_seats_31 : decode cX11_seats 31 = .ok (.invokevirtual 280, 3) := by decide +kernel
theorem dX11_seats_34 : decode cX11_seats 34 = .ok (.iload_n 2, 1) := by decide +kernel
theorem dX11_seats_35 : decode cX11_seats 35 = .ok (.iconst 2, 1) := by decide +kernel
theorem dX11_seats_36 : decode cX11_seats 36 = .ok (.if_icmp .ne 11, 3) := by decide +kernel
theorem dX11_seats_39 : decode cX11_seats 39 = .ok (.aload_n 0, 1) := by decide +kernel
theorem dX11_seats_40 : decode cX11_seats 40 = .ok (.getfield 75, 3) := by decide +kernel
theorem dX11_seats_43 : decode cX11_seats 43 = .ok (.getfield 284, 3) := by decide +kernel
theorem dX11_seats_46 : decode cX11_seats 46 = .ok (.ireturn, 1) := by decide +kernel
theorem dX11_seats_47 : decode cX11_seats 47 = .ok (.iload_n 2, 1) := by decide +kernel
theorem dX11_seats_48 : decode cX11_seats 48 = .ok (.ifCond .ne 14, 3) := by decide +kernel
theorem dX11_seats_51 : decode cX11_seats 51 = .ok (.aload_n 0, 1) := by decide +kernel
theorem dX11_seats_52 : decode cX11_seats 52 = .ok (.getfield 75, 3) := by decide +kernel
theorem dX11_seats_55 : decode cX11_seats 55 = .ok (.iload_n 1, 1) := by decide +kernel
theorem dX11_seats_56 : decode cX11_seats 56 = .ok (.invokevirtual 287, 3) := by decide +kernel
theorem dX11_seats_59 : decode cX11_seats 59 = .ok (.goto 10, 3) := by decide +kernel
theorem dX11_seats_62 : decode cX11_seats 62 = .ok (.aload_n 0, 1) := by decide +kernel
theorem dX11_seats_63 : decode cX11_seats 63 = .ok (.getfield 75, 3) := by decide +kernel
theorem dX11_seats_66 : decode cX11_seats 66 = .ok (.getfield 290, 3) := by decide +kernel
theorem dX11_seats_69 : decode cX11_seats 69 = .ok (.ireturn, 1) := by decide +kernel
def X11_seats_b69 (e : mm_E) (t0 : Int32) (m : mm_V) : Option ((Int32 ⊕ String) × mm_V) := some (.inl t0, m)
theorem X11_seats_b69_ok {K : mm_K} {e : mm_E} (hz : e.2.1 = K.2.2.2.2) {d : Nat} (hd : 11 ≤ d) {t0 : Int32} {a0 : Nat} (h0 : e.1 a0 = some (11, 19)) {m : mm_V} {r : ((Int32 ⊕ String) × mm_V)} (hr : X11_seats_b69 e t0 m = some r) : mm_G K MX11_seats d (mm_Xi e.1 r) 69 [none, none, none] [.int t0] (e.1, m) none 0 0 := by
  obtain ⟨d, rfl⟩ : ∃ d', d = d' + 1 := ⟨d - 1, by omega⟩
  unfold X11_seats_b69 at hr
  exact mb_xiret dX11_seats_69 rfl hr
def X11_seats_b19 (e : mm_E) (a0 : Nat) (i1 : Int32) (i2 : Int32) (t0 : Int32) (m : mm_V) : Option ((Int32 ⊕ String) × mm_V) := mm_bx (X11_need e t0 m) fun r1 => (mm_gr e.1 r1.2 11 19 a0 12).bind fun c2 => (mm_gr e.1 r1.2 11 19 a0 6).bind fun c3 => if e.1 c2 = some (6, 12) then ((X6_trySeats e c2 c3 i1 r1.2).bind fun r4 => if ¬ i2 = (2 : Int32) then (if ¬ i2 = 0 then ((mm_gr e.1 r4 11 19 a0 12).bind fun c6 => (mm_gi e.1 r4 6 12 c6 5).bind fun x7 => X11_seats_b69 e  x7 r4) else ((mm_gr e.1 r4 11 19 a0 12).bind fun c8 => if e.1 c8 = some (6, 12) then ((X6_losses e c8 i1 r4).bind fun r9 => X11_seats_b69 e  r9.1 r9.2) else none)) else ((mm_gr e.1 r4 11 19 a0 12).bind fun c11 => (mm_gi e.1 r4 6 12 c11 7).bind fun x12 => some (.inl x12, r4))) else none
theorem X11_seats_b19_ok {K : mm_K} {e : mm_E} (hz : e.2.1 = K.2.2.2.2) {d : Nat} (hd : 11 ≤ d) {a0 : Nat} {i1 : Int32} {i2 : Int32} {t0 : Int32} (h0 : e.1 a0 = some (11, 19)) {m : mm_V} {r : ((Int32 ⊕ String) × mm_V)} (hr : X11_seats_b19 e a0 i1 i2 t0 m = some r) : mm_G K MX11_seats d (mm_Xi e.1 r) 19 [some (.ref a0), some (.int i1), some (.int i2)] [.int t0] (e.1, m) none 0 0 := by
  obtain ⟨d, rfl⟩ : ∃ d', d = d' + 1 := ⟨d - 1, by omega⟩
  unfold X11_seats_b19 at hr
  refine mb_xSv (pc := 19) (As := [.int t0]) (rest := []) dX11_seats_19 cw_X11_164 tw_1037  rfl hr (fun v hv => X11_need_ok hz (by omega)  hv) rfl (Nat.le_of_ble_eq_true rfl) (fun r1 hr => ?_)
  refine ml_aload_n (pc := 22) dX11_seats_22 rfl mm_get_0 ?_
  refine mb_gr (pc := 23) dX11_seats_23 fl_X11_75 hr (fun c2 hr => ?_)
  refine ml_aload_n (pc := 26) dX11_seats_26 rfl mm_get_0 ?_
  refine mb_gr (pc := 27) dX11_seats_27 fl_X11_45 hr (fun c3 hr => ?_)
  refine ml_iload_n (pc := 30) dX11_seats_30 rfl (mm_get_s mm_get_0) ?_
  refine mb_ck hr (fun hb5 hr => ?_)
  refine mb_cVv (pc := 31) (As := [.ref c3, .int i1]) (rest := []) dX11_seats_31 cw_X11_280 hb5 hr (fun v hv => X6_trySeats_ok hz (by omega) hb5 hv) rfl (Nat.le_of_ble_eq_true rfl) (Nat.zero_le _) (Nat.zero_le _) (fun r4 hr => ?_)
  refine ml_iload_n (pc := 34) dX11_seats_34 rfl (mm_get_s (mm_get_s mm_get_0)) ?_
  refine mg_iconst (pc := 35) dX11_seats_35 kc_2 ?_
  refine mb_icmp_ne (pc := 36) 47 dX11_seats_36 rfl hr (fun hr => ?_) (fun hr => ?_)
  · refine ml_iload_n (pc := 47) dX11_seats_47 rfl (mm_get_s (mm_get_s mm_get_0)) ?_
    refine mb_if_ne (pc := 48) 62 dX11_seats_48 rfl hr (fun hr => ?_) (fun hr => ?_)
    · refine ml_aload_n (pc := 62) dX11_seats_62 rfl mm_get_0 ?_
      refine mb_gr (pc := 63) dX11_seats_63 fl_X11_75 hr (fun c6 hr => ?_)
      refine mb_gi (pc := 66) dX11_seats_66 fl_X11_290 hr (fun x7 hr => ?_)
      exact mg_weak (mm_le_n (mm_le_n (mm_le_n mm_le_0))) (X11_seats_b69_ok hz hd h0 hr)
    · refine ml_aload_n (pc := 51) dX11_seats_51 rfl mm_get_0 ?_
      refine mb_gr (pc := 52) dX11_seats_52 fl_X11_75 hr (fun c8 hr => ?_)
      refine ml_iload_n (pc := 55) dX11_seats_55 rfl (mm_get_s mm_get_0) ?_
      refine mb_ck hr (fun hb10 hr => ?_)
      refine mb_cVi (pc := 56) (As := [.int i1]) (rest := []) dX11_seats_56 cw_X11_287 hb10 hr (fun v hv => X6_losses_ok hz (by omega) hb10 hv) rfl (Nat.le_of_ble_eq_true rfl) (Nat.zero_le _) (Nat.zero_le _) (fun r9 hr => ?_)
      refine mg_goto (pc := 59) 69 dX11_seats_59 rfl ?_
      exact mg_weak (mm_le_n (mm_le_n (mm_le_n mm_le_0))) (X11_seats_b69_ok hz hd h0 hr)
  · refine ml_aload_n (pc := 39) dX11_seats_39 rfl mm_get_0 ?_
    refine mb_gr (pc := 40) dX11_seats_40 fl_X11_75 hr (fun c11 hr => ?_)
    refine mb_gi (pc := 43) dX11_seats_43 fl_X11_284 hr (fun x12 hr => ?_)
    exact mb_xiret dX11_seats_46 rfl hr
def X11_seats_b18 (e : mm_E) (a0 : Nat) (i1 : Int32) (i2 : Int32) (m : mm_V) : Option ((Int32 ⊕ String) × mm_V) := X11_seats_b19 e a0 i1 i2 (0 : Int32) m
theorem X11_seats_b18_ok {K : mm_K} {e : mm_E} (hz : e.2.1 = K.2.2.2.2) {d : Nat} (hd : 11 ≤ d) {a0 : Nat} {i1 : Int32} {i2 : Int32} (h0 : e.1 a0 = some (11, 19)) {m : mm_V} {r : ((Int32 ⊕ String) × mm_V)} (hr : X11_seats_b18 e a0 i1 i2 m = some r) : mm_G K MX11_seats d (mm_Xi e.1 r) 18 [some (.ref a0), some (.int i1), some (.int i2)] [] (e.1, m) none 0 0 := by
  obtain ⟨d, rfl⟩ : ∃ d', d = d' + 1 := ⟨d - 1, by omega⟩
  unfold X11_seats_b18 at hr
  refine mg_iconst (pc := 18) dX11_seats_18 kc_0 ?_
  exact mg_weak (mm_le_s (mm_le_s (mm_le_s mm_le_0))) (X11_seats_b19_ok hz hd h0 hr)
def X11_seats (e : mm_E) (a0 : Nat) (i1 : Int32) (i2 : Int32) (m : mm_V) : Option ((Int32 ⊕ String) × mm_V) := mm_bx (X11_needPerson e a0 i1 m) fun r1 => if i2 < 0 then (X11_seats_b18 e a0 i1 i2  r1.2) else (if (2 : Int32) < i2 then (X11_seats_b18 e a0 i1 i2  r1.2) else (X11_seats_b19 e a0 i1 i2 (1 : Int32) r1.2))
theorem X11_seats_ok {K : mm_K} {e : mm_E} (hz : e.2.1 = K.2.2.2.2) {d : Nat} (hd : 11 ≤ d) {a0 : Nat} {i1 : Int32} {i2 : Int32} (h0 : e.1 a0 = some (11, 19)) {m : mm_V} {r : ((Int32 ⊕ String) × mm_V)} (hr : X11_seats e a0 i1 i2 m = some r) : mm_Cn K MX11_seats d (mm_Xi e.1 r) [.ref a0, .int i1, .int i2] (e.1, m) none := by
  obtain ⟨d, rfl⟩ : ∃ d', d = d' + 1 := ⟨d - 1, by omega⟩
  refine mm_entry (by decide) (Nat.le_of_ble_eq_true rfl) rfl (fun hok => ?_)
  unfold X11_seats at hr
  refine mg_weak (L' := [some (.ref a0), some (.int i1), some (.int i2)]) (mm_le_s (mm_le_s (mm_le_s mm_le_0))) ?_
  refine ml_aload_n (pc := 0) dX11_seats_0 rfl mm_get_0 ?_
  refine ml_iload_n (pc := 1) dX11_seats_1 rfl (mm_get_s mm_get_0) ?_
  refine mb_xVv (pc := 2) (As := [.int i1]) (rest := []) dX11_seats_2 cw_X11_150 tw_1029 h0 rfl hr (fun v hv => X11_needPerson_ok hz (by omega) h0 hv) rfl (Nat.le_of_ble_eq_true rfl) (fun r1 hr => ?_)
  refine ml_iload_n (pc := 5) dX11_seats_5 rfl (mm_get_s (mm_get_s mm_get_0)) ?_
  refine mb_if_lt (pc := 6) 18 dX11_seats_6 rfl hr (fun hr => ?_) (fun hr => ?_)
  · exact mg_weak (mm_le_s (mm_le_s (mm_le_s mm_le_0))) (X11_seats_b18_ok hz hd h0 hr)
  · refine ml_iload_n (pc := 9) dX11_seats_9 rfl (mm_get_s (mm_get_s mm_get_0)) ?_
    refine mg_iconst (pc := 10) dX11_seats_10 kc_2 ?_
    refine mb_icmp_gt (pc := 11) 18 dX11_seats_11 rfl hr (fun hr => ?_) (fun hr => ?_)
    · exact mg_weak (mm_le_s (mm_le_s (mm_le_s mm_le_0))) (X11_seats_b18_ok hz hd h0 hr)
    · refine mg_iconst (pc := 14) dX11_seats_14 kc_1 ?_
      refine mg_goto (pc := 15) 19 dX11_seats_15 rfl ?_
      exact mg_weak (mm_le_s (mm_le_s (mm_le_s mm_le_0))) (X11_seats_b19_ok hz hd h0 hr)
theorem dX11_table_0 : decode cX11_table 0 = .ok (.iload_n 1, 1) := by decide +kernel
theorem dX11_table_1 : decode cX11_table 1 = .ok (.ifCond .lt 11, 3) := by decide +kernel
theorem dX11_table_4 : decode cX11_table 4 = .ok (.iload_n 1, 1) := by decide +kernel
theorem dX11_table_5 : decode cX11_table 5 = .ok (.aload_n 0, 1) := by decide +kernel
theorem dX11_table_6 : decode cX11_table 6 = .ok (.getfield 95, 3) := by decide +kernel
theorem dX11_table_9 : decode cX11_table 9 = .ok (.if_icmp .le 11, 3) := by decide +kernel
theorem dX11_table_12 : decode cX11_table 12 = .ok (.new 102, 3) := by decide +kernel
theorem dX11_table_15 : decode cX11_table 15 = .ok (.dup, 1) := by decide +kernel
theorem dX11_table_16 : decode cX11_table 16 = .ok (.invokespecial 104, 3) := by decide +kernel
theorem dX11_table_19 : decode cX11_table 19 = .ok (.athrow, 1) := by decide +kernel
theorem dX11_table_20 : decode cX11_table 20 = .ok (.aload_n 0, 1) := by decide +kernel
theorem dX11_table_21 : decode cX11_table 21 = .ok (.getfield 28, 3) := by decide +kernel
theorem dX11_table_24 : decode cX11_table 24 = .ok (.aload_n 0, 1) := by decide +kernel
theorem dX11_table_25 : decode cX11_table 25 = .ok (.getfield 20, 3) := by decide +kernel
theorem dX11_table_28 : decode cX11_table 28 = .ok (.aload_n 0, 1) := by decide +kernel
theorem dX11_table_29 : decode cX11_table 29 = .ok (.getfield 9, 3) := by decide +kernel
theorem dX11_table_32 : decode cX11_table 32 = .ok (.iload_n 1, 1) := by decide +kernel
theorem dX11_table_33 : decode cX11_table 33 = .ok (.invokevirtual 105, 3) := by decide +kernel
theorem dX11_table_36 : decode cX11_table 36 = .ok (.istore_n 2, 1) := by decide +kernel
theorem dX11_table_37 : decode cX11_table 37 = .ok (.aload_n 0, 1) := by decide +kernel
theorem dX11_table_38 : decode cX11_table 38 = .ok (.iconst 0, 1) := by decide +kernel
theorem dX11_table_39 : decode cX11_table 39 = .ok (.putfield 95, 3) := by decide +kernel
theorem dX11_table_42 : decode cX11_table 42 = .ok (.iload_n 2, 1) := by decide +kernel
theorem dX11_table_43 : decode cX11_table 43 = .ok (.ifCond .eq 26, 3) := by decide +kernel
theorem dX11_table_46 : decode cX11_table 46 = .ok (.aload_n 0, 1) := by decide +kernel
theorem dX11_table_47 : decode cX11_table 47 = .ok (.aload_n 0, 1) := by decide +kernel
theorem dX11_table_48 : decode cX11_table 48 = .ok (.getfield 28, 3) := by decide +kernel
theorem dX11_table_51 : decode cX11_table 51 = .ok (.getfield 109, 3) := by decide +kernel
theorem dX11_table_54 : decode cX11_table 54 = .ok (.putfield 88, 3) := by decide +kernel
theorem dX11_table_57 : decode cX11_table 57 = .ok (.aload_n 0, 1) := by decide +kernel
theorem dX11_table_58 : decode cX11_table 58 = .ok (.dup, 1) := by decide +kernel
theorem dX11_table_59 : decode cX11_table 59 = .ok (.getfield 112, 3) := by decide +kernel
theorem dX11_table_62 : decode cX11_table 62 = .ok (.iconst 1, 1) := by decide +kernel
theorem dX11_table_63 : decode cX11_table 63 = .ok (.iadd, 1) := by decide +kernel
theorem dX11_table_64 : decode cX11_table 64 = .ok (.putfield 112, 3) := by decide +kernel
theorem dX11_table_67 : decode cX11_table 67 = .ok (.iload_n 2, 1) := by decide +kernel
theorem dX11_table_68 : decode cX11_table 68 = .ok (.ireturn, 1) := by decide +kernel
theorem dX11_table_69 : decode cX11_table 69 = .ok (.aload_n 0, 1) := by decide +kernel
theorem dX11_table_70 : decode cX11_table 70 = .ok (.iconst (-1), 1) := by decide +kernel
theorem dX11_table_71 : decode cX11_table 71 = .ok (.putfield 88, 3) := by decide +kernel
theorem dX11_table_74 : decode cX11_table 74 = .ok (.aload_n 0, 1) := by decide +kernel
theorem dX11_table_75 : decode cX11_table 75 = .ok (.getfield 16, 3) := by decide +kernel
theorem dX11_table_78 : decode cX11_table 78 = .ok (.astore_n 3, 1) := by decide +kernel
theorem dX11_table_79 : decode cX11_table 79 = .ok (.aload_n 0, 1) := by decide +kernel
theorem dX11_table_80 : decode cX11_table 80 = .ok (.aload_n 0, 1) := by decide +kernel
theorem dX11_table_81 : decode cX11_table 81 = .ok (.getfield 20, 3) := by decide +kernel
theorem dX11_table_84 : decode cX11_table 84 = .ok (.putfield 16, 3) := by decide +kernel
theorem dX11_table_87 : decode cX11_table 87 = .ok (.aload_n 0, 1) := by decide +kernel
theorem dX11_table_88 : decode cX11_table 88 = .ok (.aload_n 3, 1) := by decide +kernel
theorem dX11_table_89 : decode cX11_table 89 = .ok (.putfield 20, 3) := by decide +kernel
theorem dX11_table_92 : decode cX11_table 92 = .ok (.aload_n 0, 1) := by decide +kernel
theorem dX11_table_93 : decode cX11_table 93 = .ok (.invokevirtual 92, 3) := by decide +kernel
theorem dX11_table_96 : decode cX11_table 96 = .ok (.iconst 0, 1) := by decide +kernel
theorem dX11_table_97 : decode cX11_table 97 = .ok (.ireturn, 1) := by decide +kernel
def X11_table_b12 (e : mm_E) (m : mm_V) : Option ((Int32 ⊕ String) × mm_V) := some (.inr "java/lang/IllegalArgumentException", m)
theorem X11_table_b12_ok {K : mm_K} {e : mm_E} (hz : e.2.1 = K.2.2.2.2) {d : Nat} (hd : 15 ≤ d) {a0 : Nat} (h0 : e.1 a0 = some (11, 19)) {m : mm_V} {r : ((Int32 ⊕ String) × mm_V)} (hr : X11_table_b12 e m = some r) : mm_G K MX11_table d (mm_Xi e.1 r) 12 [none, none, none, none] [] (e.1, m) none 0 0 := by
  obtain ⟨d, rfl⟩ : ∃ d', d = d' + 1 := ⟨d - 1, by omega⟩
  unfold X11_table_b12 at hr
  exact mb_throw (mm_iae _ rfl) dX11_table_12 dX11_table_15 dX11_table_16 dX11_table_19 rfl (by omega) (Nat.le_of_ble_eq_true rfl) hr
def X11_table (e : mm_E) (a0 : Nat) (i1 : Int32) (m : mm_V) : Option ((Int32 ⊕ String) × mm_V) := if i1 < 0 then (X11_table_b12 e   m) else ((mm_gi e.1 m 11 19 a0 15).bind fun x1 => if i1 ≤ x1 then ((mm_gr e.1 m 11 19 a0 3).bind fun c2 => (mm_gr e.1 m 11 19 a0 2).bind fun c3 => (mm_gr e.1 m 11 19 a0 0).bind fun c4 => if e.1 c2 = some (8, 7) then ((X8_read e c2 c3 c4 i1 m).bind fun r5 => (mm_pf e.1 r5.2 11 19 a0 15 (.int (0 : Int32))).bind fun m7 => if r5.1 = 0 then ((mm_pf e.1 m7 11 19 a0 16 (.int (-1 : Int32))).bind fun m8 => (mm_gr e.1 m8 11 19 a0 1).bind fun c9 => (mm_gr e.1 m8 11 19 a0 2).bind fun c10 => (mm_pf e.1 m8 11 19 a0 1 (.ref c10)).bind fun m11 => (mm_pf e.1 m11 11 19 a0 2 (.ref c9)).bind fun m12 => (X11_lay e a0 m12).bind fun r13 => some (.inl (0 : Int32), r13)) else ((mm_gr e.1 m7 11 19 a0 3).bind fun c14 => (mm_gi e.1 m7 8 7 c14 6).bind fun x15 => (mm_pf e.1 m7 11 19 a0 16 (.int x15)).bind fun m16 => (mm_gi e.1 m16 11 19 a0 17).bind fun x17 => (mm_pf e.1 m16 11 19 a0 17 (.int (x17 + (1 : Int32)))).bind fun m18 => some (.inl r5.1, m18))) else none) else (X11_table_b12 e   m))
theorem X11_table_ok {K : mm_K} {e : mm_E} (hz : e.2.1 = K.2.2.2.2) {d : Nat} (hd : 15 ≤ d) {a0 : Nat} {i1 : Int32} (h0 : e.1 a0 = some (11, 19)) {m : mm_V} {r : ((Int32 ⊕ String) × mm_V)} (hr : X11_table e a0 i1 m = some r) : mm_Cn K MX11_table d (mm_Xi e.1 r) [.ref a0, .int i1] (e.1, m) none := by
  obtain ⟨d, rfl⟩ : ∃ d', d = d' + 1 := ⟨d - 1, by omega⟩
  refine mm_entry (by decide) (Nat.le_of_ble_eq_true rfl) rfl (fun hok => ?_)
  unfold X11_table at hr
  refine mg_weak (L' := [some (.ref a0), some (.int i1), none, none]) (mm_le_s (mm_le_s (mm_le_e (mm_le_e mm_le_0)))) ?_
  refine ml_iload_n (pc := 0) dX11_table_0 rfl (mm_get_s mm_get_0) ?_
  refine mb_if_lt (pc := 1) 12 dX11_table_1 rfl hr (fun hr => ?_) (fun hr => ?_)
  · exact mg_weak (mm_le_n (mm_le_n (mm_le_n (mm_le_n mm_le_0)))) (X11_table_b12_ok hz hd h0 hr)
  · refine ml_iload_n (pc := 4) dX11_table_4 rfl (mm_get_s mm_get_0) ?_
    refine ml_aload_n (pc := 5) dX11_table_5 rfl mm_get_0 ?_
    refine mb_gi (pc := 6) dX11_table_6 fl_X11_95 hr (fun x1 hr => ?_)
    refine mb_icmp_le (pc := 9) 20 dX11_table_9 rfl hr (fun hr => ?_) (fun hr => ?_)
    · refine ml_aload_n (pc := 20) dX11_table_20 rfl mm_get_0 ?_
      refine mb_gr (pc := 21) dX11_table_21 fl_X11_28 hr (fun c2 hr => ?_)
      refine ml_aload_n (pc := 24) dX11_table_24 rfl mm_get_0 ?_
      refine mb_gr (pc := 25) dX11_table_25 fl_X11_20 hr (fun c3 hr => ?_)
      refine ml_aload_n (pc := 28) dX11_table_28 rfl mm_get_0 ?_
      refine mb_gr (pc := 29) dX11_table_29 fl_X11_9 hr (fun c4 hr => ?_)
      refine ml_iload_n (pc := 32) dX11_table_32 rfl (mm_get_s mm_get_0) ?_
      refine mb_ck hr (fun hb6 hr => ?_)
      refine mb_cVi (pc := 33) (As := [.ref c3, .ref c4, .int i1]) (rest := []) dX11_table_33 cw_X11_105 hb6 hr (fun v hv => X8_read_ok hz (by omega) hb6 hv) rfl (Nat.le_of_ble_eq_true rfl) (Nat.zero_le _) (Nat.zero_le _) (fun r5 hr => ?_)
      refine ml_istore_n (pc := 36) dX11_table_36 rfl (Nat.le_of_ble_eq_true rfl) (mm_st1_s mm_st1_i) ?_
      refine ml_aload_n (pc := 37) dX11_table_37 rfl mm_get_0 ?_
      refine mg_iconst (pc := 38) dX11_table_38 kc_0 ?_
      refine mb_pi (pc := 39) dX11_table_39 fp_X11_95 hr (fun m7 hr => ?_)
      refine ml_iload_n (pc := 42) dX11_table_42 rfl (mm_get_s (mm_get_s mm_get_0)) ?_
      refine mb_if_eq (pc := 43) 69 dX11_table_43 rfl hr (fun hr => ?_) (fun hr => ?_)
      · refine ml_aload_n (pc := 69) dX11_table_69 rfl mm_get_0 ?_
        refine mg_iconst (pc := 70) dX11_table_70 kc_m1 ?_
        refine mb_pi (pc := 71) dX11_table_71 fp_X11_88 hr (fun m8 hr => ?_)
        refine ml_aload_n (pc := 74) dX11_table_74 rfl mm_get_0 ?_
        refine mb_gr (pc := 75) dX11_table_75 fl_X11_16 hr (fun c9 hr => ?_)
        refine ml_astore_n (pc := 78) dX11_table_78 rfl (Nat.le_of_ble_eq_true rfl) (mm_st1_s (mm_st1_s mm_st1_i)) ?_
        refine ml_aload_n (pc := 79) dX11_table_79 rfl mm_get_0 ?_
        refine ml_aload_n (pc := 80) dX11_table_80 rfl mm_get_0 ?_
        refine mb_gr (pc := 81) dX11_table_81 fl_X11_20 hr (fun c10 hr => ?_)
        refine mb_pr (pc := 84) dX11_table_84 fp_X11_16 hr (fun m11 hr => ?_)
        refine ml_aload_n (pc := 87) dX11_table_87 rfl mm_get_0 ?_
        refine ml_aload_n (pc := 88) dX11_table_88 rfl (mm_get_s (mm_get_s (mm_get_s mm_get_0))) ?_
        refine mb_pr (pc := 89) dX11_table_89 fp_X11_20 hr (fun m12 hr => ?_)
        refine ml_aload_n (pc := 92) dX11_table_92 rfl mm_get_0 ?_
        refine mb_cVv (pc := 93) (As := []) (rest := []) dX11_table_93 cw_X11_92 h0 hr (fun v hv => X11_lay_ok hz (by omega) h0 hv) rfl (Nat.le_of_ble_eq_true rfl) (Nat.zero_le _) (Nat.zero_le _) (fun r13 hr => ?_)
        refine mg_iconst (pc := 96) dX11_table_96 kc_0 ?_
        exact mb_xiret dX11_table_97 rfl hr
      · refine ml_aload_n (pc := 46) dX11_table_46 rfl mm_get_0 ?_
        refine ml_aload_n (pc := 47) dX11_table_47 rfl mm_get_0 ?_
        refine mb_gr (pc := 48) dX11_table_48 fl_X11_28 hr (fun c14 hr => ?_)
        refine mb_gi (pc := 51) dX11_table_51 fl_X11_109 hr (fun x15 hr => ?_)
        refine mb_pi (pc := 54) dX11_table_54 fp_X11_88 hr (fun m16 hr => ?_)
        refine ml_aload_n (pc := 57) dX11_table_57 rfl mm_get_0 ?_
        refine mg_dup (pc := 58) dX11_table_58 rfl ?_
        refine mb_gi (pc := 59) dX11_table_59 fl_X11_112 hr (fun x17 hr => ?_)
        refine mg_iconst (pc := 62) dX11_table_62 kc_1 ?_
        refine mg_iadd (pc := 63) dX11_table_63 ?_
        refine mb_pi (pc := 64) dX11_table_64 fp_X11_112 hr (fun m18 hr => ?_)
        refine ml_iload_n (pc := 67) dX11_table_67 rfl (mm_get_s (mm_get_s mm_get_0)) ?_
        exact mb_xiret dX11_table_68 rfl hr
    · exact mg_weak (mm_le_n (mm_le_n (mm_le_n (mm_le_n mm_le_0)))) (X11_table_b12_ok hz hd h0 hr)
theorem dX11_two_0 : decode cX11_two 0 = .ok (.iload_n 3, 1) := by decide +kernel
theorem dX11_two_1 : decode cX11_two 1 = .ok (.ifCond .eq 8, 3) := by decide +kernel
theorem dX11_two_4 : decode cX11_two 4 = .ok (.iload_n 3, 1) := by decide +kernel
theorem dX11_two_5 : decode cX11_two 5 = .ok (.iconst 1, 1) := by decide +kernel
theorem dX11_two_6 : decode cX11_two 6 = .ok (.if_icmp .ne 7, 3) := by decide +kernel
theorem dX11_two_9 : decode cX11_two 9 = .ok (.iconst 1, 1) := by decide +kernel
theorem dX11_two_10 : decode cX11_two 10 = .ok (.goto 4, 3) := by decide +kernel
theorem dX11_two_13 : decode cX11_two 13 = .ok (.iconst 0, 1) := by decide +kernel
theorem dX11_two_14 : decode cX11_two 14 = .ok (.invokestatic 164, 3) := by decide +kernel
theorem dX11_two_17 : decode cX11_two 17 = .ok (.iload_n 1, 1) := by decide +kernel
theorem dX11_two_18 : decode cX11_two 18 = .ok (.ifCond .lt 13, 3) := by decide +kernel
theorem dX11_two_21 : decode cX11_two 21 = .ok (.iload_n 1, 1) := by decide +kernel
theorem dX11_two_22 : decode cX11_two 22 = .ok (.bipush 13, 2) := by decide +kernel
theorem dX11_two_24 : decode cX11_two 24 = .ok (.if_icmp .gt 7, 3) := by decide +kernel
theorem dX11_two_27 : decode cX11_two 27 = .ok (.iconst 1, 1) := by decide +kernel
theorem dX11_two_28 : decode cX11_two 28 = .ok (.goto 4, 3) := by decide +kernel
theorem dX11_two_31 : decode cX11_two 31 = .ok (.iconst 0, 1) := by decide +kernel
theorem dX11_two_32 : decode cX11_two 32 = .ok (.invokestatic 199, 3) := by decide +kernel
theorem dX11_two_35 : decode cX11_two 35 = .ok (.iload_n 1, 1) := by decide +kernel
theorem dX11_two_36 : decode cX11_two 36 = .ok (.ifCond .ne 18, 3) := by decide +kernel
theorem dX11_two_39 : decode cX11_two 39 = .ok (.iload_n 2, 1) := by decide +kernel
theorem dX11_two_40 : decode cX11_two 40 = .ok (.ifCond .ne 8, 3) := by decide +kernel
theorem dX11_two_43 : decode cX11_two 43 = .ok (.iload_n 3, 1) := by decide +kernel
theorem dX11_two_44 : decode cX11_two 44 = .ok (.iconst 1, 1) := by decide +kernel
theorem dX11_two_45 : decode cX11_two 45 = .ok (.if_icmp .ne 7, 3) := by decide +kernel
theorem dX11_two_48 : decode cX11_two 48 = .ok (.lconst 1, 1) := by decide +kernel
theorem dX11_two_49 : decode cX11_two 49 = .ok (.goto 4, 3) := by decide +kernel
theorem dX11_two_52 : decode cX11_two 52 = .ok (.lconst 0, 1) := by decide +kernel
theorem dX11_two_53 : decode cX11_two 53 = .ok (.lreturn, 1) := by decide +kernel
theorem dX11_two_54 : decode cX11_two 54 = .ok (.iload_n 2, 1) := by decide +kernel
theorem dX11_two_55 : decode cX11_two 55 = .ok (.ifCond .eq 19, 3) := by decide +kernel
theorem dX11_two_58 : decode cX11_two 58 = .ok (.iload_n 1, 1) := by decide +kernel
theorem dX11_two_59 : decode cX11_two 59 = .ok (.iload_n 3, 1) := by decide +kernel
theorem dX11_two_60 : decode cX11_two 60 = .ok (.ifCond .ne 7, 3) := by decide +kernel
theorem dX11_two_63 : decode cX11_two 63 = .ok (.iconst 1, 1) := by decide +kernel
theorem dX11_two_64 : decode cX11_two 64 = .ok (.goto 4, 3) := by decide +kernel
theorem dX11_two_67 : decode cX11_two 67 = .ok (.iconst 0, 1) := by decide +kernel
theorem dX11_two_68 : decode cX11_two 68 = .ok (.invokestatic 251, 3) := by decide +kernel
theorem dX11_two_71 : decode cX11_two 71 = .ok (.goto 16, 3) := by decide +kernel
theorem dX11_two_74 : decode cX11_two 74 = .ok (.iload_n 1, 1) := by decide +kernel
theorem dX11_two_75 : decode cX11_two 75 = .ok (.iload_n 3, 1) := by decide +kernel
theorem dX11_two_76 : decode cX11_two 76 = .ok (.ifCond .ne 7, 3) := by decide +kernel
theorem dX11_two_79 : decode cX11_two 79 = .ok (.iconst 1, 1) := by decide +kernel
theorem dX11_two_80 : decode cX11_two 80 = .ok (.goto 4, 3) := by decide +kernel
theorem dX11_two_83 : decode cX11_two 83 = .ok (.iconst 0, 1) := by decide +kernel
theorem dX11_two_84 : decode cX11_two 84 = .ok (.invokestatic 255, 3) := by decide +kernel
theorem dX11_two_87 : decode cX11_two 87 = .ok (.lreturn, 1) := by decide +kernel
def X11_two_b87 (e : mm_E) (t0 : Int64) (m : mm_V) : Option ((Int64 ⊕ String) × mm_V) := some (.inl t0, m)
theorem X11_two_b87_ok {K : mm_K} {e : mm_E} (hz : e.2.1 = K.2.2.2.2) {d : Nat} (hd : 10 ≤ d) {t0 : Int64} {a0 : Nat} (h0 : e.1 a0 = some (11, 19)) {m : mm_V} {r : ((Int64 ⊕ String) × mm_V)} (hr : X11_two_b87 e t0 m = some r) : mm_G K MX11_two d (mm_Xl e.1 r) 87 [none, none, none, none] [.long t0] (e.1, m) none 0 0 := by
  obtain ⟨d, rfl⟩ : ∃ d', d = d' + 1 := ⟨d - 1, by omega⟩
  unfold X11_two_b87 at hr
  exact mb_xlret dX11_two_87 rfl hr
def X11_two_b84 (e : mm_E) (t0 : Int32) (t1 : Int32) (m : mm_V) : Option ((Int64 ⊕ String) × mm_V) := (X11_twoWithout e t0 t1 m).bind fun r1 => X11_two_b87 e  r1.1 r1.2
theorem X11_two_b84_ok {K : mm_K} {e : mm_E} (hz : e.2.1 = K.2.2.2.2) {d : Nat} (hd : 10 ≤ d) {t0 : Int32} {t1 : Int32} {a0 : Nat} (h0 : e.1 a0 = some (11, 19)) {m : mm_V} {r : ((Int64 ⊕ String) × mm_V)} (hr : X11_two_b84 e t0 t1 m = some r) : mm_G K MX11_two d (mm_Xl e.1 r) 84 [none, none, none, none] [.int t1, .int t0] (e.1, m) none 0 0 := by
  obtain ⟨d, rfl⟩ : ∃ d', d = d' + 1 := ⟨d - 1, by omega⟩
  unfold X11_two_b84 at hr
  refine mb_cSl (pc := 84) (As := [.int t0, .int t1]) (rest := []) dX11_two_84 cw_X11_255  hr (fun v hv => X11_twoWithout_ok hz (by omega)  hv) rfl (Nat.le_of_ble_eq_true rfl) (Nat.zero_le _) (Nat.zero_le _) (fun r1 hr => ?_)
  exact mg_weak (mm_le_n (mm_le_n (mm_le_n (mm_le_n mm_le_0)))) (X11_two_b87_ok hz hd h0 hr)
def X11_two_b68 (e : mm_E) (t0 : Int32) (t1 : Int32) (m : mm_V) : Option ((Int64 ⊕ String) × mm_V) := (X11_twoWithQueen e t0 t1 m).bind fun r1 => X11_two_b87 e  r1.1 r1.2
theorem X11_two_b68_ok {K : mm_K} {e : mm_E} (hz : e.2.1 = K.2.2.2.2) {d : Nat} (hd : 10 ≤ d) {t0 : Int32} {t1 : Int32} {a0 : Nat} (h0 : e.1 a0 = some (11, 19)) {m : mm_V} {r : ((Int64 ⊕ String) × mm_V)} (hr : X11_two_b68 e t0 t1 m = some r) : mm_G K MX11_two d (mm_Xl e.1 r) 68 [none, none, none, none] [.int t1, .int t0] (e.1, m) none 0 0 := by
  obtain ⟨d, rfl⟩ : ∃ d', d = d' + 1 := ⟨d - 1, by omega⟩
  unfold X11_two_b68 at hr
  refine mb_cSl (pc := 68) (As := [.int t0, .int t1]) (rest := []) dX11_two_68 cw_X11_251  hr (fun v hv => X11_twoWithQueen_ok hz (by omega)  hv) rfl (Nat.le_of_ble_eq_true rfl) (Nat.zero_le _) (Nat.zero_le _) (fun r1 hr => ?_)
  refine mg_goto (pc := 71) 87 dX11_two_71 rfl ?_
  exact mg_weak (mm_le_n (mm_le_n (mm_le_n (mm_le_n mm_le_0)))) (X11_two_b87_ok hz hd h0 hr)
def X11_two_b53 (e : mm_E) (t0 : Int64) (m : mm_V) : Option ((Int64 ⊕ String) × mm_V) := some (.inl t0, m)
theorem X11_two_b53_ok {K : mm_K} {e : mm_E} (hz : e.2.1 = K.2.2.2.2) {d : Nat} (hd : 10 ≤ d) {t0 : Int64} {a0 : Nat} (h0 : e.1 a0 = some (11, 19)) {m : mm_V} {r : ((Int64 ⊕ String) × mm_V)} (hr : X11_two_b53 e t0 m = some r) : mm_G K MX11_two d (mm_Xl e.1 r) 53 [none, none, none, none] [.long t0] (e.1, m) none 0 0 := by
  obtain ⟨d, rfl⟩ : ∃ d', d = d' + 1 := ⟨d - 1, by omega⟩
  unfold X11_two_b53 at hr
  exact mb_xlret dX11_two_53 rfl hr
def X11_two_b48 (e : mm_E) (m : mm_V) : Option ((Int64 ⊕ String) × mm_V) := X11_two_b53 e  (1 : Int64) m
theorem X11_two_b48_ok {K : mm_K} {e : mm_E} (hz : e.2.1 = K.2.2.2.2) {d : Nat} (hd : 10 ≤ d) {a0 : Nat} (h0 : e.1 a0 = some (11, 19)) {m : mm_V} {r : ((Int64 ⊕ String) × mm_V)} (hr : X11_two_b48 e m = some r) : mm_G K MX11_two d (mm_Xl e.1 r) 48 [none, none, none, none] [] (e.1, m) none 0 0 := by
  obtain ⟨d, rfl⟩ : ∃ d', d = d' + 1 := ⟨d - 1, by omega⟩
  unfold X11_two_b48 at hr
  refine mg_lconst (pc := 48) dX11_two_48 (v := (1 : Int64)) (by decide) ?_
  refine mg_goto (pc := 49) 53 dX11_two_49 rfl ?_
  exact mg_weak (mm_le_n (mm_le_n (mm_le_n (mm_le_n mm_le_0)))) (X11_two_b53_ok hz hd h0 hr)
def X11_two_b32 (e : mm_E) (i1 : Int32) (i2 : Int32) (i3 : Int32) (t0 : Int32) (m : mm_V) : Option ((Int64 ⊕ String) × mm_V) := mm_bx (X11_needArgument e t0 m) fun r1 => if ¬ i1 = 0 then (if i2 = 0 then (if ¬ i3 = 0 then (X11_two_b84 e  i1 (0 : Int32) r1.2) else (X11_two_b84 e  i1 (1 : Int32) r1.2)) else (if ¬ i3 = 0 then (X11_two_b68 e  i1 (0 : Int32) r1.2) else (X11_two_b68 e  i1 (1 : Int32) r1.2))) else (if ¬ i2 = 0 then (X11_two_b48 e   r1.2) else (if ¬ i3 = (1 : Int32) then (X11_two_b53 e  (0 : Int64) r1.2) else (X11_two_b48 e   r1.2)))
theorem X11_two_b32_ok {K : mm_K} {e : mm_E} (hz : e.2.1 = K.2.2.2.2) {d : Nat} (hd : 10 ≤ d) {i1 : Int32} {i2 : Int32} {i3 : Int32} {t0 : Int32} {a0 : Nat} (h0 : e.1 a0 = some (11, 19)) {m : mm_V} {r : ((Int64 ⊕ String) × mm_V)} (hr : X11_two_b32 e i1 i2 i3 t0 m = some r) : mm_G K MX11_two d (mm_Xl e.1 r) 32 [none, some (.int i1), some (.int i2), some (.int i3)] [.int t0] (e.1, m) none 0 0 := by
  obtain ⟨d, rfl⟩ : ∃ d', d = d' + 1 := ⟨d - 1, by omega⟩
  unfold X11_two_b32 at hr
  refine mb_xSv (pc := 32) (As := [.int t0]) (rest := []) dX11_two_32 cw_X11_199 tw_1064  rfl hr (fun v hv => X11_needArgument_ok hz (by omega)  hv) rfl (Nat.le_of_ble_eq_true rfl) (fun r1 hr => ?_)
  refine ml_iload_n (pc := 35) dX11_two_35 rfl (mm_get_s mm_get_0) ?_
  refine mb_if_ne (pc := 36) 54 dX11_two_36 rfl hr (fun hr => ?_) (fun hr => ?_)
  · refine ml_iload_n (pc := 54) dX11_two_54 rfl (mm_get_s (mm_get_s mm_get_0)) ?_
    refine mb_if_eq (pc := 55) 74 dX11_two_55 rfl hr (fun hr => ?_) (fun hr => ?_)
    · refine ml_iload_n (pc := 74) dX11_two_74 rfl (mm_get_s mm_get_0) ?_
      refine ml_iload_n (pc := 75) dX11_two_75 rfl (mm_get_s (mm_get_s (mm_get_s mm_get_0))) ?_
      refine mb_if_ne (pc := 76) 83 dX11_two_76 rfl hr (fun hr => ?_) (fun hr => ?_)
      · refine mg_iconst (pc := 83) dX11_two_83 kc_0 ?_
        exact mg_weak (mm_le_n (mm_le_n (mm_le_n (mm_le_n mm_le_0)))) (X11_two_b84_ok hz hd h0 hr)
      · refine mg_iconst (pc := 79) dX11_two_79 kc_1 ?_
        refine mg_goto (pc := 80) 84 dX11_two_80 rfl ?_
        exact mg_weak (mm_le_n (mm_le_n (mm_le_n (mm_le_n mm_le_0)))) (X11_two_b84_ok hz hd h0 hr)
    · refine ml_iload_n (pc := 58) dX11_two_58 rfl (mm_get_s mm_get_0) ?_
      refine ml_iload_n (pc := 59) dX11_two_59 rfl (mm_get_s (mm_get_s (mm_get_s mm_get_0))) ?_
      refine mb_if_ne (pc := 60) 67 dX11_two_60 rfl hr (fun hr => ?_) (fun hr => ?_)
      · refine mg_iconst (pc := 67) dX11_two_67 kc_0 ?_
        exact mg_weak (mm_le_n (mm_le_n (mm_le_n (mm_le_n mm_le_0)))) (X11_two_b68_ok hz hd h0 hr)
      · refine mg_iconst (pc := 63) dX11_two_63 kc_1 ?_
        refine mg_goto (pc := 64) 68 dX11_two_64 rfl ?_
        exact mg_weak (mm_le_n (mm_le_n (mm_le_n (mm_le_n mm_le_0)))) (X11_two_b68_ok hz hd h0 hr)
  · refine ml_iload_n (pc := 39) dX11_two_39 rfl (mm_get_s (mm_get_s mm_get_0)) ?_
    refine mb_if_ne (pc := 40) 48 dX11_two_40 rfl hr (fun hr => ?_) (fun hr => ?_)
    · exact mg_weak (mm_le_n (mm_le_n (mm_le_n (mm_le_n mm_le_0)))) (X11_two_b48_ok hz hd h0 hr)
    · refine ml_iload_n (pc := 43) dX11_two_43 rfl (mm_get_s (mm_get_s (mm_get_s mm_get_0))) ?_
      refine mg_iconst (pc := 44) dX11_two_44 kc_1 ?_
      refine mb_icmp_ne (pc := 45) 52 dX11_two_45 rfl hr (fun hr => ?_) (fun hr => ?_)
      · refine mg_lconst (pc := 52) dX11_two_52 (v := (0 : Int64)) (by decide) ?_
        exact mg_weak (mm_le_n (mm_le_n (mm_le_n (mm_le_n mm_le_0)))) (X11_two_b53_ok hz hd h0 hr)
      · exact mg_weak (mm_le_n (mm_le_n (mm_le_n (mm_le_n mm_le_0)))) (X11_two_b48_ok hz hd h0 hr)
def X11_two_b31 (e : mm_E) (i1 : Int32) (i2 : Int32) (i3 : Int32) (m : mm_V) : Option ((Int64 ⊕ String) × mm_V) := X11_two_b32 e i1 i2 i3 (0 : Int32) m
theorem X11_two_b31_ok {K : mm_K} {e : mm_E} (hz : e.2.1 = K.2.2.2.2) {d : Nat} (hd : 10 ≤ d) {i1 : Int32} {i2 : Int32} {i3 : Int32} {a0 : Nat} (h0 : e.1 a0 = some (11, 19)) {m : mm_V} {r : ((Int64 ⊕ String) × mm_V)} (hr : X11_two_b31 e i1 i2 i3 m = some r) : mm_G K MX11_two d (mm_Xl e.1 r) 31 [none, some (.int i1), some (.int i2), some (.int i3)] [] (e.1, m) none 0 0 := by
  obtain ⟨d, rfl⟩ : ∃ d', d = d' + 1 := ⟨d - 1, by omega⟩
  unfold X11_two_b31 at hr
  refine mg_iconst (pc := 31) dX11_two_31 kc_0 ?_
  exact mg_weak (mm_le_n (mm_le_s (mm_le_s (mm_le_s mm_le_0)))) (X11_two_b32_ok hz hd h0 hr)
def X11_two_b14 (e : mm_E) (i1 : Int32) (i2 : Int32) (i3 : Int32) (t0 : Int32) (m : mm_V) : Option ((Int64 ⊕ String) × mm_V) := mm_bx (X11_need e t0 m) fun r1 => if i1 < 0 then (X11_two_b31 e i1 i2 i3  r1.2) else (if (13 : Int32) < i1 then (X11_two_b31 e i1 i2 i3  r1.2) else (X11_two_b32 e i1 i2 i3 (1 : Int32) r1.2))
theorem X11_two_b14_ok {K : mm_K} {e : mm_E} (hz : e.2.1 = K.2.2.2.2) {d : Nat} (hd : 10 ≤ d) {i1 : Int32} {i2 : Int32} {i3 : Int32} {t0 : Int32} {a0 : Nat} (h0 : e.1 a0 = some (11, 19)) {m : mm_V} {r : ((Int64 ⊕ String) × mm_V)} (hr : X11_two_b14 e i1 i2 i3 t0 m = some r) : mm_G K MX11_two d (mm_Xl e.1 r) 14 [none, some (.int i1), some (.int i2), some (.int i3)] [.int t0] (e.1, m) none 0 0 := by
  obtain ⟨d, rfl⟩ : ∃ d', d = d' + 1 := ⟨d - 1, by omega⟩
  unfold X11_two_b14 at hr
  refine mb_xSv (pc := 14) (As := [.int t0]) (rest := []) dX11_two_14 cw_X11_164 tw_1037  rfl hr (fun v hv => X11_need_ok hz (by omega)  hv) rfl (Nat.le_of_ble_eq_true rfl) (fun r1 hr => ?_)
  refine ml_iload_n (pc := 17) dX11_two_17 rfl (mm_get_s mm_get_0) ?_
  refine mb_if_lt (pc := 18) 31 dX11_two_18 rfl hr (fun hr => ?_) (fun hr => ?_)
  · exact mg_weak (mm_le_n (mm_le_s (mm_le_s (mm_le_s mm_le_0)))) (X11_two_b31_ok hz hd h0 hr)
  · refine ml_iload_n (pc := 21) dX11_two_21 rfl (mm_get_s mm_get_0) ?_
    refine mg_bipush (pc := 22) dX11_two_22 kb_13 ?_
    refine mb_icmp_gt (pc := 24) 31 dX11_two_24 rfl hr (fun hr => ?_) (fun hr => ?_)
    · exact mg_weak (mm_le_n (mm_le_s (mm_le_s (mm_le_s mm_le_0)))) (X11_two_b31_ok hz hd h0 hr)
    · refine mg_iconst (pc := 27) dX11_two_27 kc_1 ?_
      refine mg_goto (pc := 28) 32 dX11_two_28 rfl ?_
      exact mg_weak (mm_le_n (mm_le_s (mm_le_s (mm_le_s mm_le_0)))) (X11_two_b32_ok hz hd h0 hr)
def X11_two_b9 (e : mm_E) (i1 : Int32) (i2 : Int32) (i3 : Int32) (m : mm_V) : Option ((Int64 ⊕ String) × mm_V) := X11_two_b14 e i1 i2 i3 (1 : Int32) m
theorem X11_two_b9_ok {K : mm_K} {e : mm_E} (hz : e.2.1 = K.2.2.2.2) {d : Nat} (hd : 10 ≤ d) {i1 : Int32} {i2 : Int32} {i3 : Int32} {a0 : Nat} (h0 : e.1 a0 = some (11, 19)) {m : mm_V} {r : ((Int64 ⊕ String) × mm_V)} (hr : X11_two_b9 e i1 i2 i3 m = some r) : mm_G K MX11_two d (mm_Xl e.1 r) 9 [none, some (.int i1), some (.int i2), some (.int i3)] [] (e.1, m) none 0 0 := by
  obtain ⟨d, rfl⟩ : ∃ d', d = d' + 1 := ⟨d - 1, by omega⟩
  unfold X11_two_b9 at hr
  refine mg_iconst (pc := 9) dX11_two_9 kc_1 ?_
  refine mg_goto (pc := 10) 14 dX11_two_10 rfl ?_
  exact mg_weak (mm_le_n (mm_le_s (mm_le_s (mm_le_s mm_le_0)))) (X11_two_b14_ok hz hd h0 hr)
def X11_two (e : mm_E) (a0 : Nat) (i1 : Int32) (i2 : Int32) (i3 : Int32) (m : mm_V) : Option ((Int64 ⊕ String) × mm_V) := if i3 = 0 then (X11_two_b9 e i1 i2 i3  m) else (if ¬ i3 = (1 : Int32) then (X11_two_b14 e i1 i2 i3 (0 : Int32) m) else (X11_two_b9 e i1 i2 i3  m))
theorem X11_two_ok {K : mm_K} {e : mm_E} (hz : e.2.1 = K.2.2.2.2) {d : Nat} (hd : 10 ≤ d) {a0 : Nat} {i1 : Int32} {i2 : Int32} {i3 : Int32} (h0 : e.1 a0 = some (11, 19)) {m : mm_V} {r : ((Int64 ⊕ String) × mm_V)} (hr : X11_two e a0 i1 i2 i3 m = some r) : mm_Cn K MX11_two d (mm_Xl e.1 r) [.ref a0, .int i1, .int i2, .int i3] (e.1, m) none := by
  obtain ⟨d, rfl⟩ : ∃ d', d = d' + 1 := ⟨d - 1, by omega⟩
  refine mm_entry (by decide) (Nat.le_of_ble_eq_true rfl) rfl (fun hok => ?_)
  unfold X11_two at hr
  refine mg_weak (L' := [some (.ref a0), some (.int i1), some (.int i2), some (.int i3)]) (mm_le_s (mm_le_s (mm_le_s (mm_le_s mm_le_0)))) ?_
  refine ml_iload_n (pc := 0) dX11_two_0 rfl (mm_get_s (mm_get_s (mm_get_s mm_get_0))) ?_
  refine mb_if_eq (pc := 1) 9 dX11_two_1 rfl hr (fun hr => ?_) (fun hr => ?_)
  · exact mg_weak (mm_le_n (mm_le_s (mm_le_s (mm_le_s mm_le_0)))) (X11_two_b9_ok hz hd h0 hr)
  · refine ml_iload_n (pc := 4) dX11_two_4 rfl (mm_get_s (mm_get_s (mm_get_s mm_get_0))) ?_
    refine mg_iconst (pc := 5) dX11_two_5 kc_1 ?_
    refine mb_icmp_ne (pc := 6) 13 dX11_two_6 rfl hr (fun hr => ?_) (fun hr => ?_)
    · refine mg_iconst (pc := 13) dX11_two_13 kc_0 ?_
      exact mg_weak (mm_le_n (mm_le_s (mm_le_s (mm_le_s mm_le_0)))) (X11_two_b14_ok hz hd h0 hr)
    · exact mg_weak (mm_le_n (mm_le_s (mm_le_s (mm_le_s mm_le_0)))) (X11_two_b9_ok hz hd h0 hr)
theorem dX11_wouldLose_0 : decode cX11_wouldLose 0 = .ok (.aload_n 0, 1) := by decide +kernel
theorem dX11_wouldLose_1 : decode cX11_wouldLose 1 = .ok (.getfield 45, 3) := by decide +kernel
theorem dX11_wouldLose_4 : decode cX11_wouldLose 4 = .ok (.invokevirtual 124, 3) := by decide +kernel
theorem dX11_wouldLose_7 : decode cX11_wouldLose 7 = .ok (.ifCond .ne 7, 3) := by decide +kernel
theorem dX11_wouldLose_10 : decode cX11_wouldLose 10 = .ok (.iconst 1, 1) := by decide +kernel
theorem dX11_wouldLose_11 : decode cX11_wouldLose 11 = .ok (.goto 4, 3) := by decide +kernel
theorem dX11_wouldLose_14 : decode cX11_wouldLose 14 = .ok (.iconst 0, 1) := by decide +kernel
theorem dX11_wouldLose_15 : decode cX11_wouldLose 15 = .ok (.invokestatic 164, 3) := by decide +kernel
theorem dX11_wouldLose_18 : decode cX11_wouldLose 18 = .ok (.aload_n 0, 1) := by decide +kernel
theorem dX11_wouldLose_19 : decode cX11_wouldLose 19 = .ok (.getfield 45, 3) := by decide +kernel
theorem dX11_wouldLose_22 : decode cX11_wouldLose 22 = .ok (.aload_n 0, 1) := by decide +kernel
theorem dX11_wouldLose_23 : decode cX11_wouldLose 23 = .ok (.getfield 45, 3) := by decide +kernel
theorem dX11_wouldLose_26 : decode cX11_wouldLose 26 = .ok (.aload_n 0, 1) := by decide +kernel
theorem dX11_wouldLose_27 : decode cX11_wouldLose 27 = .ok (.getfield 45, 3) := by decide +kernel
theorem dX11_wouldLose_30 : decode cX11_wouldLose 30 = .ok (.getfield 128, 3) := by decide +kernel
theorem dX11_wouldLose_33 : decode cX11_wouldLose 33 = .ok (.invokevirtual 179, 3) := by decide +kernel
theorem dX11_wouldLose_36 : decode cX11_wouldLose 36 = .ok (.invokevirtual 153, 3) := by decide +kernel
theorem dX11_wouldLose_39 : decode cX11_wouldLose 39 = .ok (.astore_n 2, 1) := by decide +kernel
theorem dX11_wouldLose_40 : decode cX11_wouldLose 40 = .ok (.iload_n 1, 1) := by decide +kernel
theorem dX11_wouldLose_41 : decode cX11_wouldLose 41 = .ok (.iconst (-1), 1) := by decide +kernel
theorem dX11_wouldLose_42 : decode cX11_wouldLose 42 = .ok (.if_icmp .eq 17, 3) := by decide +kernel
theorem dX11_wouldLose_45 : decode cX11_wouldLose 45 = .ok (.iload_n 1, 1) := by decide +kernel
theorem dX11_wouldLose_46 : decode cX11_wouldLose 46 = .ok (.bipush (-2), 2) := by decide +kernel
theorem dX11_wouldLose_48 : decode cX11_wouldLose 48 = .ok (.if_icmp .eq 11, 3) := by decide +kernel
theorem dX11_wouldLose_51 : decode cX11_wouldLose 51 = .ok (.aload_n 2, 1) := by decide +kernel
theorem dX11_wouldLose_52 : decode cX11_wouldLose 52 = .ok (.iload_n 1, 1) := by decide +kernel
theorem dX11_wouldLose_53 : decode cX11_wouldLose 53 = .ok (.invokevirtual 160, 3) := by decide +kernel
theorem dX11_wouldLose_56 : decode cX11_wouldLose 56 = .ok (.ifCond .eq 7, 3) := by decide +kernel
theorem dX11_wouldLose_59 : decode cX11_wouldLose 59 = .ok (.iconst 1, 1) := by decide +kernel
theorem dX11_wouldLose_60 : decode cX11_wouldLose 60 = .ok (.goto 4, 3) := by decide +kernel
theorem dX11_wouldLose_63 : decode cX11_wouldLose 63 = .ok (.iconst 0, 1) := by decide +kernel
theorem dX11_wouldLose_64 : decode cX11_wouldLose 64 = .ok (.invokestatic 164, 3) := by decide +kernel
theorem dX11_wouldLose_67 : decode cX11_wouldLose 67 = .ok (.iload_n 1, 1) := by decide +kernel
theorem dX11_wouldLose_68 : decode cX11_wouldLose 68 = .ok (.ifCond .lt 9, 3) := by decide +kernel
theorem dX11_wouldLose_71 : decode cX11_wouldLose 71 = .ok (.aload_n 0, 1) := by decide +kernel
theorem dX11_wouldLose_72 : decode cX11_wouldLose 72 = .ok (.iload_n 1, 1) := by decide +kernel
theorem dX11_wouldLose_73 : decode cX11_wouldLose 73 = .ok (.invokevirtual 313, 3) := by decide +kernel
theorem dX11_wouldLose_76 : decode cX11_wouldLose 76 = .ok (.ireturn, 1) := by decide +kernel
theorem dX11_wouldLose_77 : decode cX11_wouldLose 77 = .ok (.iconst 0, 1) := by decide +kernel
theorem dX11_wouldLose_78 : decode cX11_wouldLose 78 = .ok (.istore_n 3, 1) := by decide +kernel
theorem dX11_wouldLose_79 : decode cX11_wouldLose 79 = .ok (.iconst (-1), 1) := by decide +kernel
theorem dX11_wouldLose_80 : decode cX11_wouldLose 80 = .ok (.istore 4, 2) := by decide +kernel
theorem dX11_wouldLose_82 : decode cX11_wouldLose 82 = .ok (.iconst 0, 1) := by decide +kernel
theorem dX11_wouldLose_83 : decode cX11_wouldLose 83 = .ok (.istore 5, 2) := by decide +kernel
theorem dX11_wouldLose_85 : decode cX11_wouldLose 85 = .ok (.iload 5, 2) := by decide +kernel
theorem dX11_wouldLose_87 : decode cX11_wouldLose 87 = .ok (.aload_n 2, 1) := by decide +kernel
theorem dX11_wouldLose_88 : decode cX11_wouldLose 88 = .ok (.getfield 157, 3) := by decide +kernel
theorem dX11_wouldLose_91 : decode cX11_wouldLose 91 = .ok (.if_icmp .ge 53, 3) := by decide +kernel
theorem dX11_wouldLose_94 : decode cX11_wouldLose 94 = .ok (.aload_n 0, 1) := by decide +kernel
theorem dX11_wouldLose_95 : decode cX11_wouldLose 95 = .ok (.iload 5, 2) := by decide +kernel
theorem dX11_wouldLose_97 : decode cX11_wouldLose 97 = .ok (.invokevirtual 313, 3) := by decide +kernel
theorem dX11_wouldLose_100 : decode cX11_wouldLose 100 = .ok (.istore 6, 2) := by decide +kernel
theorem dX11_wouldLose_102 : decode cX11_wouldLose 102 = .ok (.iload 6, 2) := by decide +kernel
theorem dX11_wouldLose_104 : decode cX11_wouldLose 104 = .ok (.iconst (-1), 1) := by decide +kernel
theorem dX11_wouldLose_105 : decode cX11_wouldLose 105 = .ok (.if_icmp .eq 33, 3) := by decide +kernel
theorem dX11_wouldLose_108 : decode cX11_wouldLose 108 = .ok (.iload 6, 2) := by decide +kernel
theorem dX11_wouldLose_110 : decode cX11_wouldLose 110 = .ok (.aload_n 0, 1) := by decide +kernel
theorem dX11_wouldLose_111 : decode cX11_wouldLose 111 = .ok (.getfield 45, 3) := by decide +kernel
theorem dX11_wouldLose_114 : decode cX11_wouldLose 114 = .ok (.getfield 128, 3) := by decide +kernel
theorem dX11_wouldLose_117 : decode cX11_wouldLose 117 = .ok (.if_icmp .eq 21, 3) := by decide +kernel
theorem dX11_wouldLose_120 : decode cX11_wouldLose 120 = .ok (.iinc 3 1, 3) := by decide +kernel
theorem dX11_wouldLose_123 : decode cX11_wouldLose 123 = .ok (.iload 4, 2) := by decide +kernel
theorem dX11_wouldLose_125 : decode cX11_wouldLose 125 = .ok (.iconst (-1), 1) := by decide +kernel
theorem dX11_wouldLose_126 : decode cX11_wouldLose 126 = .ok (.if_icmp .ne 8, 3) := by decide +kernel
theorem dX11_wouldLose_129 : decode cX11_wouldLose 129 = .ok (.iload 5, 2) := by decide +kernel
theorem dX11_wouldLose_131 : decode cX11_wouldLose 131 = .ok (.goto 5, 3) := by decide +kernel
theorem dX11_wouldLose_134 : decode cX11_wouldLose 134 = .ok (.iload 4, 2) := by decide +kernel
theorem dX11_wouldLose_136 : decode cX11_wouldLose 136 = .ok (.istore 4, 2) := by decide +kernel
theorem dX11_wouldLose_138 : decode cX11_wouldLose 138 = .ok (.iinc 5 1, 3) := by decide +kernel
theorem dX11_wouldLose_141 : decode cX11_wouldLose 141 = .ok (.goto (-56), 3) := by decide +kernel
theorem dX11_wouldLose_144 : decode cX11_wouldLose 144 = .ok (.iload_n 1, 1) := by decide +kernel
theorem dX11_wouldLose_145 : decode cX11_wouldLose 145 = .ok (.iconst (-1), 1) := by decide +kernel
theorem dX11_wouldLose_146 : decode cX11_wouldLose 146 = .ok (.if_icmp .ne 7, 3) := by decide +kernel
theorem dX11_wouldLose_149 : decode cX11_wouldLose 149 = .ok (.iload_n 3, 1) := by decide +kernel
theorem dX11_wouldLose_150 : decode cX11_wouldLose 150 = .ok (.goto 5, 3) := by decide +kernel
theorem dX11_wouldLose_153 : decode cX11_wouldLose 153 = .ok (.iload 4, 2) := by decide +kernel
theorem dX11_wouldLose_155 : decode cX11_wouldLose 155 = .ok (.ireturn, 1) := by decide +kernel
def X11_wouldLose_b155 (e : mm_E) (t0 : Int32) (m : mm_V) : Option ((Int32 ⊕ String) × mm_V) := some (.inl t0, m)
theorem X11_wouldLose_b155_ok {K : mm_K} {e : mm_E} (hz : e.2.1 = K.2.2.2.2) {d : Nat} (hd : 10 ≤ d) {t0 : Int32} {a0 : Nat} (h0 : e.1 a0 = some (11, 19)) {m : mm_V} {r : ((Int32 ⊕ String) × mm_V)} (hr : X11_wouldLose_b155 e t0 m = some r) : mm_G K MX11_wouldLose d (mm_Xi e.1 r) 155 [none, none, none, none, none, none, none] [.int t0] (e.1, m) none 0 0 := by
  obtain ⟨d, rfl⟩ : ∃ d', d = d' + 1 := ⟨d - 1, by omega⟩
  unfold X11_wouldLose_b155 at hr
  exact mb_xiret dX11_wouldLose_155 rfl hr
def X11_wouldLose_b138 (e : mm_E) (k85 : Int32 → Int32 → Int32 → mm_V → Option ((Int32 ⊕ String) × mm_V)) (a0 : Nat) (i1 : Int32) (a2 : Nat) (i3 : Int32) (i4 : Int32) (i5 : Int32) (m : mm_V) : Option ((Int32 ⊕ String) × mm_V) := k85 i3 i4 (i5 + 1) m
theorem X11_wouldLose_b138_ok {K : mm_K} {e : mm_E} (hz : e.2.1 = K.2.2.2.2) {d : Nat} (hd : 10 ≤ d) {a0 : Nat} {i1 : Int32} {a2 : Nat} {i3 : Int32} {i4 : Int32} {i5 : Int32} (h0 : e.1 a0 = some (11, 19)) {k85 : Int32 → Int32 → Int32 → mm_V → Option ((Int32 ⊕ String) × mm_V)} (hk85 : ∀ (w3 : Int32) (w4 : Int32) (w5 : Int32) (m : mm_V) (r : ((Int32 ⊕ String) × mm_V)), k85 w3 w4 w5 m = some r → mm_G K MX11_wouldLose d (mm_Xi e.1 r) 85 [some (.ref a0), some (.int i1), some (.ref a2), some (.int w3), some (.int w4), some (.int w5), none] [] (e.1, m) none 0 0) {m : mm_V} {r : ((Int32 ⊕ String) × mm_V)} (hr : X11_wouldLose_b138 e k85 a0 i1 a2 i3 i4 i5 m = some r) : mm_G K MX11_wouldLose d (mm_Xi e.1 r) 138 [some (.ref a0), some (.int i1), some (.ref a2), some (.int i3), some (.int i4), some (.int i5), none] [] (e.1, m) none 0 0 := by
  obtain ⟨d, rfl⟩ : ∃ d', d = d' + 1 := ⟨d - 1, by omega⟩
  unfold X11_wouldLose_b138 at hr
  refine ml_iinc (pc := 138) dX11_wouldLose_138 (mm_get_s (mm_get_s (mm_get_s (mm_get_s (mm_get_s mm_get_0))))) (congrArg (fun z => i5 + z) kc_1) (Nat.le_of_ble_eq_true rfl) (mm_st1_s (mm_st1_s (mm_st1_s (mm_st1_s mm_st1_i)))) ?_
  refine mg_goto (pc := 141) 85 dX11_wouldLose_141 rfl ?_
  exact mg_weak (mm_le_s (mm_le_s (mm_le_s (mm_le_s (mm_le_s (mm_le_s (mm_le_n mm_le_0))))))) (hk85 _ _ _ _ _ hr)
def X11_wouldLose_b136 (e : mm_E) (k85 : Int32 → Int32 → Int32 → mm_V → Option ((Int32 ⊕ String) × mm_V)) (a0 : Nat) (i1 : Int32) (a2 : Nat) (i3 : Int32) (i5 : Int32) (t0 : Int32) (m : mm_V) : Option ((Int32 ⊕ String) × mm_V) := X11_wouldLose_b138 e k85 a0 i1 a2 i3 t0 i5  m
theorem X11_wouldLose_b136_ok {K : mm_K} {e : mm_E} (hz : e.2.1 = K.2.2.2.2) {d : Nat} (hd : 10 ≤ d) {a0 : Nat} {i1 : Int32} {a2 : Nat} {i3 : Int32} {i5 : Int32} {t0 : Int32} (h0 : e.1 a0 = some (11, 19)) {k85 : Int32 → Int32 → Int32 → mm_V → Option ((Int32 ⊕ String) × mm_V)} (hk85 : ∀ (w3 : Int32) (w4 : Int32) (w5 : Int32) (m : mm_V) (r : ((Int32 ⊕ String) × mm_V)), k85 w3 w4 w5 m = some r → mm_G K MX11_wouldLose d (mm_Xi e.1 r) 85 [some (.ref a0), some (.int i1), some (.ref a2), some (.int w3), some (.int w4), some (.int w5), none] [] (e.1, m) none 0 0) {m : mm_V} {r : ((Int32 ⊕ String) × mm_V)} (hr : X11_wouldLose_b136 e k85 a0 i1 a2 i3 i5 t0 m = some r) : mm_G K MX11_wouldLose d (mm_Xi e.1 r) 136 [some (.ref a0), some (.int i1), some (.ref a2), some (.int i3), none, some (.int i5), none] [.int t0] (e.1, m) none 0 0 := by
  obtain ⟨d, rfl⟩ : ∃ d', d = d' + 1 := ⟨d - 1, by omega⟩
  unfold X11_wouldLose_b136 at hr
  refine ml_istore (pc := 136) dX11_wouldLose_136 (Nat.le_of_ble_eq_true rfl) (mm_st1_s (mm_st1_s (mm_st1_s mm_st1_i))) ?_
  exact mg_weak (mm_le_s (mm_le_s (mm_le_s (mm_le_s (mm_le_s (mm_le_s (mm_le_n mm_le_0))))))) (X11_wouldLose_b138_ok hz hd h0 hk85 hr)
def X11_wouldLose_L85 (e : mm_E) (a0 : Nat) (i1 : Int32) (a2 : Nat) : Nat → Int32 → Int32 → Int32 → mm_V → Option ((Int32 ⊕ String) × mm_V)
  | 0, _, _, _, _ => none
  | n + 1, i3, i4, i5, m => (mm_gi e.1 m 3 2 a2 1).bind fun x1 => if x1 ≤ i5 then (if ¬ i1 = (-1 : Int32) then (X11_wouldLose_b155 e  i4 m) else (X11_wouldLose_b155 e  i3 m)) else ((X11_loserIf e a0 i5 m).bind fun r2 => if r2.1 = (-1 : Int32) then (X11_wouldLose_b138 e (X11_wouldLose_L85 e a0 i1 a2 n) a0 i1 a2 i3 i4 i5  r2.2) else ((mm_gr e.1 r2.2 11 19 a0 6).bind fun c3 => (mm_gi e.1 r2.2 4 12 c3 10).bind fun x4 => if r2.1 = x4 then (X11_wouldLose_b138 e (X11_wouldLose_L85 e a0 i1 a2 n) a0 i1 a2 i3 i4 i5  r2.2) else (if ¬ i4 = (-1 : Int32) then (X11_wouldLose_b136 e (X11_wouldLose_L85 e a0 i1 a2 n) a0 i1 a2 (i3 + 1) i5 i4 r2.2) else (X11_wouldLose_b136 e (X11_wouldLose_L85 e a0 i1 a2 n) a0 i1 a2 (i3 + 1) i5 i5 r2.2))))
theorem X11_wouldLose_L85_ok {K : mm_K} {e : mm_E} (hz : e.2.1 = K.2.2.2.2) {d : Nat} (hd : 10 ≤ d) {a0 : Nat} {i1 : Int32} {a2 : Nat} (h0 : e.1 a0 = some (11, 19)) : ∀ (n : Nat) (i3 : Int32) (i4 : Int32) (i5 : Int32) (m : mm_V) (r : ((Int32 ⊕ String) × mm_V)), X11_wouldLose_L85 e a0 i1 a2 n i3 i4 i5 m = some r → mm_G K MX11_wouldLose d (mm_Xi e.1 r) 85 [some (.ref a0), some (.int i1), some (.ref a2), some (.int i3), some (.int i4), some (.int i5), none] [] (e.1, m) none 0 0 := by
  obtain ⟨d, rfl⟩ : ∃ d', d = d' + 1 := ⟨d - 1, by omega⟩
  intro n
  induction n with
  | zero => intro i3 i4 i5 m r hr; unfold X11_wouldLose_L85 at hr; cases hr
  | succ n ih =>
    intro i3 i4 i5 m r hr
    unfold X11_wouldLose_L85 at hr
    refine ml_iload (pc := 85) dX11_wouldLose_85 (mm_get_s (mm_get_s (mm_get_s (mm_get_s (mm_get_s mm_get_0))))) ?_
    refine ml_aload_n (pc := 87) dX11_wouldLose_87 rfl (mm_get_s (mm_get_s mm_get_0)) ?_
    refine mb_gi (pc := 88) dX11_wouldLose_88 fl_X11_157 hr (fun x1 hr => ?_)
    refine mb_icmp_ge (pc := 91) 144 dX11_wouldLose_91 rfl hr (fun hr => ?_) (fun hr => ?_)
    · refine ml_iload_n (pc := 144) dX11_wouldLose_144 rfl (mm_get_s mm_get_0) ?_
      refine mg_iconst (pc := 145) dX11_wouldLose_145 kc_m1 ?_
      refine mb_icmp_ne (pc := 146) 153 dX11_wouldLose_146 rfl hr (fun hr => ?_) (fun hr => ?_)
      · refine ml_iload (pc := 153) dX11_wouldLose_153 (mm_get_s (mm_get_s (mm_get_s (mm_get_s mm_get_0)))) ?_
        exact mg_weak (mm_le_n (mm_le_n (mm_le_n (mm_le_n (mm_le_n (mm_le_n (mm_le_n mm_le_0))))))) (X11_wouldLose_b155_ok hz hd h0 hr)
      · refine ml_iload_n (pc := 149) dX11_wouldLose_149 rfl (mm_get_s (mm_get_s (mm_get_s mm_get_0))) ?_
        refine mg_goto (pc := 150) 155 dX11_wouldLose_150 rfl ?_
        exact mg_weak (mm_le_n (mm_le_n (mm_le_n (mm_le_n (mm_le_n (mm_le_n (mm_le_n mm_le_0))))))) (X11_wouldLose_b155_ok hz hd h0 hr)
    · refine ml_aload_n (pc := 94) dX11_wouldLose_94 rfl mm_get_0 ?_
      refine ml_iload (pc := 95) dX11_wouldLose_95 (mm_get_s (mm_get_s (mm_get_s (mm_get_s (mm_get_s mm_get_0))))) ?_
      refine mb_cVi (pc := 97) (As := [.int i5]) (rest := []) dX11_wouldLose_97 cw_X11_313 h0 hr (fun v hv => X11_loserIf_ok hz (by omega) h0 hv) rfl (Nat.le_of_ble_eq_true rfl) (Nat.zero_le _) (Nat.zero_le _) (fun r2 hr => ?_)
      refine ml_istore (pc := 100) dX11_wouldLose_100 (Nat.le_of_ble_eq_true rfl) (mm_st1_s (mm_st1_s (mm_st1_s (mm_st1_s (mm_st1_s mm_st1_i))))) ?_
      refine ml_iload (pc := 102) dX11_wouldLose_102 (mm_get_s (mm_get_s (mm_get_s (mm_get_s (mm_get_s (mm_get_s mm_get_0)))))) ?_
      refine mg_iconst (pc := 104) dX11_wouldLose_104 kc_m1 ?_
      refine mb_icmp_eq (pc := 105) 138 dX11_wouldLose_105 rfl hr (fun hr => ?_) (fun hr => ?_)
      · exact mg_weak (mm_le_s (mm_le_s (mm_le_s (mm_le_s (mm_le_s (mm_le_s (mm_le_n mm_le_0))))))) (X11_wouldLose_b138_ok hz hd h0 ih hr)
      · refine ml_iload (pc := 108) dX11_wouldLose_108 (mm_get_s (mm_get_s (mm_get_s (mm_get_s (mm_get_s (mm_get_s mm_get_0)))))) ?_
        refine ml_aload_n (pc := 110) dX11_wouldLose_110 rfl mm_get_0 ?_
        refine mb_gr (pc := 111) dX11_wouldLose_111 fl_X11_45 hr (fun c3 hr => ?_)
        refine mb_gi (pc := 114) dX11_wouldLose_114 fl_X11_128 hr (fun x4 hr => ?_)
        refine mb_icmp_eq (pc := 117) 138 dX11_wouldLose_117 rfl hr (fun hr => ?_) (fun hr => ?_)
        · exact mg_weak (mm_le_s (mm_le_s (mm_le_s (mm_le_s (mm_le_s (mm_le_s (mm_le_n mm_le_0))))))) (X11_wouldLose_b138_ok hz hd h0 ih hr)
        · refine ml_iinc (pc := 120) dX11_wouldLose_120 (mm_get_s (mm_get_s (mm_get_s mm_get_0))) (congrArg (fun z => i3 + z) kc_1) (Nat.le_of_ble_eq_true rfl) (mm_st1_s (mm_st1_s mm_st1_r)) ?_
          refine ml_iload (pc := 123) dX11_wouldLose_123 (mm_get_s (mm_get_s (mm_get_s (mm_get_s mm_get_0)))) ?_
          refine mg_iconst (pc := 125) dX11_wouldLose_125 kc_m1 ?_
          refine mb_icmp_ne (pc := 126) 134 dX11_wouldLose_126 rfl hr (fun hr => ?_) (fun hr => ?_)
          · refine ml_iload (pc := 134) dX11_wouldLose_134 (mm_get_s (mm_get_s (mm_get_s (mm_get_s mm_get_0)))) ?_
            exact mg_weak (mm_le_s (mm_le_s (mm_le_s (mm_le_s (mm_le_n (mm_le_s (mm_le_n mm_le_0))))))) (X11_wouldLose_b136_ok hz hd h0 ih hr)
          · refine ml_iload (pc := 129) dX11_wouldLose_129 (mm_get_s (mm_get_s (mm_get_s (mm_get_s (mm_get_s mm_get_0))))) ?_
            refine mg_goto (pc := 131) 136 dX11_wouldLose_131 rfl ?_
            exact mg_weak (mm_le_s (mm_le_s (mm_le_s (mm_le_s (mm_le_n (mm_le_s (mm_le_n mm_le_0))))))) (X11_wouldLose_b136_ok hz hd h0 ih hr)
def X11_wouldLose_b64 (e : mm_E) (a0 : Nat) (i1 : Int32) (a2 : Nat) (t0 : Int32) (m : mm_V) : Option ((Int32 ⊕ String) × mm_V) := mm_bx (X11_need e t0 m) fun r1 => if i1 < 0 then (X11_wouldLose_L85 e a0 i1 a2 e.2.2 (0 : Int32) (-1 : Int32) (0 : Int32) r1.2) else ((X11_loserIf e a0 i1 r1.2).bind fun r2 => some (.inl r2.1, r2.2))
theorem X11_wouldLose_b64_ok {K : mm_K} {e : mm_E} (hz : e.2.1 = K.2.2.2.2) {d : Nat} (hd : 10 ≤ d) {a0 : Nat} {i1 : Int32} {a2 : Nat} {t0 : Int32} (h0 : e.1 a0 = some (11, 19)) {m : mm_V} {r : ((Int32 ⊕ String) × mm_V)} (hr : X11_wouldLose_b64 e a0 i1 a2 t0 m = some r) : mm_G K MX11_wouldLose d (mm_Xi e.1 r) 64 [some (.ref a0), some (.int i1), some (.ref a2), none, none, none, none] [.int t0] (e.1, m) none 0 0 := by
  obtain ⟨d, rfl⟩ : ∃ d', d = d' + 1 := ⟨d - 1, by omega⟩
  unfold X11_wouldLose_b64 at hr
  refine mb_xSv (pc := 64) (As := [.int t0]) (rest := []) dX11_wouldLose_64 cw_X11_164 tw_1037  rfl hr (fun v hv => X11_need_ok hz (by omega)  hv) rfl (Nat.le_of_ble_eq_true rfl) (fun r1 hr => ?_)
  refine ml_iload_n (pc := 67) dX11_wouldLose_67 rfl (mm_get_s mm_get_0) ?_
  refine mb_if_lt (pc := 68) 77 dX11_wouldLose_68 rfl hr (fun hr => ?_) (fun hr => ?_)
  · refine mg_iconst (pc := 77) dX11_wouldLose_77 kc_0 ?_
    refine ml_istore_n (pc := 78) dX11_wouldLose_78 rfl (Nat.le_of_ble_eq_true rfl) (mm_st1_s (mm_st1_s mm_st1_r)) ?_
    refine mg_iconst (pc := 79) dX11_wouldLose_79 kc_m1 ?_
    refine ml_istore (pc := 80) dX11_wouldLose_80 (Nat.le_of_ble_eq_true rfl) (mm_st1_s (mm_st1_s (mm_st1_s mm_st1_i))) ?_
    refine mg_iconst (pc := 82) dX11_wouldLose_82 kc_0 ?_
    refine ml_istore (pc := 83) dX11_wouldLose_83 (Nat.le_of_ble_eq_true rfl) (mm_st1_s (mm_st1_s (mm_st1_s (mm_st1_s mm_st1_i)))) ?_
    exact mg_weak (mm_le_s (mm_le_s (mm_le_s (mm_le_s (mm_le_s (mm_le_s (mm_le_n mm_le_0))))))) (X11_wouldLose_L85_ok hz hd h0 _ _ _ _ _ _ hr)
  · refine ml_aload_n (pc := 71) dX11_wouldLose_71 rfl mm_get_0 ?_
    refine ml_iload_n (pc := 72) dX11_wouldLose_72 rfl (mm_get_s mm_get_0) ?_
    refine mb_cVi (pc := 73) (As := [.int i1]) (rest := []) dX11_wouldLose_73 cw_X11_313 h0 hr (fun v hv => X11_loserIf_ok hz (by omega) h0 hv) rfl (Nat.le_of_ble_eq_true rfl) (Nat.zero_le _) (Nat.zero_le _) (fun r2 hr => ?_)
    exact mb_xiret dX11_wouldLose_76 rfl hr
def X11_wouldLose_b59 (e : mm_E) (a0 : Nat) (i1 : Int32) (a2 : Nat) (m : mm_V) : Option ((Int32 ⊕ String) × mm_V) := X11_wouldLose_b64 e a0 i1 a2 (1 : Int32) m
theorem X11_wouldLose_b59_ok {K : mm_K} {e : mm_E} (hz : e.2.1 = K.2.2.2.2) {d : Nat} (hd : 10 ≤ d) {a0 : Nat} {i1 : Int32} {a2 : Nat} (h0 : e.1 a0 = some (11, 19)) {m : mm_V} {r : ((Int32 ⊕ String) × mm_V)} (hr : X11_wouldLose_b59 e a0 i1 a2 m = some r) : mm_G K MX11_wouldLose d (mm_Xi e.1 r) 59 [some (.ref a0), some (.int i1), some (.ref a2), none, none, none, none] [] (e.1, m) none 0 0 := by
  obtain ⟨d, rfl⟩ : ∃ d', d = d' + 1 := ⟨d - 1, by omega⟩
  unfold X11_wouldLose_b59 at hr
  refine mg_iconst (pc := 59) dX11_wouldLose_59 kc_1 ?_
  refine mg_goto (pc := 60) 64 dX11_wouldLose_60 rfl ?_
  exact mg_weak (mm_le_s (mm_le_s (mm_le_s (mm_le_n (mm_le_n (mm_le_n (mm_le_n mm_le_0))))))) (X11_wouldLose_b64_ok hz hd h0 hr)
def X11_wouldLose_b15 (e : mm_E) (a0 : Nat) (i1 : Int32) (t0 : Int32) (m : mm_V) : Option ((Int32 ⊕ String) × mm_V) := mm_bx (X11_need e t0 m) fun r1 => (mm_gr e.1 r1.2 11 19 a0 6).bind fun c2 => (mm_gr e.1 r1.2 11 19 a0 6).bind fun c3 => (mm_gr e.1 r1.2 11 19 a0 6).bind fun c4 => (mm_gi e.1 r1.2 4 12 c4 10).bind fun x5 => if e.1 c3 = some (4, 12) then ((X4_source e c3 x5 r1.2).bind fun r6 => if e.1 c2 = some (4, 12) then ((X4_fanAt e c2 r6.1 r6.2).bind fun r8 => if i1 = (-1 : Int32) then (X11_wouldLose_b59 e a0 i1 r8.1  r8.2) else (if i1 = (-2 : Int32) then (X11_wouldLose_b59 e a0 i1 r8.1  r8.2) else (if e.1 r8.1 = some (3, 2) then ((X3_hasPlace e r8.1 i1 r8.2).bind fun r10 => if r10.1 = 0 then (X11_wouldLose_b64 e a0 i1 r8.1 (0 : Int32) r10.2) else (X11_wouldLose_b59 e a0 i1 r8.1  r10.2)) else none))) else none) else none
theorem X11_wouldLose_b15_ok {K : mm_K} {e : mm_E} (hz : e.2.1 = K.2.2.2.2) {d : Nat} (hd : 10 ≤ d) {a0 : Nat} {i1 : Int32} {t0 : Int32} (h0 : e.1 a0 = some (11, 19)) {m : mm_V} {r : ((Int32 ⊕ String) × mm_V)} (hr : X11_wouldLose_b15 e a0 i1 t0 m = some r) : mm_G K MX11_wouldLose d (mm_Xi e.1 r) 15 [some (.ref a0), some (.int i1), none, none, none, none, none] [.int t0] (e.1, m) none 0 0 := by
  obtain ⟨d, rfl⟩ : ∃ d', d = d' + 1 := ⟨d - 1, by omega⟩
  unfold X11_wouldLose_b15 at hr
  refine mb_xSv (pc := 15) (As := [.int t0]) (rest := []) dX11_wouldLose_15 cw_X11_164 tw_1037  rfl hr (fun v hv => X11_need_ok hz (by omega)  hv) rfl (Nat.le_of_ble_eq_true rfl) (fun r1 hr => ?_)
  refine ml_aload_n (pc := 18) dX11_wouldLose_18 rfl mm_get_0 ?_
  refine mb_gr (pc := 19) dX11_wouldLose_19 fl_X11_45 hr (fun c2 hr => ?_)
  refine ml_aload_n (pc := 22) dX11_wouldLose_22 rfl mm_get_0 ?_
  refine mb_gr (pc := 23) dX11_wouldLose_23 fl_X11_45 hr (fun c3 hr => ?_)
  refine ml_aload_n (pc := 26) dX11_wouldLose_26 rfl mm_get_0 ?_
  refine mb_gr (pc := 27) dX11_wouldLose_27 fl_X11_45 hr (fun c4 hr => ?_)
  refine mb_gi (pc := 30) dX11_wouldLose_30 fl_X11_128 hr (fun x5 hr => ?_)
  refine mb_ck hr (fun hb7 hr => ?_)
  refine mb_cVi (pc := 33) (As := [.int x5]) (rest := [.ref c2]) dX11_wouldLose_33 cw_X11_179 hb7 hr (fun v hv => X4_source_ok hz (by omega) hb7 hv) rfl (Nat.le_of_ble_eq_true rfl) (Nat.zero_le _) (Nat.zero_le _) (fun r6 hr => ?_)
  refine mb_ck hr (fun hb9 hr => ?_)
  refine mb_cVr (pc := 36) (As := [.int r6.1]) (rest := []) dX11_wouldLose_36 cw_X11_153 hb9 hr (fun v hv => X4_fanAt_ok hz (by omega) hb9 hv) rfl (Nat.le_of_ble_eq_true rfl) (Nat.zero_le _) (Nat.zero_le _) (fun r8 hr => ?_)
  refine ml_astore_n (pc := 39) dX11_wouldLose_39 rfl (Nat.le_of_ble_eq_true rfl) (mm_st1_s mm_st1_i) ?_
  refine ml_iload_n (pc := 40) dX11_wouldLose_40 rfl (mm_get_s mm_get_0) ?_
  refine mg_iconst (pc := 41) dX11_wouldLose_41 kc_m1 ?_
  refine mb_icmp_eq (pc := 42) 59 dX11_wouldLose_42 rfl hr (fun hr => ?_) (fun hr => ?_)
  · exact mg_weak (mm_le_s (mm_le_s (mm_le_s (mm_le_n (mm_le_n (mm_le_n (mm_le_n mm_le_0))))))) (X11_wouldLose_b59_ok hz hd h0 hr)
  · refine ml_iload_n (pc := 45) dX11_wouldLose_45 rfl (mm_get_s mm_get_0) ?_
    refine mg_bipush (pc := 46) dX11_wouldLose_46 kb_m2 ?_
    refine mb_icmp_eq (pc := 48) 59 dX11_wouldLose_48 rfl hr (fun hr => ?_) (fun hr => ?_)
    · exact mg_weak (mm_le_s (mm_le_s (mm_le_s (mm_le_n (mm_le_n (mm_le_n (mm_le_n mm_le_0))))))) (X11_wouldLose_b59_ok hz hd h0 hr)
    · refine ml_aload_n (pc := 51) dX11_wouldLose_51 rfl (mm_get_s (mm_get_s mm_get_0)) ?_
      refine ml_iload_n (pc := 52) dX11_wouldLose_52 rfl (mm_get_s mm_get_0) ?_
      refine mb_ck hr (fun hb11 hr => ?_)
      refine mb_cVi (pc := 53) (As := [.int i1]) (rest := []) dX11_wouldLose_53 cw_X11_160 hb11 hr (fun v hv => X3_hasPlace_ok hz (by omega) hb11 hv) rfl (Nat.le_of_ble_eq_true rfl) (Nat.zero_le _) (Nat.zero_le _) (fun r10 hr => ?_)
      refine mb_if_eq (pc := 56) 63 dX11_wouldLose_56 rfl hr (fun hr => ?_) (fun hr => ?_)
      · refine mg_iconst (pc := 63) dX11_wouldLose_63 kc_0 ?_
        exact mg_weak (mm_le_s (mm_le_s (mm_le_s (mm_le_n (mm_le_n (mm_le_n (mm_le_n mm_le_0))))))) (X11_wouldLose_b64_ok hz hd h0 hr)
      · exact mg_weak (mm_le_s (mm_le_s (mm_le_s (mm_le_n (mm_le_n (mm_le_n (mm_le_n mm_le_0))))))) (X11_wouldLose_b59_ok hz hd h0 hr)
def X11_wouldLose (e : mm_E) (a0 : Nat) (i1 : Int32) (m : mm_V) : Option ((Int32 ⊕ String) × mm_V) := (mm_gr e.1 m 11 19 a0 6).bind fun c1 => if e.1 c1 = some (4, 12) then ((X4_over e c1 m).bind fun r2 => if ¬ r2.1 = 0 then (X11_wouldLose_b15 e a0 i1 (0 : Int32) r2.2) else (X11_wouldLose_b15 e a0 i1 (1 : Int32) r2.2)) else none
theorem X11_wouldLose_ok {K : mm_K} {e : mm_E} (hz : e.2.1 = K.2.2.2.2) {d : Nat} (hd : 10 ≤ d) {a0 : Nat} {i1 : Int32} (h0 : e.1 a0 = some (11, 19)) {m : mm_V} {r : ((Int32 ⊕ String) × mm_V)} (hr : X11_wouldLose e a0 i1 m = some r) : mm_Cn K MX11_wouldLose d (mm_Xi e.1 r) [.ref a0, .int i1] (e.1, m) none := by
  obtain ⟨d, rfl⟩ : ∃ d', d = d' + 1 := ⟨d - 1, by omega⟩
  refine mm_entry (by decide) (Nat.le_of_ble_eq_true rfl) rfl (fun hok => ?_)
  unfold X11_wouldLose at hr
  refine mg_weak (L' := [some (.ref a0), some (.int i1), none, none, none, none, none]) (mm_le_s (mm_le_s (mm_le_e (mm_le_e (mm_le_e (mm_le_e (mm_le_e mm_le_0))))))) ?_
  refine ml_aload_n (pc := 0) dX11_wouldLose_0 rfl mm_get_0 ?_
  refine mb_gr (pc := 1) dX11_wouldLose_1 fl_X11_45 hr (fun c1 hr => ?_)
  refine mb_ck hr (fun hb3 hr => ?_)
  refine mb_cVi (pc := 4) (As := []) (rest := []) dX11_wouldLose_4 cw_X11_124 hb3 hr (fun v hv => X4_over_ok hz (by omega) hb3 hv) rfl (Nat.le_of_ble_eq_true rfl) (Nat.zero_le _) (Nat.zero_le _) (fun r2 hr => ?_)
  refine mb_if_ne (pc := 7) 14 dX11_wouldLose_7 rfl hr (fun hr => ?_) (fun hr => ?_)
  · refine mg_iconst (pc := 14) dX11_wouldLose_14 kc_0 ?_
    exact mg_weak (mm_le_s (mm_le_s (mm_le_n (mm_le_n (mm_le_n (mm_le_n (mm_le_n mm_le_0))))))) (X11_wouldLose_b15_ok hz hd h0 hr)
  · refine mg_iconst (pc := 10) dX11_wouldLose_10 kc_1 ?_
    refine mg_goto (pc := 11) 15 dX11_wouldLose_11 rfl ?_
    exact mg_weak (mm_le_s (mm_le_s (mm_le_n (mm_le_n (mm_le_n (mm_le_n (mm_le_n mm_le_0))))))) (X11_wouldLose_b15_ok hz hd h0 hr)
