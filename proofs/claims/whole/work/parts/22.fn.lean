theorem tw_1005 : Cond.methodLink "SootQueen$Game" 120 ⟨"SootQueen$Game", "over", "()Z"⟩ ∈ lw_tbl := List.mem_append_right _ (List.mem_of_getElem? (i := 1005) (by decide +kernel))
theorem tw_617 : Cond.code ⟨"SootQueen$Game", "over", "()Z"⟩ prog_6_method_17_code 3 (some .boolean) ∈ lw_tbl := List.mem_append_right _ (List.mem_of_getElem? (i := 617) (by decide +kernel))
theorem tw_615 : Cond.instanceMethod ⟨"SootQueen$Game", "over", "()Z"⟩ ∈ lw_tbl := List.mem_append_right _ (List.mem_of_getElem? (i := 615) (by decide +kernel))
theorem tw_616 : Cond.selects "SootQueen$Game" ⟨"SootQueen$Game", "over", "()Z"⟩ ⟨"SootQueen$Game", "over", "()Z"⟩ ∈ lw_tbl := List.mem_append_right _ (List.mem_of_getElem? (i := 616) (by decide +kernel))
theorem cw_X4_120 : mm_CV RX4 120 MX4_over 4 0 := ⟨⟨Or.inl tw_1005, tw_617, tw_9, ⟨by decide, by decide⟩, by decide +kernel, by decide⟩, tw_615, by decide, (RX4, TX4, 12), rfl, tw_616⟩
theorem tw_1006 : Cond.methodLink "SootQueen$Game" 124 ⟨"SootQueen$Game", "queenHolder", "()I"⟩ ∈ lw_tbl := List.mem_append_right _ (List.mem_of_getElem? (i := 1006) (by decide +kernel))
theorem tw_1000 : Cond.code ⟨"SootQueen$Game", "queenHolder", "()I"⟩ prog_6_method_18_code 2 (some .int) ∈ lw_tbl := List.mem_append_right _ (List.mem_of_getElem? (i := 1000) (by decide +kernel))
theorem tw_998 : Cond.instanceMethod ⟨"SootQueen$Game", "queenHolder", "()I"⟩ ∈ lw_tbl := List.mem_append_right _ (List.mem_of_getElem? (i := 998) (by decide +kernel))
theorem tw_999 : Cond.selects "SootQueen$Game" ⟨"SootQueen$Game", "queenHolder", "()I"⟩ ⟨"SootQueen$Game", "queenHolder", "()I"⟩ ∈ lw_tbl := List.mem_append_right _ (List.mem_of_getElem? (i := 999) (by decide +kernel))
theorem cw_X4_124 : mm_CV RX4 124 MX4_queenHolder 4 0 := ⟨⟨Or.inl tw_1006, tw_1000, tw_9, ⟨by decide, by decide⟩, by decide +kernel, by decide⟩, tw_998, by decide, (RX4, TX4, 12), rfl, tw_999⟩
theorem tw_289 : Cond.fieldLink "SootQueen$Game" 29 "SootQueen$Game" "seen" "[I" ∈ lw_tbl := List.mem_append_right _ (List.mem_of_getElem? (i := 289) (by decide +kernel))
theorem fl_X4_29 : mm_FL RX4 29 4 4 12 := ⟨(RX4, TX4, 12), rfl, rfl, by decide, by decide, Or.inl tw_289⟩
theorem tw_644 : Cond.methodLink "SootQueen$Game" 151 ⟨"SootQueen$Game", "lastOf", "(I)I"⟩ ∈ lw_tbl := List.mem_append_right _ (List.mem_of_getElem? (i := 644) (by decide +kernel))
theorem tw_647 : Cond.code ⟨"SootQueen$Game", "lastOf", "(I)I"⟩ prog_6_method_13_code 2 (some .int) ∈ lw_tbl := List.mem_append_right _ (List.mem_of_getElem? (i := 647) (by decide +kernel))
theorem tw_646 : Cond.instanceMethod ⟨"SootQueen$Game", "lastOf", "(I)I"⟩ ∈ lw_tbl := List.mem_append_right _ (List.mem_of_getElem? (i := 646) (by decide +kernel))
theorem sw_6 : Cond.selects "SootQueen$Game" ⟨"SootQueen$Game", "lastOf", "(I)I"⟩ ⟨"SootQueen$Game", "lastOf", "(I)I"⟩ ∈ lw_tbl := List.mem_append_left _ (List.mem_of_getElem? (i := 6) (by decide +kernel))
theorem cw_X4_151 : mm_CV RX4 151 MX4_lastOf 4 1 := ⟨⟨Or.inl tw_644, tw_647, tw_9, ⟨by decide, by decide⟩, by decide +kernel, by decide⟩, tw_646, by decide, (RX4, TX4, 12), rfl, sw_6⟩
theorem tw_73 : Cond.fieldLink "SootQueen$Told" 30 "SootQueen$Told" "stack" "[I" ∈ lw_tbl := List.mem_append_right _ (List.mem_of_getElem? (i := 73) (by decide +kernel))
theorem fl_X10_30 : mm_FL RX10 30 10 5 11 := ⟨(RX10, TX10, 11), rfl, rfl, by decide, by decide, Or.inl tw_73⟩
theorem tw_675 : Cond.methodLink "SootQueen$Told" 59 ⟨"SootQueen$Told", "done", "(III)I"⟩ ∈ lw_tbl := List.mem_append_right _ (List.mem_of_getElem? (i := 675) (by decide +kernel))
theorem tw_677 : Cond.code ⟨"SootQueen$Told", "done", "(III)I"⟩ prog_12_method_10_code 3 (some .int) ∈ lw_tbl := List.mem_append_right _ (List.mem_of_getElem? (i := 677) (by decide +kernel))
theorem tw_676 : Cond.static ⟨"SootQueen$Told", "done", "(III)I"⟩ ∈ lw_tbl := List.mem_append_right _ (List.mem_of_getElem? (i := 676) (by decide +kernel))
theorem cw_X10_59 : mm_CS RX10 59 MX10_done 3 := ⟨⟨Or.inl tw_675, tw_677, tw_2, ⟨by decide, by decide⟩, by decide +kernel, by decide⟩, tw_676⟩
theorem tw_672 : Cond.methodLink "SootQueen$Told" 55 ⟨"SootQueen$Told", "seenAs", "(I[I)I"⟩ ∈ lw_tbl := List.mem_append_right _ (List.mem_of_getElem? (i := 672) (by decide +kernel))
theorem tw_674 : Cond.code ⟨"SootQueen$Told", "seenAs", "(I[I)I"⟩ prog_12_method_9_code 3 (some .int) ∈ lw_tbl := List.mem_append_right _ (List.mem_of_getElem? (i := 674) (by decide +kernel))
theorem tw_673 : Cond.static ⟨"SootQueen$Told", "seenAs", "(I[I)I"⟩ ∈ lw_tbl := List.mem_append_right _ (List.mem_of_getElem? (i := 673) (by decide +kernel))
theorem cw_X10_55 : mm_CS RX10 55 MX10_seenAs 2 := ⟨⟨Or.inl tw_672, tw_674, tw_2, ⟨by decide, by decide⟩, by decide +kernel, by decide⟩, tw_673⟩
theorem tw_678 : Cond.methodLink "SootQueen$Game" 148 ⟨"java/lang/Math", "floorMod", "(II)I"⟩ ∈ lw_tbl := List.mem_append_right _ (List.mem_of_getElem? (i := 678) (by decide +kernel))
theorem tw_680 : Cond.code ⟨"java/lang/Math", "floorMod", "(II)I"⟩ prog_20_method_50_code 3 (some .int) ∈ lw_tbl := List.mem_append_right _ (List.mem_of_getElem? (i := 680) (by decide +kernel))
theorem tw_679 : Cond.static ⟨"java/lang/Math", "floorMod", "(II)I"⟩ ∈ lw_tbl := List.mem_append_right _ (List.mem_of_getElem? (i := 679) (by decide +kernel))
theorem cw_X4_148 : mm_CS RX4 148 MJ9_floorMod_7cf53 2 := ⟨⟨Or.inl tw_678, tw_680, tw_13, ⟨by decide, by decide⟩, by decide +kernel, by decide⟩, tw_679⟩
theorem tw_639 : Cond.methodLink "SootQueen$Game" 128 ⟨"SootQueen$Game", "source", "(I)I"⟩ ∈ lw_tbl := List.mem_append_right _ (List.mem_of_getElem? (i := 639) (by decide +kernel))
theorem tw_621 : Cond.code ⟨"SootQueen$Game", "source", "(I)I"⟩ prog_6_method_16_code 2 (some .int) ∈ lw_tbl := List.mem_append_right _ (List.mem_of_getElem? (i := 621) (by decide +kernel))
theorem tw_619 : Cond.instanceMethod ⟨"SootQueen$Game", "source", "(I)I"⟩ ∈ lw_tbl := List.mem_append_right _ (List.mem_of_getElem? (i := 619) (by decide +kernel))
theorem tw_620 : Cond.selects "SootQueen$Game" ⟨"SootQueen$Game", "source", "(I)I"⟩ ⟨"SootQueen$Game", "source", "(I)I"⟩ ∈ lw_tbl := List.mem_append_right _ (List.mem_of_getElem? (i := 620) (by decide +kernel))
theorem cw_X4_128 : mm_CV RX4 128 MX4_source 4 1 := ⟨⟨Or.inl tw_639, tw_621, tw_9, ⟨by decide, by decide⟩, by decide +kernel, by decide⟩, tw_619, by decide, (RX4, TX4, 12), rfl, tw_620⟩
theorem tw_656 : Cond.methodLink "SootQueen$Game" 134 ⟨"SootQueen$Game", "see", "(III)V"⟩ ∈ lw_tbl := List.mem_append_right _ (List.mem_of_getElem? (i := 656) (by decide +kernel))
theorem tw_659 : Cond.code ⟨"SootQueen$Game", "see", "(III)V"⟩ prog_6_method_23_code 4 none ∈ lw_tbl := List.mem_append_right _ (List.mem_of_getElem? (i := 659) (by decide +kernel))
theorem tw_658 : Cond.instanceMethod ⟨"SootQueen$Game", "see", "(III)V"⟩ ∈ lw_tbl := List.mem_append_right _ (List.mem_of_getElem? (i := 658) (by decide +kernel))
theorem sw_9 : Cond.selects "SootQueen$Game" ⟨"SootQueen$Game", "see", "(III)V"⟩ ⟨"SootQueen$Game", "see", "(III)V"⟩ ∈ lw_tbl := List.mem_append_left _ (List.mem_of_getElem? (i := 9) (by decide +kernel))
theorem cw_X4_134 : mm_CV RX4 134 MX4_see 4 3 := ⟨⟨Or.inl tw_656, tw_659, tw_9, ⟨by decide, by decide⟩, by decide +kernel, by decide⟩, tw_658, by decide, (RX4, TX4, 12), rfl, sw_9⟩
theorem tw_660 : Cond.methodLink "SootQueen$Game" 138 ⟨"SootQueen$Game", "sitterAt", "(I)I"⟩ ∈ lw_tbl := List.mem_append_right _ (List.mem_of_getElem? (i := 660) (by decide +kernel))
theorem tw_663 : Cond.code ⟨"SootQueen$Game", "sitterAt", "(I)I"⟩ prog_6_method_12_code 2 (some .int) ∈ lw_tbl := List.mem_append_right _ (List.mem_of_getElem? (i := 663) (by decide +kernel))
theorem tw_661 : Cond.instanceMethod ⟨"SootQueen$Game", "sitterAt", "(I)I"⟩ ∈ lw_tbl := List.mem_append_right _ (List.mem_of_getElem? (i := 661) (by decide +kernel))
theorem tw_662 : Cond.selects "SootQueen$Game" ⟨"SootQueen$Game", "sitterAt", "(I)I"⟩ ⟨"SootQueen$Game", "sitterAt", "(I)I"⟩ ∈ lw_tbl := List.mem_append_right _ (List.mem_of_getElem? (i := 662) (by decide +kernel))
theorem cw_X4_138 : mm_CV RX4 138 MX4_sitterAt 4 1 := ⟨⟨Or.inl tw_660, tw_663, tw_9, ⟨by decide, by decide⟩, by decide +kernel, by decide⟩, tw_661, by decide, (RX4, TX4, 12), rfl, tw_662⟩
theorem tw_664 : Cond.methodLink "SootQueen$Game" 141 ⟨"SootQueen$Told", "hasRule", "(I)Z"⟩ ∈ lw_tbl := List.mem_append_right _ (List.mem_of_getElem? (i := 664) (by decide +kernel))
theorem tw_667 : Cond.code ⟨"SootQueen$Told", "hasRule", "(I)Z"⟩ prog_12_method_7_code 2 (some .boolean) ∈ lw_tbl := List.mem_append_right _ (List.mem_of_getElem? (i := 667) (by decide +kernel))
theorem tw_665 : Cond.instanceMethod ⟨"SootQueen$Told", "hasRule", "(I)Z"⟩ ∈ lw_tbl := List.mem_append_right _ (List.mem_of_getElem? (i := 665) (by decide +kernel))
theorem tw_666 : Cond.selects "SootQueen$Told" ⟨"SootQueen$Told", "hasRule", "(I)Z"⟩ ⟨"SootQueen$Told", "hasRule", "(I)Z"⟩ ∈ lw_tbl := List.mem_append_right _ (List.mem_of_getElem? (i := 666) (by decide +kernel))
theorem cw_X4_141 : mm_CV RX4 141 MX10_hasRule 10 1 := ⟨⟨Or.inl tw_664, tw_667, tw_2, ⟨by decide, by decide⟩, by decide +kernel, by decide⟩, tw_665, by decide, (RX10, TX10, 11), rfl, tw_666⟩
theorem tw_668 : Cond.methodLink "SootQueen$Game" 144 ⟨"SootQueen$Told", "answer", "(I[I)I"⟩ ∈ lw_tbl := List.mem_append_right _ (List.mem_of_getElem? (i := 668) (by decide +kernel))
theorem tw_671 : Cond.code ⟨"SootQueen$Told", "answer", "(I[I)I"⟩ prog_12_method_8_code 8 (some .int) ∈ lw_tbl := List.mem_append_right _ (List.mem_of_getElem? (i := 671) (by decide +kernel))
theorem tw_669 : Cond.instanceMethod ⟨"SootQueen$Told", "answer", "(I[I)I"⟩ ∈ lw_tbl := List.mem_append_right _ (List.mem_of_getElem? (i := 669) (by decide +kernel))
theorem tw_670 : Cond.selects "SootQueen$Told" ⟨"SootQueen$Told", "answer", "(I[I)I"⟩ ⟨"SootQueen$Told", "answer", "(I[I)I"⟩ ∈ lw_tbl := List.mem_append_right _ (List.mem_of_getElem? (i := 670) (by decide +kernel))
theorem cw_X4_144 : mm_CV RX4 144 MX10_answer 10 2 := ⟨⟨Or.inl tw_668, tw_671, tw_2, ⟨by decide, by decide⟩, by decide +kernel, by decide⟩, tw_669, by decide, (RX10, TX10, 11), rfl, tw_670⟩
theorem tw_1071 : Cond.methodLink "SootQueen$Game" 131 ⟨"SootQueen$Game", "rulePlace", "(I)I"⟩ ∈ lw_tbl := List.mem_append_right _ (List.mem_of_getElem? (i := 1071) (by decide +kernel))
theorem tw_1056 : Cond.code ⟨"SootQueen$Game", "rulePlace", "(I)I"⟩ prog_6_method_21_code 5 (some .int) ∈ lw_tbl := List.mem_append_right _ (List.mem_of_getElem? (i := 1056) (by decide +kernel))
theorem tw_1054 : Cond.instanceMethod ⟨"SootQueen$Game", "rulePlace", "(I)I"⟩ ∈ lw_tbl := List.mem_append_right _ (List.mem_of_getElem? (i := 1054) (by decide +kernel))
theorem tw_1055 : Cond.selects "SootQueen$Game" ⟨"SootQueen$Game", "rulePlace", "(I)I"⟩ ⟨"SootQueen$Game", "rulePlace", "(I)I"⟩ ∈ lw_tbl := List.mem_append_right _ (List.mem_of_getElem? (i := 1055) (by decide +kernel))
theorem cw_X4_131 : mm_CV RX4 131 MX4_rulePlace 4 1 := ⟨⟨Or.inl tw_1071, tw_1056, tw_9, ⟨by decide, by decide⟩, by decide +kernel, by decide⟩, tw_1054, by decide, (RX4, TX4, 12), rfl, tw_1055⟩
theorem tw_652 : Cond.methodLink "SootQueen$Game" 186 ⟨"SootQueen$Game", "holdPlace", "(II)I"⟩ ∈ lw_tbl := List.mem_append_right _ (List.mem_of_getElem? (i := 652) (by decide +kernel))
theorem tw_655 : Cond.code ⟨"SootQueen$Game", "holdPlace", "(II)I"⟩ prog_6_method_22_code 6 (some .int) ∈ lw_tbl := List.mem_append_right _ (List.mem_of_getElem? (i := 655) (by decide +kernel))
theorem tw_654 : Cond.instanceMethod ⟨"SootQueen$Game", "holdPlace", "(II)I"⟩ ∈ lw_tbl := List.mem_append_right _ (List.mem_of_getElem? (i := 654) (by decide +kernel))
theorem sw_8 : Cond.selects "SootQueen$Game" ⟨"SootQueen$Game", "holdPlace", "(II)I"⟩ ⟨"SootQueen$Game", "holdPlace", "(II)I"⟩ ∈ lw_tbl := List.mem_append_left _ (List.mem_of_getElem? (i := 8) (by decide +kernel))
theorem cw_X4_186 : mm_CV RX4 186 MX4_holdPlace 4 2 := ⟨⟨Or.inl tw_652, tw_655, tw_9, ⟨by decide, by decide⟩, by decide +kernel, by decide⟩, tw_654, by decide, (RX4, TX4, 12), rfl, sw_8⟩
theorem tw_240 : Cond.fieldLinkNest "SootQueen$Game" 174 "SootQueen$Draw" "ownPlace" "I" "SootQueen" ∈ lw_tbl := List.mem_append_right _ (List.mem_of_getElem? (i := 240) (by decide +kernel))
theorem fl_X4_174 : mm_FL RX4 174 2 7 9 := ⟨(RX2, TX2, 9), rfl, rfl, by decide, by decide, Or.inr ⟨_, tw_240⟩⟩
theorem fp_X4_174 : mm_FP RX4 174 2 7 9 .int := ⟨fl_X4_174, (RX2, TX2, 9), rfl, rfl, by decide +kernel⟩
theorem tw_237 : Cond.fieldLinkNest "SootQueen$Game" 177 "SootQueen$Draw" "aside" "Z" "SootQueen" ∈ lw_tbl := List.mem_append_right _ (List.mem_of_getElem? (i := 237) (by decide +kernel))
theorem fl_X4_177 : mm_FL RX4 177 2 6 9 := ⟨(RX2, TX2, 9), rfl, rfl, by decide, by decide, Or.inr ⟨_, tw_237⟩⟩
theorem fp_X4_177 : mm_FP RX4 177 2 6 9 .boolean := ⟨fl_X4_177, (RX2, TX2, 9), rfl, rfl, by decide +kernel⟩
theorem tw_242 : Cond.fieldLinkNest "SootQueen$Game" 180 "SootQueen$Draw" "lastBefore" "I" "SootQueen" ∈ lw_tbl := List.mem_append_right _ (List.mem_of_getElem? (i := 242) (by decide +kernel))
theorem fl_X4_180 : mm_FL RX4 180 2 8 9 := ⟨(RX2, TX2, 9), rfl, rfl, by decide, by decide, Or.inr ⟨_, tw_242⟩⟩
theorem fp_X4_180 : mm_FP RX4 180 2 8 9 .int := ⟨fl_X4_180, (RX2, TX2, 9), rfl, rfl, by decide +kernel⟩
theorem tw_648 : Cond.methodLink "SootQueen$Game" 183 ⟨"SootQueen$Game", "setLast", "(II)V"⟩ ∈ lw_tbl := List.mem_append_right _ (List.mem_of_getElem? (i := 648) (by decide +kernel))
theorem tw_651 : Cond.code ⟨"SootQueen$Game", "setLast", "(II)V"⟩ prog_6_method_14_code 3 none ∈ lw_tbl := List.mem_append_right _ (List.mem_of_getElem? (i := 651) (by decide +kernel))
theorem tw_650 : Cond.instanceMethod ⟨"SootQueen$Game", "setLast", "(II)V"⟩ ∈ lw_tbl := List.mem_append_right _ (List.mem_of_getElem? (i := 650) (by decide +kernel))
theorem sw_7 : Cond.selects "SootQueen$Game" ⟨"SootQueen$Game", "setLast", "(II)V"⟩ ⟨"SootQueen$Game", "setLast", "(II)V"⟩ ∈ lw_tbl := List.mem_append_left _ (List.mem_of_getElem? (i := 7) (by decide +kernel))
theorem cw_X4_183 : mm_CV RX4 183 MX4_setLast 4 2 := ⟨⟨Or.inl tw_648, tw_651, tw_9, ⟨by decide, by decide⟩, by decide +kernel, by decide⟩, tw_650, by decide, (RX4, TX4, 12), rfl, sw_7⟩
theorem tw_229 : Cond.fieldLinkNest "SootQueen$Game" 169 "SootQueen$Draw" "withQueen" "Z" "SootQueen" ∈ lw_tbl := List.mem_append_right _ (List.mem_of_getElem? (i := 229) (by decide +kernel))
theorem fl_X4_169 : mm_FL RX4 169 2 4 9 := ⟨(RX2, TX2, 9), rfl, rfl, by decide, by decide, Or.inr ⟨_, tw_229⟩⟩
theorem fp_X4_169 : mm_FP RX4 169 2 4 9 .boolean := ⟨fl_X4_169, (RX2, TX2, 9), rfl, rfl, by decide +kernel⟩
theorem tw_233 : Cond.fieldLinkNest "SootQueen$Game" 172 "SootQueen$Draw" "card" "I" "SootQueen" ∈ lw_tbl := List.mem_append_right _ (List.mem_of_getElem? (i := 233) (by decide +kernel))
theorem fl_X4_172 : mm_FL RX4 172 2 5 9 := ⟨(RX2, TX2, 9), rfl, rfl, by decide, by decide, Or.inr ⟨_, tw_233⟩⟩
theorem fp_X4_172 : mm_FP RX4 172 2 5 9 .int := ⟨fl_X4_172, (RX2, TX2, 9), rfl, rfl, by decide +kernel⟩
theorem tw_640 : Cond.methodLink "SootQueen$Game" 154 ⟨"SootQueen$Fan", "card", "(I)I"⟩ ∈ lw_tbl := List.mem_append_right _ (List.mem_of_getElem? (i := 640) (by decide +kernel))
theorem cw_X4_154 : mm_CV RX4 154 MX3_card 3 1 := ⟨⟨Or.inl tw_640, tw_643, tw_3, ⟨by decide, by decide⟩, by decide +kernel, by decide⟩, tw_641, by decide, (RX3, TX3, 2), rfl, tw_642⟩
theorem tw_215 : Cond.fieldLinkNest "SootQueen$Game" 157 "SootQueen$Draw" "drawer" "I" "SootQueen" ∈ lw_tbl := List.mem_append_right _ (List.mem_of_getElem? (i := 215) (by decide +kernel))
theorem fl_X4_157 : mm_FL RX4 157 2 0 9 := ⟨(RX2, TX2, 9), rfl, rfl, by decide, by decide, Or.inr ⟨_, tw_215⟩⟩
theorem fp_X4_157 : mm_FP RX4 157 2 0 9 .int := ⟨fl_X4_157, (RX2, TX2, 9), rfl, rfl, by decide +kernel⟩
theorem tw_218 : Cond.fieldLinkNest "SootQueen$Game" 162 "SootQueen$Draw" "from" "I" "SootQueen" ∈ lw_tbl := List.mem_append_right _ (List.mem_of_getElem? (i := 218) (by decide +kernel))
theorem fl_X4_162 : mm_FL RX4 162 2 1 9 := ⟨(RX2, TX2, 9), rfl, rfl, by decide, by decide, Or.inr ⟨_, tw_218⟩⟩
theorem fp_X4_162 : mm_FP RX4 162 2 1 9 .int := ⟨fl_X4_162, (RX2, TX2, 9), rfl, rfl, by decide +kernel⟩
theorem tw_222 : Cond.fieldLinkNest "SootQueen$Game" 165 "SootQueen$Draw" "place" "I" "SootQueen" ∈ lw_tbl := List.mem_append_right _ (List.mem_of_getElem? (i := 222) (by decide +kernel))
theorem fl_X4_165 : mm_FL RX4 165 2 2 9 := ⟨(RX2, TX2, 9), rfl, rfl, by decide, by decide, Or.inr ⟨_, tw_222⟩⟩
theorem fp_X4_165 : mm_FP RX4 165 2 2 9 .int := ⟨fl_X4_165, (RX2, TX2, 9), rfl, rfl, by decide +kernel⟩
theorem tw_226 : Cond.fieldLinkNest "SootQueen$Game" 168 "SootQueen$Draw" "size" "I" "SootQueen" ∈ lw_tbl := List.mem_append_right _ (List.mem_of_getElem? (i := 226) (by decide +kernel))
theorem fl_X4_168 : mm_FL RX4 168 2 3 9 := ⟨(RX2, TX2, 9), rfl, rfl, by decide, by decide, Or.inr ⟨_, tw_226⟩⟩
theorem fp_X4_168 : mm_FP RX4 168 2 3 9 .int := ⟨fl_X4_168, (RX2, TX2, 9), rfl, rfl, by decide +kernel⟩
theorem tw_265 : Cond.fieldLink "SootQueen$Log" 22 "SootQueen$Log" "size" "I" ∈ lw_tbl := List.mem_append_right _ (List.mem_of_getElem? (i := 265) (by decide +kernel))
theorem fl_X5_22 : mm_FL RX5 22 5 3 4 := ⟨(RX5, TX5, 4), rfl, rfl, by decide, by decide, Or.inl tw_265⟩
theorem tw_631 : Cond.methodLink "SootQueen$Log" 29 ⟨"SootQueen$Log", "at", "(I)LSootQueen$Draw;"⟩ ∈ lw_tbl := List.mem_append_right _ (List.mem_of_getElem? (i := 631) (by decide +kernel))
theorem cw_X5_29 : mm_CV RX5 29 MX5_at 5 1 := ⟨⟨Or.inl tw_631, tw_634, tw_7, ⟨by decide, by decide⟩, by decide +kernel, by decide⟩, tw_632, by decide, (RX5, TX5, 4), rfl, tw_633⟩
theorem fp_X5_26 : mm_FP RX5 26 5 2 4 .int := ⟨fl_X5_26, (RX5, TX5, 4), rfl, rfl, by decide +kernel⟩
theorem fp_X5_22 : mm_FP RX5 22 5 3 4 .int := ⟨fl_X5_22, (RX5, TX5, 4), rfl, rfl, by decide +kernel⟩
theorem tw_702 : Cond.methodLink "SootQueen$Log" 33 ⟨"SootQueen$Draw", "copyFrom", "(LSootQueen$Draw;)V"⟩ ∈ lw_tbl := List.mem_append_right _ (List.mem_of_getElem? (i := 702) (by decide +kernel))
theorem tw_705 : Cond.code ⟨"SootQueen$Draw", "copyFrom", "(LSootQueen$Draw;)V"⟩ prog_4_method_2_code 2 none ∈ lw_tbl := List.mem_append_right _ (List.mem_of_getElem? (i := 705) (by decide +kernel))
theorem tw_8 : Cond.initialized "SootQueen$Draw" ∈ lw_tbl := List.mem_append_right _ (List.mem_of_getElem? (i := 8) (by decide +kernel))
theorem tw_703 : Cond.instanceMethod ⟨"SootQueen$Draw", "copyFrom", "(LSootQueen$Draw;)V"⟩ ∈ lw_tbl := List.mem_append_right _ (List.mem_of_getElem? (i := 703) (by decide +kernel))
theorem tw_704 : Cond.selects "SootQueen$Draw" ⟨"SootQueen$Draw", "copyFrom", "(LSootQueen$Draw;)V"⟩ ⟨"SootQueen$Draw", "copyFrom", "(LSootQueen$Draw;)V"⟩ ∈ lw_tbl := List.mem_append_right _ (List.mem_of_getElem? (i := 704) (by decide +kernel))
theorem cw_X5_33 : mm_CV RX5 33 MX2_copyFrom 2 1 := ⟨⟨Or.inl tw_702, tw_705, tw_8, ⟨by decide, by decide⟩, by decide +kernel, by decide⟩, tw_703, by decide, (RX2, TX2, 9), rfl, tw_704⟩
theorem tw_378 : Cond.fieldLink "SootQueen$Outlook" 11 "SootQueen$Outlook" "levels" "[LSootQueen$Game;" ∈ lw_tbl := List.mem_append_right _ (List.mem_of_getElem? (i := 378) (by decide +kernel))
theorem fl_X6_11 : mm_FL RX6 11 6 0 12 := ⟨(RX6, TX6, 12), rfl, rfl, by decide, by decide, Or.inl tw_378⟩
theorem tw_1127 : Cond.methodLink "SootQueen$Outlook" 56 ⟨"SootQueen$Game", "copyFrom", "(LSootQueen$Game;)V"⟩ ∈ lw_tbl := List.mem_append_right _ (List.mem_of_getElem? (i := 1127) (by decide +kernel))
theorem tw_535 : Cond.code ⟨"SootQueen$Game", "copyFrom", "(LSootQueen$Game;)V"⟩ prog_6_method_9_code 3 none ∈ lw_tbl := List.mem_append_right _ (List.mem_of_getElem? (i := 535) (by decide +kernel))
theorem tw_533 : Cond.instanceMethod ⟨"SootQueen$Game", "copyFrom", "(LSootQueen$Game;)V"⟩ ∈ lw_tbl := List.mem_append_right _ (List.mem_of_getElem? (i := 533) (by decide +kernel))
theorem tw_534 : Cond.selects "SootQueen$Game" ⟨"SootQueen$Game", "copyFrom", "(LSootQueen$Game;)V"⟩ ⟨"SootQueen$Game", "copyFrom", "(LSootQueen$Game;)V"⟩ ∈ lw_tbl := List.mem_append_right _ (List.mem_of_getElem? (i := 534) (by decide +kernel))
theorem cw_X6_56 : mm_CV RX6 56 MX4_copyFrom 4 1 := ⟨⟨Or.inl tw_1127, tw_535, tw_9, ⟨by decide, by decide⟩, by decide +kernel, by decide⟩, tw_533, by decide, (RX4, TX4, 12), rfl, tw_534⟩
theorem tw_380 : Cond.fieldLink "SootQueen$Outlook" 27 "SootQueen$Outlook" "draw" "LSootQueen$Draw;" ∈ lw_tbl := List.mem_append_right _ (List.mem_of_getElem? (i := 380) (by decide +kernel))
theorem fl_X6_27 : mm_FL RX6 27 6 2 12 := ⟨(RX6, TX6, 12), rfl, rfl, by decide, by decide, Or.inl tw_380⟩
theorem tw_1138 : Cond.methodLink "SootQueen$Outlook" 96 ⟨"SootQueen$Game", "step", "(ILSootQueen$Draw;)V"⟩ ∈ lw_tbl := List.mem_append_right _ (List.mem_of_getElem? (i := 1138) (by decide +kernel))
theorem tw_638 : Cond.code ⟨"SootQueen$Game", "step", "(ILSootQueen$Draw;)V"⟩ prog_6_method_24_code 6 none ∈ lw_tbl := List.mem_append_right _ (List.mem_of_getElem? (i := 638) (by decide +kernel))
theorem tw_636 : Cond.instanceMethod ⟨"SootQueen$Game", "step", "(ILSootQueen$Draw;)V"⟩ ∈ lw_tbl := List.mem_append_right _ (List.mem_of_getElem? (i := 636) (by decide +kernel))
theorem tw_637 : Cond.selects "SootQueen$Game" ⟨"SootQueen$Game", "step", "(ILSootQueen$Draw;)V"⟩ ⟨"SootQueen$Game", "step", "(ILSootQueen$Draw;)V"⟩ ∈ lw_tbl := List.mem_append_right _ (List.mem_of_getElem? (i := 637) (by decide +kernel))
theorem cw_X6_96 : mm_CV RX6 96 MX4_step 4 2 := ⟨⟨Or.inl tw_1138, tw_638, tw_9, ⟨by decide, by decide⟩, by decide +kernel, by decide⟩, tw_636, by decide, (RX4, TX4, 12), rfl, tw_637⟩
theorem tw_1128 : Cond.methodLink "SootQueen$Outlook" 60 ⟨"SootQueen$Outlook", "spreadFrom", "(IIIJ)Z"⟩ ∈ lw_tbl := List.mem_append_right _ (List.mem_of_getElem? (i := 1128) (by decide +kernel))
theorem tw_1131 : Cond.code ⟨"SootQueen$Outlook", "spreadFrom", "(IIIJ)Z"⟩ prog_8_method_3_code 10 (some .boolean) ∈ lw_tbl := List.mem_append_right _ (List.mem_of_getElem? (i := 1131) (by decide +kernel))
theorem tw_11 : Cond.initialized "SootQueen$Outlook" ∈ lw_tbl := List.mem_append_right _ (List.mem_of_getElem? (i := 11) (by decide +kernel))
theorem tw_1130 : Cond.instanceMethod ⟨"SootQueen$Outlook", "spreadFrom", "(IIIJ)Z"⟩ ∈ lw_tbl := List.mem_append_right _ (List.mem_of_getElem? (i := 1130) (by decide +kernel))
theorem sw_37 : Cond.selects "SootQueen$Outlook" ⟨"SootQueen$Outlook", "spreadFrom", "(IIIJ)Z"⟩ ⟨"SootQueen$Outlook", "spreadFrom", "(IIIJ)Z"⟩ ∈ lw_tbl := List.mem_append_left _ (List.mem_of_getElem? (i := 37) (by decide +kernel))
theorem cw_X6_60 : mm_CV RX6 60 MX6_spreadFrom 6 4 := ⟨⟨Or.inl tw_1128, tw_1131, tw_11, ⟨by decide, by decide⟩, by decide +kernel, by decide⟩, tw_1130, by decide, (RX6, TX6, 12), rfl, sw_37⟩
theorem tw_395 : Cond.fieldLink "SootQueen$Outlook" 48 "SootQueen$Outlook" "lost" "J" ∈ lw_tbl := List.mem_append_right _ (List.mem_of_getElem? (i := 395) (by decide +kernel))
theorem fl_X6_48 : mm_FL RX6 48 6 11 12 := ⟨(RX6, TX6, 12), rfl, rfl, by decide, by decide, Or.inl tw_395⟩
theorem fp_X6_48 : mm_FP RX6 48 6 11 12 .long := ⟨fl_X6_48, (RX6, TX6, 12), rfl, rfl, by decide +kernel⟩
theorem tw_393 : Cond.fieldLink "SootQueen$Outlook" 45 "SootQueen$Outlook" "out" "J" ∈ lw_tbl := List.mem_append_right _ (List.mem_of_getElem? (i := 393) (by decide +kernel))
theorem fl_X6_45 : mm_FL RX6 45 6 10 12 := ⟨(RX6, TX6, 12), rfl, rfl, by decide, by decide, Or.inl tw_393⟩
theorem fp_X6_45 : mm_FP RX6 45 6 10 12 .long := ⟨fl_X6_45, (RX6, TX6, 12), rfl, rfl, by decide +kernel⟩
theorem tw_1135 : Cond.methodLink "SootQueen$Outlook" 76 ⟨"SootQueen$Game", "loser", "()I"⟩ ∈ lw_tbl := List.mem_append_right _ (List.mem_of_getElem? (i := 1135) (by decide +kernel))
theorem tw_1004 : Cond.code ⟨"SootQueen$Game", "loser", "()I"⟩ prog_6_method_19_code 1 (some .int) ∈ lw_tbl := List.mem_append_right _ (List.mem_of_getElem? (i := 1004) (by decide +kernel))
theorem tw_1002 : Cond.instanceMethod ⟨"SootQueen$Game", "loser", "()I"⟩ ∈ lw_tbl := List.mem_append_right _ (List.mem_of_getElem? (i := 1002) (by decide +kernel))
theorem tw_1003 : Cond.selects "SootQueen$Game" ⟨"SootQueen$Game", "loser", "()I"⟩ ⟨"SootQueen$Game", "loser", "()I"⟩ ∈ lw_tbl := List.mem_append_right _ (List.mem_of_getElem? (i := 1003) (by decide +kernel))
theorem cw_X6_76 : mm_CV RX6 76 MX4_loser 4 0 := ⟨⟨Or.inl tw_1135, tw_1004, tw_9, ⟨by decide, by decide⟩, by decide +kernel, by decide⟩, tw_1002, by decide, (RX4, TX4, 12), rfl, tw_1003⟩
theorem tw_391 : Cond.fieldLink "SootQueen$Outlook" 41 "SootQueen$Outlook" "withQueen" "J" ∈ lw_tbl := List.mem_append_right _ (List.mem_of_getElem? (i := 391) (by decide +kernel))
theorem fl_X6_41 : mm_FL RX6 41 6 9 12 := ⟨(RX6, TX6, 12), rfl, rfl, by decide, by decide, Or.inl tw_391⟩
theorem fp_X6_41 : mm_FP RX6 41 6 9 12 .long := ⟨fl_X6_41, (RX6, TX6, 12), rfl, rfl, by decide +kernel⟩
theorem tw_1134 : Cond.methodLink "SootQueen$Outlook" 72 ⟨"SootQueen$Game", "isEmpty", "(I)Z"⟩ ∈ lw_tbl := List.mem_append_right _ (List.mem_of_getElem? (i := 1134) (by decide +kernel))
theorem cw_X6_72 : mm_CV RX6 72 MX4_isEmpty 4 1 := ⟨⟨Or.inl tw_1134, tw_495, tw_9, ⟨by decide, by decide⟩, by decide +kernel, by decide⟩, tw_493, by decide, (RX4, TX4, 12), rfl, tw_494⟩
theorem tw_1133 : Cond.methodLink "SootQueen$Outlook" 68 ⟨"SootQueen$Game", "queenHolder", "()I"⟩ ∈ lw_tbl := List.mem_append_right _ (List.mem_of_getElem? (i := 1133) (by decide +kernel))
theorem cw_X6_68 : mm_CV RX6 68 MX4_queenHolder 4 0 := ⟨⟨Or.inl tw_1133, tw_1000, tw_9, ⟨by decide, by decide⟩, by decide +kernel, by decide⟩, tw_998, by decide, (RX4, TX4, 12), rfl, tw_999⟩
theorem tw_1132 : Cond.methodLink "SootQueen$Outlook" 64 ⟨"SootQueen$Game", "over", "()Z"⟩ ∈ lw_tbl := List.mem_append_right _ (List.mem_of_getElem? (i := 1132) (by decide +kernel))
theorem cw_X6_64 : mm_CV RX6 64 MX4_over 4 0 := ⟨⟨Or.inl tw_1132, tw_617, tw_9, ⟨by decide, by decide⟩, by decide +kernel, by decide⟩, tw_615, by decide, (RX4, TX4, 12), rfl, tw_616⟩
theorem tw_296 : Cond.fieldLinkNest "SootQueen$Outlook" 79 "SootQueen$Game" "turn" "I" "SootQueen" ∈ lw_tbl := List.mem_append_right _ (List.mem_of_getElem? (i := 296) (by decide +kernel))
theorem fl_X6_79 : mm_FL RX6 79 4 10 12 := ⟨(RX4, TX4, 12), rfl, rfl, by decide, by decide, Or.inr ⟨_, tw_296⟩⟩
theorem tw_1136 : Cond.methodLink "SootQueen$Outlook" 83 ⟨"SootQueen$Game", "source", "(I)I"⟩ ∈ lw_tbl := List.mem_append_right _ (List.mem_of_getElem? (i := 1136) (by decide +kernel))
theorem cw_X6_83 : mm_CV RX6 83 MX4_source 4 1 := ⟨⟨Or.inl tw_1136, tw_621, tw_9, ⟨by decide, by decide⟩, by decide +kernel, by decide⟩, tw_619, by decide, (RX4, TX4, 12), rfl, tw_620⟩
theorem tw_1137 : Cond.methodLink "SootQueen$Outlook" 87 ⟨"SootQueen$Game", "fanAt", "(I)LSootQueen$Fan;"⟩ ∈ lw_tbl := List.mem_append_right _ (List.mem_of_getElem? (i := 1137) (by decide +kernel))
theorem cw_X6_87 : mm_CV RX6 87 MX4_fanAt 4 1 := ⟨⟨Or.inl tw_1137, tw_499, tw_9, ⟨by decide, by decide⟩, by decide +kernel, by decide⟩, tw_497, by decide, (RX4, TX4, 12), rfl, tw_498⟩
theorem tw_47 : Cond.fieldLinkNest "SootQueen$Outlook" 91 "SootQueen$Fan" "size" "I" "SootQueen" ∈ lw_tbl := List.mem_append_right _ (List.mem_of_getElem? (i := 47) (by decide +kernel))
theorem fl_X6_91 : mm_FL RX6 91 3 1 2 := ⟨(RX3, TX3, 2), rfl, rfl, by decide, by decide, Or.inr ⟨_, tw_47⟩⟩
theorem kb_9 : (Int8.ofInt (9)).toInt32 = (9 : Int32) := by decide
theorem tw_389 : Cond.fieldLink "SootQueen$Outlook" 51 "SootQueen$Outlook" "whole" "J" ∈ lw_tbl := List.mem_append_right _ (List.mem_of_getElem? (i := 389) (by decide +kernel))
theorem fl_X6_51 : mm_FL RX6 51 6 8 12 := ⟨(RX6, TX6, 12), rfl, rfl, by decide, by decide, Or.inl tw_389⟩
theorem tw_1126 : Cond.constantLong "SootQueen$Outlook" 54 (2520) ∈ lw_tbl := List.mem_append_right _ (List.mem_of_getElem? (i := 1126) (by decide +kernel))
theorem fp_X6_51 : mm_FP RX6 51 6 8 12 .long := ⟨fl_X6_51, (RX6, TX6, 12), rfl, rfl, by decide +kernel⟩
theorem tw_382 : Cond.fieldLink "SootQueen$Outlook" 35 "SootQueen$Outlook" "losses" "[I" ∈ lw_tbl := List.mem_append_right _ (List.mem_of_getElem? (i := 382) (by decide +kernel))
theorem fl_X6_35 : mm_FL RX6 35 6 4 12 := ⟨(RX6, TX6, 12), rfl, rfl, by decide, by decide, Or.inl tw_382⟩
theorem tw_383 : Cond.fieldLink "SootQueen$Outlook" 100 "SootQueen$Outlook" "notOver" "I" ∈ lw_tbl := List.mem_append_right _ (List.mem_of_getElem? (i := 383) (by decide +kernel))
theorem fl_X6_100 : mm_FL RX6 100 6 5 12 := ⟨(RX6, TX6, 12), rfl, rfl, by decide, by decide, Or.inl tw_383⟩
theorem fp_X6_100 : mm_FP RX6 100 6 5 12 .int := ⟨fl_X6_100, (RX6, TX6, 12), rfl, rfl, by decide +kernel⟩
theorem tw_385 : Cond.fieldLink "SootQueen$Outlook" 103 "SootQueen$Outlook" "longest" "I" ∈ lw_tbl := List.mem_append_right _ (List.mem_of_getElem? (i := 385) (by decide +kernel))
theorem fl_X6_103 : mm_FL RX6 103 6 6 12 := ⟨(RX6, TX6, 12), rfl, rfl, by decide, by decide, Or.inl tw_385⟩
theorem fp_X6_103 : mm_FP RX6 103 6 6 12 .int := ⟨fl_X6_103, (RX6, TX6, 12), rfl, rfl, by decide +kernel⟩
theorem tw_347 : Cond.fieldLink "SootQueen$Played" 35 "SootQueen$Played" "stretch" "I" ∈ lw_tbl := List.mem_append_right _ (List.mem_of_getElem? (i := 347) (by decide +kernel))
theorem fl_X7_35 : mm_FL RX7 35 7 7 8 := ⟨(RX7, TX7, 8), rfl, rfl, by decide, by decide, Or.inl tw_347⟩
theorem fp_X7_35 : mm_FP RX7 35 7 7 8 .int := ⟨fl_X7_35, (RX7, TX7, 8), rfl, rfl, by decide +kernel⟩
theorem tw_346 : Cond.fieldLink "SootQueen$Played" 32 "SootQueen$Played" "holder" "I" ∈ lw_tbl := List.mem_append_right _ (List.mem_of_getElem? (i := 346) (by decide +kernel))
theorem fl_X7_32 : mm_FL RX7 32 7 6 8 := ⟨(RX7, TX7, 8), rfl, rfl, by decide, by decide, Or.inl tw_346⟩
theorem fp_X7_32 : mm_FP RX7 32 7 6 8 .int := ⟨fl_X7_32, (RX7, TX7, 8), rfl, rfl, by decide +kernel⟩
theorem tw_336 : Cond.fieldLink "SootQueen$Played" 9 "SootQueen$Played" "queens" "[I" ∈ lw_tbl := List.mem_append_right _ (List.mem_of_getElem? (i := 336) (by decide +kernel))
theorem fl_X7_9 : mm_FL RX7 9 7 0 8 := ⟨(RX7, TX7, 8), rfl, rfl, by decide, by decide, Or.inl tw_336⟩
theorem tw_337 : Cond.fieldLink "SootQueen$Played" 15 "SootQueen$Played" "longest" "[I" ∈ lw_tbl := List.mem_append_right _ (List.mem_of_getElem? (i := 337) (by decide +kernel))
theorem fl_X7_15 : mm_FL RX7 15 7 1 8 := ⟨(RX7, TX7, 8), rfl, rfl, by decide, by decide, Or.inl tw_337⟩
theorem tw_1096 : Cond.methodLink "SootQueen$Played" 72 ⟨"java/lang/Math", "max", "(II)I"⟩ ∈ lw_tbl := List.mem_append_right _ (List.mem_of_getElem? (i := 1096) (by decide +kernel))
theorem tw_1098 : Cond.code ⟨"java/lang/Math", "max", "(II)I"⟩ prog_20_method_65_code 2 (some .int) ∈ lw_tbl := List.mem_append_right _ (List.mem_of_getElem? (i := 1098) (by decide +kernel))
theorem tw_1097 : Cond.static ⟨"java/lang/Math", "max", "(II)I"⟩ ∈ lw_tbl := List.mem_append_right _ (List.mem_of_getElem? (i := 1097) (by decide +kernel))
theorem cw_X7_72 : mm_CS RX7 72 MJ9_max_7cf53 2 := ⟨⟨Or.inl tw_1096, tw_1098, tw_13, ⟨by decide, by decide⟩, by decide +kernel, by decide⟩, tw_1097⟩
theorem tw_338 : Cond.fieldLink "SootQueen$Played" 18 "SootQueen$Played" "out" "[I" ∈ lw_tbl := List.mem_append_right _ (List.mem_of_getElem? (i := 338) (by decide +kernel))
theorem fl_X7_18 : mm_FL RX7 18 7 2 8 := ⟨(RX7, TX7, 8), rfl, rfl, by decide, by decide, Or.inl tw_338⟩
theorem tw_1087 : Cond.methodLink "SootQueen$Played" 38 ⟨"SootQueen$Game", "isEmpty", "(I)Z"⟩ ∈ lw_tbl := List.mem_append_right _ (List.mem_of_getElem? (i := 1087) (by decide +kernel))
theorem cw_X7_38 : mm_CV RX7 38 MX4_isEmpty 4 1 := ⟨⟨Or.inl tw_1087, tw_495, tw_9, ⟨by decide, by decide⟩, by decide +kernel, by decide⟩, tw_493, by decide, (RX4, TX4, 12), rfl, tw_494⟩
theorem tw_343 : Cond.fieldLink "SootQueen$Played" 28 "SootQueen$Played" "draws" "I" ∈ lw_tbl := List.mem_append_right _ (List.mem_of_getElem? (i := 343) (by decide +kernel))
theorem fl_X7_28 : mm_FL RX7 28 7 5 8 := ⟨(RX7, TX7, 8), rfl, rfl, by decide, by decide, Or.inl tw_343⟩
theorem tw_1103 : Cond.methodLink "SootQueen$Played" 67 ⟨"SootQueen$Game", "loser", "()I"⟩ ∈ lw_tbl := List.mem_append_right _ (List.mem_of_getElem? (i := 1103) (by decide +kernel))
theorem cw_X7_67 : mm_CV RX7 67 MX4_loser 4 0 := ⟨⟨Or.inl tw_1103, tw_1004, tw_9, ⟨by decide, by decide⟩, by decide +kernel, by decide⟩, tw_1002, by decide, (RX4, TX4, 12), rfl, tw_1003⟩
theorem tw_340 : Cond.fieldLink "SootQueen$Played" 70 "SootQueen$Played" "loser" "I" ∈ lw_tbl := List.mem_append_right _ (List.mem_of_getElem? (i := 340) (by decide +kernel))
theorem fl_X7_70 : mm_FL RX7 70 7 4 8 := ⟨(RX7, TX7, 8), rfl, rfl, by decide, by decide, Or.inl tw_340⟩
theorem fp_X7_70 : mm_FP RX7 70 7 4 8 .int := ⟨fl_X7_70, (RX7, TX7, 8), rfl, rfl, by decide +kernel⟩
theorem ks_200 : (Int16.ofInt (200)).toInt32 = (200 : Int32) := by decide
theorem tw_1088 : Cond.methodLink "SootQueen$Played" 44 ⟨"SootQueen$Game", "over", "()Z"⟩ ∈ lw_tbl := List.mem_append_right _ (List.mem_of_getElem? (i := 1088) (by decide +kernel))
theorem cw_X7_44 : mm_CV RX7 44 MX4_over 4 0 := ⟨⟨Or.inl tw_1088, tw_617, tw_9, ⟨by decide, by decide⟩, by decide +kernel, by decide⟩, tw_615, by decide, (RX4, TX4, 12), rfl, tw_616⟩
theorem tw_1089 : Cond.methodLink "SootQueen$Played" 48 ⟨"SootQueen$Game", "placeNow", "()I"⟩ ∈ lw_tbl := List.mem_append_right _ (List.mem_of_getElem? (i := 1089) (by decide +kernel))
theorem tw_1070 : Cond.code ⟨"SootQueen$Game", "placeNow", "()I"⟩ prog_6_method_20_code 1 (some .int) ∈ lw_tbl := List.mem_append_right _ (List.mem_of_getElem? (i := 1070) (by decide +kernel))
theorem tw_1068 : Cond.instanceMethod ⟨"SootQueen$Game", "placeNow", "()I"⟩ ∈ lw_tbl := List.mem_append_right _ (List.mem_of_getElem? (i := 1068) (by decide +kernel))
theorem tw_1069 : Cond.selects "SootQueen$Game" ⟨"SootQueen$Game", "placeNow", "()I"⟩ ⟨"SootQueen$Game", "placeNow", "()I"⟩ ∈ lw_tbl := List.mem_append_right _ (List.mem_of_getElem? (i := 1069) (by decide +kernel))
theorem cw_X7_48 : mm_CV RX7 48 MX4_placeNow 4 0 := ⟨⟨Or.inl tw_1089, tw_1070, tw_9, ⟨by decide, by decide⟩, by decide +kernel, by decide⟩, tw_1068, by decide, (RX4, TX4, 12), rfl, tw_1069⟩
theorem tw_339 : Cond.fieldLink "SootQueen$Played" 24 "SootQueen$Played" "draw" "LSootQueen$Draw;" ∈ lw_tbl := List.mem_append_right _ (List.mem_of_getElem? (i := 339) (by decide +kernel))
theorem fl_X7_24 : mm_FL RX7 24 7 3 8 := ⟨(RX7, TX7, 8), rfl, rfl, by decide, by decide, Or.inl tw_339⟩
theorem tw_1090 : Cond.methodLink "SootQueen$Played" 52 ⟨"SootQueen$Game", "step", "(ILSootQueen$Draw;)V"⟩ ∈ lw_tbl := List.mem_append_right _ (List.mem_of_getElem? (i := 1090) (by decide +kernel))
theorem cw_X7_52 : mm_CV RX7 52 MX4_step 4 2 := ⟨⟨Or.inl tw_1090, tw_638, tw_9, ⟨by decide, by decide⟩, by decide +kernel, by decide⟩, tw_636, by decide, (RX4, TX4, 12), rfl, tw_637⟩
theorem fp_X7_28 : mm_FP RX7 28 7 5 8 .int := ⟨fl_X7_28, (RX7, TX7, 8), rfl, rfl, by decide +kernel⟩
theorem tw_1091 : Cond.methodLink "SootQueen$Played" 56 ⟨"SootQueen$Game", "queenHolder", "()I"⟩ ∈ lw_tbl := List.mem_append_right _ (List.mem_of_getElem? (i := 1091) (by decide +kernel))
theorem cw_X7_56 : mm_CV RX7 56 MX4_queenHolder 4 0 := ⟨⟨Or.inl tw_1091, tw_1000, tw_9, ⟨by decide, by decide⟩, by decide +kernel, by decide⟩, tw_998, by decide, (RX4, TX4, 12), rfl, tw_999⟩
theorem tw_1092 : Cond.methodLink "SootQueen$Played" 59 ⟨"SootQueen$Played", "noteQueen", "(I)V"⟩ ∈ lw_tbl := List.mem_append_right _ (List.mem_of_getElem? (i := 1092) (by decide +kernel))
theorem tw_1095 : Cond.code ⟨"SootQueen$Played", "noteQueen", "(I)V"⟩ prog_9_method_3_code 2 none ∈ lw_tbl := List.mem_append_right _ (List.mem_of_getElem? (i := 1095) (by decide +kernel))
theorem tw_10 : Cond.initialized "SootQueen$Played" ∈ lw_tbl := List.mem_append_right _ (List.mem_of_getElem? (i := 10) (by decide +kernel))
theorem tw_1094 : Cond.instanceMethod ⟨"SootQueen$Played", "noteQueen", "(I)V"⟩ ∈ lw_tbl := List.mem_append_right _ (List.mem_of_getElem? (i := 1094) (by decide +kernel))
theorem sw_35 : Cond.selects "SootQueen$Played" ⟨"SootQueen$Played", "noteQueen", "(I)V"⟩ ⟨"SootQueen$Played", "noteQueen", "(I)V"⟩ ∈ lw_tbl := List.mem_append_left _ (List.mem_of_getElem? (i := 35) (by decide +kernel))
theorem cw_X7_59 : mm_CV RX7 59 MX7_noteQueen 7 1 := ⟨⟨Or.inl tw_1092, tw_1095, tw_10, ⟨by decide, by decide⟩, by decide +kernel, by decide⟩, tw_1094, by decide, (RX7, TX7, 8), rfl, sw_35⟩
theorem tw_1099 : Cond.methodLink "SootQueen$Played" 63 ⟨"SootQueen$Played", "noteOut", "(LSootQueen$Game;)V"⟩ ∈ lw_tbl := List.mem_append_right _ (List.mem_of_getElem? (i := 1099) (by decide +kernel))
theorem tw_1102 : Cond.code ⟨"SootQueen$Played", "noteOut", "(LSootQueen$Game;)V"⟩ prog_9_method_4_code 3 none ∈ lw_tbl := List.mem_append_right _ (List.mem_of_getElem? (i := 1102) (by decide +kernel))
theorem tw_1101 : Cond.instanceMethod ⟨"SootQueen$Played", "noteOut", "(LSootQueen$Game;)V"⟩ ∈ lw_tbl := List.mem_append_right _ (List.mem_of_getElem? (i := 1101) (by decide +kernel))
theorem sw_36 : Cond.selects "SootQueen$Played" ⟨"SootQueen$Played", "noteOut", "(LSootQueen$Game;)V"⟩ ⟨"SootQueen$Played", "noteOut", "(LSootQueen$Game;)V"⟩ ∈ lw_tbl := List.mem_append_left _ (List.mem_of_getElem? (i := 36) (by decide +kernel))
theorem cw_X7_63 : mm_CV RX7 63 MX7_noteOut 7 1 := ⟨⟨Or.inl tw_1099, tw_1102, tw_10, ⟨by decide, by decide⟩, by decide +kernel, by decide⟩, tw_1101, by decide, (RX7, TX7, 8), rfl, sw_36⟩
theorem dX4_queenHolder_0 : decode cX4_queenHolder 0 = .ok (.iconst 0, 1) := by decide +kernel
theorem dX4_queenHolder_1 : decode cX4_queenHolder 1 = .ok (.istore_n 1, 1) := by decide +kernel
theorem dX4_queenHolder_2 : decode cX4_queenHolder 2 = .ok (.iload_n 1, 1) := by decide +kernel
theorem dX4_queenHolder_3 : decode cX4_queenHolder 3 = .ok (.aload_n 0, 1) := by decide +kernel
theorem dX4_queenHolder_4 : decode cX4_queenHolder 4 = .ok (.getfield 35, 3) := by decide +kernel
theorem dX4_queenHolder_7 : decode cX4_queenHolder 7 = .ok (.getfield 84, 3) := by decide +kernel
theorem dX4_queenHolder_10 : decode cX4_queenHolder 10 = .ok (.if_icmp .ge 24, 3) := by decide +kernel
theorem dX4_queenHolder_13 : decode cX4_queenHolder 13 = .ok (.aload_n 0, 1) := by decide +kernel
theorem dX4_queenHolder_14 : decode cX4_queenHolder 14 = .ok (.iload_n 1, 1) := by decide +kernel
theorem dX4_queenHolder_15 : decode cX4_queenHolder 15 = .ok (.invokevirtual 76, 3) := by decide +kernel
theorem dX4_queenHolder_18 : decode cX4_queenHolder 18 = .ok (.iconst 0, 1) := by decide +kernel
theorem dX4_queenHolder_19 : decode cX4_queenHolder 19 = .ok (.invokevirtual 87, 3) := by decide +kernel
theorem dX4_queenHolder_22 : decode cX4_queenHolder 22 = .ok (.iconst (-1), 1) := by decide +kernel
theorem dX4_queenHolder_23 : decode cX4_queenHolder 23 = .ok (.if_icmp .eq 5, 3) := by decide +kernel
theorem dX4_queenHolder_26 : decode cX4_queenHolder 26 = .ok (.iload_n 1, 1) := by decide +kernel
theorem dX4_queenHolder_27 : decode cX4_queenHolder 27 = .ok (.ireturn, 1) := by decide +kernel
theorem dX4_queenHolder_28 : decode cX4_queenHolder 28 = .ok (.iinc 1 1, 3) := by decide +kernel
theorem dX4_queenHolder_31 : decode cX4_queenHolder 31 = .ok (.goto (-29), 3) := by decide +kernel
theorem dX4_queenHolder_34 : decode cX4_queenHolder 34 = .ok (.iconst (-1), 1) := by decide +kernel
theorem dX4_queenHolder_35 : decode cX4_queenHolder 35 = .ok (.ireturn, 1) := by decide +kernel
def X4_queenHolder_L2 (e : mm_E) (a0 : Nat) : Nat → Int32 → mm_V → Option (Int32 × mm_V)
  | 0, _, _ => none
  | n + 1, i1, m => (mm_gr e.1 m 4 12 a0 6).bind fun c1 => (mm_gi e.1 m 10 11 c1 6).bind fun x2 => if x2 ≤ i1 then (some ((-1 : Int32), m)) else ((X4_fanAt e a0 i1 m).bind fun r3 => if e.1 r3.1 = some (3, 2) then ((X3_placeOf e r3.1 (0 : Int32) r3.2).bind fun r4 => if r4.1 = (-1 : Int32) then (X4_queenHolder_L2 e a0 n (i1 + 1) r4.2) else (some (i1, r4.2))) else none)
theorem X4_queenHolder_L2_ok {K : mm_K} {nx : Option Nat} {e : mm_E} (hz : e.2.1 = K.2.2.2.2) {d : Nat} (hd : 1 ≤ d) {a0 : Nat} (h0 : e.1 a0 = some (4, 12)) : ∀ (n : Nat) (i1 : Int32) (m : mm_V) (r : (Int32 × mm_V)), X4_queenHolder_L2 e a0 n i1 m = some r → mm_G K MX4_queenHolder d (mm_Fi e.1 nx r) 2 [some (.ref a0), some (.int i1)] [] (e.1, m) nx 0 0 := by
  obtain ⟨d, rfl⟩ : ∃ d', d = d' + 1 := ⟨d - 1, by omega⟩
  intro n
  induction n with
  | zero => intro i1 m r hr; unfold X4_queenHolder_L2 at hr; cases hr
  | succ n ih =>
    intro i1 m r hr
    unfold X4_queenHolder_L2 at hr
    refine ml_iload_n (pc := 2) dX4_queenHolder_2 rfl (mm_get_s mm_get_0) ?_
    refine ml_aload_n (pc := 3) dX4_queenHolder_3 rfl mm_get_0 ?_
    refine mb_gr (pc := 4) dX4_queenHolder_4 fl_X4_35 hr (fun c1 hr => ?_)
    refine mb_gi (pc := 7) dX4_queenHolder_7 fl_X4_84 hr (fun x2 hr => ?_)
    refine mb_icmp_ge (pc := 10) 34 dX4_queenHolder_10 rfl hr (fun hr => ?_) (fun hr => ?_)
    · refine mg_iconst (pc := 34) dX4_queenHolder_34 kc_m1 ?_
      exact mb_iret dX4_queenHolder_35 rfl hr
    · refine ml_aload_n (pc := 13) dX4_queenHolder_13 rfl mm_get_0 ?_
      refine ml_iload_n (pc := 14) dX4_queenHolder_14 rfl (mm_get_s mm_get_0) ?_
      refine mb_cVr (pc := 15) (As := [.int i1]) (rest := []) dX4_queenHolder_15 cw_X4_76 h0 hr (fun v hv => X4_fanAt_ok hz (by omega) h0 hv) rfl (Nat.le_of_ble_eq_true rfl) (Nat.zero_le _) (Nat.zero_le _) (fun r3 hr => ?_)
      refine mg_iconst (pc := 18) dX4_queenHolder_18 kc_0 ?_
      refine mb_ck hr (fun hb5 hr => ?_)
      refine mb_cVi (pc := 19) (As := [.int (0 : Int32)]) (rest := []) dX4_queenHolder_19 cw_X4_87 hb5 hr (fun v hv => X3_placeOf_ok hz (by omega) hb5 hv) rfl (Nat.le_of_ble_eq_true rfl) (Nat.zero_le _) (Nat.zero_le _) (fun r4 hr => ?_)
      refine mg_iconst (pc := 22) dX4_queenHolder_22 kc_m1 ?_
      refine mb_icmp_eq (pc := 23) 28 dX4_queenHolder_23 rfl hr (fun hr => ?_) (fun hr => ?_)
      · refine ml_iinc (pc := 28) dX4_queenHolder_28 (mm_get_s mm_get_0) (congrArg (fun z => i1 + z) kc_1) (Nat.le_of_ble_eq_true rfl) mm_st1_r ?_
        refine mg_goto (pc := 31) 2 dX4_queenHolder_31 rfl ?_
        exact mg_weak (mm_le_s (mm_le_s mm_le_0)) (ih _ _ _ hr)
      · refine ml_iload_n (pc := 26) dX4_queenHolder_26 rfl (mm_get_s mm_get_0) ?_
        exact mb_iret dX4_queenHolder_27 rfl hr
def X4_queenHolder (e : mm_E) (a0 : Nat) (m : mm_V) : Option (Int32 × mm_V) := X4_queenHolder_L2 e a0 e.2.2 (0 : Int32) m
theorem X4_queenHolder_ok {K : mm_K} {nx : Option Nat} {e : mm_E} (hz : e.2.1 = K.2.2.2.2) {d : Nat} (hd : 1 ≤ d) {a0 : Nat} (h0 : e.1 a0 = some (4, 12)) {m : mm_V} {r : (Int32 × mm_V)} (hr : X4_queenHolder e a0 m = some r) : mm_Cn K MX4_queenHolder d (mm_Fi e.1 nx r) [.ref a0] (e.1, m) nx := by
  obtain ⟨d, rfl⟩ : ∃ d', d = d' + 1 := ⟨d - 1, by omega⟩
  refine mm_entry (by decide) (Nat.le_of_ble_eq_true rfl) rfl (fun hok => ?_)
  unfold X4_queenHolder at hr
  refine mg_weak (L' := [some (.ref a0), none]) (mm_le_s (mm_le_e mm_le_0)) ?_
  refine mg_iconst (pc := 0) dX4_queenHolder_0 kc_0 ?_
  refine ml_istore_n (pc := 1) dX4_queenHolder_1 rfl (Nat.le_of_ble_eq_true rfl) mm_st1_r ?_
  exact mg_weak (mm_le_s (mm_le_s mm_le_0)) (X4_queenHolder_L2_ok hz hd h0 _ _ _ _ hr)
theorem dX4_loser_0 : decode cX4_loser 0 = .ok (.aload_n 0, 1) := by decide +kernel
theorem dX4_loser_1 : decode cX4_loser 1 = .ok (.invokevirtual 120, 3) := by decide +kernel
theorem dX4_loser_4 : decode cX4_loser 4 = .ok (.ifCond .eq 10, 3) := by decide +kernel
theorem dX4_loser_7 : decode cX4_loser 7 = .ok (.aload_n 0, 1) := by decide +kernel
theorem dX4_loser_8 : decode cX4_loser 8 = .ok (.invokevirtual 124, 3) := by decide +kernel
theorem dX4_loser_11 : decode cX4_loser 11 = .ok (.goto 4, 3) := by decide +kernel
theorem dX4_loser_14 : decode cX4_loser 14 = .ok (.iconst (-1), 1) := by decide +kernel
theorem dX4_loser_15 : decode cX4_loser 15 = .ok (.ireturn, 1) := by decide +kernel
def X4_loser_b15 (e : mm_E) (t0 : Int32) (m : mm_V) : Option (Int32 × mm_V) := some (t0, m)
theorem X4_loser_b15_ok {K : mm_K} {nx : Option Nat} {e : mm_E} (hz : e.2.1 = K.2.2.2.2) {d : Nat} (hd : 3 ≤ d) {t0 : Int32} {a0 : Nat} (h0 : e.1 a0 = some (4, 12)) {m : mm_V} {r : (Int32 × mm_V)} (hr : X4_loser_b15 e t0 m = some r) : mm_G K MX4_loser d (mm_Fi e.1 nx r) 15 [none] [.int t0] (e.1, m) nx 0 0 := by
  obtain ⟨d, rfl⟩ : ∃ d', d = d' + 1 := ⟨d - 1, by omega⟩
  unfold X4_loser_b15 at hr
  exact mb_iret dX4_loser_15 rfl hr
def X4_loser (e : mm_E) (a0 : Nat) (m : mm_V) : Option (Int32 × mm_V) := (X4_over e a0 m).bind fun r1 => if r1.1 = 0 then (X4_loser_b15 e  (-1 : Int32) r1.2) else ((X4_queenHolder e a0 r1.2).bind fun r2 => X4_loser_b15 e  r2.1 r2.2)
theorem X4_loser_ok {K : mm_K} {nx : Option Nat} {e : mm_E} (hz : e.2.1 = K.2.2.2.2) {d : Nat} (hd : 3 ≤ d) {a0 : Nat} (h0 : e.1 a0 = some (4, 12)) {m : mm_V} {r : (Int32 × mm_V)} (hr : X4_loser e a0 m = some r) : mm_Cn K MX4_loser d (mm_Fi e.1 nx r) [.ref a0] (e.1, m) nx := by
  obtain ⟨d, rfl⟩ : ∃ d', d = d' + 1 := ⟨d - 1, by omega⟩
  refine mm_entry (by decide) (Nat.le_of_ble_eq_true rfl) rfl (fun hok => ?_)
  unfold X4_loser at hr
  refine mg_weak (L' := [some (.ref a0)]) (mm_le_s mm_le_0) ?_
  refine ml_aload_n (pc := 0) dX4_loser_0 rfl mm_get_0 ?_
  refine mb_cVi (pc := 1) (As := []) (rest := []) dX4_loser_1 cw_X4_120 h0 hr (fun v hv => X4_over_ok hz (by omega) h0 hv) rfl (Nat.le_of_ble_eq_true rfl) (Nat.zero_le _) (Nat.zero_le _) (fun r1 hr => ?_)
  refine mb_if_eq (pc := 4) 14 dX4_loser_4 rfl hr (fun hr => ?_) (fun hr => ?_)
  · refine mg_iconst (pc := 14) dX4_loser_14 kc_m1 ?_
    exact mg_weak (mm_le_n mm_le_0) (X4_loser_b15_ok hz hd h0 hr)
  · refine ml_aload_n (pc := 7) dX4_loser_7 rfl mm_get_0 ?_
    refine mb_cVi (pc := 8) (As := []) (rest := []) dX4_loser_8 cw_X4_124 h0 hr (fun v hv => X4_queenHolder_ok hz (by omega) h0 hv) rfl (Nat.le_of_ble_eq_true rfl) (Nat.zero_le _) (Nat.zero_le _) (fun r2 hr => ?_)
    refine mg_goto (pc := 11) 15 dX4_loser_11 rfl ?_
    exact mg_weak (mm_le_n mm_le_0) (X4_loser_b15_ok hz hd h0 hr)
theorem dX4_see_0 : decode cX4_see 0 = .ok (.aload_n 0, 1) := by decide +kernel
theorem dX4_see_1 : decode cX4_see 1 = .ok (.getfield 29, 3) := by decide +kernel
theorem dX4_see_4 : decode cX4_see 4 = .ok (.iconst 0, 1) := by decide +kernel
theorem dX4_see_5 : decode cX4_see 5 = .ok (.iload_n 2, 1) := by decide +kernel
theorem dX4_see_6 : decode cX4_see 6 = .ok (.iastore, 1) := by decide +kernel
theorem dX4_see_7 : decode cX4_see 7 = .ok (.aload_n 0, 1) := by decide +kernel
theorem dX4_see_8 : decode cX4_see 8 = .ok (.getfield 29, 3) := by decide +kernel
theorem dX4_see_11 : decode cX4_see 11 = .ok (.iconst 1, 1) := by decide +kernel
theorem dX4_see_12 : decode cX4_see 12 = .ok (.aload_n 0, 1) := by decide +kernel
theorem dX4_see_13 : decode cX4_see 13 = .ok (.iload_n 1, 1) := by decide +kernel
theorem dX4_see_14 : decode cX4_see 14 = .ok (.invokevirtual 76, 3) := by decide +kernel
theorem dX4_see_17 : decode cX4_see 17 = .ok (.getfield 90, 3) := by decide +kernel
theorem dX4_see_20 : decode cX4_see 20 = .ok (.iastore, 1) := by decide +kernel
theorem dX4_see_21 : decode cX4_see 21 = .ok (.aload_n 0, 1) := by decide +kernel
theorem dX4_see_22 : decode cX4_see 22 = .ok (.getfield 29, 3) := by decide +kernel
theorem dX4_see_25 : decode cX4_see 25 = .ok (.iconst 2, 1) := by decide +kernel
theorem dX4_see_26 : decode cX4_see 26 = .ok (.aload_n 0, 1) := by decide +kernel
theorem dX4_see_27 : decode cX4_see 27 = .ok (.getfield 106, 3) := by decide +kernel
theorem dX4_see_30 : decode cX4_see 30 = .ok (.iastore, 1) := by decide +kernel
theorem dX4_see_31 : decode cX4_see 31 = .ok (.aload_n 0, 1) := by decide +kernel
theorem dX4_see_32 : decode cX4_see 32 = .ok (.getfield 29, 3) := by decide +kernel
theorem dX4_see_35 : decode cX4_see 35 = .ok (.iconst 3, 1) := by decide +kernel
theorem dX4_see_36 : decode cX4_see 36 = .ok (.iload_n 1, 1) := by decide +kernel
theorem dX4_see_37 : decode cX4_see 37 = .ok (.iastore, 1) := by decide +kernel
theorem dX4_see_38 : decode cX4_see 38 = .ok (.aload_n 0, 1) := by decide +kernel
theorem dX4_see_39 : decode cX4_see 39 = .ok (.getfield 29, 3) := by decide +kernel
theorem dX4_see_42 : decode cX4_see 42 = .ok (.iconst 4, 1) := by decide +kernel
theorem dX4_see_43 : decode cX4_see 43 = .ok (.aload_n 0, 1) := by decide +kernel
theorem dX4_see_44 : decode cX4_see 44 = .ok (.iload_n 1, 1) := by decide +kernel
theorem dX4_see_45 : decode cX4_see 45 = .ok (.invokevirtual 151, 3) := by decide +kernel
theorem dX4_see_48 : decode cX4_see 48 = .ok (.iastore, 1) := by decide +kernel
theorem dX4_see_49 : decode cX4_see 49 = .ok (.aload_n 0, 1) := by decide +kernel
theorem dX4_see_50 : decode cX4_see 50 = .ok (.getfield 29, 3) := by decide +kernel
theorem dX4_see_53 : decode cX4_see 53 = .ok (.iconst 5, 1) := by decide +kernel
theorem dX4_see_54 : decode cX4_see 54 = .ok (.iload_n 3, 1) := by decide +kernel
theorem dX4_see_55 : decode cX4_see 55 = .ok (.iastore, 1) := by decide +kernel
theorem dX4_see_56 : decode cX4_see 56 = .ok (.return_, 1) := by decide +kernel
def X4_see (e : mm_E) (a0 : Nat) (i1 : Int32) (i2 : Int32) (i3 : Int32) (m : mm_V) : Option mm_V := (mm_gr e.1 m 4 12 a0 4).bind fun c1 => (mm_si e.1 m c1 (0 : Int32) i2).bind fun m2 => (mm_gr e.1 m2 4 12 a0 4).bind fun c3 => (X4_fanAt e a0 i1 m2).bind fun r4 => (mm_gi e.1 r4.2 3 2 r4.1 1).bind fun x5 => (mm_si e.1 r4.2 c3 (1 : Int32) x5).bind fun m6 => (mm_gr e.1 m6 4 12 a0 4).bind fun c7 => (mm_gi e.1 m6 4 12 a0 11).bind fun x8 => (mm_si e.1 m6 c7 (2 : Int32) x8).bind fun m9 => (mm_gr e.1 m9 4 12 a0 4).bind fun c10 => (mm_si e.1 m9 c10 (3 : Int32) i1).bind fun m11 => (mm_gr e.1 m11 4 12 a0 4).bind fun c12 => (X4_lastOf e a0 i1 m11).bind fun r13 => (mm_si e.1 r13.2 c12 (4 : Int32) r13.1).bind fun m14 => (mm_gr e.1 m14 4 12 a0 4).bind fun c15 => (mm_si e.1 m14 c15 (5 : Int32) i3).bind fun m16 => some m16
theorem X4_see_ok {K : mm_K} {nx : Option Nat} {e : mm_E} (hz : e.2.1 = K.2.2.2.2) {d : Nat} (hd : 1 ≤ d) {a0 : Nat} {i1 : Int32} {i2 : Int32} {i3 : Int32} (h0 : e.1 a0 = some (4, 12)) {m : mm_V} {r : mm_V} (hr : X4_see e a0 i1 i2 i3 m = some r) : mm_Cn K MX4_see d (mm_Fv e.1 nx r) [.ref a0, .int i1, .int i2, .int i3] (e.1, m) nx := by
  obtain ⟨d, rfl⟩ : ∃ d', d = d' + 1 := ⟨d - 1, by omega⟩
  refine mm_entry (by decide) (Nat.le_of_ble_eq_true rfl) rfl (fun hok => ?_)
  unfold X4_see at hr
  refine mg_weak (L' := [some (.ref a0), some (.int i1), some (.int i2), some (.int i3)]) (mm_le_s (mm_le_s (mm_le_s (mm_le_s mm_le_0)))) ?_
  refine ml_aload_n (pc := 0) dX4_see_0 rfl mm_get_0 ?_
  refine mb_gr (pc := 1) dX4_see_1 fl_X4_29 hr (fun c1 hr => ?_)
  refine mg_iconst (pc := 4) dX4_see_4 kc_0 ?_
  refine ml_iload_n (pc := 5) dX4_see_5 rfl (mm_get_s (mm_get_s mm_get_0)) ?_
  refine mb_si (pc := 6) dX4_see_6 hr (fun m2 hr => ?_)
  refine ml_aload_n (pc := 7) dX4_see_7 rfl mm_get_0 ?_
  refine mb_gr (pc := 8) dX4_see_8 fl_X4_29 hr (fun c3 hr => ?_)
  refine mg_iconst (pc := 11) dX4_see_11 kc_1 ?_
  refine ml_aload_n (pc := 12) dX4_see_12 rfl mm_get_0 ?_
  refine ml_iload_n (pc := 13) dX4_see_13 rfl (mm_get_s mm_get_0) ?_
  refine mb_cVr (pc := 14) (As := [.int i1]) (rest := [.int (1 : Int32), .ref c3]) dX4_see_14 cw_X4_76 h0 hr (fun v hv => X4_fanAt_ok hz (by omega) h0 hv) rfl (Nat.le_of_ble_eq_true rfl) (Nat.zero_le _) (Nat.zero_le _) (fun r4 hr => ?_)
  refine mb_gi (pc := 17) dX4_see_17 fl_X4_90 hr (fun x5 hr => ?_)
  refine mb_si (pc := 20) dX4_see_20 hr (fun m6 hr => ?_)
  refine ml_aload_n (pc := 21) dX4_see_21 rfl mm_get_0 ?_
  refine mb_gr (pc := 22) dX4_see_22 fl_X4_29 hr (fun c7 hr => ?_)
  refine mg_iconst (pc := 25) dX4_see_25 kc_2 ?_
  refine ml_aload_n (pc := 26) dX4_see_26 rfl mm_get_0 ?_
  refine mb_gi (pc := 27) dX4_see_27 fl_X4_106 hr (fun x8 hr => ?_)
  refine mb_si (pc := 30) dX4_see_30 hr (fun m9 hr => ?_)
  refine ml_aload_n (pc := 31) dX4_see_31 rfl mm_get_0 ?_
  refine mb_gr (pc := 32) dX4_see_32 fl_X4_29 hr (fun c10 hr => ?_)
  refine mg_iconst (pc := 35) dX4_see_35 kc_3 ?_
  refine ml_iload_n (pc := 36) dX4_see_36 rfl (mm_get_s mm_get_0) ?_
  refine mb_si (pc := 37) dX4_see_37 hr (fun m11 hr => ?_)
  refine ml_aload_n (pc := 38) dX4_see_38 rfl mm_get_0 ?_
  refine mb_gr (pc := 39) dX4_see_39 fl_X4_29 hr (fun c12 hr => ?_)
  refine mg_iconst (pc := 42) dX4_see_42 kc_4 ?_
  refine ml_aload_n (pc := 43) dX4_see_43 rfl mm_get_0 ?_
  refine ml_iload_n (pc := 44) dX4_see_44 rfl (mm_get_s mm_get_0) ?_
  refine mb_cVi (pc := 45) (As := [.int i1]) (rest := [.int (4 : Int32), .ref c12]) dX4_see_45 cw_X4_151 h0 hr (fun v hv => X4_lastOf_ok hz (by omega) h0 hv) rfl (Nat.le_of_ble_eq_true rfl) (Nat.zero_le _) (Nat.zero_le _) (fun r13 hr => ?_)
  refine mb_si (pc := 48) dX4_see_48 hr (fun m14 hr => ?_)
  refine ml_aload_n (pc := 49) dX4_see_49 rfl mm_get_0 ?_
  refine mb_gr (pc := 50) dX4_see_50 fl_X4_29 hr (fun c15 hr => ?_)
  refine mg_iconst (pc := 53) dX4_see_53 kc_5 ?_
  refine ml_iload_n (pc := 54) dX4_see_54 rfl (mm_get_s (mm_get_s (mm_get_s mm_get_0))) ?_
  refine mb_si (pc := 55) dX4_see_55 hr (fun m16 hr => ?_)
  exact mb_vret dX4_see_56 rfl hr
theorem dX10_hasRule_0 : decode cX10_hasRule 0 = .ok (.iload_n 1, 1) := by decide +kernel
theorem dX10_hasRule_1 : decode cX10_hasRule 1 = .ok (.ifCond .lt 28, 3) := by decide +kernel
theorem dX10_hasRule_4 : decode cX10_hasRule 4 = .ok (.iload_n 1, 1) := by decide +kernel
theorem dX10_hasRule_5 : decode cX10_hasRule 5 = .ok (.bipush 12, 2) := by decide +kernel
theorem dX10_hasRule_7 : decode cX10_hasRule 7 = .ok (.if_icmp .ge 22, 3) := by decide +kernel
theorem dX10_hasRule_10 : decode cX10_hasRule 10 = .ok (.aload_n 0, 1) := by decide +kernel
theorem dX10_hasRule_11 : decode cX10_hasRule 11 = .ok (.getfield 24, 3) := by decide +kernel
theorem dX10_hasRule_14 : decode cX10_hasRule 14 = .ok (.iload_n 1, 1) := by decide +kernel
theorem dX10_hasRule_15 : decode cX10_hasRule 15 = .ok (.iaload, 1) := by decide +kernel
theorem dX10_hasRule_16 : decode cX10_hasRule 16 = .ok (.aload_n 0, 1) := by decide +kernel
theorem dX10_hasRule_17 : decode cX10_hasRule 17 = .ok (.getfield 27, 3) := by decide +kernel
theorem dX10_hasRule_20 : decode cX10_hasRule 20 = .ok (.iload_n 1, 1) := by decide +kernel
theorem dX10_hasRule_21 : decode cX10_hasRule 21 = .ok (.iaload, 1) := by decide +kernel
theorem dX10_hasRule_22 : decode cX10_hasRule 22 = .ok (.if_icmp .ge 7, 3) := by decide +kernel
theorem dX10_hasRule_25 : decode cX10_hasRule 25 = .ok (.iconst 1, 1) := by decide +kernel
theorem dX10_hasRule_26 : decode cX10_hasRule 26 = .ok (.goto 4, 3) := by decide +kernel
theorem dX10_hasRule_29 : decode cX10_hasRule 29 = .ok (.iconst 0, 1) := by decide +kernel
theorem dX10_hasRule_30 : decode cX10_hasRule 30 = .ok (.ireturn, 1) := by decide +kernel
def X10_hasRule_b30 (e : mm_E) (t0 : Int32) (m : mm_V) : Option (Int32 × mm_V) := mm_rz t0 m
theorem X10_hasRule_b30_ok {K : mm_K} {nx : Option Nat} {e : mm_E} (hz : e.2.1 = K.2.2.2.2) {d : Nat} (hd : 0 ≤ d) {t0 : Int32} {a0 : Nat} (h0 : e.1 a0 = some (10, 11)) {m : mm_V} {r : (Int32 × mm_V)} (hr : X10_hasRule_b30 e t0 m = some r) : mm_G K MX10_hasRule d (mm_Fi e.1 nx r) 30 [none, none] [.int t0] (e.1, m) nx 0 0 := by
  unfold X10_hasRule_b30 at hr
  exact mb_zret dX10_hasRule_30 rfl hr
def X10_hasRule_b29 (e : mm_E) (m : mm_V) : Option (Int32 × mm_V) := X10_hasRule_b30 e  (0 : Int32) m
theorem X10_hasRule_b29_ok {K : mm_K} {nx : Option Nat} {e : mm_E} (hz : e.2.1 = K.2.2.2.2) {d : Nat} (hd : 0 ≤ d) {a0 : Nat} (h0 : e.1 a0 = some (10, 11)) {m : mm_V} {r : (Int32 × mm_V)} (hr : X10_hasRule_b29 e m = some r) : mm_G K MX10_hasRule d (mm_Fi e.1 nx r) 29 [none, none] [] (e.1, m) nx 0 0 := by
  unfold X10_hasRule_b29 at hr
  refine mg_iconst (pc := 29) dX10_hasRule_29 kc_0 ?_
  exact mg_weak (mm_le_n (mm_le_n mm_le_0)) (X10_hasRule_b30_ok hz hd h0 hr)
def X10_hasRule (e : mm_E) (a0 : Nat) (i1 : Int32) (m : mm_V) : Option (Int32 × mm_V) := if i1 < 0 then (X10_hasRule_b29 e   m) else (if (12 : Int32) ≤ i1 then (X10_hasRule_b29 e   m) else ((mm_gr e.1 m 10 11 a0 3).bind fun c1 => (mm_ai e.1 m 20 c1 i1).bind fun x2 => (mm_gr e.1 m 10 11 a0 4).bind fun c3 => (mm_ai e.1 m 20 c3 i1).bind fun x4 => if x4 ≤ x2 then (X10_hasRule_b29 e   m) else (X10_hasRule_b30 e  (1 : Int32) m)))
theorem X10_hasRule_ok {K : mm_K} {nx : Option Nat} {e : mm_E} (hz : e.2.1 = K.2.2.2.2) {d : Nat} (hd : 0 ≤ d) {a0 : Nat} {i1 : Int32} (h0 : e.1 a0 = some (10, 11)) {m : mm_V} {r : (Int32 × mm_V)} (hr : X10_hasRule e a0 i1 m = some r) : mm_Cn K MX10_hasRule d (mm_Fi e.1 nx r) [.ref a0, .int i1] (e.1, m) nx := by
  refine mm_entry (by decide) (Nat.le_of_ble_eq_true rfl) rfl (fun hok => ?_)
  unfold X10_hasRule at hr
  refine mg_weak (L' := [some (.ref a0), some (.int i1)]) (mm_le_s (mm_le_s mm_le_0)) ?_
  refine ml_iload_n (pc := 0) dX10_hasRule_0 rfl (mm_get_s mm_get_0) ?_
  refine mb_if_lt (pc := 1) 29 dX10_hasRule_1 rfl hr (fun hr => ?_) (fun hr => ?_)
  · exact mg_weak (mm_le_n (mm_le_n mm_le_0)) (X10_hasRule_b29_ok hz hd h0 hr)
  · refine ml_iload_n (pc := 4) dX10_hasRule_4 rfl (mm_get_s mm_get_0) ?_
    refine mg_bipush (pc := 5) dX10_hasRule_5 kb_12 ?_
    refine mb_icmp_ge (pc := 7) 29 dX10_hasRule_7 rfl hr (fun hr => ?_) (fun hr => ?_)
    · exact mg_weak (mm_le_n (mm_le_n mm_le_0)) (X10_hasRule_b29_ok hz hd h0 hr)
    · refine ml_aload_n (pc := 10) dX10_hasRule_10 rfl mm_get_0 ?_
      refine mb_gr (pc := 11) dX10_hasRule_11 fl_X10_24 hr (fun c1 hr => ?_)
      refine ml_iload_n (pc := 14) dX10_hasRule_14 rfl (mm_get_s mm_get_0) ?_
      refine mb_ai (pc := 15) dX10_hasRule_15 hr (fun x2 hr => ?_)
      refine ml_aload_n (pc := 16) dX10_hasRule_16 rfl mm_get_0 ?_
      refine mb_gr (pc := 17) dX10_hasRule_17 fl_X10_27 hr (fun c3 hr => ?_)
      refine ml_iload_n (pc := 20) dX10_hasRule_20 rfl (mm_get_s mm_get_0) ?_
      refine mb_ai (pc := 21) dX10_hasRule_21 hr (fun x4 hr => ?_)
      refine mb_icmp_ge (pc := 22) 29 dX10_hasRule_22 rfl hr (fun hr => ?_) (fun hr => ?_)
      · exact mg_weak (mm_le_n (mm_le_n mm_le_0)) (X10_hasRule_b29_ok hz hd h0 hr)
      · refine mg_iconst (pc := 25) dX10_hasRule_25 kc_1 ?_
        refine mg_goto (pc := 26) 30 dX10_hasRule_26 rfl ?_
        exact mg_weak (mm_le_n (mm_le_n mm_le_0)) (X10_hasRule_b30_ok hz hd h0 hr)
theorem dX10_seenAs_0 : decode cX10_seenAs 0 = .ok (.iconst (-1), 1) := by decide +kernel
theorem dX10_seenAs_1 : decode cX10_seenAs 1 = .ok (.iload_n 0, 1) := by decide +kernel
theorem dX10_seenAs_2 : decode cX10_seenAs 2 = .ok (.isub, 1) := by decide +kernel
theorem dX10_seenAs_3 : decode cX10_seenAs 3 = .ok (.istore_n 2, 1) := by decide +kernel
theorem dX10_seenAs_4 : decode cX10_seenAs 4 = .ok (.iload_n 2, 1) := by decide +kernel
theorem dX10_seenAs_5 : decode cX10_seenAs 5 = .ok (.ifCond .lt 15, 3) := by decide +kernel
theorem dX10_seenAs_8 : decode cX10_seenAs 8 = .ok (.iload_n 2, 1) := by decide +kernel
theorem dX10_seenAs_9 : decode cX10_seenAs 9 = .ok (.aload_n 1, 1) := by decide +kernel
theorem dX10_seenAs_10 : decode cX10_seenAs 10 = .ok (.arraylength, 1) := by decide +kernel
theorem dX10_seenAs_11 : decode cX10_seenAs 11 = .ok (.if_icmp .ge 9, 3) := by decide +kernel
theorem dX10_seenAs_14 : decode cX10_seenAs 14 = .ok (.aload_n 1, 1) := by decide +kernel
theorem dX10_seenAs_15 : decode cX10_seenAs 15 = .ok (.iload_n 2, 1) := by decide +kernel
theorem dX10_seenAs_16 : decode cX10_seenAs 16 = .ok (.iaload, 1) := by decide +kernel
theorem dX10_seenAs_17 : decode cX10_seenAs 17 = .ok (.goto 4, 3) := by decide +kernel
theorem dX10_seenAs_20 : decode cX10_seenAs 20 = .ok (.iconst 0, 1) := by decide +kernel
theorem dX10_seenAs_21 : decode cX10_seenAs 21 = .ok (.ireturn, 1) := by decide +kernel
def X10_seenAs_b21 (e : mm_E) (t0 : Int32) (m : mm_V) : Option (Int32 × mm_V) := some (t0, m)
theorem X10_seenAs_b21_ok {K : mm_K} {nx : Option Nat} {e : mm_E} (hz : e.2.1 = K.2.2.2.2) {d : Nat} (hd : 0 ≤ d) {t0 : Int32} {m : mm_V} {r : (Int32 × mm_V)} (hr : X10_seenAs_b21 e t0 m = some r) : mm_G K MX10_seenAs d (mm_Fi e.1 nx r) 21 [none, none, none] [.int t0] (e.1, m) nx 0 0 := by
  unfold X10_seenAs_b21 at hr
  exact mb_iret dX10_seenAs_21 rfl hr
def X10_seenAs_b20 (e : mm_E) (m : mm_V) : Option (Int32 × mm_V) := X10_seenAs_b21 e  (0 : Int32) m
theorem X10_seenAs_b20_ok {K : mm_K} {nx : Option Nat} {e : mm_E} (hz : e.2.1 = K.2.2.2.2) {d : Nat} (hd : 0 ≤ d) {m : mm_V} {r : (Int32 × mm_V)} (hr : X10_seenAs_b20 e m = some r) : mm_G K MX10_seenAs d (mm_Fi e.1 nx r) 20 [none, none, none] [] (e.1, m) nx 0 0 := by
  unfold X10_seenAs_b20 at hr
  refine mg_iconst (pc := 20) dX10_seenAs_20 kc_0 ?_
  exact mg_weak (mm_le_n (mm_le_n (mm_le_n mm_le_0))) (X10_seenAs_b21_ok hz hd hr)
def X10_seenAs (e : mm_E) (i0 : Int32) (a1 : Nat) (m : mm_V) : Option (Int32 × mm_V) := if ((-1 : Int32) - i0) < 0 then (X10_seenAs_b20 e   m) else ((mm_ln e.1 a1).bind fun x1 => if x1 ≤ ((-1 : Int32) - i0) then (X10_seenAs_b20 e   m) else ((mm_ai e.1 m 20 a1 ((-1 : Int32) - i0)).bind fun x2 => X10_seenAs_b21 e  x2 m))
theorem X10_seenAs_ok {K : mm_K} {nx : Option Nat} {e : mm_E} (hz : e.2.1 = K.2.2.2.2) {d : Nat} (hd : 0 ≤ d) {i0 : Int32} {a1 : Nat} {m : mm_V} {r : (Int32 × mm_V)} (hr : X10_seenAs e i0 a1 m = some r) : mm_Cn K MX10_seenAs d (mm_Fi e.1 nx r) [.int i0, .ref a1] (e.1, m) nx := by
  refine mm_entry (by decide) (Nat.le_of_ble_eq_true rfl) rfl (fun hok => ?_)
  unfold X10_seenAs at hr
  refine mg_weak (L' := [some (.int i0), some (.ref a1), none]) (mm_le_s (mm_le_s (mm_le_e mm_le_0))) ?_
  refine mg_iconst (pc := 0) dX10_seenAs_0 kc_m1 ?_
  refine ml_iload_n (pc := 1) dX10_seenAs_1 rfl mm_get_0 ?_
  refine mg_isub (pc := 2) dX10_seenAs_2 ?_
  refine ml_istore_n (pc := 3) dX10_seenAs_3 rfl (Nat.le_of_ble_eq_true rfl) (mm_st1_s mm_st1_r) ?_
  refine ml_iload_n (pc := 4) dX10_seenAs_4 rfl (mm_get_s (mm_get_s mm_get_0)) ?_
  refine mb_if_lt (pc := 5) 20 dX10_seenAs_5 rfl hr (fun hr => ?_) (fun hr => ?_)
  · exact mg_weak (mm_le_n (mm_le_n (mm_le_n mm_le_0))) (X10_seenAs_b20_ok hz hd hr)
  · refine ml_iload_n (pc := 8) dX10_seenAs_8 rfl (mm_get_s (mm_get_s mm_get_0)) ?_
    refine ml_aload_n (pc := 9) dX10_seenAs_9 rfl (mm_get_s mm_get_0) ?_
    refine mb_ln (pc := 10) dX10_seenAs_10 hr (fun x1 hr => ?_)
    refine mb_icmp_ge (pc := 11) 20 dX10_seenAs_11 rfl hr (fun hr => ?_) (fun hr => ?_)
    · exact mg_weak (mm_le_n (mm_le_n (mm_le_n mm_le_0))) (X10_seenAs_b20_ok hz hd hr)
    · refine ml_aload_n (pc := 14) dX10_seenAs_14 rfl (mm_get_s mm_get_0) ?_
      refine ml_iload_n (pc := 15) dX10_seenAs_15 rfl (mm_get_s (mm_get_s mm_get_0)) ?_
      refine mb_ai (pc := 16) dX10_seenAs_16 hr (fun x2 hr => ?_)
      refine mg_goto (pc := 17) 21 dX10_seenAs_17 rfl ?_
      exact mg_weak (mm_le_n (mm_le_n (mm_le_n mm_le_0))) (X10_seenAs_b21_ok hz hd hr)
theorem dX10_done_0 : decode cX10_done 0 = .ok (.iload_n 0, 1) := by decide +kernel
theorem dX10_done_1 : decode cX10_done 1 = .ok (.tableswitch 109 (-18) (-11) #[105, 101, 97, 86, 75, 109, 61, 47], 47) := by decide +kernel
theorem dX10_done_48 : decode cX10_done 48 = .ok (.iload_n 1, 1) := by decide +kernel
theorem dX10_done_49 : decode cX10_done 49 = .ok (.ifCond .ne 7, 3) := by decide +kernel
theorem dX10_done_52 : decode cX10_done 52 = .ok (.iload_n 2, 1) := by decide +kernel
theorem dX10_done_53 : decode cX10_done 53 = .ok (.ifCond .eq 7, 3) := by decide +kernel
theorem dX10_done_56 : decode cX10_done 56 = .ok (.iconst 1, 1) := by decide +kernel
theorem dX10_done_57 : decode cX10_done 57 = .ok (.goto 4, 3) := by decide +kernel
theorem dX10_done_60 : decode cX10_done 60 = .ok (.iconst 0, 1) := by decide +kernel
theorem dX10_done_61 : decode cX10_done 61 = .ok (.ireturn, 1) := by decide +kernel
theorem dX10_done_62 : decode cX10_done 62 = .ok (.iload_n 1, 1) := by decide +kernel
theorem dX10_done_63 : decode cX10_done 63 = .ok (.ifCond .eq 11, 3) := by decide +kernel
theorem dX10_done_66 : decode cX10_done 66 = .ok (.iload_n 2, 1) := by decide +kernel
theorem dX10_done_67 : decode cX10_done 67 = .ok (.ifCond .eq 7, 3) := by decide +kernel
theorem dX10_done_70 : decode cX10_done 70 = .ok (.iconst 1, 1) := by decide +kernel
theorem dX10_done_71 : decode cX10_done 71 = .ok (.goto 4, 3) := by decide +kernel
theorem dX10_done_74 : decode cX10_done 74 = .ok (.iconst 0, 1) := by decide +kernel
theorem dX10_done_75 : decode cX10_done 75 = .ok (.ireturn, 1) := by decide +kernel
theorem dX10_done_76 : decode cX10_done 76 = .ok (.iload_n 1, 1) := by decide +kernel
theorem dX10_done_77 : decode cX10_done 77 = .ok (.iload_n 2, 1) := by decide +kernel
theorem dX10_done_78 : decode cX10_done 78 = .ok (.if_icmp .ge 7, 3) := by decide +kernel
theorem dX10_done_81 : decode cX10_done 81 = .ok (.iconst 1, 1) := by decide +kernel
theorem dX10_done_82 : decode cX10_done 82 = .ok (.goto 4, 3) := by decide +kernel
theorem dX10_done_85 : decode cX10_done 85 = .ok (.iconst 0, 1) := by decide +kernel
theorem dX10_done_86 : decode cX10_done 86 = .ok (.ireturn, 1) := by decide +kernel
theorem dX10_done_87 : decode cX10_done 87 = .ok (.iload_n 1, 1) := by decide +kernel
theorem dX10_done_88 : decode cX10_done 88 = .ok (.iload_n 2, 1) := by decide +kernel
theorem dX10_done_89 : decode cX10_done 89 = .ok (.if_icmp .ne 7, 3) := by decide +kernel
theorem dX10_done_92 : decode cX10_done 92 = .ok (.iconst 1, 1) := by decide +kernel
theorem dX10_done_93 : decode cX10_done 93 = .ok (.goto 4, 3) := by decide +kernel
theorem dX10_done_96 : decode cX10_done 96 = .ok (.iconst 0, 1) := by decide +kernel
theorem dX10_done_97 : decode cX10_done 97 = .ok (.ireturn, 1) := by decide +kernel
theorem dX10_done_98 : decode cX10_done 98 = .ok (.iload_n 1, 1) := by decide +kernel
theorem dX10_done_99 : decode cX10_done 99 = .ok (.iload_n 2, 1) := by decide +kernel
theorem dX10_done_100 : decode cX10_done 100 = .ok (.iadd, 1) := by decide +kernel
theorem dX10_done_101 : decode cX10_done 101 = .ok (.ireturn, 1) := by decide +kernel
theorem dX10_done_102 : decode cX10_done 102 = .ok (.iload_n 1, 1) := by decide +kernel
theorem dX10_done_103 : decode cX10_done 103 = .ok (.iload_n 2, 1) := by decide +kernel
theorem dX10_done_104 : decode cX10_done 104 = .ok (.isub, 1) := by decide +kernel
theorem dX10_done_105 : decode cX10_done 105 = .ok (.ireturn, 1) := by decide +kernel
theorem dX10_done_106 : decode cX10_done 106 = .ok (.iload_n 1, 1) := by decide +kernel
theorem dX10_done_107 : decode cX10_done 107 = .ok (.iload_n 2, 1) := by decide +kernel
theorem dX10_done_108 : decode cX10_done 108 = .ok (.imul, 1) := by decide +kernel
theorem dX10_done_109 : decode cX10_done 109 = .ok (.ireturn, 1) := by decide +kernel
theorem dX10_done_110 : decode cX10_done 110 = .ok (.iload_n 2, 1) := by decide +kernel
theorem dX10_done_111 : decode cX10_done 111 = .ok (.ifCond .ne 7, 3) := by decide +kernel
theorem dX10_done_114 : decode cX10_done 114 = .ok (.iconst 0, 1) := by decide +kernel
theorem dX10_done_115 : decode cX10_done 115 = .ok (.goto 6, 3) := by decide +kernel
theorem dX10_done_118 : decode cX10_done 118 = .ok (.iload_n 1, 1) := by decide +kernel
theorem dX10_done_119 : decode cX10_done 119 = .ok (.iload_n 2, 1) := by decide +kernel
theorem dX10_done_120 : decode cX10_done 120 = .ok (.idiv, 1) := by decide +kernel
theorem dX10_done_121 : decode cX10_done 121 = .ok (.ireturn, 1) := by decide +kernel
def X10_done_b121 (e : mm_E) (t0 : Int32) (m : mm_V) : Option (Int32 × mm_V) := some (t0, m)
theorem X10_done_b121_ok {K : mm_K} {nx : Option Nat} {e : mm_E} (hz : e.2.1 = K.2.2.2.2) {d : Nat} (hd : 0 ≤ d) {t0 : Int32} {m : mm_V} {r : (Int32 × mm_V)} (hr : X10_done_b121 e t0 m = some r) : mm_G K MX10_done d (mm_Fi e.1 nx r) 121 [none, none, none] [.int t0] (e.1, m) nx 0 0 := by
  unfold X10_done_b121 at hr
  exact mb_iret dX10_done_121 rfl hr
def X10_done_b97 (e : mm_E) (t0 : Int32) (m : mm_V) : Option (Int32 × mm_V) := some (t0, m)
theorem X10_done_b97_ok {K : mm_K} {nx : Option Nat} {e : mm_E} (hz : e.2.1 = K.2.2.2.2) {d : Nat} (hd : 0 ≤ d) {t0 : Int32} {m : mm_V} {r : (Int32 × mm_V)} (hr : X10_done_b97 e t0 m = some r) : mm_G K MX10_done d (mm_Fi e.1 nx r) 97 [none, none, none] [.int t0] (e.1, m) nx 0 0 := by
  unfold X10_done_b97 at hr
  exact mb_iret dX10_done_97 rfl hr
def X10_done_b86 (e : mm_E) (t0 : Int32) (m : mm_V) : Option (Int32 × mm_V) := some (t0, m)
theorem X10_done_b86_ok {K : mm_K} {nx : Option Nat} {e : mm_E} (hz : e.2.1 = K.2.2.2.2) {d : Nat} (hd : 0 ≤ d) {t0 : Int32} {m : mm_V} {r : (Int32 × mm_V)} (hr : X10_done_b86 e t0 m = some r) : mm_G K MX10_done d (mm_Fi e.1 nx r) 86 [none, none, none] [.int t0] (e.1, m) nx 0 0 := by
  unfold X10_done_b86 at hr
  exact mb_iret dX10_done_86 rfl hr
def X10_done_b75 (e : mm_E) (t0 : Int32) (m : mm_V) : Option (Int32 × mm_V) := some (t0, m)
theorem X10_done_b75_ok {K : mm_K} {nx : Option Nat} {e : mm_E} (hz : e.2.1 = K.2.2.2.2) {d : Nat} (hd : 0 ≤ d) {t0 : Int32} {m : mm_V} {r : (Int32 × mm_V)} (hr : X10_done_b75 e t0 m = some r) : mm_G K MX10_done d (mm_Fi e.1 nx r) 75 [none, none, none] [.int t0] (e.1, m) nx 0 0 := by
  unfold X10_done_b75 at hr
  exact mb_iret dX10_done_75 rfl hr
def X10_done_b74 (e : mm_E) (m : mm_V) : Option (Int32 × mm_V) := X10_done_b75 e  (0 : Int32) m
theorem X10_done_b74_ok {K : mm_K} {nx : Option Nat} {e : mm_E} (hz : e.2.1 = K.2.2.2.2) {d : Nat} (hd : 0 ≤ d) {m : mm_V} {r : (Int32 × mm_V)} (hr : X10_done_b74 e m = some r) : mm_G K MX10_done d (mm_Fi e.1 nx r) 74 [none, none, none] [] (e.1, m) nx 0 0 := by
  unfold X10_done_b74 at hr
  refine mg_iconst (pc := 74) dX10_done_74 kc_0 ?_
  exact mg_weak (mm_le_n (mm_le_n (mm_le_n mm_le_0))) (X10_done_b75_ok hz hd hr)
def X10_done_b61 (e : mm_E) (t0 : Int32) (m : mm_V) : Option (Int32 × mm_V) := some (t0, m)
theorem X10_done_b61_ok {K : mm_K} {nx : Option Nat} {e : mm_E} (hz : e.2.1 = K.2.2.2.2) {d : Nat} (hd : 0 ≤ d) {t0 : Int32} {m : mm_V} {r : (Int32 × mm_V)} (hr : X10_done_b61 e t0 m = some r) : mm_G K MX10_done d (mm_Fi e.1 nx r) 61 [none, none, none] [.int t0] (e.1, m) nx 0 0 := by
  unfold X10_done_b61 at hr
  exact mb_iret dX10_done_61 rfl hr
def X10_done_b56 (e : mm_E) (m : mm_V) : Option (Int32 × mm_V) := X10_done_b61 e  (1 : Int32) m
theorem X10_done_b56_ok {K : mm_K} {nx : Option Nat} {e : mm_E} (hz : e.2.1 = K.2.2.2.2) {d : Nat} (hd : 0 ≤ d) {m : mm_V} {r : (Int32 × mm_V)} (hr : X10_done_b56 e m = some r) : mm_G K MX10_done d (mm_Fi e.1 nx r) 56 [none, none, none] [] (e.1, m) nx 0 0 := by
  unfold X10_done_b56 at hr
  refine mg_iconst (pc := 56) dX10_done_56 kc_1 ?_
  refine mg_goto (pc := 57) 61 dX10_done_57 rfl ?_
  exact mg_weak (mm_le_n (mm_le_n (mm_le_n mm_le_0))) (X10_done_b61_ok hz hd hr)
def X10_done (e : mm_E) (i0 : Int32) (i1 : Int32) (i2 : Int32) (m : mm_V) : Option (Int32 × mm_V) := if i0 = (-18 : Int32) then (some ((i1 * i2), m)) else (if i0 = (-17 : Int32) then (some ((i1 - i2), m)) else (if i0 = (-16 : Int32) then (some ((i1 + i2), m)) else (if i0 = (-15 : Int32) then (if ¬ i1 = i2 then (X10_done_b97 e  (0 : Int32) m) else (X10_done_b97 e  (1 : Int32) m)) else (if i0 = (-14 : Int32) then (if i2 ≤ i1 then (X10_done_b86 e  (0 : Int32) m) else (X10_done_b86 e  (1 : Int32) m)) else (if i0 = (-12 : Int32) then (if i1 = 0 then (X10_done_b74 e   m) else (if i2 = 0 then (X10_done_b74 e   m) else (X10_done_b75 e  (1 : Int32) m))) else (if i0 = (-11 : Int32) then (if ¬ i1 = 0 then (X10_done_b56 e   m) else (if i2 = 0 then (X10_done_b61 e  (0 : Int32) m) else (X10_done_b56 e   m))) else (if ¬ i2 = 0 then (if i2 = 0 then none else X10_done_b121 e  (i1 / i2) m) else (X10_done_b121 e  (0 : Int32) m))))))))
theorem X10_done_ok {K : mm_K} {nx : Option Nat} {e : mm_E} (hz : e.2.1 = K.2.2.2.2) {d : Nat} (hd : 0 ≤ d) {i0 : Int32} {i1 : Int32} {i2 : Int32} {m : mm_V} {r : (Int32 × mm_V)} (hr : X10_done e i0 i1 i2 m = some r) : mm_Cn K MX10_done d (mm_Fi e.1 nx r) [.int i0, .int i1, .int i2] (e.1, m) nx := by
  refine mm_entry (by decide) (Nat.le_of_ble_eq_true rfl) rfl (fun hok => ?_)
  unfold X10_done at hr
  refine mg_weak (L' := [some (.int i0), some (.int i1), some (.int i2)]) (mm_le_s (mm_le_s (mm_le_s mm_le_0))) ?_
  refine ml_iload_n (pc := 0) dX10_done_0 rfl mm_get_0 ?_
  refine mb_ite hr (fun hc hr => ?_) (fun hc1 hr => ?_)
  · refine mg_tableK (pc := 1) (105) 106 dX10_done_1 hc (by decide +kernel) rfl ?_
    refine ml_iload_n (pc := 106) dX10_done_106 rfl (mm_get_s mm_get_0) ?_
    refine ml_iload_n (pc := 107) dX10_done_107 rfl (mm_get_s (mm_get_s mm_get_0)) ?_
    refine mg_imul (pc := 108) dX10_done_108 ?_
    exact mb_iret dX10_done_109 rfl hr
  refine mb_ite hr (fun hc hr => ?_) (fun hc2 hr => ?_)
  · refine mg_tableK (pc := 1) (101) 102 dX10_done_1 hc (by decide +kernel) rfl ?_
    refine ml_iload_n (pc := 102) dX10_done_102 rfl (mm_get_s mm_get_0) ?_
    refine ml_iload_n (pc := 103) dX10_done_103 rfl (mm_get_s (mm_get_s mm_get_0)) ?_
    refine mg_isub (pc := 104) dX10_done_104 ?_
    exact mb_iret dX10_done_105 rfl hr
  refine mb_ite hr (fun hc hr => ?_) (fun hc3 hr => ?_)
  · refine mg_tableK (pc := 1) (97) 98 dX10_done_1 hc (by decide +kernel) rfl ?_
    refine ml_iload_n (pc := 98) dX10_done_98 rfl (mm_get_s mm_get_0) ?_
    refine ml_iload_n (pc := 99) dX10_done_99 rfl (mm_get_s (mm_get_s mm_get_0)) ?_
    refine mg_iadd (pc := 100) dX10_done_100 ?_
    exact mb_iret dX10_done_101 rfl hr
  refine mb_ite hr (fun hc hr => ?_) (fun hc4 hr => ?_)
  · refine mg_tableK (pc := 1) (86) 87 dX10_done_1 hc (by decide +kernel) rfl ?_
    refine ml_iload_n (pc := 87) dX10_done_87 rfl (mm_get_s mm_get_0) ?_
    refine ml_iload_n (pc := 88) dX10_done_88 rfl (mm_get_s (mm_get_s mm_get_0)) ?_
    refine mb_icmp_ne (pc := 89) 96 dX10_done_89 rfl hr (fun hr => ?_) (fun hr => ?_)
    · refine mg_iconst (pc := 96) dX10_done_96 kc_0 ?_
      exact mg_weak (mm_le_n (mm_le_n (mm_le_n mm_le_0))) (X10_done_b97_ok hz hd hr)
    · refine mg_iconst (pc := 92) dX10_done_92 kc_1 ?_
      refine mg_goto (pc := 93) 97 dX10_done_93 rfl ?_
      exact mg_weak (mm_le_n (mm_le_n (mm_le_n mm_le_0))) (X10_done_b97_ok hz hd hr)
  refine mb_ite hr (fun hc hr => ?_) (fun hc5 hr => ?_)
  · refine mg_tableK (pc := 1) (75) 76 dX10_done_1 hc (by decide +kernel) rfl ?_
    refine ml_iload_n (pc := 76) dX10_done_76 rfl (mm_get_s mm_get_0) ?_
    refine ml_iload_n (pc := 77) dX10_done_77 rfl (mm_get_s (mm_get_s mm_get_0)) ?_
    refine mb_icmp_ge (pc := 78) 85 dX10_done_78 rfl hr (fun hr => ?_) (fun hr => ?_)
    · refine mg_iconst (pc := 85) dX10_done_85 kc_0 ?_
      exact mg_weak (mm_le_n (mm_le_n (mm_le_n mm_le_0))) (X10_done_b86_ok hz hd hr)
    · refine mg_iconst (pc := 81) dX10_done_81 kc_1 ?_
      refine mg_goto (pc := 82) 86 dX10_done_82 rfl ?_
      exact mg_weak (mm_le_n (mm_le_n (mm_le_n mm_le_0))) (X10_done_b86_ok hz hd hr)
  refine mb_ite hr (fun hc hr => ?_) (fun hc6 hr => ?_)
  · refine mg_tableK (pc := 1) (61) 62 dX10_done_1 hc (by decide +kernel) rfl ?_
    refine ml_iload_n (pc := 62) dX10_done_62 rfl (mm_get_s mm_get_0) ?_
    refine mb_if_eq (pc := 63) 74 dX10_done_63 rfl hr (fun hr => ?_) (fun hr => ?_)
    · exact mg_weak (mm_le_n (mm_le_n (mm_le_n mm_le_0))) (X10_done_b74_ok hz hd hr)
    · refine ml_iload_n (pc := 66) dX10_done_66 rfl (mm_get_s (mm_get_s mm_get_0)) ?_
      refine mb_if_eq (pc := 67) 74 dX10_done_67 rfl hr (fun hr => ?_) (fun hr => ?_)
      · exact mg_weak (mm_le_n (mm_le_n (mm_le_n mm_le_0))) (X10_done_b74_ok hz hd hr)
      · refine mg_iconst (pc := 70) dX10_done_70 kc_1 ?_
        refine mg_goto (pc := 71) 75 dX10_done_71 rfl ?_
        exact mg_weak (mm_le_n (mm_le_n (mm_le_n mm_le_0))) (X10_done_b75_ok hz hd hr)
  refine mb_ite hr (fun hc hr => ?_) (fun hc7 hr => ?_)
  · refine mg_tableK (pc := 1) (47) 48 dX10_done_1 hc (by decide +kernel) rfl ?_
    refine ml_iload_n (pc := 48) dX10_done_48 rfl (mm_get_s mm_get_0) ?_
    refine mb_if_ne (pc := 49) 56 dX10_done_49 rfl hr (fun hr => ?_) (fun hr => ?_)
    · exact mg_weak (mm_le_n (mm_le_n (mm_le_n mm_le_0))) (X10_done_b56_ok hz hd hr)
    · refine ml_iload_n (pc := 52) dX10_done_52 rfl (mm_get_s (mm_get_s mm_get_0)) ?_
      refine mb_if_eq (pc := 53) 60 dX10_done_53 rfl hr (fun hr => ?_) (fun hr => ?_)
      · refine mg_iconst (pc := 60) dX10_done_60 kc_0 ?_
        exact mg_weak (mm_le_n (mm_le_n (mm_le_n mm_le_0))) (X10_done_b61_ok hz hd hr)
      · exact mg_weak (mm_le_n (mm_le_n (mm_le_n mm_le_0))) (X10_done_b56_ok hz hd hr)
  refine mg_tableD (pc := 1) 110 dX10_done_1 ((mm_nin_c hc1 (mm_nin_c hc2 (mm_nin_c hc3 (mm_nin_c hc4 (mm_nin_c hc5 (mm_nin_c hc6 (mm_nin_c hc7 mm_nin_0))))))) : ∀ y ∈ [(-18 : Int32), (-17 : Int32), (-16 : Int32), (-15 : Int32), (-14 : Int32), (-12 : Int32), (-11 : Int32)], ¬ i0 = y) (by decide +kernel) rfl ?_
  refine ml_iload_n (pc := 110) dX10_done_110 rfl (mm_get_s (mm_get_s mm_get_0)) ?_
  refine mb_if_ne (pc := 111) 118 dX10_done_111 rfl hr (fun hr => ?_) (fun hr => ?_)
  · refine ml_iload_n (pc := 118) dX10_done_118 rfl (mm_get_s mm_get_0) ?_
    refine ml_iload_n (pc := 119) dX10_done_119 rfl (mm_get_s (mm_get_s mm_get_0)) ?_
    refine mb_idiv (pc := 120) dX10_done_120 hr (fun hr => ?_)
    exact mg_weak (mm_le_n (mm_le_n (mm_le_n mm_le_0))) (X10_done_b121_ok hz hd hr)
  · refine mg_iconst (pc := 114) dX10_done_114 kc_0 ?_
    refine mg_goto (pc := 115) 121 dX10_done_115 rfl ?_
    exact mg_weak (mm_le_n (mm_le_n (mm_le_n mm_le_0))) (X10_done_b121_ok hz hd hr)
theorem dX10_answer_0 : decode cX10_answer 0 = .ok (.iload_n 1, 1) := by decide +kernel
theorem dX10_answer_1 : decode cX10_answer 1 = .ok (.ifCond .lt 18, 3) := by decide +kernel
theorem dX10_answer_4 : decode cX10_answer 4 = .ok (.iload_n 1, 1) := by decide +kernel
theorem dX10_answer_5 : decode cX10_answer 5 = .ok (.bipush 12, 2) := by decide +kernel
theorem dX10_answer_7 : decode cX10_answer 7 = .ok (.if_icmp .ge 12, 3) := by decide +kernel
theorem dX10_answer_10 : decode cX10_answer 10 = .ok (.aload_n 0, 1) := by decide +kernel
theorem dX10_answer_11 : decode cX10_answer 11 = .ok (.getfield 24, 3) := by decide +kernel
theorem dX10_answer_14 : decode cX10_answer 14 = .ok (.iload_n 1, 1) := by decide +kernel
theorem dX10_answer_15 : decode cX10_answer 15 = .ok (.iaload, 1) := by decide +kernel
theorem dX10_answer_16 : decode cX10_answer 16 = .ok (.goto 4, 3) := by decide +kernel
theorem dX10_answer_19 : decode cX10_answer 19 = .ok (.iconst 0, 1) := by decide +kernel
theorem dX10_answer_20 : decode cX10_answer 20 = .ok (.istore_n 3, 1) := by decide +kernel
theorem dX10_answer_21 : decode cX10_answer 21 = .ok (.iload_n 1, 1) := by decide +kernel
theorem dX10_answer_22 : decode cX10_answer 22 = .ok (.ifCond .lt 18, 3) := by decide +kernel
theorem dX10_answer_25 : decode cX10_answer 25 = .ok (.iload_n 1, 1) := by decide +kernel
theorem dX10_answer_26 : decode cX10_answer 26 = .ok (.bipush 12, 2) := by decide +kernel
theorem dX10_answer_28 : decode cX10_answer 28 = .ok (.if_icmp .ge 12, 3) := by decide +kernel
theorem dX10_answer_31 : decode cX10_answer 31 = .ok (.aload_n 0, 1) := by decide +kernel
theorem dX10_answer_32 : decode cX10_answer 32 = .ok (.getfield 27, 3) := by decide +kernel
theorem dX10_answer_35 : decode cX10_answer 35 = .ok (.iload_n 1, 1) := by decide +kernel
theorem dX10_answer_36 : decode cX10_answer 36 = .ok (.iaload, 1) := by decide +kernel
theorem dX10_answer_37 : decode cX10_answer 37 = .ok (.goto 4, 3) := by decide +kernel
theorem dX10_answer_40 : decode cX10_answer 40 = .ok (.iconst 0, 1) := by decide +kernel
theorem dX10_answer_41 : decode cX10_answer 41 = .ok (.istore 4, 2) := by decide +kernel
theorem dX10_answer_43 : decode cX10_answer 43 = .ok (.iconst 0, 1) := by decide +kernel
theorem dX10_answer_44 : decode cX10_answer 44 = .ok (.istore 5, 2) := by decide +kernel
theorem dX10_answer_46 : decode cX10_answer 46 = .ok (.iload_n 3, 1) := by decide +kernel
theorem dX10_answer_47 : decode cX10_answer 47 = .ok (.istore 6, 2) := by decide +kernel
theorem dX10_answer_49 : decode cX10_answer 49 = .ok (.iload 6, 2) := by decide +kernel
theorem dX10_answer_51 : decode cX10_answer 51 = .ok (.ifCond .lt 164, 3) := by decide +kernel
theorem dX10_answer_54 : decode cX10_answer 54 = .ok (.iload 6, 2) := by decide +kernel
theorem dX10_answer_56 : decode cX10_answer 56 = .ok (.iload 4, 2) := by decide +kernel
theorem dX10_answer_58 : decode cX10_answer 58 = .ok (.if_icmp .ge 157, 3) := by decide +kernel
theorem dX10_answer_61 : decode cX10_answer 61 = .ok (.iload 6, 2) := by decide +kernel
theorem dX10_answer_63 : decode cX10_answer 63 = .ok (.aload_n 0, 1) := by decide +kernel
theorem dX10_answer_64 : decode cX10_answer 64 = .ok (.getfield 21, 3) := by decide +kernel
theorem dX10_answer_67 : decode cX10_answer 67 = .ok (.arraylength, 1) := by decide +kernel
theorem dX10_answer_68 : decode cX10_answer 68 = .ok (.if_icmp .ge 147, 3) := by decide +kernel
theorem dX10_answer_71 : decode cX10_answer 71 = .ok (.aload_n 0, 1) := by decide +kernel
theorem dX10_answer_72 : decode cX10_answer 72 = .ok (.getfield 21, 3) := by decide +kernel
theorem dX10_answer_75 : decode cX10_answer 75 = .ok (.iload 6, 2) := by decide +kernel
theorem dX10_answer_77 : decode cX10_answer 77 = .ok (.iaload, 1) := by decide +kernel
theorem dX10_answer_78 : decode cX10_answer 78 = .ok (.istore 7, 2) := by decide +kernel
theorem dX10_answer_80 : decode cX10_answer 80 = .ok (.iload 7, 2) := by decide +kernel
theorem dX10_answer_82 : decode cX10_answer 82 = .ok (.bipush (-6), 2) := by decide +kernel
theorem dX10_answer_84 : decode cX10_answer 84 = .ok (.if_icmp .lt 42, 3) := by decide +kernel
theorem dX10_answer_87 : decode cX10_answer 87 = .ok (.iload 5, 2) := by decide +kernel
theorem dX10_answer_89 : decode cX10_answer 89 = .ok (.aload_n 0, 1) := by decide +kernel
theorem dX10_answer_90 : decode cX10_answer 90 = .ok (.getfield 30, 3) := by decide +kernel
theorem dX10_answer_93 : decode cX10_answer 93 = .ok (.arraylength, 1) := by decide +kernel
theorem dX10_answer_94 : decode cX10_answer 94 = .ok (.if_icmp .ge 115, 3) := by decide +kernel
theorem dX10_answer_97 : decode cX10_answer 97 = .ok (.aload_n 0, 1) := by decide +kernel
theorem dX10_answer_98 : decode cX10_answer 98 = .ok (.getfield 30, 3) := by decide +kernel
theorem dX10_answer_101 : decode cX10_answer 101 = .ok (.iload 5, 2) := by decide +kernel
theorem dX10_answer_103 : decode cX10_answer 103 = .ok (.iload 7, 2) := by decide +kernel
theorem dX10_answer_105 : decode cX10_answer 105 = .ok (.ifCond .lt 8, 3) := by decide +kernel
theorem dX10_answer_108 : decode cX10_answer 108 = .ok (.iload 7, 2) := by decide +kernel
theorem dX10_answer_110 : decode cX10_answer 110 = .ok (.goto 9, 3) := by decide +kernel
theorem dX10_answer_113 : decode cX10_answer 113 = .ok (.iload 7, 2) := by decide +kernel
theorem dX10_answer_115 : decode cX10_answer 115 = .ok (.aload_n 2, 1) := by decide +kernel
theorem dX10_answer_116 : decode cX10_answer 116 = .ok (.invokestatic 55, 3) := by decide +kernel
theorem dX10_answer_119 : decode cX10_answer 119 = .ok (.iastore, 1) := by decide +kernel
theorem dX10_answer_120 : decode cX10_answer 120 = .ok (.iinc 5 1, 3) := by decide +kernel
theorem dX10_answer_123 : decode cX10_answer 123 = .ok (.goto 86, 3) := by decide +kernel
theorem dX10_answer_126 : decode cX10_answer 126 = .ok (.iload 7, 2) := by decide +kernel
theorem dX10_answer_128 : decode cX10_answer 128 = .ok (.bipush (-13), 2) := by decide +kernel
theorem dX10_answer_130 : decode cX10_answer 130 = .ok (.if_icmp .ne 38, 3) := by decide +kernel
theorem dX10_answer_133 : decode cX10_answer 133 = .ok (.iload 5, 2) := by decide +kernel
theorem dX10_answer_135 : decode cX10_answer 135 = .ok (.iconst 1, 1) := by decide +kernel
theorem dX10_answer_136 : decode cX10_answer 136 = .ok (.if_icmp .lt 73, 3) := by decide +kernel
theorem dX10_answer_139 : decode cX10_answer 139 = .ok (.aload_n 0, 1) := by decide +kernel
theorem dX10_answer_140 : decode cX10_answer 140 = .ok (.getfield 30, 3) := by decide +kernel
theorem dX10_answer_143 : decode cX10_answer 143 = .ok (.iload 5, 2) := by decide +kernel
theorem dX10_answer_145 : decode cX10_answer 145 = .ok (.iconst 1, 1) := by decide +kernel
theorem dX10_answer_146 : decode cX10_answer 146 = .ok (.isub, 1) := by decide +kernel
theorem dX10_answer_147 : decode cX10_answer 147 = .ok (.aload_n 0, 1) := by decide +kernel
theorem dX10_answer_148 : decode cX10_answer 148 = .ok (.getfield 30, 3) := by decide +kernel
theorem dX10_answer_151 : decode cX10_answer 151 = .ok (.iload 5, 2) := by decide +kernel
theorem dX10_answer_153 : decode cX10_answer 153 = .ok (.iconst 1, 1) := by decide +kernel
theorem dX10_answer_154 : decode cX10_answer 154 = .ok (.isub, 1) := by decide +kernel
theorem dX10_answer_155 : decode cX10_answer 155 = .ok (.iaload, 1) := by decide +kernel
theorem dX10_answer_156 : decode cX10_answer 156 = .ok (.ifCond .ne 7, 3) := by decide +kernel
theorem dX10_answer_159 : decode cX10_answer 159 = .ok (.iconst 1, 1) := by decide +kernel
theorem dX10_answer_160 : decode cX10_answer 160 = .ok (.goto 4, 3) := by decide +kernel
theorem dX10_answer_163 : decode cX10_answer 163 = .ok (.iconst 0, 1) := by decide +kernel
theorem dX10_answer_164 : decode cX10_answer 164 = .ok (.iastore, 1) := by decide +kernel
theorem dX10_answer_165 : decode cX10_answer 165 = .ok (.goto 44, 3) := by decide +kernel
theorem dX10_answer_168 : decode cX10_answer 168 = .ok (.iload 5, 2) := by decide +kernel
theorem dX10_answer_170 : decode cX10_answer 170 = .ok (.iconst 2, 1) := by decide +kernel
theorem dX10_answer_171 : decode cX10_answer 171 = .ok (.if_icmp .lt 38, 3) := by decide +kernel
theorem dX10_answer_174 : decode cX10_answer 174 = .ok (.aload_n 0, 1) := by decide +kernel
theorem dX10_answer_175 : decode cX10_answer 175 = .ok (.getfield 30, 3) := by decide +kernel
theorem dX10_answer_178 : decode cX10_answer 178 = .ok (.iload 5, 2) := by decide +kernel
theorem dX10_answer_180 : decode cX10_answer 180 = .ok (.iconst 2, 1) := by decide +kernel
theorem dX10_answer_181 : decode cX10_answer 181 = .ok (.isub, 1) := by decide +kernel
theorem dX10_answer_182 : decode cX10_answer 182 = .ok (.iload 7, 2) := by decide +kernel
theorem dX10_answer_184 : decode cX10_answer 184 = .ok (.aload_n 0, 1) := by decide +kernel
theorem dX10_answer_185 : decode cX10_answer 185 = .ok (.getfield 30, 3) := by decide +kernel
theorem dX10_answer_188 : decode cX10_answer 188 = .ok (.iload 5, 2) := by decide +kernel
theorem dX10_answer_190 : decode cX10_answer 190 = .ok (.iconst 2, 1) := by decide +kernel
theorem dX10_answer_191 : decode cX10_answer 191 = .ok (.isub, 1) := by decide +kernel
theorem dX10_answer_192 : decode cX10_answer 192 = .ok (.iaload, 1) := by decide +kernel
theorem dX10_answer_193 : decode cX10_answer 193 = .ok (.aload_n 0, 1) := by decide +kernel
theorem dX10_answer_194 : decode cX10_answer 194 = .ok (.getfield 30, 3) := by decide +kernel
theorem dX10_answer_197 : decode cX10_answer 197 = .ok (.iload 5, 2) := by decide +kernel
theorem dX10_answer_199 : decode cX10_answer 199 = .ok (.iconst 1, 1) := by decide +kernel
theorem dX10_answer_200 : decode cX10_answer 200 = .ok (.isub, 1) := by decide +kernel
theorem dX10_answer_201 : decode cX10_answer 201 = .ok (.iaload, 1) := by decide +kernel
theorem dX10_answer_202 : decode cX10_answer 202 = .ok (.invokestatic 59, 3) := by decide +kernel
theorem dX10_answer_205 : decode cX10_answer 205 = .ok (.iastore, 1) := by decide +kernel
theorem dX10_answer_206 : decode cX10_answer 206 = .ok (.iinc 5 (-1), 3) := by decide +kernel
theorem dX10_answer_209 : decode cX10_answer 209 = .ok (.iinc 6 1, 3) := by decide +kernel
theorem dX10_answer_212 : decode cX10_answer 212 = .ok (.goto (-163), 3) := by decide +kernel
theorem dX10_answer_215 : decode cX10_answer 215 = .ok (.iload 5, 2) := by decide +kernel
theorem dX10_answer_217 : decode cX10_answer 217 = .ok (.iconst 1, 1) := by decide +kernel
theorem dX10_answer_218 : decode cX10_answer 218 = .ok (.if_icmp .lt 15, 3) := by decide +kernel
theorem dX10_answer_221 : decode cX10_answer 221 = .ok (.aload_n 0, 1) := by decide +kernel
theorem dX10_answer_222 : decode cX10_answer 222 = .ok (.getfield 30, 3) := by decide +kernel
theorem dX10_answer_225 : decode cX10_answer 225 = .ok (.iload 5, 2) := by decide +kernel
theorem dX10_answer_227 : decode cX10_answer 227 = .ok (.iconst 1, 1) := by decide +kernel
theorem dX10_answer_228 : decode cX10_answer 228 = .ok (.isub, 1) := by decide +kernel
theorem dX10_answer_229 : decode cX10_answer 229 = .ok (.iaload, 1) := by decide +kernel
theorem dX10_answer_230 : decode cX10_answer 230 = .ok (.goto 4, 3) := by decide +kernel
theorem dX10_answer_233 : decode cX10_answer 233 = .ok (.iconst 0, 1) := by decide +kernel
theorem dX10_answer_234 : decode cX10_answer 234 = .ok (.ireturn, 1) := by decide +kernel
def X10_answer_b234 (e : mm_E) (t0 : Int32) (m : mm_V) : Option (Int32 × mm_V) := some (t0, m)
theorem X10_answer_b234_ok {K : mm_K} {nx : Option Nat} {e : mm_E} (hz : e.2.1 = K.2.2.2.2) {d : Nat} (hd : 1 ≤ d) {t0 : Int32} {a0 : Nat} (h0 : e.1 a0 = some (10, 11)) {m : mm_V} {r : (Int32 × mm_V)} (hr : X10_answer_b234 e t0 m = some r) : mm_G K MX10_answer d (mm_Fi e.1 nx r) 234 [none, none, none, none, none, none, none, none] [.int t0] (e.1, m) nx 0 0 := by
  obtain ⟨d, rfl⟩ : ∃ d', d = d' + 1 := ⟨d - 1, by omega⟩
  unfold X10_answer_b234 at hr
  exact mb_iret dX10_answer_234 rfl hr
def X10_answer_b215 (e : mm_E) (a0 : Nat) (i5 : Int32) (m : mm_V) : Option (Int32 × mm_V) := if i5 < (1 : Int32) then (X10_answer_b234 e  (0 : Int32) m) else ((mm_gr e.1 m 10 11 a0 5).bind fun c1 => (mm_ai e.1 m 20 c1 (i5 - (1 : Int32))).bind fun x2 => X10_answer_b234 e  x2 m)
theorem X10_answer_b215_ok {K : mm_K} {nx : Option Nat} {e : mm_E} (hz : e.2.1 = K.2.2.2.2) {d : Nat} (hd : 1 ≤ d) {a0 : Nat} {i5 : Int32} (h0 : e.1 a0 = some (10, 11)) {m : mm_V} {r : (Int32 × mm_V)} (hr : X10_answer_b215 e a0 i5 m = some r) : mm_G K MX10_answer d (mm_Fi e.1 nx r) 215 [some (.ref a0), none, none, none, none, some (.int i5), none, none] [] (e.1, m) nx 0 0 := by
  obtain ⟨d, rfl⟩ : ∃ d', d = d' + 1 := ⟨d - 1, by omega⟩
  unfold X10_answer_b215 at hr
  refine ml_iload (pc := 215) dX10_answer_215 (mm_get_s (mm_get_s (mm_get_s (mm_get_s (mm_get_s mm_get_0))))) ?_
  refine mg_iconst (pc := 217) dX10_answer_217 kc_1 ?_
  refine mb_icmp_lt (pc := 218) 233 dX10_answer_218 rfl hr (fun hr => ?_) (fun hr => ?_)
  · refine mg_iconst (pc := 233) dX10_answer_233 kc_0 ?_
    exact mg_weak (mm_le_n (mm_le_n (mm_le_n (mm_le_n (mm_le_n (mm_le_n (mm_le_n (mm_le_n mm_le_0)))))))) (X10_answer_b234_ok hz hd h0 hr)
  · refine ml_aload_n (pc := 221) dX10_answer_221 rfl mm_get_0 ?_
    refine mb_gr (pc := 222) dX10_answer_222 fl_X10_30 hr (fun c1 hr => ?_)
    refine ml_iload (pc := 225) dX10_answer_225 (mm_get_s (mm_get_s (mm_get_s (mm_get_s (mm_get_s mm_get_0))))) ?_
    refine mg_iconst (pc := 227) dX10_answer_227 kc_1 ?_
    refine mg_isub (pc := 228) dX10_answer_228 ?_
    refine mb_ai (pc := 229) dX10_answer_229 hr (fun x2 hr => ?_)
    refine mg_goto (pc := 230) 234 dX10_answer_230 rfl ?_
    exact mg_weak (mm_le_n (mm_le_n (mm_le_n (mm_le_n (mm_le_n (mm_le_n (mm_le_n (mm_le_n mm_le_0)))))))) (X10_answer_b234_ok hz hd h0 hr)
def X10_answer_b209 (e : mm_E) (k49 : Int32 → Int32 → mm_V → Option (Int32 × mm_V)) (a0 : Nat) (a2 : Nat) (i4 : Int32) (i5 : Int32) (i6 : Int32) (m : mm_V) : Option (Int32 × mm_V) := k49 i5 (i6 + 1) m
theorem X10_answer_b209_ok {K : mm_K} {nx : Option Nat} {e : mm_E} (hz : e.2.1 = K.2.2.2.2) {d : Nat} (hd : 1 ≤ d) {a0 : Nat} {a2 : Nat} {i4 : Int32} {i5 : Int32} {i6 : Int32} (h0 : e.1 a0 = some (10, 11)) {k49 : Int32 → Int32 → mm_V → Option (Int32 × mm_V)} (hk49 : ∀ (w5 : Int32) (w6 : Int32) (m : mm_V) (r : (Int32 × mm_V)), k49 w5 w6 m = some r → mm_G K MX10_answer d (mm_Fi e.1 nx r) 49 [some (.ref a0), none, some (.ref a2), none, some (.int i4), some (.int w5), some (.int w6), none] [] (e.1, m) nx 0 0) {m : mm_V} {r : (Int32 × mm_V)} (hr : X10_answer_b209 e k49 a0 a2 i4 i5 i6 m = some r) : mm_G K MX10_answer d (mm_Fi e.1 nx r) 209 [some (.ref a0), none, some (.ref a2), none, some (.int i4), some (.int i5), some (.int i6), none] [] (e.1, m) nx 0 0 := by
  obtain ⟨d, rfl⟩ : ∃ d', d = d' + 1 := ⟨d - 1, by omega⟩
  unfold X10_answer_b209 at hr
  refine ml_iinc (pc := 209) dX10_answer_209 (mm_get_s (mm_get_s (mm_get_s (mm_get_s (mm_get_s (mm_get_s mm_get_0)))))) (congrArg (fun z => i6 + z) kc_1) (Nat.le_of_ble_eq_true rfl) (mm_st1_s (mm_st1_s (mm_st1_s (mm_st1_s (mm_st1_s mm_st1_i))))) ?_
  refine mg_goto (pc := 212) 49 dX10_answer_212 rfl ?_
  exact mg_weak (mm_le_s (mm_le_n (mm_le_s (mm_le_n (mm_le_s (mm_le_s (mm_le_s (mm_le_n mm_le_0)))))))) (hk49 _ _ _ _ hr)
def X10_answer_b164 (e : mm_E) (k49 : Int32 → Int32 → mm_V → Option (Int32 × mm_V)) (a0 : Nat) (a2 : Nat) (i4 : Int32) (i5 : Int32) (i6 : Int32) (t0 : Nat) (t1 : Int32) (t2 : Int32) (m : mm_V) : Option (Int32 × mm_V) := (mm_si e.1 m t0 t1 t2).bind fun m1 => X10_answer_b209 e k49 a0 a2 i4 i5 i6  m1
theorem X10_answer_b164_ok {K : mm_K} {nx : Option Nat} {e : mm_E} (hz : e.2.1 = K.2.2.2.2) {d : Nat} (hd : 1 ≤ d) {a0 : Nat} {a2 : Nat} {i4 : Int32} {i5 : Int32} {i6 : Int32} {t0 : Nat} {t1 : Int32} {t2 : Int32} (h0 : e.1 a0 = some (10, 11)) {k49 : Int32 → Int32 → mm_V → Option (Int32 × mm_V)} (hk49 : ∀ (w5 : Int32) (w6 : Int32) (m : mm_V) (r : (Int32 × mm_V)), k49 w5 w6 m = some r → mm_G K MX10_answer d (mm_Fi e.1 nx r) 49 [some (.ref a0), none, some (.ref a2), none, some (.int i4), some (.int w5), some (.int w6), none] [] (e.1, m) nx 0 0) {m : mm_V} {r : (Int32 × mm_V)} (hr : X10_answer_b164 e k49 a0 a2 i4 i5 i6 t0 t1 t2 m = some r) : mm_G K MX10_answer d (mm_Fi e.1 nx r) 164 [some (.ref a0), none, some (.ref a2), none, some (.int i4), some (.int i5), some (.int i6), none] [.int t2, .int t1, .ref t0] (e.1, m) nx 0 0 := by
  obtain ⟨d, rfl⟩ : ∃ d', d = d' + 1 := ⟨d - 1, by omega⟩
  unfold X10_answer_b164 at hr
  refine mb_si (pc := 164) dX10_answer_164 hr (fun m1 hr => ?_)
  refine mg_goto (pc := 165) 209 dX10_answer_165 rfl ?_
  exact mg_weak (mm_le_s (mm_le_n (mm_le_s (mm_le_n (mm_le_s (mm_le_s (mm_le_s (mm_le_n mm_le_0)))))))) (X10_answer_b209_ok hz hd h0 hk49 hr)
def X10_answer_b119 (e : mm_E) (k49 : Int32 → Int32 → mm_V → Option (Int32 × mm_V)) (a0 : Nat) (a2 : Nat) (i4 : Int32) (i5 : Int32) (i6 : Int32) (t0 : Nat) (t1 : Int32) (t2 : Int32) (m : mm_V) : Option (Int32 × mm_V) := (mm_si e.1 m t0 t1 t2).bind fun m1 => X10_answer_b209 e k49 a0 a2 i4 (i5 + 1) i6  m1
theorem X10_answer_b119_ok {K : mm_K} {nx : Option Nat} {e : mm_E} (hz : e.2.1 = K.2.2.2.2) {d : Nat} (hd : 1 ≤ d) {a0 : Nat} {a2 : Nat} {i4 : Int32} {i5 : Int32} {i6 : Int32} {t0 : Nat} {t1 : Int32} {t2 : Int32} (h0 : e.1 a0 = some (10, 11)) {k49 : Int32 → Int32 → mm_V → Option (Int32 × mm_V)} (hk49 : ∀ (w5 : Int32) (w6 : Int32) (m : mm_V) (r : (Int32 × mm_V)), k49 w5 w6 m = some r → mm_G K MX10_answer d (mm_Fi e.1 nx r) 49 [some (.ref a0), none, some (.ref a2), none, some (.int i4), some (.int w5), some (.int w6), none] [] (e.1, m) nx 0 0) {m : mm_V} {r : (Int32 × mm_V)} (hr : X10_answer_b119 e k49 a0 a2 i4 i5 i6 t0 t1 t2 m = some r) : mm_G K MX10_answer d (mm_Fi e.1 nx r) 119 [some (.ref a0), none, some (.ref a2), none, some (.int i4), some (.int i5), some (.int i6), none] [.int t2, .int t1, .ref t0] (e.1, m) nx 0 0 := by
  obtain ⟨d, rfl⟩ : ∃ d', d = d' + 1 := ⟨d - 1, by omega⟩
  unfold X10_answer_b119 at hr
  refine mb_si (pc := 119) dX10_answer_119 hr (fun m1 hr => ?_)
  refine ml_iinc (pc := 120) dX10_answer_120 (mm_get_s (mm_get_s (mm_get_s (mm_get_s (mm_get_s mm_get_0))))) (congrArg (fun z => i5 + z) kc_1) (Nat.le_of_ble_eq_true rfl) (mm_st1_s (mm_st1_s (mm_st1_s (mm_st1_s mm_st1_i)))) ?_
  refine mg_goto (pc := 123) 209 dX10_answer_123 rfl ?_
  exact mg_weak (mm_le_s (mm_le_n (mm_le_s (mm_le_n (mm_le_s (mm_le_s (mm_le_s (mm_le_n mm_le_0)))))))) (X10_answer_b209_ok hz hd h0 hk49 hr)
def X10_answer_L49 (e : mm_E) (a0 : Nat) (a2 : Nat) (i4 : Int32) : Nat → Int32 → Int32 → mm_V → Option (Int32 × mm_V)
  | 0, _, _, _ => none
  | n + 1, i5, i6, m => if i6 < 0 then (X10_answer_b215 e a0 i5  m) else (if i4 ≤ i6 then (X10_answer_b215 e a0 i5  m) else ((mm_gr e.1 m 10 11 a0 2).bind fun c1 => (mm_ln e.1 c1).bind fun x2 => if x2 ≤ i6 then (X10_answer_b215 e a0 i5  m) else ((mm_gr e.1 m 10 11 a0 2).bind fun c3 => (mm_ai e.1 m 20 c3 i6).bind fun x4 => if x4 < (-6 : Int32) then (if ¬ x4 = (-13 : Int32) then (if i5 < (2 : Int32) then (X10_answer_b209 e (X10_answer_L49 e a0 a2 i4 n) a0 a2 i4 i5 i6  m) else ((mm_gr e.1 m 10 11 a0 5).bind fun c5 => (mm_gr e.1 m 10 11 a0 5).bind fun c6 => (mm_ai e.1 m 20 c6 (i5 - (2 : Int32))).bind fun x7 => (mm_gr e.1 m 10 11 a0 5).bind fun c8 => (mm_ai e.1 m 20 c8 (i5 - (1 : Int32))).bind fun x9 => (X10_done e x4 x7 x9 m).bind fun r10 => (mm_si e.1 r10.2 c5 (i5 - (2 : Int32)) r10.1).bind fun m11 => X10_answer_b209 e (X10_answer_L49 e a0 a2 i4 n) a0 a2 i4 (i5 + (-1)) i6  m11)) else (if i5 < (1 : Int32) then (X10_answer_b209 e (X10_answer_L49 e a0 a2 i4 n) a0 a2 i4 i5 i6  m) else ((mm_gr e.1 m 10 11 a0 5).bind fun c12 => (mm_gr e.1 m 10 11 a0 5).bind fun c13 => (mm_ai e.1 m 20 c13 (i5 - (1 : Int32))).bind fun x14 => if ¬ x14 = 0 then (X10_answer_b164 e (X10_answer_L49 e a0 a2 i4 n) a0 a2 i4 i5 i6 c12 (i5 - (1 : Int32)) (0 : Int32) m) else (X10_answer_b164 e (X10_answer_L49 e a0 a2 i4 n) a0 a2 i4 i5 i6 c12 (i5 - (1 : Int32)) (1 : Int32) m)))) else ((mm_gr e.1 m 10 11 a0 5).bind fun c15 => (mm_ln e.1 c15).bind fun x16 => if x16 ≤ i5 then (X10_answer_b209 e (X10_answer_L49 e a0 a2 i4 n) a0 a2 i4 i5 i6  m) else ((mm_gr e.1 m 10 11 a0 5).bind fun c17 => if x4 < 0 then ((X10_seenAs e x4 a2 m).bind fun r18 => X10_answer_b119 e (X10_answer_L49 e a0 a2 i4 n) a0 a2 i4 i5 i6 c17 i5 r18.1 r18.2) else (X10_answer_b119 e (X10_answer_L49 e a0 a2 i4 n) a0 a2 i4 i5 i6 c17 i5 x4 m))))))
theorem X10_answer_L49_ok {K : mm_K} {nx : Option Nat} {e : mm_E} (hz : e.2.1 = K.2.2.2.2) {d : Nat} (hd : 1 ≤ d) {a0 : Nat} {a2 : Nat} {i4 : Int32} (h0 : e.1 a0 = some (10, 11)) : ∀ (n : Nat) (i5 : Int32) (i6 : Int32) (m : mm_V) (r : (Int32 × mm_V)), X10_answer_L49 e a0 a2 i4 n i5 i6 m = some r → mm_G K MX10_answer d (mm_Fi e.1 nx r) 49 [some (.ref a0), none, some (.ref a2), none, some (.int i4), some (.int i5), some (.int i6), none] [] (e.1, m) nx 0 0 := by
  obtain ⟨d, rfl⟩ : ∃ d', d = d' + 1 := ⟨d - 1, by omega⟩
  intro n
  induction n with
  | zero => intro i5 i6 m r hr; unfold X10_answer_L49 at hr; cases hr
  | succ n ih =>
    intro i5 i6 m r hr
    unfold X10_answer_L49 at hr
    refine ml_iload (pc := 49) dX10_answer_49 (mm_get_s (mm_get_s (mm_get_s (mm_get_s (mm_get_s (mm_get_s mm_get_0)))))) ?_
    refine mb_if_lt (pc := 51) 215 dX10_answer_51 rfl hr (fun hr => ?_) (fun hr => ?_)
    · exact mg_weak (mm_le_s (mm_le_n (mm_le_n (mm_le_n (mm_le_n (mm_le_s (mm_le_n (mm_le_n mm_le_0)))))))) (X10_answer_b215_ok hz hd h0 hr)
    · refine ml_iload (pc := 54) dX10_answer_54 (mm_get_s (mm_get_s (mm_get_s (mm_get_s (mm_get_s (mm_get_s mm_get_0)))))) ?_
      refine ml_iload (pc := 56) dX10_answer_56 (mm_get_s (mm_get_s (mm_get_s (mm_get_s mm_get_0)))) ?_
      refine mb_icmp_ge (pc := 58) 215 dX10_answer_58 rfl hr (fun hr => ?_) (fun hr => ?_)
      · exact mg_weak (mm_le_s (mm_le_n (mm_le_n (mm_le_n (mm_le_n (mm_le_s (mm_le_n (mm_le_n mm_le_0)))))))) (X10_answer_b215_ok hz hd h0 hr)
      · refine ml_iload (pc := 61) dX10_answer_61 (mm_get_s (mm_get_s (mm_get_s (mm_get_s (mm_get_s (mm_get_s mm_get_0)))))) ?_
        refine ml_aload_n (pc := 63) dX10_answer_63 rfl mm_get_0 ?_
        refine mb_gr (pc := 64) dX10_answer_64 fl_X10_21 hr (fun c1 hr => ?_)
        refine mb_ln (pc := 67) dX10_answer_67 hr (fun x2 hr => ?_)
        refine mb_icmp_ge (pc := 68) 215 dX10_answer_68 rfl hr (fun hr => ?_) (fun hr => ?_)
        · exact mg_weak (mm_le_s (mm_le_n (mm_le_n (mm_le_n (mm_le_n (mm_le_s (mm_le_n (mm_le_n mm_le_0)))))))) (X10_answer_b215_ok hz hd h0 hr)
        · refine ml_aload_n (pc := 71) dX10_answer_71 rfl mm_get_0 ?_
          refine mb_gr (pc := 72) dX10_answer_72 fl_X10_21 hr (fun c3 hr => ?_)
          refine ml_iload (pc := 75) dX10_answer_75 (mm_get_s (mm_get_s (mm_get_s (mm_get_s (mm_get_s (mm_get_s mm_get_0)))))) ?_
          refine mb_ai (pc := 77) dX10_answer_77 hr (fun x4 hr => ?_)
          refine ml_istore (pc := 78) dX10_answer_78 (Nat.le_of_ble_eq_true rfl) (mm_st1_s (mm_st1_s (mm_st1_s (mm_st1_s (mm_st1_s (mm_st1_s mm_st1_i)))))) ?_
          refine ml_iload (pc := 80) dX10_answer_80 (mm_get_s (mm_get_s (mm_get_s (mm_get_s (mm_get_s (mm_get_s (mm_get_s mm_get_0))))))) ?_
          refine mg_bipush (pc := 82) dX10_answer_82 kb_m6 ?_
          refine mb_icmp_lt (pc := 84) 126 dX10_answer_84 rfl hr (fun hr => ?_) (fun hr => ?_)
          · refine ml_iload (pc := 126) dX10_answer_126 (mm_get_s (mm_get_s (mm_get_s (mm_get_s (mm_get_s (mm_get_s (mm_get_s mm_get_0))))))) ?_
            refine mg_bipush (pc := 128) dX10_answer_128 kb_m13 ?_
            refine mb_icmp_ne (pc := 130) 168 dX10_answer_130 rfl hr (fun hr => ?_) (fun hr => ?_)
            · refine ml_iload (pc := 168) dX10_answer_168 (mm_get_s (mm_get_s (mm_get_s (mm_get_s (mm_get_s mm_get_0))))) ?_
              refine mg_iconst (pc := 170) dX10_answer_170 kc_2 ?_
              refine mb_icmp_lt (pc := 171) 209 dX10_answer_171 rfl hr (fun hr => ?_) (fun hr => ?_)
              · exact mg_weak (mm_le_s (mm_le_n (mm_le_s (mm_le_n (mm_le_s (mm_le_s (mm_le_s (mm_le_n mm_le_0)))))))) (X10_answer_b209_ok hz hd h0 ih hr)
              · refine ml_aload_n (pc := 174) dX10_answer_174 rfl mm_get_0 ?_
                refine mb_gr (pc := 175) dX10_answer_175 fl_X10_30 hr (fun c5 hr => ?_)
                refine ml_iload (pc := 178) dX10_answer_178 (mm_get_s (mm_get_s (mm_get_s (mm_get_s (mm_get_s mm_get_0))))) ?_
                refine mg_iconst (pc := 180) dX10_answer_180 kc_2 ?_
                refine mg_isub (pc := 181) dX10_answer_181 ?_
                refine ml_iload (pc := 182) dX10_answer_182 (mm_get_s (mm_get_s (mm_get_s (mm_get_s (mm_get_s (mm_get_s (mm_get_s mm_get_0))))))) ?_
                refine ml_aload_n (pc := 184) dX10_answer_184 rfl mm_get_0 ?_
                refine mb_gr (pc := 185) dX10_answer_185 fl_X10_30 hr (fun c6 hr => ?_)
                refine ml_iload (pc := 188) dX10_answer_188 (mm_get_s (mm_get_s (mm_get_s (mm_get_s (mm_get_s mm_get_0))))) ?_
                refine mg_iconst (pc := 190) dX10_answer_190 kc_2 ?_
                refine mg_isub (pc := 191) dX10_answer_191 ?_
                refine mb_ai (pc := 192) dX10_answer_192 hr (fun x7 hr => ?_)
                refine ml_aload_n (pc := 193) dX10_answer_193 rfl mm_get_0 ?_
                refine mb_gr (pc := 194) dX10_answer_194 fl_X10_30 hr (fun c8 hr => ?_)
                refine ml_iload (pc := 197) dX10_answer_197 (mm_get_s (mm_get_s (mm_get_s (mm_get_s (mm_get_s mm_get_0))))) ?_
                refine mg_iconst (pc := 199) dX10_answer_199 kc_1 ?_
                refine mg_isub (pc := 200) dX10_answer_200 ?_
                refine mb_ai (pc := 201) dX10_answer_201 hr (fun x9 hr => ?_)
                refine mb_cSi (pc := 202) (As := [.int x4, .int x7, .int x9]) (rest := [.int (i5 - (2 : Int32)), .ref c5]) dX10_answer_202 cw_X10_59  hr (fun v hv => X10_done_ok hz (by omega)  hv) rfl (Nat.le_of_ble_eq_true rfl) (Nat.zero_le _) (Nat.zero_le _) (fun r10 hr => ?_)
                refine mb_si (pc := 205) dX10_answer_205 hr (fun m11 hr => ?_)
                refine ml_iinc (pc := 206) dX10_answer_206 (mm_get_s (mm_get_s (mm_get_s (mm_get_s (mm_get_s mm_get_0))))) (congrArg (fun z => i5 + z) kc_m1) (Nat.le_of_ble_eq_true rfl) (mm_st1_s (mm_st1_s (mm_st1_s (mm_st1_s mm_st1_i)))) ?_
                exact mg_weak (mm_le_s (mm_le_n (mm_le_s (mm_le_n (mm_le_s (mm_le_s (mm_le_s (mm_le_n mm_le_0)))))))) (X10_answer_b209_ok hz hd h0 ih hr)
            · refine ml_iload (pc := 133) dX10_answer_133 (mm_get_s (mm_get_s (mm_get_s (mm_get_s (mm_get_s mm_get_0))))) ?_
              refine mg_iconst (pc := 135) dX10_answer_135 kc_1 ?_
              refine mb_icmp_lt (pc := 136) 209 dX10_answer_136 rfl hr (fun hr => ?_) (fun hr => ?_)
              · exact mg_weak (mm_le_s (mm_le_n (mm_le_s (mm_le_n (mm_le_s (mm_le_s (mm_le_s (mm_le_n mm_le_0)))))))) (X10_answer_b209_ok hz hd h0 ih hr)
              · refine ml_aload_n (pc := 139) dX10_answer_139 rfl mm_get_0 ?_
                refine mb_gr (pc := 140) dX10_answer_140 fl_X10_30 hr (fun c12 hr => ?_)
                refine ml_iload (pc := 143) dX10_answer_143 (mm_get_s (mm_get_s (mm_get_s (mm_get_s (mm_get_s mm_get_0))))) ?_
                refine mg_iconst (pc := 145) dX10_answer_145 kc_1 ?_
                refine mg_isub (pc := 146) dX10_answer_146 ?_
                refine ml_aload_n (pc := 147) dX10_answer_147 rfl mm_get_0 ?_
                refine mb_gr (pc := 148) dX10_answer_148 fl_X10_30 hr (fun c13 hr => ?_)
                refine ml_iload (pc := 151) dX10_answer_151 (mm_get_s (mm_get_s (mm_get_s (mm_get_s (mm_get_s mm_get_0))))) ?_
                refine mg_iconst (pc := 153) dX10_answer_153 kc_1 ?_
                refine mg_isub (pc := 154) dX10_answer_154 ?_
                refine mb_ai (pc := 155) dX10_answer_155 hr (fun x14 hr => ?_)
                refine mb_if_ne (pc := 156) 163 dX10_answer_156 rfl hr (fun hr => ?_) (fun hr => ?_)
                · refine mg_iconst (pc := 163) dX10_answer_163 kc_0 ?_
                  exact mg_weak (mm_le_s (mm_le_n (mm_le_s (mm_le_n (mm_le_s (mm_le_s (mm_le_s (mm_le_n mm_le_0)))))))) (X10_answer_b164_ok hz hd h0 ih hr)
                · refine mg_iconst (pc := 159) dX10_answer_159 kc_1 ?_
                  refine mg_goto (pc := 160) 164 dX10_answer_160 rfl ?_
                  exact mg_weak (mm_le_s (mm_le_n (mm_le_s (mm_le_n (mm_le_s (mm_le_s (mm_le_s (mm_le_n mm_le_0)))))))) (X10_answer_b164_ok hz hd h0 ih hr)
          · refine ml_iload (pc := 87) dX10_answer_87 (mm_get_s (mm_get_s (mm_get_s (mm_get_s (mm_get_s mm_get_0))))) ?_
            refine ml_aload_n (pc := 89) dX10_answer_89 rfl mm_get_0 ?_
            refine mb_gr (pc := 90) dX10_answer_90 fl_X10_30 hr (fun c15 hr => ?_)
            refine mb_ln (pc := 93) dX10_answer_93 hr (fun x16 hr => ?_)
            refine mb_icmp_ge (pc := 94) 209 dX10_answer_94 rfl hr (fun hr => ?_) (fun hr => ?_)
            · exact mg_weak (mm_le_s (mm_le_n (mm_le_s (mm_le_n (mm_le_s (mm_le_s (mm_le_s (mm_le_n mm_le_0)))))))) (X10_answer_b209_ok hz hd h0 ih hr)
            · refine ml_aload_n (pc := 97) dX10_answer_97 rfl mm_get_0 ?_
              refine mb_gr (pc := 98) dX10_answer_98 fl_X10_30 hr (fun c17 hr => ?_)
              refine ml_iload (pc := 101) dX10_answer_101 (mm_get_s (mm_get_s (mm_get_s (mm_get_s (mm_get_s mm_get_0))))) ?_
              refine ml_iload (pc := 103) dX10_answer_103 (mm_get_s (mm_get_s (mm_get_s (mm_get_s (mm_get_s (mm_get_s (mm_get_s mm_get_0))))))) ?_
              refine mb_if_lt (pc := 105) 113 dX10_answer_105 rfl hr (fun hr => ?_) (fun hr => ?_)
              · refine ml_iload (pc := 113) dX10_answer_113 (mm_get_s (mm_get_s (mm_get_s (mm_get_s (mm_get_s (mm_get_s (mm_get_s mm_get_0))))))) ?_
                refine ml_aload_n (pc := 115) dX10_answer_115 rfl (mm_get_s (mm_get_s mm_get_0)) ?_
                refine mb_cSi (pc := 116) (As := [.int x4, .ref a2]) (rest := [.int i5, .ref c17]) dX10_answer_116 cw_X10_55  hr (fun v hv => X10_seenAs_ok hz (by omega)  hv) rfl (Nat.le_of_ble_eq_true rfl) (Nat.zero_le _) (Nat.zero_le _) (fun r18 hr => ?_)
                exact mg_weak (mm_le_s (mm_le_n (mm_le_s (mm_le_n (mm_le_s (mm_le_s (mm_le_s (mm_le_n mm_le_0)))))))) (X10_answer_b119_ok hz hd h0 ih hr)
              · refine ml_iload (pc := 108) dX10_answer_108 (mm_get_s (mm_get_s (mm_get_s (mm_get_s (mm_get_s (mm_get_s (mm_get_s mm_get_0))))))) ?_
                refine mg_goto (pc := 110) 119 dX10_answer_110 rfl ?_
                exact mg_weak (mm_le_s (mm_le_n (mm_le_s (mm_le_n (mm_le_s (mm_le_s (mm_le_s (mm_le_n mm_le_0)))))))) (X10_answer_b119_ok hz hd h0 ih hr)
def X10_answer_b41 (e : mm_E) (a0 : Nat) (a2 : Nat) (i3 : Int32) (t0 : Int32) (m : mm_V) : Option (Int32 × mm_V) := X10_answer_L49 e a0 a2 t0 e.2.2 (0 : Int32) i3 m
theorem X10_answer_b41_ok {K : mm_K} {nx : Option Nat} {e : mm_E} (hz : e.2.1 = K.2.2.2.2) {d : Nat} (hd : 1 ≤ d) {a0 : Nat} {a2 : Nat} {i3 : Int32} {t0 : Int32} (h0 : e.1 a0 = some (10, 11)) {m : mm_V} {r : (Int32 × mm_V)} (hr : X10_answer_b41 e a0 a2 i3 t0 m = some r) : mm_G K MX10_answer d (mm_Fi e.1 nx r) 41 [some (.ref a0), none, some (.ref a2), some (.int i3), none, none, none, none] [.int t0] (e.1, m) nx 0 0 := by
  obtain ⟨d, rfl⟩ : ∃ d', d = d' + 1 := ⟨d - 1, by omega⟩
  unfold X10_answer_b41 at hr
  refine ml_istore (pc := 41) dX10_answer_41 (Nat.le_of_ble_eq_true rfl) (mm_st1_s (mm_st1_s (mm_st1_s mm_st1_i))) ?_
  refine mg_iconst (pc := 43) dX10_answer_43 kc_0 ?_
  refine ml_istore (pc := 44) dX10_answer_44 (Nat.le_of_ble_eq_true rfl) (mm_st1_s (mm_st1_s (mm_st1_s (mm_st1_s mm_st1_i)))) ?_
  refine ml_iload_n (pc := 46) dX10_answer_46 rfl (mm_get_s (mm_get_s (mm_get_s mm_get_0))) ?_
  refine ml_istore (pc := 47) dX10_answer_47 (Nat.le_of_ble_eq_true rfl) (mm_st1_s (mm_st1_s (mm_st1_s (mm_st1_s (mm_st1_s mm_st1_i))))) ?_
  exact mg_weak (mm_le_s (mm_le_n (mm_le_s (mm_le_n (mm_le_s (mm_le_s (mm_le_s (mm_le_n mm_le_0)))))))) (X10_answer_L49_ok hz hd h0 _ _ _ _ _ hr)
def X10_answer_b40 (e : mm_E) (a0 : Nat) (a2 : Nat) (i3 : Int32) (m : mm_V) : Option (Int32 × mm_V) := X10_answer_b41 e a0 a2 i3 (0 : Int32) m
theorem X10_answer_b40_ok {K : mm_K} {nx : Option Nat} {e : mm_E} (hz : e.2.1 = K.2.2.2.2) {d : Nat} (hd : 1 ≤ d) {a0 : Nat} {a2 : Nat} {i3 : Int32} (h0 : e.1 a0 = some (10, 11)) {m : mm_V} {r : (Int32 × mm_V)} (hr : X10_answer_b40 e a0 a2 i3 m = some r) : mm_G K MX10_answer d (mm_Fi e.1 nx r) 40 [some (.ref a0), none, some (.ref a2), some (.int i3), none, none, none, none] [] (e.1, m) nx 0 0 := by
  obtain ⟨d, rfl⟩ : ∃ d', d = d' + 1 := ⟨d - 1, by omega⟩
  unfold X10_answer_b40 at hr
  refine mg_iconst (pc := 40) dX10_answer_40 kc_0 ?_
  exact mg_weak (mm_le_s (mm_le_n (mm_le_s (mm_le_s (mm_le_n (mm_le_n (mm_le_n (mm_le_n mm_le_0)))))))) (X10_answer_b41_ok hz hd h0 hr)
def X10_answer_b20 (e : mm_E) (a0 : Nat) (i1 : Int32) (a2 : Nat) (t0 : Int32) (m : mm_V) : Option (Int32 × mm_V) := if i1 < 0 then (X10_answer_b40 e a0 a2 t0  m) else (if (12 : Int32) ≤ i1 then (X10_answer_b40 e a0 a2 t0  m) else ((mm_gr e.1 m 10 11 a0 4).bind fun c1 => (mm_ai e.1 m 20 c1 i1).bind fun x2 => X10_answer_b41 e a0 a2 t0 x2 m))
theorem X10_answer_b20_ok {K : mm_K} {nx : Option Nat} {e : mm_E} (hz : e.2.1 = K.2.2.2.2) {d : Nat} (hd : 1 ≤ d) {a0 : Nat} {i1 : Int32} {a2 : Nat} {t0 : Int32} (h0 : e.1 a0 = some (10, 11)) {m : mm_V} {r : (Int32 × mm_V)} (hr : X10_answer_b20 e a0 i1 a2 t0 m = some r) : mm_G K MX10_answer d (mm_Fi e.1 nx r) 20 [some (.ref a0), some (.int i1), some (.ref a2), none, none, none, none, none] [.int t0] (e.1, m) nx 0 0 := by
  obtain ⟨d, rfl⟩ : ∃ d', d = d' + 1 := ⟨d - 1, by omega⟩
  unfold X10_answer_b20 at hr
  refine ml_istore_n (pc := 20) dX10_answer_20 rfl (Nat.le_of_ble_eq_true rfl) (mm_st1_s (mm_st1_s mm_st1_r)) ?_
  refine ml_iload_n (pc := 21) dX10_answer_21 rfl (mm_get_s mm_get_0) ?_
  refine mb_if_lt (pc := 22) 40 dX10_answer_22 rfl hr (fun hr => ?_) (fun hr => ?_)
  · exact mg_weak (mm_le_s (mm_le_n (mm_le_s (mm_le_s (mm_le_n (mm_le_n (mm_le_n (mm_le_n mm_le_0)))))))) (X10_answer_b40_ok hz hd h0 hr)
  · refine ml_iload_n (pc := 25) dX10_answer_25 rfl (mm_get_s mm_get_0) ?_
    refine mg_bipush (pc := 26) dX10_answer_26 kb_12 ?_
    refine mb_icmp_ge (pc := 28) 40 dX10_answer_28 rfl hr (fun hr => ?_) (fun hr => ?_)
    · exact mg_weak (mm_le_s (mm_le_n (mm_le_s (mm_le_s (mm_le_n (mm_le_n (mm_le_n (mm_le_n mm_le_0)))))))) (X10_answer_b40_ok hz hd h0 hr)
    · refine ml_aload_n (pc := 31) dX10_answer_31 rfl mm_get_0 ?_
      refine mb_gr (pc := 32) dX10_answer_32 fl_X10_27 hr (fun c1 hr => ?_)
      refine ml_iload_n (pc := 35) dX10_answer_35 rfl (mm_get_s mm_get_0) ?_
      refine mb_ai (pc := 36) dX10_answer_36 hr (fun x2 hr => ?_)
      refine mg_goto (pc := 37) 41 dX10_answer_37 rfl ?_
      exact mg_weak (mm_le_s (mm_le_n (mm_le_s (mm_le_s (mm_le_n (mm_le_n (mm_le_n (mm_le_n mm_le_0)))))))) (X10_answer_b41_ok hz hd h0 hr)
def X10_answer_b19 (e : mm_E) (a0 : Nat) (i1 : Int32) (a2 : Nat) (m : mm_V) : Option (Int32 × mm_V) := X10_answer_b20 e a0 i1 a2 (0 : Int32) m
theorem X10_answer_b19_ok {K : mm_K} {nx : Option Nat} {e : mm_E} (hz : e.2.1 = K.2.2.2.2) {d : Nat} (hd : 1 ≤ d) {a0 : Nat} {i1 : Int32} {a2 : Nat} (h0 : e.1 a0 = some (10, 11)) {m : mm_V} {r : (Int32 × mm_V)} (hr : X10_answer_b19 e a0 i1 a2 m = some r) : mm_G K MX10_answer d (mm_Fi e.1 nx r) 19 [some (.ref a0), some (.int i1), some (.ref a2), none, none, none, none, none] [] (e.1, m) nx 0 0 := by
  obtain ⟨d, rfl⟩ : ∃ d', d = d' + 1 := ⟨d - 1, by omega⟩
  unfold X10_answer_b19 at hr
  refine mg_iconst (pc := 19) dX10_answer_19 kc_0 ?_
  exact mg_weak (mm_le_s (mm_le_s (mm_le_s (mm_le_n (mm_le_n (mm_le_n (mm_le_n (mm_le_n mm_le_0)))))))) (X10_answer_b20_ok hz hd h0 hr)
def X10_answer (e : mm_E) (a0 : Nat) (i1 : Int32) (a2 : Nat) (m : mm_V) : Option (Int32 × mm_V) := if i1 < 0 then (X10_answer_b19 e a0 i1 a2  m) else (if (12 : Int32) ≤ i1 then (X10_answer_b19 e a0 i1 a2  m) else ((mm_gr e.1 m 10 11 a0 3).bind fun c1 => (mm_ai e.1 m 20 c1 i1).bind fun x2 => X10_answer_b20 e a0 i1 a2 x2 m))
theorem X10_answer_ok {K : mm_K} {nx : Option Nat} {e : mm_E} (hz : e.2.1 = K.2.2.2.2) {d : Nat} (hd : 1 ≤ d) {a0 : Nat} {i1 : Int32} {a2 : Nat} (h0 : e.1 a0 = some (10, 11)) {m : mm_V} {r : (Int32 × mm_V)} (hr : X10_answer e a0 i1 a2 m = some r) : mm_Cn K MX10_answer d (mm_Fi e.1 nx r) [.ref a0, .int i1, .ref a2] (e.1, m) nx := by
  obtain ⟨d, rfl⟩ : ∃ d', d = d' + 1 := ⟨d - 1, by omega⟩
  refine mm_entry (by decide) (Nat.le_of_ble_eq_true rfl) rfl (fun hok => ?_)
  unfold X10_answer at hr
  refine mg_weak (L' := [some (.ref a0), some (.int i1), some (.ref a2), none, none, none, none, none]) (mm_le_s (mm_le_s (mm_le_s (mm_le_e (mm_le_e (mm_le_e (mm_le_e (mm_le_e mm_le_0)))))))) ?_
  refine ml_iload_n (pc := 0) dX10_answer_0 rfl (mm_get_s mm_get_0) ?_
  refine mb_if_lt (pc := 1) 19 dX10_answer_1 rfl hr (fun hr => ?_) (fun hr => ?_)
  · exact mg_weak (mm_le_s (mm_le_s (mm_le_s (mm_le_n (mm_le_n (mm_le_n (mm_le_n (mm_le_n mm_le_0)))))))) (X10_answer_b19_ok hz hd h0 hr)
  · refine ml_iload_n (pc := 4) dX10_answer_4 rfl (mm_get_s mm_get_0) ?_
    refine mg_bipush (pc := 5) dX10_answer_5 kb_12 ?_
    refine mb_icmp_ge (pc := 7) 19 dX10_answer_7 rfl hr (fun hr => ?_) (fun hr => ?_)
    · exact mg_weak (mm_le_s (mm_le_s (mm_le_s (mm_le_n (mm_le_n (mm_le_n (mm_le_n (mm_le_n mm_le_0)))))))) (X10_answer_b19_ok hz hd h0 hr)
    · refine ml_aload_n (pc := 10) dX10_answer_10 rfl mm_get_0 ?_
      refine mb_gr (pc := 11) dX10_answer_11 fl_X10_24 hr (fun c1 hr => ?_)
      refine ml_iload_n (pc := 14) dX10_answer_14 rfl (mm_get_s mm_get_0) ?_
      refine mb_ai (pc := 15) dX10_answer_15 hr (fun x2 hr => ?_)
      refine mg_goto (pc := 16) 20 dX10_answer_16 rfl ?_
      exact mg_weak (mm_le_s (mm_le_s (mm_le_s (mm_le_n (mm_le_n (mm_le_n (mm_le_n (mm_le_n mm_le_0)))))))) (X10_answer_b20_ok hz hd h0 hr)
theorem dJ9_floorMod_7cf53_0 : decode cJ9_floorMod_7cf53 0 = .ok (.iload_n 0, 1) := by decide +kernel
theorem dJ9_floorMod_7cf53_1 : decode cJ9_floorMod_7cf53 1 = .ok (.iload_n 1, 1) := by decide +kernel
theorem dJ9_floorMod_7cf53_2 : decode cJ9_floorMod_7cf53 2 = .ok (.irem, 1) := by decide +kernel
theorem dJ9_floorMod_7cf53_3 : decode cJ9_floorMod_7cf53 3 = .ok (.istore_n 2, 1) := by decide +kernel
theorem dJ9_floorMod_7cf53_4 : decode cJ9_floorMod_7cf53 4 = .ok (.iload_n 0, 1) := by decide +kernel
theorem dJ9_floorMod_7cf53_5 : decode cJ9_floorMod_7cf53 5 = .ok (.iload_n 1, 1) := by decide +kernel
theorem dJ9_floorMod_7cf53_6 : decode cJ9_floorMod_7cf53 6 = .ok (.ixor, 1) := by decide +kernel
theorem dJ9_floorMod_7cf53_7 : decode cJ9_floorMod_7cf53 7 = .ok (.ifCond .ge 11, 3) := by decide +kernel
theorem dJ9_floorMod_7cf53_10 : decode cJ9_floorMod_7cf53 10 = .ok (.iload_n 2, 1) := by decide +kernel
theorem dJ9_floorMod_7cf53_11 : decode cJ9_floorMod_7cf53 11 = .ok (.ifCond .eq 7, 3) := by decide +kernel
theorem dJ9_floorMod_7cf53_14 : decode cJ9_floorMod_7cf53 14 = .ok (.iload_n 2, 1) := by decide +kernel
theorem dJ9_floorMod_7cf53_15 : decode cJ9_floorMod_7cf53 15 = .ok (.iload_n 1, 1) := by decide +kernel
theorem dJ9_floorMod_7cf53_16 : decode cJ9_floorMod_7cf53 16 = .ok (.iadd, 1) := by decide +kernel
theorem dJ9_floorMod_7cf53_17 : decode cJ9_floorMod_7cf53 17 = .ok (.ireturn, 1) := by decide +kernel
theorem dJ9_floorMod_7cf53_18 : decode cJ9_floorMod_7cf53 18 = .ok (.iload_n 2, 1) := by decide +kernel
theorem dJ9_floorMod_7cf53_19 : decode cJ9_floorMod_7cf53 19 = .ok (.ireturn, 1) := by decide +kernel
def J9_floorMod_7cf53_b18 (e : mm_E) (i2 : Int32) (m : mm_V) : Option (Int32 × mm_V) := some (i2, m)
theorem J9_floorMod_7cf53_b18_ok {K : mm_K} {nx : Option Nat} {e : mm_E} (hz : e.2.1 = K.2.2.2.2) {d : Nat} (hd : 0 ≤ d) {i2 : Int32} {m : mm_V} {r : (Int32 × mm_V)} (hr : J9_floorMod_7cf53_b18 e i2 m = some r) : mm_G K MJ9_floorMod_7cf53 d (mm_Fi e.1 nx r) 18 [none, none, some (.int i2)] [] (e.1, m) nx 0 0 := by
  unfold J9_floorMod_7cf53_b18 at hr
  refine ml_iload_n (pc := 18) dJ9_floorMod_7cf53_18 rfl (mm_get_s (mm_get_s mm_get_0)) ?_
  exact mb_iret dJ9_floorMod_7cf53_19 rfl hr
def J9_floorMod_7cf53 (e : mm_E) (i0 : Int32) (i1 : Int32) (m : mm_V) : Option (Int32 × mm_V) := if i1 = 0 then none else if 0 ≤ (i0 ^^^ i1) then (J9_floorMod_7cf53_b18 e (i0 - i0 / i1 * i1)  m) else (if (i0 - i0 / i1 * i1) = 0 then (J9_floorMod_7cf53_b18 e (i0 - i0 / i1 * i1)  m) else (some (((i0 - i0 / i1 * i1) + i1), m)))
theorem J9_floorMod_7cf53_ok {K : mm_K} {nx : Option Nat} {e : mm_E} (hz : e.2.1 = K.2.2.2.2) {d : Nat} (hd : 0 ≤ d) {i0 : Int32} {i1 : Int32} {m : mm_V} {r : (Int32 × mm_V)} (hr : J9_floorMod_7cf53 e i0 i1 m = some r) : mm_Cn K MJ9_floorMod_7cf53 d (mm_Fi e.1 nx r) [.int i0, .int i1] (e.1, m) nx := by
  refine mm_entryF (by decide +kernel) (Nat.le_of_ble_eq_true rfl) rfl (fun hok => ?_)
  unfold J9_floorMod_7cf53 at hr
  refine mg_weak (L' := [some (.int i0), some (.int i1), none]) (mm_le_s (mm_le_s (mm_le_e mm_le_0))) ?_
  refine ml_iload_n (pc := 0) dJ9_floorMod_7cf53_0 rfl mm_get_0 ?_
  refine ml_iload_n (pc := 1) dJ9_floorMod_7cf53_1 rfl (mm_get_s mm_get_0) ?_
  refine mb_irem (pc := 2) dJ9_floorMod_7cf53_2 hr (fun hr => ?_)
  refine ml_istore_n (pc := 3) dJ9_floorMod_7cf53_3 rfl (Nat.le_of_ble_eq_true rfl) (mm_st1_s mm_st1_i) ?_
  refine ml_iload_n (pc := 4) dJ9_floorMod_7cf53_4 rfl mm_get_0 ?_
  refine ml_iload_n (pc := 5) dJ9_floorMod_7cf53_5 rfl (mm_get_s mm_get_0) ?_
  refine mg_ixor (pc := 6) dJ9_floorMod_7cf53_6 ?_
  refine mb_if_ge (pc := 7) 18 dJ9_floorMod_7cf53_7 rfl hr (fun hr => ?_) (fun hr => ?_)
  · exact mg_weak (mm_le_n (mm_le_n (mm_le_s mm_le_0))) (J9_floorMod_7cf53_b18_ok hz hd hr)
  · refine ml_iload_n (pc := 10) dJ9_floorMod_7cf53_10 rfl (mm_get_s (mm_get_s mm_get_0)) ?_
    refine mb_if_eq (pc := 11) 18 dJ9_floorMod_7cf53_11 rfl hr (fun hr => ?_) (fun hr => ?_)
    · exact mg_weak (mm_le_n (mm_le_n (mm_le_s mm_le_0))) (J9_floorMod_7cf53_b18_ok hz hd hr)
    · refine ml_iload_n (pc := 14) dJ9_floorMod_7cf53_14 rfl (mm_get_s (mm_get_s mm_get_0)) ?_
      refine ml_iload_n (pc := 15) dJ9_floorMod_7cf53_15 rfl (mm_get_s mm_get_0) ?_
      refine mg_iadd (pc := 16) dJ9_floorMod_7cf53_16 ?_
      exact mb_iret dJ9_floorMod_7cf53_17 rfl hr
theorem dX4_rulePlace_0 : decode cX4_rulePlace 0 = .ok (.aload_n 0, 1) := by decide +kernel
theorem dX4_rulePlace_1 : decode cX4_rulePlace 1 = .ok (.aload_n 0, 1) := by decide +kernel
theorem dX4_rulePlace_2 : decode cX4_rulePlace 2 = .ok (.iload_n 1, 1) := by decide +kernel
theorem dX4_rulePlace_3 : decode cX4_rulePlace 3 = .ok (.invokevirtual 128, 3) := by decide +kernel
theorem dX4_rulePlace_6 : decode cX4_rulePlace 6 = .ok (.invokevirtual 76, 3) := by decide +kernel
theorem dX4_rulePlace_9 : decode cX4_rulePlace 9 = .ok (.getfield 90, 3) := by decide +kernel
theorem dX4_rulePlace_12 : decode cX4_rulePlace 12 = .ok (.istore_n 2, 1) := by decide +kernel
theorem dX4_rulePlace_13 : decode cX4_rulePlace 13 = .ok (.aload_n 0, 1) := by decide +kernel
theorem dX4_rulePlace_14 : decode cX4_rulePlace 14 = .ok (.iload_n 1, 1) := by decide +kernel
theorem dX4_rulePlace_15 : decode cX4_rulePlace 15 = .ok (.iload_n 2, 1) := by decide +kernel
theorem dX4_rulePlace_16 : decode cX4_rulePlace 16 = .ok (.iconst 0, 1) := by decide +kernel
theorem dX4_rulePlace_17 : decode cX4_rulePlace 17 = .ok (.invokevirtual 134, 3) := by decide +kernel
theorem dX4_rulePlace_20 : decode cX4_rulePlace 20 = .ok (.iconst 0, 1) := by decide +kernel
theorem dX4_rulePlace_21 : decode cX4_rulePlace 21 = .ok (.aload_n 0, 1) := by decide +kernel
theorem dX4_rulePlace_22 : decode cX4_rulePlace 22 = .ok (.iload_n 1, 1) := by decide +kernel
theorem dX4_rulePlace_23 : decode cX4_rulePlace 23 = .ok (.invokevirtual 138, 3) := by decide +kernel
theorem dX4_rulePlace_26 : decode cX4_rulePlace 26 = .ok (.iadd, 1) := by decide +kernel
theorem dX4_rulePlace_27 : decode cX4_rulePlace 27 = .ok (.istore_n 3, 1) := by decide +kernel
theorem dX4_rulePlace_28 : decode cX4_rulePlace 28 = .ok (.aload_n 0, 1) := by decide +kernel
theorem dX4_rulePlace_29 : decode cX4_rulePlace 29 = .ok (.getfield 35, 3) := by decide +kernel
theorem dX4_rulePlace_32 : decode cX4_rulePlace 32 = .ok (.iload_n 3, 1) := by decide +kernel
theorem dX4_rulePlace_33 : decode cX4_rulePlace 33 = .ok (.invokevirtual 141, 3) := by decide +kernel
theorem dX4_rulePlace_36 : decode cX4_rulePlace 36 = .ok (.ifCond .eq 18, 3) := by decide +kernel
theorem dX4_rulePlace_39 : decode cX4_rulePlace 39 = .ok (.aload_n 0, 1) := by decide +kernel
theorem dX4_rulePlace_40 : decode cX4_rulePlace 40 = .ok (.getfield 35, 3) := by decide +kernel
theorem dX4_rulePlace_43 : decode cX4_rulePlace 43 = .ok (.iload_n 3, 1) := by decide +kernel
theorem dX4_rulePlace_44 : decode cX4_rulePlace 44 = .ok (.aload_n 0, 1) := by decide +kernel
theorem dX4_rulePlace_45 : decode cX4_rulePlace 45 = .ok (.getfield 29, 3) := by decide +kernel
theorem dX4_rulePlace_48 : decode cX4_rulePlace 48 = .ok (.invokevirtual 144, 3) := by decide +kernel
theorem dX4_rulePlace_51 : decode cX4_rulePlace 51 = .ok (.goto 6, 3) := by decide +kernel
theorem dX4_rulePlace_54 : decode cX4_rulePlace 54 = .ok (.iload_n 2, 1) := by decide +kernel
theorem dX4_rulePlace_55 : decode cX4_rulePlace 55 = .ok (.iconst 2, 1) := by decide +kernel
theorem dX4_rulePlace_56 : decode cX4_rulePlace 56 = .ok (.idiv, 1) := by decide +kernel
theorem dX4_rulePlace_57 : decode cX4_rulePlace 57 = .ok (.istore 4, 2) := by decide +kernel
theorem dX4_rulePlace_59 : decode cX4_rulePlace 59 = .ok (.iload_n 2, 1) := by decide +kernel
theorem dX4_rulePlace_60 : decode cX4_rulePlace 60 = .ok (.ifCond .le 12, 3) := by decide +kernel
theorem dX4_rulePlace_63 : decode cX4_rulePlace 63 = .ok (.iload 4, 2) := by decide +kernel
theorem dX4_rulePlace_65 : decode cX4_rulePlace 65 = .ok (.iload_n 2, 1) := by decide +kernel
theorem dX4_rulePlace_66 : decode cX4_rulePlace 66 = .ok (.invokestatic 148, 3) := by decide +kernel
theorem dX4_rulePlace_69 : decode cX4_rulePlace 69 = .ok (.goto 4, 3) := by decide +kernel
theorem dX4_rulePlace_72 : decode cX4_rulePlace 72 = .ok (.iconst 0, 1) := by decide +kernel
theorem dX4_rulePlace_73 : decode cX4_rulePlace 73 = .ok (.ireturn, 1) := by decide +kernel
def X4_rulePlace_b73 (e : mm_E) (t0 : Int32) (m : mm_V) : Option (Int32 × mm_V) := some (t0, m)
theorem X4_rulePlace_b73_ok {K : mm_K} {nx : Option Nat} {e : mm_E} (hz : e.2.1 = K.2.2.2.2) {d : Nat} (hd : 2 ≤ d) {t0 : Int32} {a0 : Nat} (h0 : e.1 a0 = some (4, 12)) {m : mm_V} {r : (Int32 × mm_V)} (hr : X4_rulePlace_b73 e t0 m = some r) : mm_G K MX4_rulePlace d (mm_Fi e.1 nx r) 73 [none, none, none, none, none] [.int t0] (e.1, m) nx 0 0 := by
  obtain ⟨d, rfl⟩ : ∃ d', d = d' + 1 := ⟨d - 1, by omega⟩
  unfold X4_rulePlace_b73 at hr
  exact mb_iret dX4_rulePlace_73 rfl hr
def X4_rulePlace_b57 (e : mm_E) (i2 : Int32) (t0 : Int32) (m : mm_V) : Option (Int32 × mm_V) := if i2 ≤ 0 then (X4_rulePlace_b73 e  (0 : Int32) m) else ((J9_floorMod_7cf53 e t0 i2 m).bind fun r1 => X4_rulePlace_b73 e  r1.1 r1.2)
theorem X4_rulePlace_b57_ok {K : mm_K} {nx : Option Nat} {e : mm_E} (hz : e.2.1 = K.2.2.2.2) {d : Nat} (hd : 2 ≤ d) {i2 : Int32} {t0 : Int32} {a0 : Nat} (h0 : e.1 a0 = some (4, 12)) {m : mm_V} {r : (Int32 × mm_V)} (hr : X4_rulePlace_b57 e i2 t0 m = some r) : mm_G K MX4_rulePlace d (mm_Fi e.1 nx r) 57 [none, none, some (.int i2), none, none] [.int t0] (e.1, m) nx 0 0 := by
  obtain ⟨d, rfl⟩ : ∃ d', d = d' + 1 := ⟨d - 1, by omega⟩
  unfold X4_rulePlace_b57 at hr
  refine ml_istore (pc := 57) dX4_rulePlace_57 (Nat.le_of_ble_eq_true rfl) (mm_st1_s (mm_st1_s (mm_st1_s mm_st1_n))) ?_
  refine ml_iload_n (pc := 59) dX4_rulePlace_59 rfl (mm_get_s (mm_get_s mm_get_0)) ?_
  refine mb_if_le (pc := 60) 72 dX4_rulePlace_60 rfl hr (fun hr => ?_) (fun hr => ?_)
  · refine mg_iconst (pc := 72) dX4_rulePlace_72 kc_0 ?_
    exact mg_weak (mm_le_n (mm_le_n (mm_le_n (mm_le_n (mm_le_n mm_le_0))))) (X4_rulePlace_b73_ok hz hd h0 hr)
  · refine ml_iload (pc := 63) dX4_rulePlace_63 (mm_get_s (mm_get_s (mm_get_s (mm_get_s mm_get_0)))) ?_
    refine ml_iload_n (pc := 65) dX4_rulePlace_65 rfl (mm_get_s (mm_get_s mm_get_0)) ?_
    refine mb_cSi (pc := 66) (As := [.int t0, .int i2]) (rest := []) dX4_rulePlace_66 cw_X4_148  hr (fun v hv => J9_floorMod_7cf53_ok hz (by omega)  hv) rfl (Nat.le_of_ble_eq_true rfl) (Nat.zero_le _) (Nat.zero_le _) (fun r1 hr => ?_)
    refine mg_goto (pc := 69) 73 dX4_rulePlace_69 rfl ?_
    exact mg_weak (mm_le_n (mm_le_n (mm_le_n (mm_le_n (mm_le_n mm_le_0))))) (X4_rulePlace_b73_ok hz hd h0 hr)
def X4_rulePlace (e : mm_E) (a0 : Nat) (i1 : Int32) (m : mm_V) : Option (Int32 × mm_V) := (X4_source e a0 i1 m).bind fun r1 => (X4_fanAt e a0 r1.1 r1.2).bind fun r2 => (mm_gi e.1 r2.2 3 2 r2.1 1).bind fun x3 => (X4_see e a0 i1 x3 (0 : Int32) r2.2).bind fun r4 => (X4_sitterAt e a0 i1 r4).bind fun r5 => (mm_gr e.1 r5.2 4 12 a0 6).bind fun c6 => if e.1 c6 = some (10, 11) then ((X10_hasRule e c6 ((0 : Int32) + r5.1) r5.2).bind fun r7 => if r7.1 = 0 then (X4_rulePlace_b57 e x3 (x3 / (2 : Int32)) r7.2) else ((mm_gr e.1 r7.2 4 12 a0 6).bind fun c9 => (mm_gr e.1 r7.2 4 12 a0 4).bind fun c10 => if e.1 c9 = some (10, 11) then ((X10_answer e c9 ((0 : Int32) + r5.1) c10 r7.2).bind fun r11 => X4_rulePlace_b57 e x3 r11.1 r11.2) else none)) else none
theorem X4_rulePlace_ok {K : mm_K} {nx : Option Nat} {e : mm_E} (hz : e.2.1 = K.2.2.2.2) {d : Nat} (hd : 2 ≤ d) {a0 : Nat} {i1 : Int32} (h0 : e.1 a0 = some (4, 12)) {m : mm_V} {r : (Int32 × mm_V)} (hr : X4_rulePlace e a0 i1 m = some r) : mm_Cn K MX4_rulePlace d (mm_Fi e.1 nx r) [.ref a0, .int i1] (e.1, m) nx := by
  obtain ⟨d, rfl⟩ : ∃ d', d = d' + 1 := ⟨d - 1, by omega⟩
  refine mm_entry (by decide) (Nat.le_of_ble_eq_true rfl) rfl (fun hok => ?_)
  unfold X4_rulePlace at hr
  refine mg_weak (L' := [some (.ref a0), some (.int i1), none, none, none]) (mm_le_s (mm_le_s (mm_le_e (mm_le_e (mm_le_e mm_le_0))))) ?_
  refine ml_aload_n (pc := 0) dX4_rulePlace_0 rfl mm_get_0 ?_
  refine ml_aload_n (pc := 1) dX4_rulePlace_1 rfl mm_get_0 ?_
  refine ml_iload_n (pc := 2) dX4_rulePlace_2 rfl (mm_get_s mm_get_0) ?_
  refine mb_cVi (pc := 3) (As := [.int i1]) (rest := [.ref a0]) dX4_rulePlace_3 cw_X4_128 h0 hr (fun v hv => X4_source_ok hz (by omega) h0 hv) rfl (Nat.le_of_ble_eq_true rfl) (Nat.zero_le _) (Nat.zero_le _) (fun r1 hr => ?_)
  refine mb_cVr (pc := 6) (As := [.int r1.1]) (rest := []) dX4_rulePlace_6 cw_X4_76 h0 hr (fun v hv => X4_fanAt_ok hz (by omega) h0 hv) rfl (Nat.le_of_ble_eq_true rfl) (Nat.zero_le _) (Nat.zero_le _) (fun r2 hr => ?_)
  refine mb_gi (pc := 9) dX4_rulePlace_9 fl_X4_90 hr (fun x3 hr => ?_)
  refine ml_istore_n (pc := 12) dX4_rulePlace_12 rfl (Nat.le_of_ble_eq_true rfl) (mm_st1_s mm_st1_i) ?_
  refine ml_aload_n (pc := 13) dX4_rulePlace_13 rfl mm_get_0 ?_
  refine ml_iload_n (pc := 14) dX4_rulePlace_14 rfl (mm_get_s mm_get_0) ?_
  refine ml_iload_n (pc := 15) dX4_rulePlace_15 rfl (mm_get_s (mm_get_s mm_get_0)) ?_
  refine mg_iconst (pc := 16) dX4_rulePlace_16 kc_0 ?_
  refine mb_cVv (pc := 17) (As := [.int i1, .int x3, .int (0 : Int32)]) (rest := []) dX4_rulePlace_17 cw_X4_134 h0 hr (fun v hv => X4_see_ok hz (by omega) h0 hv) rfl (Nat.le_of_ble_eq_true rfl) (Nat.zero_le _) (Nat.zero_le _) (fun r4 hr => ?_)
  refine mg_iconst (pc := 20) dX4_rulePlace_20 kc_0 ?_
  refine ml_aload_n (pc := 21) dX4_rulePlace_21 rfl mm_get_0 ?_
  refine ml_iload_n (pc := 22) dX4_rulePlace_22 rfl (mm_get_s mm_get_0) ?_
  refine mb_cVi (pc := 23) (As := [.int i1]) (rest := [.int (0 : Int32)]) dX4_rulePlace_23 cw_X4_138 h0 hr (fun v hv => X4_sitterAt_ok hz (by omega) h0 hv) rfl (Nat.le_of_ble_eq_true rfl) (Nat.zero_le _) (Nat.zero_le _) (fun r5 hr => ?_)
  refine mg_iadd (pc := 26) dX4_rulePlace_26 ?_
  refine ml_istore_n (pc := 27) dX4_rulePlace_27 rfl (Nat.le_of_ble_eq_true rfl) (mm_st1_s (mm_st1_s mm_st1_i)) ?_
  refine ml_aload_n (pc := 28) dX4_rulePlace_28 rfl mm_get_0 ?_
  refine mb_gr (pc := 29) dX4_rulePlace_29 fl_X4_35 hr (fun c6 hr => ?_)
  refine ml_iload_n (pc := 32) dX4_rulePlace_32 rfl (mm_get_s (mm_get_s (mm_get_s mm_get_0))) ?_
  refine mb_ck hr (fun hb8 hr => ?_)
  refine mb_cVi (pc := 33) (As := [.int ((0 : Int32) + r5.1)]) (rest := []) dX4_rulePlace_33 cw_X4_141 hb8 hr (fun v hv => X10_hasRule_ok hz (by omega) hb8 hv) rfl (Nat.le_of_ble_eq_true rfl) (Nat.zero_le _) (Nat.zero_le _) (fun r7 hr => ?_)
  refine mb_if_eq (pc := 36) 54 dX4_rulePlace_36 rfl hr (fun hr => ?_) (fun hr => ?_)
  · refine ml_iload_n (pc := 54) dX4_rulePlace_54 rfl (mm_get_s (mm_get_s mm_get_0)) ?_
    refine mg_iconst (pc := 55) dX4_rulePlace_55 kc_2 ?_
    refine mg_idiv (pc := 56) dX4_rulePlace_56 (by decide) ?_
    exact mg_weak (mm_le_n (mm_le_n (mm_le_s (mm_le_n (mm_le_n mm_le_0))))) (X4_rulePlace_b57_ok hz hd h0 hr)
  · refine ml_aload_n (pc := 39) dX4_rulePlace_39 rfl mm_get_0 ?_
    refine mb_gr (pc := 40) dX4_rulePlace_40 fl_X4_35 hr (fun c9 hr => ?_)
    refine ml_iload_n (pc := 43) dX4_rulePlace_43 rfl (mm_get_s (mm_get_s (mm_get_s mm_get_0))) ?_
    refine ml_aload_n (pc := 44) dX4_rulePlace_44 rfl mm_get_0 ?_
    refine mb_gr (pc := 45) dX4_rulePlace_45 fl_X4_29 hr (fun c10 hr => ?_)
    refine mb_ck hr (fun hb12 hr => ?_)
    refine mb_cVi (pc := 48) (As := [.int ((0 : Int32) + r5.1), .ref c10]) (rest := []) dX4_rulePlace_48 cw_X4_144 hb12 hr (fun v hv => X10_answer_ok hz (by omega) hb12 hv) rfl (Nat.le_of_ble_eq_true rfl) (Nat.zero_le _) (Nat.zero_le _) (fun r11 hr => ?_)
    refine mg_goto (pc := 51) 57 dX4_rulePlace_51 rfl ?_
    exact mg_weak (mm_le_n (mm_le_n (mm_le_s (mm_le_n (mm_le_n mm_le_0))))) (X4_rulePlace_b57_ok hz hd h0 hr)
theorem dX4_placeNow_0 : decode cX4_placeNow 0 = .ok (.aload_n 0, 1) := by decide +kernel
theorem dX4_placeNow_1 : decode cX4_placeNow 1 = .ok (.getfield 43, 3) := by decide +kernel
theorem dX4_placeNow_4 : decode cX4_placeNow 4 = .ok (.ifCond .eq 25, 3) := by decide +kernel
theorem dX4_placeNow_7 : decode cX4_placeNow 7 = .ok (.aload_n 0, 1) := by decide +kernel
theorem dX4_placeNow_8 : decode cX4_placeNow 8 = .ok (.aload_n 0, 1) := by decide +kernel
theorem dX4_placeNow_9 : decode cX4_placeNow 9 = .ok (.aload_n 0, 1) := by decide +kernel
theorem dX4_placeNow_10 : decode cX4_placeNow 10 = .ok (.aload_n 0, 1) := by decide +kernel
theorem dX4_placeNow_11 : decode cX4_placeNow 11 = .ok (.getfield 117, 3) := by decide +kernel
theorem dX4_placeNow_14 : decode cX4_placeNow 14 = .ok (.invokevirtual 128, 3) := by decide +kernel
theorem dX4_placeNow_17 : decode cX4_placeNow 17 = .ok (.invokevirtual 76, 3) := by decide +kernel
theorem dX4_placeNow_20 : decode cX4_placeNow 20 = .ok (.getfield 90, 3) := by decide +kernel
theorem dX4_placeNow_23 : decode cX4_placeNow 23 = .ok (.invokevirtual 72, 3) := by decide +kernel
theorem dX4_placeNow_26 : decode cX4_placeNow 26 = .ok (.goto 11, 3) := by decide +kernel
theorem dX4_placeNow_29 : decode cX4_placeNow 29 = .ok (.aload_n 0, 1) := by decide +kernel
theorem dX4_placeNow_30 : decode cX4_placeNow 30 = .ok (.aload_n 0, 1) := by decide +kernel
theorem dX4_placeNow_31 : decode cX4_placeNow 31 = .ok (.getfield 117, 3) := by decide +kernel
theorem dX4_placeNow_34 : decode cX4_placeNow 34 = .ok (.invokevirtual 131, 3) := by decide +kernel
theorem dX4_placeNow_37 : decode cX4_placeNow 37 = .ok (.ireturn, 1) := by decide +kernel
def X4_placeNow_b37 (e : mm_E) (t0 : Int32) (m : mm_V) : Option (Int32 × mm_V) := some (t0, m)
theorem X4_placeNow_b37_ok {K : mm_K} {nx : Option Nat} {e : mm_E} (hz : e.2.1 = K.2.2.2.2) {d : Nat} (hd : 3 ≤ d) {t0 : Int32} {a0 : Nat} (h0 : e.1 a0 = some (4, 12)) {m : mm_V} {r : (Int32 × mm_V)} (hr : X4_placeNow_b37 e t0 m = some r) : mm_G K MX4_placeNow d (mm_Fi e.1 nx r) 37 [none] [.int t0] (e.1, m) nx 0 0 := by
  obtain ⟨d, rfl⟩ : ∃ d', d = d' + 1 := ⟨d - 1, by omega⟩
  unfold X4_placeNow_b37 at hr
  exact mb_iret dX4_placeNow_37 rfl hr
def X4_placeNow (e : mm_E) (a0 : Nat) (m : mm_V) : Option (Int32 × mm_V) := (mm_gi e.1 m 4 12 a0 8).bind fun x1 => if x1 = 0 then ((mm_gi e.1 m 4 12 a0 10).bind fun x2 => (X4_rulePlace e a0 x2 m).bind fun r3 => X4_placeNow_b37 e  r3.1 r3.2) else ((mm_gi e.1 m 4 12 a0 10).bind fun x4 => (X4_source e a0 x4 m).bind fun r5 => (X4_fanAt e a0 r5.1 r5.2).bind fun r6 => (mm_gi e.1 r6.2 3 2 r6.1 1).bind fun x7 => (X4_drawOf e a0 x7 r6.2).bind fun r8 => X4_placeNow_b37 e  r8.1 r8.2)
theorem X4_placeNow_ok {K : mm_K} {nx : Option Nat} {e : mm_E} (hz : e.2.1 = K.2.2.2.2) {d : Nat} (hd : 3 ≤ d) {a0 : Nat} (h0 : e.1 a0 = some (4, 12)) {m : mm_V} {r : (Int32 × mm_V)} (hr : X4_placeNow e a0 m = some r) : mm_Cn K MX4_placeNow d (mm_Fi e.1 nx r) [.ref a0] (e.1, m) nx := by
  obtain ⟨d, rfl⟩ : ∃ d', d = d' + 1 := ⟨d - 1, by omega⟩
  refine mm_entry (by decide) (Nat.le_of_ble_eq_true rfl) rfl (fun hok => ?_)
  unfold X4_placeNow at hr
  refine mg_weak (L' := [some (.ref a0)]) (mm_le_s mm_le_0) ?_
  refine ml_aload_n (pc := 0) dX4_placeNow_0 rfl mm_get_0 ?_
  refine mb_gi (pc := 1) dX4_placeNow_1 fl_X4_43 hr (fun x1 hr => ?_)
  refine mb_if_eq (pc := 4) 29 dX4_placeNow_4 rfl hr (fun hr => ?_) (fun hr => ?_)
  · refine ml_aload_n (pc := 29) dX4_placeNow_29 rfl mm_get_0 ?_
    refine ml_aload_n (pc := 30) dX4_placeNow_30 rfl mm_get_0 ?_
    refine mb_gi (pc := 31) dX4_placeNow_31 fl_X4_117 hr (fun x2 hr => ?_)
    refine mb_cVi (pc := 34) (As := [.int x2]) (rest := []) dX4_placeNow_34 cw_X4_131 h0 hr (fun v hv => X4_rulePlace_ok hz (by omega) h0 hv) rfl (Nat.le_of_ble_eq_true rfl) (Nat.zero_le _) (Nat.zero_le _) (fun r3 hr => ?_)
    exact mg_weak (mm_le_n mm_le_0) (X4_placeNow_b37_ok hz hd h0 hr)
  · refine ml_aload_n (pc := 7) dX4_placeNow_7 rfl mm_get_0 ?_
    refine ml_aload_n (pc := 8) dX4_placeNow_8 rfl mm_get_0 ?_
    refine ml_aload_n (pc := 9) dX4_placeNow_9 rfl mm_get_0 ?_
    refine ml_aload_n (pc := 10) dX4_placeNow_10 rfl mm_get_0 ?_
    refine mb_gi (pc := 11) dX4_placeNow_11 fl_X4_117 hr (fun x4 hr => ?_)
    refine mb_cVi (pc := 14) (As := [.int x4]) (rest := [.ref a0, .ref a0]) dX4_placeNow_14 cw_X4_128 h0 hr (fun v hv => X4_source_ok hz (by omega) h0 hv) rfl (Nat.le_of_ble_eq_true rfl) (Nat.zero_le _) (Nat.zero_le _) (fun r5 hr => ?_)
    refine mb_cVr (pc := 17) (As := [.int r5.1]) (rest := [.ref a0]) dX4_placeNow_17 cw_X4_76 h0 hr (fun v hv => X4_fanAt_ok hz (by omega) h0 hv) rfl (Nat.le_of_ble_eq_true rfl) (Nat.zero_le _) (Nat.zero_le _) (fun r6 hr => ?_)
    refine mb_gi (pc := 20) dX4_placeNow_20 fl_X4_90 hr (fun x7 hr => ?_)
    refine mb_cVi (pc := 23) (As := [.int x7]) (rest := []) dX4_placeNow_23 cw_X4_72 h0 hr (fun v hv => X4_drawOf_ok hz (by omega) h0 hv) rfl (Nat.le_of_ble_eq_true rfl) (Nat.zero_le _) (Nat.zero_le _) (fun r8 hr => ?_)
    refine mg_goto (pc := 26) 37 dX4_placeNow_26 rfl ?_
    exact mg_weak (mm_le_n mm_le_0) (X4_placeNow_b37_ok hz hd h0 hr)
theorem dX4_holdPlace_0 : decode cX4_holdPlace 0 = .ok (.aload_n 0, 1) := by decide +kernel
theorem dX4_holdPlace_1 : decode cX4_holdPlace 1 = .ok (.iload_n 1, 1) := by decide +kernel
theorem dX4_holdPlace_2 : decode cX4_holdPlace 2 = .ok (.invokevirtual 76, 3) := by decide +kernel
theorem dX4_holdPlace_5 : decode cX4_holdPlace 5 = .ok (.getfield 90, 3) := by decide +kernel
theorem dX4_holdPlace_8 : decode cX4_holdPlace 8 = .ok (.istore_n 3, 1) := by decide +kernel
theorem dX4_holdPlace_9 : decode cX4_holdPlace 9 = .ok (.aload_n 0, 1) := by decide +kernel
theorem dX4_holdPlace_10 : decode cX4_holdPlace 10 = .ok (.iload_n 1, 1) := by decide +kernel
theorem dX4_holdPlace_11 : decode cX4_holdPlace 11 = .ok (.iload_n 3, 1) := by decide +kernel
theorem dX4_holdPlace_12 : decode cX4_holdPlace 12 = .ok (.iload_n 2, 1) := by decide +kernel
theorem dX4_holdPlace_13 : decode cX4_holdPlace 13 = .ok (.invokevirtual 134, 3) := by decide +kernel
theorem dX4_holdPlace_16 : decode cX4_holdPlace 16 = .ok (.bipush 6, 2) := by decide +kernel
theorem dX4_holdPlace_18 : decode cX4_holdPlace 18 = .ok (.aload_n 0, 1) := by decide +kernel
theorem dX4_holdPlace_19 : decode cX4_holdPlace 19 = .ok (.iload_n 1, 1) := by decide +kernel
theorem dX4_holdPlace_20 : decode cX4_holdPlace 20 = .ok (.invokevirtual 138, 3) := by decide +kernel
theorem dX4_holdPlace_23 : decode cX4_holdPlace 23 = .ok (.iadd, 1) := by decide +kernel
theorem dX4_holdPlace_24 : decode cX4_holdPlace 24 = .ok (.istore 4, 2) := by decide +kernel
theorem dX4_holdPlace_26 : decode cX4_holdPlace 26 = .ok (.aload_n 0, 1) := by decide +kernel
theorem dX4_holdPlace_27 : decode cX4_holdPlace 27 = .ok (.getfield 35, 3) := by decide +kernel
theorem dX4_holdPlace_30 : decode cX4_holdPlace 30 = .ok (.iload 4, 2) := by decide +kernel
theorem dX4_holdPlace_32 : decode cX4_holdPlace 32 = .ok (.invokevirtual 141, 3) := by decide +kernel
theorem dX4_holdPlace_35 : decode cX4_holdPlace 35 = .ok (.ifCond .eq 19, 3) := by decide +kernel
theorem dX4_holdPlace_38 : decode cX4_holdPlace 38 = .ok (.aload_n 0, 1) := by decide +kernel
theorem dX4_holdPlace_39 : decode cX4_holdPlace 39 = .ok (.getfield 35, 3) := by decide +kernel
theorem dX4_holdPlace_42 : decode cX4_holdPlace 42 = .ok (.iload 4, 2) := by decide +kernel
theorem dX4_holdPlace_44 : decode cX4_holdPlace 44 = .ok (.aload_n 0, 1) := by decide +kernel
theorem dX4_holdPlace_45 : decode cX4_holdPlace 45 = .ok (.getfield 29, 3) := by decide +kernel
theorem dX4_holdPlace_48 : decode cX4_holdPlace 48 = .ok (.invokevirtual 144, 3) := by decide +kernel
theorem dX4_holdPlace_51 : decode cX4_holdPlace 51 = .ok (.goto 4, 3) := by decide +kernel
theorem dX4_holdPlace_54 : decode cX4_holdPlace 54 = .ok (.iload_n 3, 1) := by decide +kernel
theorem dX4_holdPlace_55 : decode cX4_holdPlace 55 = .ok (.istore 5, 2) := by decide +kernel
theorem dX4_holdPlace_57 : decode cX4_holdPlace 57 = .ok (.iload_n 3, 1) := by decide +kernel
theorem dX4_holdPlace_58 : decode cX4_holdPlace 58 = .ok (.ifCond .lt 14, 3) := by decide +kernel
theorem dX4_holdPlace_61 : decode cX4_holdPlace 61 = .ok (.iload 5, 2) := by decide +kernel
theorem dX4_holdPlace_63 : decode cX4_holdPlace 63 = .ok (.iload_n 3, 1) := by decide +kernel
theorem dX4_holdPlace_64 : decode cX4_holdPlace 64 = .ok (.iconst 1, 1) := by decide +kernel
theorem dX4_holdPlace_65 : decode cX4_holdPlace 65 = .ok (.iadd, 1) := by decide +kernel
theorem dX4_holdPlace_66 : decode cX4_holdPlace 66 = .ok (.invokestatic 148, 3) := by decide +kernel
theorem dX4_holdPlace_69 : decode cX4_holdPlace 69 = .ok (.goto 4, 3) := by decide +kernel
theorem dX4_holdPlace_72 : decode cX4_holdPlace 72 = .ok (.iconst 0, 1) := by decide +kernel
theorem dX4_holdPlace_73 : decode cX4_holdPlace 73 = .ok (.ireturn, 1) := by decide +kernel
def X4_holdPlace_b73 (e : mm_E) (t0 : Int32) (m : mm_V) : Option (Int32 × mm_V) := some (t0, m)
theorem X4_holdPlace_b73_ok {K : mm_K} {nx : Option Nat} {e : mm_E} (hz : e.2.1 = K.2.2.2.2) {d : Nat} (hd : 2 ≤ d) {t0 : Int32} {a0 : Nat} (h0 : e.1 a0 = some (4, 12)) {m : mm_V} {r : (Int32 × mm_V)} (hr : X4_holdPlace_b73 e t0 m = some r) : mm_G K MX4_holdPlace d (mm_Fi e.1 nx r) 73 [none, none, none, none, none, none] [.int t0] (e.1, m) nx 0 0 := by
  obtain ⟨d, rfl⟩ : ∃ d', d = d' + 1 := ⟨d - 1, by omega⟩
  unfold X4_holdPlace_b73 at hr
  exact mb_iret dX4_holdPlace_73 rfl hr
def X4_holdPlace_b55 (e : mm_E) (i3 : Int32) (t0 : Int32) (m : mm_V) : Option (Int32 × mm_V) := if i3 < 0 then (X4_holdPlace_b73 e  (0 : Int32) m) else ((J9_floorMod_7cf53 e t0 (i3 + (1 : Int32)) m).bind fun r1 => X4_holdPlace_b73 e  r1.1 r1.2)
theorem X4_holdPlace_b55_ok {K : mm_K} {nx : Option Nat} {e : mm_E} (hz : e.2.1 = K.2.2.2.2) {d : Nat} (hd : 2 ≤ d) {i3 : Int32} {t0 : Int32} {a0 : Nat} (h0 : e.1 a0 = some (4, 12)) {m : mm_V} {r : (Int32 × mm_V)} (hr : X4_holdPlace_b55 e i3 t0 m = some r) : mm_G K MX4_holdPlace d (mm_Fi e.1 nx r) 55 [none, none, none, some (.int i3), none, none] [.int t0] (e.1, m) nx 0 0 := by
  obtain ⟨d, rfl⟩ : ∃ d', d = d' + 1 := ⟨d - 1, by omega⟩
  unfold X4_holdPlace_b55 at hr
  refine ml_istore (pc := 55) dX4_holdPlace_55 (Nat.le_of_ble_eq_true rfl) (mm_st1_s (mm_st1_s (mm_st1_s (mm_st1_s mm_st1_n)))) ?_
  refine ml_iload_n (pc := 57) dX4_holdPlace_57 rfl (mm_get_s (mm_get_s (mm_get_s mm_get_0))) ?_
  refine mb_if_lt (pc := 58) 72 dX4_holdPlace_58 rfl hr (fun hr => ?_) (fun hr => ?_)
  · refine mg_iconst (pc := 72) dX4_holdPlace_72 kc_0 ?_
    exact mg_weak (mm_le_n (mm_le_n (mm_le_n (mm_le_n (mm_le_n (mm_le_n mm_le_0)))))) (X4_holdPlace_b73_ok hz hd h0 hr)
  · refine ml_iload (pc := 61) dX4_holdPlace_61 (mm_get_s (mm_get_s (mm_get_s (mm_get_s (mm_get_s mm_get_0))))) ?_
    refine ml_iload_n (pc := 63) dX4_holdPlace_63 rfl (mm_get_s (mm_get_s (mm_get_s mm_get_0))) ?_
    refine mg_iconst (pc := 64) dX4_holdPlace_64 kc_1 ?_
    refine mg_iadd (pc := 65) dX4_holdPlace_65 ?_
    refine mb_cSi (pc := 66) (As := [.int t0, .int (i3 + (1 : Int32))]) (rest := []) dX4_holdPlace_66 cw_X4_148  hr (fun v hv => J9_floorMod_7cf53_ok hz (by omega)  hv) rfl (Nat.le_of_ble_eq_true rfl) (Nat.zero_le _) (Nat.zero_le _) (fun r1 hr => ?_)
    refine mg_goto (pc := 69) 73 dX4_holdPlace_69 rfl ?_
    exact mg_weak (mm_le_n (mm_le_n (mm_le_n (mm_le_n (mm_le_n (mm_le_n mm_le_0)))))) (X4_holdPlace_b73_ok hz hd h0 hr)
def X4_holdPlace (e : mm_E) (a0 : Nat) (i1 : Int32) (i2 : Int32) (m : mm_V) : Option (Int32 × mm_V) := (X4_fanAt e a0 i1 m).bind fun r1 => (mm_gi e.1 r1.2 3 2 r1.1 1).bind fun x2 => (X4_see e a0 i1 x2 i2 r1.2).bind fun r3 => (X4_sitterAt e a0 i1 r3).bind fun r4 => (mm_gr e.1 r4.2 4 12 a0 6).bind fun c5 => if e.1 c5 = some (10, 11) then ((X10_hasRule e c5 ((6 : Int32) + r4.1) r4.2).bind fun r6 => if r6.1 = 0 then (X4_holdPlace_b55 e x2 x2 r6.2) else ((mm_gr e.1 r6.2 4 12 a0 6).bind fun c8 => (mm_gr e.1 r6.2 4 12 a0 4).bind fun c9 => if e.1 c8 = some (10, 11) then ((X10_answer e c8 ((6 : Int32) + r4.1) c9 r6.2).bind fun r10 => X4_holdPlace_b55 e x2 r10.1 r10.2) else none)) else none
theorem X4_holdPlace_ok {K : mm_K} {nx : Option Nat} {e : mm_E} (hz : e.2.1 = K.2.2.2.2) {d : Nat} (hd : 2 ≤ d) {a0 : Nat} {i1 : Int32} {i2 : Int32} (h0 : e.1 a0 = some (4, 12)) {m : mm_V} {r : (Int32 × mm_V)} (hr : X4_holdPlace e a0 i1 i2 m = some r) : mm_Cn K MX4_holdPlace d (mm_Fi e.1 nx r) [.ref a0, .int i1, .int i2] (e.1, m) nx := by
  obtain ⟨d, rfl⟩ : ∃ d', d = d' + 1 := ⟨d - 1, by omega⟩
  refine mm_entry (by decide) (Nat.le_of_ble_eq_true rfl) rfl (fun hok => ?_)
  unfold X4_holdPlace at hr
  refine mg_weak (L' := [some (.ref a0), some (.int i1), some (.int i2), none, none, none]) (mm_le_s (mm_le_s (mm_le_s (mm_le_e (mm_le_e (mm_le_e mm_le_0)))))) ?_
  refine ml_aload_n (pc := 0) dX4_holdPlace_0 rfl mm_get_0 ?_
  refine ml_iload_n (pc := 1) dX4_holdPlace_1 rfl (mm_get_s mm_get_0) ?_
  refine mb_cVr (pc := 2) (As := [.int i1]) (rest := []) dX4_holdPlace_2 cw_X4_76 h0 hr (fun v hv => X4_fanAt_ok hz (by omega) h0 hv) rfl (Nat.le_of_ble_eq_true rfl) (Nat.zero_le _) (Nat.zero_le _) (fun r1 hr => ?_)
  refine mb_gi (pc := 5) dX4_holdPlace_5 fl_X4_90 hr (fun x2 hr => ?_)
  refine ml_istore_n (pc := 8) dX4_holdPlace_8 rfl (Nat.le_of_ble_eq_true rfl) (mm_st1_s (mm_st1_s mm_st1_i)) ?_
  refine ml_aload_n (pc := 9) dX4_holdPlace_9 rfl mm_get_0 ?_
  refine ml_iload_n (pc := 10) dX4_holdPlace_10 rfl (mm_get_s mm_get_0) ?_
  refine ml_iload_n (pc := 11) dX4_holdPlace_11 rfl (mm_get_s (mm_get_s (mm_get_s mm_get_0))) ?_
  refine ml_iload_n (pc := 12) dX4_holdPlace_12 rfl (mm_get_s (mm_get_s mm_get_0)) ?_
  refine mb_cVv (pc := 13) (As := [.int i1, .int x2, .int i2]) (rest := []) dX4_holdPlace_13 cw_X4_134 h0 hr (fun v hv => X4_see_ok hz (by omega) h0 hv) rfl (Nat.le_of_ble_eq_true rfl) (Nat.zero_le _) (Nat.zero_le _) (fun r3 hr => ?_)
  refine mg_bipush (pc := 16) dX4_holdPlace_16 kb_6 ?_
  refine ml_aload_n (pc := 18) dX4_holdPlace_18 rfl mm_get_0 ?_
  refine ml_iload_n (pc := 19) dX4_holdPlace_19 rfl (mm_get_s mm_get_0) ?_
  refine mb_cVi (pc := 20) (As := [.int i1]) (rest := [.int (6 : Int32)]) dX4_holdPlace_20 cw_X4_138 h0 hr (fun v hv => X4_sitterAt_ok hz (by omega) h0 hv) rfl (Nat.le_of_ble_eq_true rfl) (Nat.zero_le _) (Nat.zero_le _) (fun r4 hr => ?_)
  refine mg_iadd (pc := 23) dX4_holdPlace_23 ?_
  refine ml_istore (pc := 24) dX4_holdPlace_24 (Nat.le_of_ble_eq_true rfl) (mm_st1_s (mm_st1_s (mm_st1_s mm_st1_i))) ?_
  refine ml_aload_n (pc := 26) dX4_holdPlace_26 rfl mm_get_0 ?_
  refine mb_gr (pc := 27) dX4_holdPlace_27 fl_X4_35 hr (fun c5 hr => ?_)
  refine ml_iload (pc := 30) dX4_holdPlace_30 (mm_get_s (mm_get_s (mm_get_s (mm_get_s mm_get_0)))) ?_
  refine mb_ck hr (fun hb7 hr => ?_)
  refine mb_cVi (pc := 32) (As := [.int ((6 : Int32) + r4.1)]) (rest := []) dX4_holdPlace_32 cw_X4_141 hb7 hr (fun v hv => X10_hasRule_ok hz (by omega) hb7 hv) rfl (Nat.le_of_ble_eq_true rfl) (Nat.zero_le _) (Nat.zero_le _) (fun r6 hr => ?_)
  refine mb_if_eq (pc := 35) 54 dX4_holdPlace_35 rfl hr (fun hr => ?_) (fun hr => ?_)
  · refine ml_iload_n (pc := 54) dX4_holdPlace_54 rfl (mm_get_s (mm_get_s (mm_get_s mm_get_0))) ?_
    exact mg_weak (mm_le_n (mm_le_n (mm_le_n (mm_le_s (mm_le_n (mm_le_n mm_le_0)))))) (X4_holdPlace_b55_ok hz hd h0 hr)
  · refine ml_aload_n (pc := 38) dX4_holdPlace_38 rfl mm_get_0 ?_
    refine mb_gr (pc := 39) dX4_holdPlace_39 fl_X4_35 hr (fun c8 hr => ?_)
    refine ml_iload (pc := 42) dX4_holdPlace_42 (mm_get_s (mm_get_s (mm_get_s (mm_get_s mm_get_0)))) ?_
    refine ml_aload_n (pc := 44) dX4_holdPlace_44 rfl mm_get_0 ?_
    refine mb_gr (pc := 45) dX4_holdPlace_45 fl_X4_29 hr (fun c9 hr => ?_)
    refine mb_ck hr (fun hb11 hr => ?_)
    refine mb_cVi (pc := 48) (As := [.int ((6 : Int32) + r4.1), .ref c9]) (rest := []) dX4_holdPlace_48 cw_X4_144 hb11 hr (fun v hv => X10_answer_ok hz (by omega) hb11 hv) rfl (Nat.le_of_ble_eq_true rfl) (Nat.zero_le _) (Nat.zero_le _) (fun r10 hr => ?_)
    refine mg_goto (pc := 51) 55 dX4_holdPlace_51 rfl ?_
    exact mg_weak (mm_le_n (mm_le_n (mm_le_n (mm_le_s (mm_le_n (mm_le_n mm_le_0)))))) (X4_holdPlace_b55_ok hz hd h0 hr)
theorem dX4_step_0 : decode cX4_step 0 = .ok (.aload_n 0, 1) := by decide +kernel
theorem dX4_step_1 : decode cX4_step 1 = .ok (.aload_n 0, 1) := by decide +kernel
theorem dX4_step_2 : decode cX4_step 2 = .ok (.getfield 117, 3) := by decide +kernel
theorem dX4_step_5 : decode cX4_step 5 = .ok (.invokevirtual 76, 3) := by decide +kernel
theorem dX4_step_8 : decode cX4_step 8 = .ok (.astore_n 3, 1) := by decide +kernel
theorem dX4_step_9 : decode cX4_step 9 = .ok (.aload_n 0, 1) := by decide +kernel
theorem dX4_step_10 : decode cX4_step 10 = .ok (.aload_n 0, 1) := by decide +kernel
theorem dX4_step_11 : decode cX4_step 11 = .ok (.aload_n 0, 1) := by decide +kernel
theorem dX4_step_12 : decode cX4_step 12 = .ok (.getfield 117, 3) := by decide +kernel
theorem dX4_step_15 : decode cX4_step 15 = .ok (.invokevirtual 128, 3) := by decide +kernel
theorem dX4_step_18 : decode cX4_step 18 = .ok (.invokevirtual 76, 3) := by decide +kernel
theorem dX4_step_21 : decode cX4_step 21 = .ok (.astore 4, 2) := by decide +kernel
theorem dX4_step_23 : decode cX4_step 23 = .ok (.aload 4, 2) := by decide +kernel
theorem dX4_step_25 : decode cX4_step 25 = .ok (.iload_n 1, 1) := by decide +kernel
theorem dX4_step_26 : decode cX4_step 26 = .ok (.invokevirtual 154, 3) := by decide +kernel
theorem dX4_step_29 : decode cX4_step 29 = .ok (.istore 5, 2) := by decide +kernel
theorem dX4_step_31 : decode cX4_step 31 = .ok (.aload_n 2, 1) := by decide +kernel
theorem dX4_step_32 : decode cX4_step 32 = .ok (.aload_n 0, 1) := by decide +kernel
theorem dX4_step_33 : decode cX4_step 33 = .ok (.getfield 117, 3) := by decide +kernel
theorem dX4_step_36 : decode cX4_step 36 = .ok (.putfield 157, 3) := by decide +kernel
theorem dX4_step_39 : decode cX4_step 39 = .ok (.aload_n 2, 1) := by decide +kernel
theorem dX4_step_40 : decode cX4_step 40 = .ok (.aload_n 0, 1) := by decide +kernel
theorem dX4_step_41 : decode cX4_step 41 = .ok (.aload_n 0, 1) := by decide +kernel
theorem dX4_step_42 : decode cX4_step 42 = .ok (.getfield 117, 3) := by decide +kernel
theorem dX4_step_45 : decode cX4_step 45 = .ok (.invokevirtual 128, 3) := by decide +kernel
theorem dX4_step_48 : decode cX4_step 48 = .ok (.putfield 162, 3) := by decide +kernel
theorem dX4_step_51 : decode cX4_step 51 = .ok (.aload_n 2, 1) := by decide +kernel
theorem dX4_step_52 : decode cX4_step 52 = .ok (.iload_n 1, 1) := by decide +kernel
theorem dX4_step_53 : decode cX4_step 53 = .ok (.putfield 165, 3) := by decide +kernel
theorem dX4_step_56 : decode cX4_step 56 = .ok (.aload_n 2, 1) := by decide +kernel
theorem dX4_step_57 : decode cX4_step 57 = .ok (.aload 4, 2) := by decide +kernel
theorem dX4_step_59 : decode cX4_step 59 = .ok (.getfield 90, 3) := by decide +kernel
theorem dX4_step_62 : decode cX4_step 62 = .ok (.putfield 168, 3) := by decide +kernel
theorem dX4_step_65 : decode cX4_step 65 = .ok (.aload_n 2, 1) := by decide +kernel
theorem dX4_step_66 : decode cX4_step 66 = .ok (.aload 4, 2) := by decide +kernel
theorem dX4_step_68 : decode cX4_step 68 = .ok (.iconst 0, 1) := by decide +kernel
theorem dX4_step_69 : decode cX4_step 69 = .ok (.invokevirtual 87, 3) := by decide +kernel
theorem dX4_step_72 : decode cX4_step 72 = .ok (.iconst (-1), 1) := by decide +kernel
theorem dX4_step_73 : decode cX4_step 73 = .ok (.if_icmp .eq 7, 3) := by decide +kernel
theorem dX4_step_76 : decode cX4_step 76 = .ok (.iconst 1, 1) := by decide +kernel
theorem dX4_step_77 : decode cX4_step 77 = .ok (.goto 4, 3) := by decide +kernel
theorem dX4_step_80 : decode cX4_step 80 = .ok (.iconst 0, 1) := by decide +kernel
theorem dX4_step_81 : decode cX4_step 81 = .ok (.putfield 169, 3) := by decide +kernel
theorem dX4_step_84 : decode cX4_step 84 = .ok (.aload_n 2, 1) := by decide +kernel
theorem dX4_step_85 : decode cX4_step 85 = .ok (.iload 5, 2) := by decide +kernel
theorem dX4_step_87 : decode cX4_step 87 = .ok (.putfield 172, 3) := by decide +kernel
theorem dX4_step_90 : decode cX4_step 90 = .ok (.aload_n 2, 1) := by decide +kernel
theorem dX4_step_91 : decode cX4_step 91 = .ok (.aload_n 3, 1) := by decide +kernel
theorem dX4_step_92 : decode cX4_step 92 = .ok (.iload 5, 2) := by decide +kernel
theorem dX4_step_94 : decode cX4_step 94 = .ok (.invokevirtual 87, 3) := by decide +kernel
theorem dX4_step_97 : decode cX4_step 97 = .ok (.putfield 174, 3) := by decide +kernel
theorem dX4_step_100 : decode cX4_step 100 = .ok (.aload_n 2, 1) := by decide +kernel
theorem dX4_step_101 : decode cX4_step 101 = .ok (.aload_n 2, 1) := by decide +kernel
theorem dX4_step_102 : decode cX4_step 102 = .ok (.getfield 174, 3) := by decide +kernel
theorem dX4_step_105 : decode cX4_step 105 = .ok (.iconst (-1), 1) := by decide +kernel
theorem dX4_step_106 : decode cX4_step 106 = .ok (.if_icmp .eq 7, 3) := by decide +kernel
theorem dX4_step_109 : decode cX4_step 109 = .ok (.iconst 1, 1) := by decide +kernel
theorem dX4_step_110 : decode cX4_step 110 = .ok (.goto 4, 3) := by decide +kernel
theorem dX4_step_113 : decode cX4_step 113 = .ok (.iconst 0, 1) := by decide +kernel
theorem dX4_step_114 : decode cX4_step 114 = .ok (.putfield 177, 3) := by decide +kernel
theorem dX4_step_117 : decode cX4_step 117 = .ok (.aload_n 2, 1) := by decide +kernel
theorem dX4_step_118 : decode cX4_step 118 = .ok (.aload_n 0, 1) := by decide +kernel
theorem dX4_step_119 : decode cX4_step 119 = .ok (.aload_n 0, 1) := by decide +kernel
theorem dX4_step_120 : decode cX4_step 120 = .ok (.getfield 117, 3) := by decide +kernel
theorem dX4_step_123 : decode cX4_step 123 = .ok (.invokevirtual 151, 3) := by decide +kernel
theorem dX4_step_126 : decode cX4_step 126 = .ok (.putfield 180, 3) := by decide +kernel
theorem dX4_step_129 : decode cX4_step 129 = .ok (.aload_n 0, 1) := by decide +kernel
theorem dX4_step_130 : decode cX4_step 130 = .ok (.aload_n 0, 1) := by decide +kernel
theorem dX4_step_131 : decode cX4_step 131 = .ok (.getfield 117, 3) := by decide +kernel
theorem dX4_step_134 : decode cX4_step 134 = .ok (.iload_n 1, 1) := by decide +kernel
theorem dX4_step_135 : decode cX4_step 135 = .ok (.invokevirtual 183, 3) := by decide +kernel
theorem dX4_step_138 : decode cX4_step 138 = .ok (.aload_n 2, 1) := by decide +kernel
theorem dX4_step_139 : decode cX4_step 139 = .ok (.getfield 177, 3) := by decide +kernel
theorem dX4_step_142 : decode cX4_step 142 = .ok (.ifCond .eq 20, 3) := by decide +kernel
theorem dX4_step_145 : decode cX4_step 145 = .ok (.aload 4, 2) := by decide +kernel
theorem dX4_step_147 : decode cX4_step 147 = .ok (.iload_n 1, 1) := by decide +kernel
theorem dX4_step_148 : decode cX4_step 148 = .ok (.invokevirtual 97, 3) := by decide +kernel
theorem dX4_step_151 : decode cX4_step 151 = .ok (.aload_n 3, 1) := by decide +kernel
theorem dX4_step_152 : decode cX4_step 152 = .ok (.aload_n 2, 1) := by decide +kernel
theorem dX4_step_153 : decode cX4_step 153 = .ok (.getfield 174, 3) := by decide +kernel
theorem dX4_step_156 : decode cX4_step 156 = .ok (.invokevirtual 97, 3) := by decide +kernel
theorem dX4_step_159 : decode cX4_step 159 = .ok (.goto 47, 3) := by decide +kernel
theorem dX4_step_162 : decode cX4_step 162 = .ok (.iload 5, 2) := by decide +kernel
theorem dX4_step_164 : decode cX4_step 164 = .ok (.ifCond .ne 12, 3) := by decide +kernel
theorem dX4_step_167 : decode cX4_step 167 = .ok (.aload_n 0, 1) := by decide +kernel
theorem dX4_step_168 : decode cX4_step 168 = .ok (.getfield 39, 3) := by decide +kernel
theorem dX4_step_171 : decode cX4_step 171 = .ok (.iconst 2, 1) := by decide +kernel
theorem dX4_step_172 : decode cX4_step 172 = .ok (.iand, 1) := by decide +kernel
theorem dX4_step_173 : decode cX4_step 173 = .ok (.ifCond .ne 33, 3) := by decide +kernel
theorem dX4_step_176 : decode cX4_step 176 = .ok (.aload 4, 2) := by decide +kernel
theorem dX4_step_178 : decode cX4_step 178 = .ok (.iload_n 1, 1) := by decide +kernel
theorem dX4_step_179 : decode cX4_step 179 = .ok (.invokevirtual 97, 3) := by decide +kernel
theorem dX4_step_182 : decode cX4_step 182 = .ok (.aload_n 2, 1) := by decide +kernel
theorem dX4_step_183 : decode cX4_step 183 = .ok (.aload_n 0, 1) := by decide +kernel
theorem dX4_step_184 : decode cX4_step 184 = .ok (.aload_n 0, 1) := by decide +kernel
theorem dX4_step_185 : decode cX4_step 185 = .ok (.getfield 117, 3) := by decide +kernel
theorem dX4_step_188 : decode cX4_step 188 = .ok (.iload 5, 2) := by decide +kernel
theorem dX4_step_190 : decode cX4_step 190 = .ok (.invokevirtual 186, 3) := by decide +kernel
theorem dX4_step_193 : decode cX4_step 193 = .ok (.putfield 174, 3) := by decide +kernel
theorem dX4_step_196 : decode cX4_step 196 = .ok (.aload_n 3, 1) := by decide +kernel
theorem dX4_step_197 : decode cX4_step 197 = .ok (.aload_n 2, 1) := by decide +kernel
theorem dX4_step_198 : decode cX4_step 198 = .ok (.getfield 174, 3) := by decide +kernel
theorem dX4_step_201 : decode cX4_step 201 = .ok (.iload 5, 2) := by decide +kernel
theorem dX4_step_203 : decode cX4_step 203 = .ok (.invokevirtual 93, 3) := by decide +kernel
theorem dX4_step_206 : decode cX4_step 206 = .ok (.aload_n 0, 1) := by decide +kernel
theorem dX4_step_207 : decode cX4_step 207 = .ok (.dup, 1) := by decide +kernel
theorem dX4_step_208 : decode cX4_step 208 = .ok (.getfield 106, 3) := by decide +kernel
theorem dX4_step_211 : decode cX4_step 211 = .ok (.iconst 1, 1) := by decide +kernel
theorem dX4_step_212 : decode cX4_step 212 = .ok (.iadd, 1) := by decide +kernel
theorem dX4_step_213 : decode cX4_step 213 = .ok (.putfield 106, 3) := by decide +kernel
theorem dX4_step_216 : decode cX4_step 216 = .ok (.aload_n 0, 1) := by decide +kernel
theorem dX4_step_217 : decode cX4_step 217 = .ok (.aload_n 0, 1) := by decide +kernel
theorem dX4_step_218 : decode cX4_step 218 = .ok (.aload_n 0, 1) := by decide +kernel
theorem dX4_step_219 : decode cX4_step 219 = .ok (.getfield 117, 3) := by decide +kernel
theorem dX4_step_222 : decode cX4_step 222 = .ok (.iconst 1, 1) := by decide +kernel
theorem dX4_step_223 : decode cX4_step 223 = .ok (.invokevirtual 113, 3) := by decide +kernel
theorem dX4_step_226 : decode cX4_step 226 = .ok (.putfield 117, 3) := by decide +kernel
theorem dX4_step_229 : decode cX4_step 229 = .ok (.return_, 1) := by decide +kernel
def X4_step_b206 (e : mm_E) (a0 : Nat) (m : mm_V) : Option mm_V := (mm_gi e.1 m 4 12 a0 11).bind fun x1 => (mm_pf e.1 m 4 12 a0 11 (.int (x1 + (1 : Int32)))).bind fun m2 => (mm_gi e.1 m2 4 12 a0 10).bind fun x3 => (X4_beside e a0 x3 (1 : Int32) m2).bind fun r4 => (mm_pf e.1 r4.2 4 12 a0 10 (.int r4.1)).bind fun m5 => some m5
theorem X4_step_b206_ok {K : mm_K} {nx : Option Nat} {e : mm_E} (hz : e.2.1 = K.2.2.2.2) {d : Nat} (hd : 3 ≤ d) {a0 : Nat} (h0 : e.1 a0 = some (4, 12)) {m : mm_V} {r : mm_V} (hr : X4_step_b206 e a0 m = some r) : mm_G K MX4_step d (mm_Fv e.1 nx r) 206 [some (.ref a0), none, none, none, none, none] [] (e.1, m) nx 0 0 := by
  obtain ⟨d, rfl⟩ : ∃ d', d = d' + 1 := ⟨d - 1, by omega⟩
  unfold X4_step_b206 at hr
  refine ml_aload_n (pc := 206) dX4_step_206 rfl mm_get_0 ?_
  refine mg_dup (pc := 207) dX4_step_207 rfl ?_
  refine mb_gi (pc := 208) dX4_step_208 fl_X4_106 hr (fun x1 hr => ?_)
  refine mg_iconst (pc := 211) dX4_step_211 kc_1 ?_
  refine mg_iadd (pc := 212) dX4_step_212 ?_
  refine mb_pi (pc := 213) dX4_step_213 fp_X4_106 hr (fun m2 hr => ?_)
  refine ml_aload_n (pc := 216) dX4_step_216 rfl mm_get_0 ?_
  refine ml_aload_n (pc := 217) dX4_step_217 rfl mm_get_0 ?_
  refine ml_aload_n (pc := 218) dX4_step_218 rfl mm_get_0 ?_
  refine mb_gi (pc := 219) dX4_step_219 fl_X4_117 hr (fun x3 hr => ?_)
  refine mg_iconst (pc := 222) dX4_step_222 kc_1 ?_
  refine mb_cVi (pc := 223) (As := [.int x3, .int (1 : Int32)]) (rest := [.ref a0]) dX4_step_223 cw_X4_113 h0 hr (fun v hv => X4_beside_ok hz (by omega) h0 hv) rfl (Nat.le_of_ble_eq_true rfl) (Nat.zero_le _) (Nat.zero_le _) (fun r4 hr => ?_)
  refine mb_pi (pc := 226) dX4_step_226 fp_X4_117 hr (fun m5 hr => ?_)
  exact mb_vret dX4_step_229 rfl hr
def X4_step_b176 (e : mm_E) (a0 : Nat) (i1 : Int32) (a2 : Nat) (a3 : Nat) (a4 : Nat) (i5 : Int32) (m : mm_V) : Option mm_V := if e.1 a4 = some (3, 2) then ((X3_takeOut e a4 i1 m).bind fun r1 => (mm_gi e.1 r1 4 12 a0 10).bind fun x3 => (X4_holdPlace e a0 x3 i5 r1).bind fun r4 => (mm_pf e.1 r4.2 2 9 a2 7 (.int r4.1)).bind fun m5 => (mm_gi e.1 m5 2 9 a2 7).bind fun x6 => if e.1 a3 = some (3, 2) then ((X3_putIn e a3 x6 i5 m5).bind fun r7 => X4_step_b206 e a0  r7) else none) else none
theorem X4_step_b176_ok {K : mm_K} {nx : Option Nat} {e : mm_E} (hz : e.2.1 = K.2.2.2.2) {d : Nat} (hd : 3 ≤ d) {a0 : Nat} {i1 : Int32} {a2 : Nat} {a3 : Nat} {a4 : Nat} {i5 : Int32} (h0 : e.1 a0 = some (4, 12)) {m : mm_V} {r : mm_V} (hr : X4_step_b176 e a0 i1 a2 a3 a4 i5 m = some r) : mm_G K MX4_step d (mm_Fv e.1 nx r) 176 [some (.ref a0), some (.int i1), some (.ref a2), some (.ref a3), some (.ref a4), some (.int i5)] [] (e.1, m) nx 0 0 := by
  obtain ⟨d, rfl⟩ : ∃ d', d = d' + 1 := ⟨d - 1, by omega⟩
  unfold X4_step_b176 at hr
  refine ml_aload (pc := 176) dX4_step_176 (mm_get_s (mm_get_s (mm_get_s (mm_get_s mm_get_0)))) ?_
  refine ml_iload_n (pc := 178) dX4_step_178 rfl (mm_get_s mm_get_0) ?_
  refine mb_ck hr (fun hb2 hr => ?_)
  refine mb_cVv (pc := 179) (As := [.int i1]) (rest := []) dX4_step_179 cw_X4_97 hb2 hr (fun v hv => X3_takeOut_ok hz (by omega) hb2 hv) rfl (Nat.le_of_ble_eq_true rfl) (Nat.zero_le _) (Nat.zero_le _) (fun r1 hr => ?_)
  refine ml_aload_n (pc := 182) dX4_step_182 rfl (mm_get_s (mm_get_s mm_get_0)) ?_
  refine ml_aload_n (pc := 183) dX4_step_183 rfl mm_get_0 ?_
  refine ml_aload_n (pc := 184) dX4_step_184 rfl mm_get_0 ?_
  refine mb_gi (pc := 185) dX4_step_185 fl_X4_117 hr (fun x3 hr => ?_)
  refine ml_iload (pc := 188) dX4_step_188 (mm_get_s (mm_get_s (mm_get_s (mm_get_s (mm_get_s mm_get_0))))) ?_
  refine mb_cVi (pc := 190) (As := [.int x3, .int i5]) (rest := [.ref a2]) dX4_step_190 cw_X4_186 h0 hr (fun v hv => X4_holdPlace_ok hz (by omega) h0 hv) rfl (Nat.le_of_ble_eq_true rfl) (Nat.zero_le _) (Nat.zero_le _) (fun r4 hr => ?_)
  refine mb_pi (pc := 193) dX4_step_193 fp_X4_174 hr (fun m5 hr => ?_)
  refine ml_aload_n (pc := 196) dX4_step_196 rfl (mm_get_s (mm_get_s (mm_get_s mm_get_0))) ?_
  refine ml_aload_n (pc := 197) dX4_step_197 rfl (mm_get_s (mm_get_s mm_get_0)) ?_
  refine mb_gi (pc := 198) dX4_step_198 fl_X4_174 hr (fun x6 hr => ?_)
  refine ml_iload (pc := 201) dX4_step_201 (mm_get_s (mm_get_s (mm_get_s (mm_get_s (mm_get_s mm_get_0))))) ?_
  refine mb_ck hr (fun hb8 hr => ?_)
  refine mb_cVv (pc := 203) (As := [.int x6, .int i5]) (rest := []) dX4_step_203 cw_X4_93 hb8 hr (fun v hv => X3_putIn_ok hz (by omega) hb8 hv) rfl (Nat.le_of_ble_eq_true rfl) (Nat.zero_le _) (Nat.zero_le _) (fun r7 hr => ?_)
  exact mg_weak (mm_le_s (mm_le_n (mm_le_n (mm_le_n (mm_le_n (mm_le_n mm_le_0)))))) (X4_step_b206_ok hz hd h0 hr)
def X4_step_b114 (e : mm_E) (a0 : Nat) (i1 : Int32) (a2 : Nat) (a3 : Nat) (a4 : Nat) (i5 : Int32) (t0 : Nat) (t1 : Int32) (m : mm_V) : Option mm_V := (mm_pz e.1 m 2 9 t0 6 t1).bind fun m1 => (mm_gi e.1 m1 4 12 a0 10).bind fun x2 => (X4_lastOf e a0 x2 m1).bind fun r3 => (mm_pf e.1 r3.2 2 9 a2 8 (.int r3.1)).bind fun m4 => (mm_gi e.1 m4 4 12 a0 10).bind fun x5 => (X4_setLast e a0 x5 i1 m4).bind fun r6 => (mm_gi e.1 r6 2 9 a2 6).bind fun x7 => if x7 = 0 then (if ¬ i5 = 0 then (X4_step_b176 e a0 i1 a2 a3 a4 i5  r6) else ((mm_gi e.1 r6 4 12 a0 7).bind fun x8 => if ¬ (x8 &&& (2 : Int32)) = 0 then (X4_step_b206 e a0  r6) else (X4_step_b176 e a0 i1 a2 a3 a4 i5  r6))) else (if e.1 a4 = some (3, 2) then ((X3_takeOut e a4 i1 r6).bind fun r9 => (mm_gi e.1 r9 2 9 a2 7).bind fun x11 => if e.1 a3 = some (3, 2) then ((X3_takeOut e a3 x11 r9).bind fun r12 => X4_step_b206 e a0  r12) else none) else none)
theorem X4_step_b114_ok {K : mm_K} {nx : Option Nat} {e : mm_E} (hz : e.2.1 = K.2.2.2.2) {d : Nat} (hd : 3 ≤ d) {a0 : Nat} {i1 : Int32} {a2 : Nat} {a3 : Nat} {a4 : Nat} {i5 : Int32} {t0 : Nat} {t1 : Int32} (h0 : e.1 a0 = some (4, 12)) {m : mm_V} {r : mm_V} (hr : X4_step_b114 e a0 i1 a2 a3 a4 i5 t0 t1 m = some r) : mm_G K MX4_step d (mm_Fv e.1 nx r) 114 [some (.ref a0), some (.int i1), some (.ref a2), some (.ref a3), some (.ref a4), some (.int i5)] [.int t1, .ref t0] (e.1, m) nx 0 0 := by
  obtain ⟨d, rfl⟩ : ∃ d', d = d' + 1 := ⟨d - 1, by omega⟩
  unfold X4_step_b114 at hr
  refine mb_pz (pc := 114) dX4_step_114 fp_X4_177 hr (fun m1 hr => ?_)
  refine ml_aload_n (pc := 117) dX4_step_117 rfl (mm_get_s (mm_get_s mm_get_0)) ?_
  refine ml_aload_n (pc := 118) dX4_step_118 rfl mm_get_0 ?_
  refine ml_aload_n (pc := 119) dX4_step_119 rfl mm_get_0 ?_
  refine mb_gi (pc := 120) dX4_step_120 fl_X4_117 hr (fun x2 hr => ?_)
  refine mb_cVi (pc := 123) (As := [.int x2]) (rest := [.ref a2]) dX4_step_123 cw_X4_151 h0 hr (fun v hv => X4_lastOf_ok hz (by omega) h0 hv) rfl (Nat.le_of_ble_eq_true rfl) (Nat.zero_le _) (Nat.zero_le _) (fun r3 hr => ?_)
  refine mb_pi (pc := 126) dX4_step_126 fp_X4_180 hr (fun m4 hr => ?_)
  refine ml_aload_n (pc := 129) dX4_step_129 rfl mm_get_0 ?_
  refine ml_aload_n (pc := 130) dX4_step_130 rfl mm_get_0 ?_
  refine mb_gi (pc := 131) dX4_step_131 fl_X4_117 hr (fun x5 hr => ?_)
  refine ml_iload_n (pc := 134) dX4_step_134 rfl (mm_get_s mm_get_0) ?_
  refine mb_cVv (pc := 135) (As := [.int x5, .int i1]) (rest := []) dX4_step_135 cw_X4_183 h0 hr (fun v hv => X4_setLast_ok hz (by omega) h0 hv) rfl (Nat.le_of_ble_eq_true rfl) (Nat.zero_le _) (Nat.zero_le _) (fun r6 hr => ?_)
  refine ml_aload_n (pc := 138) dX4_step_138 rfl (mm_get_s (mm_get_s mm_get_0)) ?_
  refine mb_gi (pc := 139) dX4_step_139 fl_X4_177 hr (fun x7 hr => ?_)
  refine mb_if_eq (pc := 142) 162 dX4_step_142 rfl hr (fun hr => ?_) (fun hr => ?_)
  · refine ml_iload (pc := 162) dX4_step_162 (mm_get_s (mm_get_s (mm_get_s (mm_get_s (mm_get_s mm_get_0))))) ?_
    refine mb_if_ne (pc := 164) 176 dX4_step_164 rfl hr (fun hr => ?_) (fun hr => ?_)
    · exact mg_weak (mm_le_s (mm_le_s (mm_le_s (mm_le_s (mm_le_s (mm_le_s mm_le_0)))))) (X4_step_b176_ok hz hd h0 hr)
    · refine ml_aload_n (pc := 167) dX4_step_167 rfl mm_get_0 ?_
      refine mb_gi (pc := 168) dX4_step_168 fl_X4_39 hr (fun x8 hr => ?_)
      refine mg_iconst (pc := 171) dX4_step_171 kc_2 ?_
      refine mg_iand (pc := 172) dX4_step_172 ?_
      refine mb_if_ne (pc := 173) 206 dX4_step_173 rfl hr (fun hr => ?_) (fun hr => ?_)
      · exact mg_weak (mm_le_s (mm_le_n (mm_le_n (mm_le_n (mm_le_n (mm_le_n mm_le_0)))))) (X4_step_b206_ok hz hd h0 hr)
      · exact mg_weak (mm_le_s (mm_le_s (mm_le_s (mm_le_s (mm_le_s (mm_le_s mm_le_0)))))) (X4_step_b176_ok hz hd h0 hr)
  · refine ml_aload (pc := 145) dX4_step_145 (mm_get_s (mm_get_s (mm_get_s (mm_get_s mm_get_0)))) ?_
    refine ml_iload_n (pc := 147) dX4_step_147 rfl (mm_get_s mm_get_0) ?_
    refine mb_ck hr (fun hb10 hr => ?_)
    refine mb_cVv (pc := 148) (As := [.int i1]) (rest := []) dX4_step_148 cw_X4_97 hb10 hr (fun v hv => X3_takeOut_ok hz (by omega) hb10 hv) rfl (Nat.le_of_ble_eq_true rfl) (Nat.zero_le _) (Nat.zero_le _) (fun r9 hr => ?_)
    refine ml_aload_n (pc := 151) dX4_step_151 rfl (mm_get_s (mm_get_s (mm_get_s mm_get_0))) ?_
    refine ml_aload_n (pc := 152) dX4_step_152 rfl (mm_get_s (mm_get_s mm_get_0)) ?_
    refine mb_gi (pc := 153) dX4_step_153 fl_X4_174 hr (fun x11 hr => ?_)
    refine mb_ck hr (fun hb13 hr => ?_)
    refine mb_cVv (pc := 156) (As := [.int x11]) (rest := []) dX4_step_156 cw_X4_97 hb13 hr (fun v hv => X3_takeOut_ok hz (by omega) hb13 hv) rfl (Nat.le_of_ble_eq_true rfl) (Nat.zero_le _) (Nat.zero_le _) (fun r12 hr => ?_)
    refine mg_goto (pc := 159) 206 dX4_step_159 rfl ?_
    exact mg_weak (mm_le_s (mm_le_n (mm_le_n (mm_le_n (mm_le_n (mm_le_n mm_le_0)))))) (X4_step_b206_ok hz hd h0 hr)
def X4_step_b81 (e : mm_E) (a0 : Nat) (i1 : Int32) (a2 : Nat) (a3 : Nat) (a4 : Nat) (i5 : Int32) (t0 : Nat) (t1 : Int32) (m : mm_V) : Option mm_V := (mm_pz e.1 m 2 9 t0 4 t1).bind fun m1 => (mm_pf e.1 m1 2 9 a2 5 (.int i5)).bind fun m2 => if e.1 a3 = some (3, 2) then ((X3_placeOf e a3 i5 m2).bind fun r3 => (mm_pf e.1 r3.2 2 9 a2 7 (.int r3.1)).bind fun m5 => (mm_gi e.1 m5 2 9 a2 7).bind fun x6 => if x6 = (-1 : Int32) then (X4_step_b114 e a0 i1 a2 a3 a4 i5 a2 (0 : Int32) m5) else (X4_step_b114 e a0 i1 a2 a3 a4 i5 a2 (1 : Int32) m5)) else none
theorem X4_step_b81_ok {K : mm_K} {nx : Option Nat} {e : mm_E} (hz : e.2.1 = K.2.2.2.2) {d : Nat} (hd : 3 ≤ d) {a0 : Nat} {i1 : Int32} {a2 : Nat} {a3 : Nat} {a4 : Nat} {i5 : Int32} {t0 : Nat} {t1 : Int32} (h0 : e.1 a0 = some (4, 12)) {m : mm_V} {r : mm_V} (hr : X4_step_b81 e a0 i1 a2 a3 a4 i5 t0 t1 m = some r) : mm_G K MX4_step d (mm_Fv e.1 nx r) 81 [some (.ref a0), some (.int i1), some (.ref a2), some (.ref a3), some (.ref a4), some (.int i5)] [.int t1, .ref t0] (e.1, m) nx 0 0 := by
  obtain ⟨d, rfl⟩ : ∃ d', d = d' + 1 := ⟨d - 1, by omega⟩
  unfold X4_step_b81 at hr
  refine mb_pz (pc := 81) dX4_step_81 fp_X4_169 hr (fun m1 hr => ?_)
  refine ml_aload_n (pc := 84) dX4_step_84 rfl (mm_get_s (mm_get_s mm_get_0)) ?_
  refine ml_iload (pc := 85) dX4_step_85 (mm_get_s (mm_get_s (mm_get_s (mm_get_s (mm_get_s mm_get_0))))) ?_
  refine mb_pi (pc := 87) dX4_step_87 fp_X4_172 hr (fun m2 hr => ?_)
  refine ml_aload_n (pc := 90) dX4_step_90 rfl (mm_get_s (mm_get_s mm_get_0)) ?_
  refine ml_aload_n (pc := 91) dX4_step_91 rfl (mm_get_s (mm_get_s (mm_get_s mm_get_0))) ?_
  refine ml_iload (pc := 92) dX4_step_92 (mm_get_s (mm_get_s (mm_get_s (mm_get_s (mm_get_s mm_get_0))))) ?_
  refine mb_ck hr (fun hb4 hr => ?_)
  refine mb_cVi (pc := 94) (As := [.int i5]) (rest := [.ref a2]) dX4_step_94 cw_X4_87 hb4 hr (fun v hv => X3_placeOf_ok hz (by omega) hb4 hv) rfl (Nat.le_of_ble_eq_true rfl) (Nat.zero_le _) (Nat.zero_le _) (fun r3 hr => ?_)
  refine mb_pi (pc := 97) dX4_step_97 fp_X4_174 hr (fun m5 hr => ?_)
  refine ml_aload_n (pc := 100) dX4_step_100 rfl (mm_get_s (mm_get_s mm_get_0)) ?_
  refine ml_aload_n (pc := 101) dX4_step_101 rfl (mm_get_s (mm_get_s mm_get_0)) ?_
  refine mb_gi (pc := 102) dX4_step_102 fl_X4_174 hr (fun x6 hr => ?_)
  refine mg_iconst (pc := 105) dX4_step_105 kc_m1 ?_
  refine mb_icmp_eq (pc := 106) 113 dX4_step_106 rfl hr (fun hr => ?_) (fun hr => ?_)
  · refine mg_iconst (pc := 113) dX4_step_113 kc_0 ?_
    exact mg_weak (mm_le_s (mm_le_s (mm_le_s (mm_le_s (mm_le_s (mm_le_s mm_le_0)))))) (X4_step_b114_ok hz hd h0 hr)
  · refine mg_iconst (pc := 109) dX4_step_109 kc_1 ?_
    refine mg_goto (pc := 110) 114 dX4_step_110 rfl ?_
    exact mg_weak (mm_le_s (mm_le_s (mm_le_s (mm_le_s (mm_le_s (mm_le_s mm_le_0)))))) (X4_step_b114_ok hz hd h0 hr)
def X4_step (e : mm_E) (a0 : Nat) (i1 : Int32) (a2 : Nat) (m : mm_V) : Option mm_V := (mm_gi e.1 m 4 12 a0 10).bind fun x1 => (X4_fanAt e a0 x1 m).bind fun r2 => (mm_gi e.1 r2.2 4 12 a0 10).bind fun x3 => (X4_source e a0 x3 r2.2).bind fun r4 => (X4_fanAt e a0 r4.1 r4.2).bind fun r5 => if e.1 r5.1 = some (3, 2) then ((X3_card e r5.1 i1 r5.2).bind fun r6 => (mm_gi e.1 r6.2 4 12 a0 10).bind fun x8 => (mm_pf e.1 r6.2 2 9 a2 0 (.int x8)).bind fun m9 => (mm_gi e.1 m9 4 12 a0 10).bind fun x10 => (X4_source e a0 x10 m9).bind fun r11 => (mm_pf e.1 r11.2 2 9 a2 1 (.int r11.1)).bind fun m12 => (mm_pf e.1 m12 2 9 a2 2 (.int i1)).bind fun m13 => (mm_gi e.1 m13 3 2 r5.1 1).bind fun x14 => (mm_pf e.1 m13 2 9 a2 3 (.int x14)).bind fun m15 => if e.1 r5.1 = some (3, 2) then ((X3_placeOf e r5.1 (0 : Int32) m15).bind fun r16 => if r16.1 = (-1 : Int32) then (X4_step_b81 e a0 i1 a2 r2.1 r5.1 r6.1 a2 (0 : Int32) r16.2) else (X4_step_b81 e a0 i1 a2 r2.1 r5.1 r6.1 a2 (1 : Int32) r16.2)) else none) else none
theorem X4_step_ok {K : mm_K} {nx : Option Nat} {e : mm_E} (hz : e.2.1 = K.2.2.2.2) {d : Nat} (hd : 3 ≤ d) {a0 : Nat} {i1 : Int32} {a2 : Nat} (h0 : e.1 a0 = some (4, 12)) {m : mm_V} {r : mm_V} (hr : X4_step e a0 i1 a2 m = some r) : mm_Cn K MX4_step d (mm_Fv e.1 nx r) [.ref a0, .int i1, .ref a2] (e.1, m) nx := by
  obtain ⟨d, rfl⟩ : ∃ d', d = d' + 1 := ⟨d - 1, by omega⟩
  refine mm_entry (by decide) (Nat.le_of_ble_eq_true rfl) rfl (fun hok => ?_)
  unfold X4_step at hr
  refine mg_weak (L' := [some (.ref a0), some (.int i1), some (.ref a2), none, none, none]) (mm_le_s (mm_le_s (mm_le_s (mm_le_e (mm_le_e (mm_le_e mm_le_0)))))) ?_
  refine ml_aload_n (pc := 0) dX4_step_0 rfl mm_get_0 ?_
  refine ml_aload_n (pc := 1) dX4_step_1 rfl mm_get_0 ?_
  refine mb_gi (pc := 2) dX4_step_2 fl_X4_117 hr (fun x1 hr => ?_)
  refine mb_cVr (pc := 5) (As := [.int x1]) (rest := []) dX4_step_5 cw_X4_76 h0 hr (fun v hv => X4_fanAt_ok hz (by omega) h0 hv) rfl (Nat.le_of_ble_eq_true rfl) (Nat.zero_le _) (Nat.zero_le _) (fun r2 hr => ?_)
  refine ml_astore_n (pc := 8) dX4_step_8 rfl (Nat.le_of_ble_eq_true rfl) (mm_st1_s (mm_st1_s mm_st1_r)) ?_
  refine ml_aload_n (pc := 9) dX4_step_9 rfl mm_get_0 ?_
  refine ml_aload_n (pc := 10) dX4_step_10 rfl mm_get_0 ?_
  refine ml_aload_n (pc := 11) dX4_step_11 rfl mm_get_0 ?_
  refine mb_gi (pc := 12) dX4_step_12 fl_X4_117 hr (fun x3 hr => ?_)
  refine mb_cVi (pc := 15) (As := [.int x3]) (rest := [.ref a0]) dX4_step_15 cw_X4_128 h0 hr (fun v hv => X4_source_ok hz (by omega) h0 hv) rfl (Nat.le_of_ble_eq_true rfl) (Nat.zero_le _) (Nat.zero_le _) (fun r4 hr => ?_)
  refine mb_cVr (pc := 18) (As := [.int r4.1]) (rest := []) dX4_step_18 cw_X4_76 h0 hr (fun v hv => X4_fanAt_ok hz (by omega) h0 hv) rfl (Nat.le_of_ble_eq_true rfl) (Nat.zero_le _) (Nat.zero_le _) (fun r5 hr => ?_)
  refine ml_astore (pc := 21) dX4_step_21 (Nat.le_of_ble_eq_true rfl) (mm_st1_s (mm_st1_s (mm_st1_s mm_st1_r))) ?_
  refine ml_aload (pc := 23) dX4_step_23 (mm_get_s (mm_get_s (mm_get_s (mm_get_s mm_get_0)))) ?_
  refine ml_iload_n (pc := 25) dX4_step_25 rfl (mm_get_s mm_get_0) ?_
  refine mb_ck hr (fun hb7 hr => ?_)
  refine mb_cVi (pc := 26) (As := [.int i1]) (rest := []) dX4_step_26 cw_X4_154 hb7 hr (fun v hv => X3_card_ok hz (by omega) hb7 hv) rfl (Nat.le_of_ble_eq_true rfl) (Nat.zero_le _) (Nat.zero_le _) (fun r6 hr => ?_)
  refine ml_istore (pc := 29) dX4_step_29 (Nat.le_of_ble_eq_true rfl) (mm_st1_s (mm_st1_s (mm_st1_s (mm_st1_s mm_st1_r)))) ?_
  refine ml_aload_n (pc := 31) dX4_step_31 rfl (mm_get_s (mm_get_s mm_get_0)) ?_
  refine ml_aload_n (pc := 32) dX4_step_32 rfl mm_get_0 ?_
  refine mb_gi (pc := 33) dX4_step_33 fl_X4_117 hr (fun x8 hr => ?_)
  refine mb_pi (pc := 36) dX4_step_36 fp_X4_157 hr (fun m9 hr => ?_)
  refine ml_aload_n (pc := 39) dX4_step_39 rfl (mm_get_s (mm_get_s mm_get_0)) ?_
  refine ml_aload_n (pc := 40) dX4_step_40 rfl mm_get_0 ?_
  refine ml_aload_n (pc := 41) dX4_step_41 rfl mm_get_0 ?_
  refine mb_gi (pc := 42) dX4_step_42 fl_X4_117 hr (fun x10 hr => ?_)
  refine mb_cVi (pc := 45) (As := [.int x10]) (rest := [.ref a2]) dX4_step_45 cw_X4_128 h0 hr (fun v hv => X4_source_ok hz (by omega) h0 hv) rfl (Nat.le_of_ble_eq_true rfl) (Nat.zero_le _) (Nat.zero_le _) (fun r11 hr => ?_)
  refine mb_pi (pc := 48) dX4_step_48 fp_X4_162 hr (fun m12 hr => ?_)
  refine ml_aload_n (pc := 51) dX4_step_51 rfl (mm_get_s (mm_get_s mm_get_0)) ?_
  refine ml_iload_n (pc := 52) dX4_step_52 rfl (mm_get_s mm_get_0) ?_
  refine mb_pi (pc := 53) dX4_step_53 fp_X4_165 hr (fun m13 hr => ?_)
  refine ml_aload_n (pc := 56) dX4_step_56 rfl (mm_get_s (mm_get_s mm_get_0)) ?_
  refine ml_aload (pc := 57) dX4_step_57 (mm_get_s (mm_get_s (mm_get_s (mm_get_s mm_get_0)))) ?_
  refine mb_gi (pc := 59) dX4_step_59 fl_X4_90 hr (fun x14 hr => ?_)
  refine mb_pi (pc := 62) dX4_step_62 fp_X4_168 hr (fun m15 hr => ?_)
  refine ml_aload_n (pc := 65) dX4_step_65 rfl (mm_get_s (mm_get_s mm_get_0)) ?_
  refine ml_aload (pc := 66) dX4_step_66 (mm_get_s (mm_get_s (mm_get_s (mm_get_s mm_get_0)))) ?_
  refine mg_iconst (pc := 68) dX4_step_68 kc_0 ?_
  refine mb_ck hr (fun hb17 hr => ?_)
  refine mb_cVi (pc := 69) (As := [.int (0 : Int32)]) (rest := [.ref a2]) dX4_step_69 cw_X4_87 hb17 hr (fun v hv => X3_placeOf_ok hz (by omega) hb17 hv) rfl (Nat.le_of_ble_eq_true rfl) (Nat.zero_le _) (Nat.zero_le _) (fun r16 hr => ?_)
  refine mg_iconst (pc := 72) dX4_step_72 kc_m1 ?_
  refine mb_icmp_eq (pc := 73) 80 dX4_step_73 rfl hr (fun hr => ?_) (fun hr => ?_)
  · refine mg_iconst (pc := 80) dX4_step_80 kc_0 ?_
    exact mg_weak (mm_le_s (mm_le_s (mm_le_s (mm_le_s (mm_le_s (mm_le_s mm_le_0)))))) (X4_step_b81_ok hz hd h0 hr)
  · refine mg_iconst (pc := 76) dX4_step_76 kc_1 ?_
    refine mg_goto (pc := 77) 81 dX4_step_77 rfl ?_
    exact mg_weak (mm_le_s (mm_le_s (mm_le_s (mm_le_s (mm_le_s (mm_le_s mm_le_0)))))) (X4_step_b81_ok hz hd h0 hr)
theorem dX4_takeBack_0 : decode cX4_takeBack 0 = .ok (.aload_n 0, 1) := by decide +kernel
theorem dX4_takeBack_1 : decode cX4_takeBack 1 = .ok (.aload_n 1, 1) := by decide +kernel
theorem dX4_takeBack_2 : decode cX4_takeBack 2 = .ok (.getfield 157, 3) := by decide +kernel
theorem dX4_takeBack_5 : decode cX4_takeBack 5 = .ok (.invokevirtual 76, 3) := by decide +kernel
theorem dX4_takeBack_8 : decode cX4_takeBack 8 = .ok (.astore_n 2, 1) := by decide +kernel
theorem dX4_takeBack_9 : decode cX4_takeBack 9 = .ok (.aload_n 1, 1) := by decide +kernel
theorem dX4_takeBack_10 : decode cX4_takeBack 10 = .ok (.getfield 177, 3) := by decide +kernel
theorem dX4_takeBack_13 : decode cX4_takeBack 13 = .ok (.ifCond .eq 18, 3) := by decide +kernel
theorem dX4_takeBack_16 : decode cX4_takeBack 16 = .ok (.aload_n 2, 1) := by decide +kernel
theorem dX4_takeBack_17 : decode cX4_takeBack 17 = .ok (.aload_n 1, 1) := by decide +kernel
theorem dX4_takeBack_18 : decode cX4_takeBack 18 = .ok (.getfield 174, 3) := by decide +kernel
theorem dX4_takeBack_21 : decode cX4_takeBack 21 = .ok (.aload_n 1, 1) := by decide +kernel
theorem dX4_takeBack_22 : decode cX4_takeBack 22 = .ok (.getfield 172, 3) := by decide +kernel
theorem dX4_takeBack_25 : decode cX4_takeBack 25 = .ok (.invokevirtual 93, 3) := by decide +kernel
theorem dX4_takeBack_28 : decode cX4_takeBack 28 = .ok (.goto 11, 3) := by decide +kernel
theorem dX4_takeBack_31 : decode cX4_takeBack 31 = .ok (.aload_n 2, 1) := by decide +kernel
theorem dX4_takeBack_32 : decode cX4_takeBack 32 = .ok (.aload_n 1, 1) := by decide +kernel
theorem dX4_takeBack_33 : decode cX4_takeBack 33 = .ok (.getfield 174, 3) := by decide +kernel
theorem dX4_takeBack_36 : decode cX4_takeBack 36 = .ok (.invokevirtual 97, 3) := by decide +kernel
theorem dX4_takeBack_39 : decode cX4_takeBack 39 = .ok (.aload_n 0, 1) := by decide +kernel
theorem dX4_takeBack_40 : decode cX4_takeBack 40 = .ok (.aload_n 1, 1) := by decide +kernel
theorem dX4_takeBack_41 : decode cX4_takeBack 41 = .ok (.getfield 162, 3) := by decide +kernel
theorem dX4_takeBack_44 : decode cX4_takeBack 44 = .ok (.invokevirtual 76, 3) := by decide +kernel
theorem dX4_takeBack_47 : decode cX4_takeBack 47 = .ok (.aload_n 1, 1) := by decide +kernel
theorem dX4_takeBack_48 : decode cX4_takeBack 48 = .ok (.getfield 165, 3) := by decide +kernel
theorem dX4_takeBack_51 : decode cX4_takeBack 51 = .ok (.aload_n 1, 1) := by decide +kernel
theorem dX4_takeBack_52 : decode cX4_takeBack 52 = .ok (.getfield 172, 3) := by decide +kernel
theorem dX4_takeBack_55 : decode cX4_takeBack 55 = .ok (.invokevirtual 93, 3) := by decide +kernel
theorem dX4_takeBack_58 : decode cX4_takeBack 58 = .ok (.aload_n 0, 1) := by decide +kernel
theorem dX4_takeBack_59 : decode cX4_takeBack 59 = .ok (.aload_n 1, 1) := by decide +kernel
theorem dX4_takeBack_60 : decode cX4_takeBack 60 = .ok (.getfield 157, 3) := by decide +kernel
theorem dX4_takeBack_63 : decode cX4_takeBack 63 = .ok (.aload_n 1, 1) := by decide +kernel
theorem dX4_takeBack_64 : decode cX4_takeBack 64 = .ok (.getfield 180, 3) := by decide +kernel
theorem dX4_takeBack_67 : decode cX4_takeBack 67 = .ok (.invokevirtual 183, 3) := by decide +kernel
theorem dX4_takeBack_70 : decode cX4_takeBack 70 = .ok (.aload_n 0, 1) := by decide +kernel
theorem dX4_takeBack_71 : decode cX4_takeBack 71 = .ok (.aload_n 1, 1) := by decide +kernel
theorem dX4_takeBack_72 : decode cX4_takeBack 72 = .ok (.getfield 157, 3) := by decide +kernel
theorem dX4_takeBack_75 : decode cX4_takeBack 75 = .ok (.putfield 117, 3) := by decide +kernel
theorem dX4_takeBack_78 : decode cX4_takeBack 78 = .ok (.aload_n 0, 1) := by decide +kernel
theorem dX4_takeBack_79 : decode cX4_takeBack 79 = .ok (.dup, 1) := by decide +kernel
theorem dX4_takeBack_80 : decode cX4_takeBack 80 = .ok (.getfield 106, 3) := by decide +kernel
theorem dX4_takeBack_83 : decode cX4_takeBack 83 = .ok (.iconst 1, 1) := by decide +kernel
theorem dX4_takeBack_84 : decode cX4_takeBack 84 = .ok (.isub, 1) := by decide +kernel
theorem dX4_takeBack_85 : decode cX4_takeBack 85 = .ok (.putfield 106, 3) := by decide +kernel
theorem dX4_takeBack_88 : decode cX4_takeBack 88 = .ok (.return_, 1) := by decide +kernel
def X4_takeBack_b39 (e : mm_E) (a0 : Nat) (a1 : Nat) (m : mm_V) : Option mm_V := (mm_gi e.1 m 2 9 a1 1).bind fun x1 => (X4_fanAt e a0 x1 m).bind fun r2 => (mm_gi e.1 r2.2 2 9 a1 2).bind fun x3 => (mm_gi e.1 r2.2 2 9 a1 5).bind fun x4 => if e.1 r2.1 = some (3, 2) then ((X3_putIn e r2.1 x3 x4 r2.2).bind fun r5 => (mm_gi e.1 r5 2 9 a1 0).bind fun x7 => (mm_gi e.1 r5 2 9 a1 8).bind fun x8 => (X4_setLast e a0 x7 x8 r5).bind fun r9 => (mm_gi e.1 r9 2 9 a1 0).bind fun x10 => (mm_pf e.1 r9 4 12 a0 10 (.int x10)).bind fun m11 => (mm_gi e.1 m11 4 12 a0 11).bind fun x12 => (mm_pf e.1 m11 4 12 a0 11 (.int (x12 - (1 : Int32)))).bind fun m13 => some m13) else none
theorem X4_takeBack_b39_ok {K : mm_K} {nx : Option Nat} {e : mm_E} (hz : e.2.1 = K.2.2.2.2) {d : Nat} (hd : 1 ≤ d) {a0 : Nat} {a1 : Nat} (h0 : e.1 a0 = some (4, 12)) {m : mm_V} {r : mm_V} (hr : X4_takeBack_b39 e a0 a1 m = some r) : mm_G K MX4_takeBack d (mm_Fv e.1 nx r) 39 [some (.ref a0), some (.ref a1), none] [] (e.1, m) nx 0 0 := by
  obtain ⟨d, rfl⟩ : ∃ d', d = d' + 1 := ⟨d - 1, by omega⟩
  unfold X4_takeBack_b39 at hr
  refine ml_aload_n (pc := 39) dX4_takeBack_39 rfl mm_get_0 ?_
  refine ml_aload_n (pc := 40) dX4_takeBack_40 rfl (mm_get_s mm_get_0) ?_
  refine mb_gi (pc := 41) dX4_takeBack_41 fl_X4_162 hr (fun x1 hr => ?_)
  refine mb_cVr (pc := 44) (As := [.int x1]) (rest := []) dX4_takeBack_44 cw_X4_76 h0 hr (fun v hv => X4_fanAt_ok hz (by omega) h0 hv) rfl (Nat.le_of_ble_eq_true rfl) (Nat.zero_le _) (Nat.zero_le _) (fun r2 hr => ?_)
  refine ml_aload_n (pc := 47) dX4_takeBack_47 rfl (mm_get_s mm_get_0) ?_
  refine mb_gi (pc := 48) dX4_takeBack_48 fl_X4_165 hr (fun x3 hr => ?_)
  refine ml_aload_n (pc := 51) dX4_takeBack_51 rfl (mm_get_s mm_get_0) ?_
  refine mb_gi (pc := 52) dX4_takeBack_52 fl_X4_172 hr (fun x4 hr => ?_)
  refine mb_ck hr (fun hb6 hr => ?_)
  refine mb_cVv (pc := 55) (As := [.int x3, .int x4]) (rest := []) dX4_takeBack_55 cw_X4_93 hb6 hr (fun v hv => X3_putIn_ok hz (by omega) hb6 hv) rfl (Nat.le_of_ble_eq_true rfl) (Nat.zero_le _) (Nat.zero_le _) (fun r5 hr => ?_)
  refine ml_aload_n (pc := 58) dX4_takeBack_58 rfl mm_get_0 ?_
  refine ml_aload_n (pc := 59) dX4_takeBack_59 rfl (mm_get_s mm_get_0) ?_
  refine mb_gi (pc := 60) dX4_takeBack_60 fl_X4_157 hr (fun x7 hr => ?_)
  refine ml_aload_n (pc := 63) dX4_takeBack_63 rfl (mm_get_s mm_get_0) ?_
  refine mb_gi (pc := 64) dX4_takeBack_64 fl_X4_180 hr (fun x8 hr => ?_)
  refine mb_cVv (pc := 67) (As := [.int x7, .int x8]) (rest := []) dX4_takeBack_67 cw_X4_183 h0 hr (fun v hv => X4_setLast_ok hz (by omega) h0 hv) rfl (Nat.le_of_ble_eq_true rfl) (Nat.zero_le _) (Nat.zero_le _) (fun r9 hr => ?_)
  refine ml_aload_n (pc := 70) dX4_takeBack_70 rfl mm_get_0 ?_
  refine ml_aload_n (pc := 71) dX4_takeBack_71 rfl (mm_get_s mm_get_0) ?_
  refine mb_gi (pc := 72) dX4_takeBack_72 fl_X4_157 hr (fun x10 hr => ?_)
  refine mb_pi (pc := 75) dX4_takeBack_75 fp_X4_117 hr (fun m11 hr => ?_)
  refine ml_aload_n (pc := 78) dX4_takeBack_78 rfl mm_get_0 ?_
  refine mg_dup (pc := 79) dX4_takeBack_79 rfl ?_
  refine mb_gi (pc := 80) dX4_takeBack_80 fl_X4_106 hr (fun x12 hr => ?_)
  refine mg_iconst (pc := 83) dX4_takeBack_83 kc_1 ?_
  refine mg_isub (pc := 84) dX4_takeBack_84 ?_
  refine mb_pi (pc := 85) dX4_takeBack_85 fp_X4_106 hr (fun m13 hr => ?_)
  exact mb_vret dX4_takeBack_88 rfl hr
def X4_takeBack (e : mm_E) (a0 : Nat) (a1 : Nat) (m : mm_V) : Option mm_V := (mm_gi e.1 m 2 9 a1 0).bind fun x1 => (X4_fanAt e a0 x1 m).bind fun r2 => (mm_gi e.1 r2.2 2 9 a1 6).bind fun x3 => if x3 = 0 then ((mm_gi e.1 r2.2 2 9 a1 7).bind fun x4 => if e.1 r2.1 = some (3, 2) then ((X3_takeOut e r2.1 x4 r2.2).bind fun r5 => X4_takeBack_b39 e a0 a1  r5) else none) else ((mm_gi e.1 r2.2 2 9 a1 7).bind fun x7 => (mm_gi e.1 r2.2 2 9 a1 5).bind fun x8 => if e.1 r2.1 = some (3, 2) then ((X3_putIn e r2.1 x7 x8 r2.2).bind fun r9 => X4_takeBack_b39 e a0 a1  r9) else none)
theorem X4_takeBack_ok {K : mm_K} {nx : Option Nat} {e : mm_E} (hz : e.2.1 = K.2.2.2.2) {d : Nat} (hd : 1 ≤ d) {a0 : Nat} {a1 : Nat} (h0 : e.1 a0 = some (4, 12)) {m : mm_V} {r : mm_V} (hr : X4_takeBack e a0 a1 m = some r) : mm_Cn K MX4_takeBack d (mm_Fv e.1 nx r) [.ref a0, .ref a1] (e.1, m) nx := by
  obtain ⟨d, rfl⟩ : ∃ d', d = d' + 1 := ⟨d - 1, by omega⟩
  refine mm_entry (by decide) (Nat.le_of_ble_eq_true rfl) rfl (fun hok => ?_)
  unfold X4_takeBack at hr
  refine mg_weak (L' := [some (.ref a0), some (.ref a1), none]) (mm_le_s (mm_le_s (mm_le_e mm_le_0))) ?_
  refine ml_aload_n (pc := 0) dX4_takeBack_0 rfl mm_get_0 ?_
  refine ml_aload_n (pc := 1) dX4_takeBack_1 rfl (mm_get_s mm_get_0) ?_
  refine mb_gi (pc := 2) dX4_takeBack_2 fl_X4_157 hr (fun x1 hr => ?_)
  refine mb_cVr (pc := 5) (As := [.int x1]) (rest := []) dX4_takeBack_5 cw_X4_76 h0 hr (fun v hv => X4_fanAt_ok hz (by omega) h0 hv) rfl (Nat.le_of_ble_eq_true rfl) (Nat.zero_le _) (Nat.zero_le _) (fun r2 hr => ?_)
  refine ml_astore_n (pc := 8) dX4_takeBack_8 rfl (Nat.le_of_ble_eq_true rfl) (mm_st1_s mm_st1_r) ?_
  refine ml_aload_n (pc := 9) dX4_takeBack_9 rfl (mm_get_s mm_get_0) ?_
  refine mb_gi (pc := 10) dX4_takeBack_10 fl_X4_177 hr (fun x3 hr => ?_)
  refine mb_if_eq (pc := 13) 31 dX4_takeBack_13 rfl hr (fun hr => ?_) (fun hr => ?_)
  · refine ml_aload_n (pc := 31) dX4_takeBack_31 rfl (mm_get_s (mm_get_s mm_get_0)) ?_
    refine ml_aload_n (pc := 32) dX4_takeBack_32 rfl (mm_get_s mm_get_0) ?_
    refine mb_gi (pc := 33) dX4_takeBack_33 fl_X4_174 hr (fun x4 hr => ?_)
    refine mb_ck hr (fun hb6 hr => ?_)
    refine mb_cVv (pc := 36) (As := [.int x4]) (rest := []) dX4_takeBack_36 cw_X4_97 hb6 hr (fun v hv => X3_takeOut_ok hz (by omega) hb6 hv) rfl (Nat.le_of_ble_eq_true rfl) (Nat.zero_le _) (Nat.zero_le _) (fun r5 hr => ?_)
    exact mg_weak (mm_le_s (mm_le_s (mm_le_n mm_le_0))) (X4_takeBack_b39_ok hz hd h0 hr)
  · refine ml_aload_n (pc := 16) dX4_takeBack_16 rfl (mm_get_s (mm_get_s mm_get_0)) ?_
    refine ml_aload_n (pc := 17) dX4_takeBack_17 rfl (mm_get_s mm_get_0) ?_
    refine mb_gi (pc := 18) dX4_takeBack_18 fl_X4_174 hr (fun x7 hr => ?_)
    refine ml_aload_n (pc := 21) dX4_takeBack_21 rfl (mm_get_s mm_get_0) ?_
    refine mb_gi (pc := 22) dX4_takeBack_22 fl_X4_172 hr (fun x8 hr => ?_)
    refine mb_ck hr (fun hb10 hr => ?_)
    refine mb_cVv (pc := 25) (As := [.int x7, .int x8]) (rest := []) dX4_takeBack_25 cw_X4_93 hb10 hr (fun v hv => X3_putIn_ok hz (by omega) hb10 hv) rfl (Nat.le_of_ble_eq_true rfl) (Nat.zero_le _) (Nat.zero_le _) (fun r9 hr => ?_)
    refine mg_goto (pc := 28) 39 dX4_takeBack_28 rfl ?_
    exact mg_weak (mm_le_s (mm_le_s (mm_le_n mm_le_0))) (X4_takeBack_b39_ok hz hd h0 hr)
theorem dX5_fresh_0 : decode cX5_fresh 0 = .ok (.aload_n 0, 1) := by decide +kernel
theorem dX5_fresh_1 : decode cX5_fresh 1 = .ok (.getfield 22, 3) := by decide +kernel
theorem dX5_fresh_4 : decode cX5_fresh 4 = .ok (.bipush 60, 2) := by decide +kernel
theorem dX5_fresh_6 : decode cX5_fresh 6 = .ok (.if_icmp .ge 16, 3) := by decide +kernel
theorem dX5_fresh_9 : decode cX5_fresh 9 = .ok (.aload_n 0, 1) := by decide +kernel
theorem dX5_fresh_10 : decode cX5_fresh 10 = .ok (.dup, 1) := by decide +kernel
theorem dX5_fresh_11 : decode cX5_fresh 11 = .ok (.getfield 22, 3) := by decide +kernel
theorem dX5_fresh_14 : decode cX5_fresh 14 = .ok (.iconst 1, 1) := by decide +kernel
theorem dX5_fresh_15 : decode cX5_fresh 15 = .ok (.iadd, 1) := by decide +kernel
theorem dX5_fresh_16 : decode cX5_fresh 16 = .ok (.putfield 22, 3) := by decide +kernel
theorem dX5_fresh_19 : decode cX5_fresh 19 = .ok (.goto 28, 3) := by decide +kernel
theorem dX5_fresh_22 : decode cX5_fresh 22 = .ok (.aload_n 0, 1) := by decide +kernel
theorem dX5_fresh_23 : decode cX5_fresh 23 = .ok (.aload_n 0, 1) := by decide +kernel
theorem dX5_fresh_24 : decode cX5_fresh 24 = .ok (.getfield 26, 3) := by decide +kernel
theorem dX5_fresh_27 : decode cX5_fresh 27 = .ok (.iconst 1, 1) := by decide +kernel
theorem dX5_fresh_28 : decode cX5_fresh 28 = .ok (.iadd, 1) := by decide +kernel
theorem dX5_fresh_29 : decode cX5_fresh 29 = .ok (.bipush 60, 2) := by decide +kernel
theorem dX5_fresh_31 : decode cX5_fresh 31 = .ok (.if_icmp .ge 12, 3) := by decide +kernel
theorem dX5_fresh_34 : decode cX5_fresh 34 = .ok (.aload_n 0, 1) := by decide +kernel
theorem dX5_fresh_35 : decode cX5_fresh 35 = .ok (.getfield 26, 3) := by decide +kernel
theorem dX5_fresh_38 : decode cX5_fresh 38 = .ok (.iconst 1, 1) := by decide +kernel
theorem dX5_fresh_39 : decode cX5_fresh 39 = .ok (.iadd, 1) := by decide +kernel
theorem dX5_fresh_40 : decode cX5_fresh 40 = .ok (.goto 4, 3) := by decide +kernel
theorem dX5_fresh_43 : decode cX5_fresh 43 = .ok (.iconst 0, 1) := by decide +kernel
theorem dX5_fresh_44 : decode cX5_fresh 44 = .ok (.putfield 26, 3) := by decide +kernel
theorem dX5_fresh_47 : decode cX5_fresh 47 = .ok (.aload_n 0, 1) := by decide +kernel
theorem dX5_fresh_48 : decode cX5_fresh 48 = .ok (.aload_n 0, 1) := by decide +kernel
theorem dX5_fresh_49 : decode cX5_fresh 49 = .ok (.getfield 22, 3) := by decide +kernel
theorem dX5_fresh_52 : decode cX5_fresh 52 = .ok (.iconst 1, 1) := by decide +kernel
theorem dX5_fresh_53 : decode cX5_fresh 53 = .ok (.isub, 1) := by decide +kernel
theorem dX5_fresh_54 : decode cX5_fresh 54 = .ok (.invokevirtual 29, 3) := by decide +kernel
theorem dX5_fresh_57 : decode cX5_fresh 57 = .ok (.areturn, 1) := by decide +kernel
def X5_fresh_b47 (e : mm_E) (a0 : Nat) (m : mm_V) : Option (Nat × mm_V) := (mm_gi e.1 m 5 4 a0 3).bind fun x1 => (X5_at e a0 (x1 - (1 : Int32)) m).bind fun r2 => some (r2.1, r2.2)
theorem X5_fresh_b47_ok {K : mm_K} {nx : Option Nat} {e : mm_E} (hz : e.2.1 = K.2.2.2.2) {d : Nat} (hd : 1 ≤ d) {a0 : Nat} (h0 : e.1 a0 = some (5, 4)) {m : mm_V} {r : (Nat × mm_V)} (hr : X5_fresh_b47 e a0 m = some r) : mm_G K MX5_fresh d (mm_Fr e.1 nx r) 47 [some (.ref a0)] [] (e.1, m) nx 0 0 := by
  obtain ⟨d, rfl⟩ : ∃ d', d = d' + 1 := ⟨d - 1, by omega⟩
  unfold X5_fresh_b47 at hr
  refine ml_aload_n (pc := 47) dX5_fresh_47 rfl mm_get_0 ?_
  refine ml_aload_n (pc := 48) dX5_fresh_48 rfl mm_get_0 ?_
  refine mb_gi (pc := 49) dX5_fresh_49 fl_X5_22 hr (fun x1 hr => ?_)
  refine mg_iconst (pc := 52) dX5_fresh_52 kc_1 ?_
  refine mg_isub (pc := 53) dX5_fresh_53 ?_
  refine mb_cVr (pc := 54) (As := [.int (x1 - (1 : Int32))]) (rest := []) dX5_fresh_54 cw_X5_29 h0 hr (fun v hv => X5_at_ok hz (by omega) h0 hv) rfl (Nat.le_of_ble_eq_true rfl) (Nat.zero_le _) (Nat.zero_le _) (fun r2 hr => ?_)
  exact mb_aret dX5_fresh_57 rfl hr
def X5_fresh_b44 (e : mm_E) (a0 : Nat) (t0 : Nat) (t1 : Int32) (m : mm_V) : Option (Nat × mm_V) := (mm_pf e.1 m 5 4 t0 2 (.int t1)).bind fun m1 => X5_fresh_b47 e a0  m1
theorem X5_fresh_b44_ok {K : mm_K} {nx : Option Nat} {e : mm_E} (hz : e.2.1 = K.2.2.2.2) {d : Nat} (hd : 1 ≤ d) {a0 : Nat} {t0 : Nat} {t1 : Int32} (h0 : e.1 a0 = some (5, 4)) {m : mm_V} {r : (Nat × mm_V)} (hr : X5_fresh_b44 e a0 t0 t1 m = some r) : mm_G K MX5_fresh d (mm_Fr e.1 nx r) 44 [some (.ref a0)] [.int t1, .ref t0] (e.1, m) nx 0 0 := by
  obtain ⟨d, rfl⟩ : ∃ d', d = d' + 1 := ⟨d - 1, by omega⟩
  unfold X5_fresh_b44 at hr
  refine mb_pi (pc := 44) dX5_fresh_44 fp_X5_26 hr (fun m1 hr => ?_)
  exact mg_weak (mm_le_s mm_le_0) (X5_fresh_b47_ok hz hd h0 hr)
def X5_fresh (e : mm_E) (a0 : Nat) (m : mm_V) : Option (Nat × mm_V) := (mm_gi e.1 m 5 4 a0 3).bind fun x1 => if (60 : Int32) ≤ x1 then ((mm_gi e.1 m 5 4 a0 2).bind fun x2 => if (60 : Int32) ≤ (x2 + (1 : Int32)) then (X5_fresh_b44 e a0 a0 (0 : Int32) m) else ((mm_gi e.1 m 5 4 a0 2).bind fun x3 => X5_fresh_b44 e a0 a0 (x3 + (1 : Int32)) m)) else ((mm_gi e.1 m 5 4 a0 3).bind fun x4 => (mm_pf e.1 m 5 4 a0 3 (.int (x4 + (1 : Int32)))).bind fun m5 => X5_fresh_b47 e a0  m5)
theorem X5_fresh_ok {K : mm_K} {nx : Option Nat} {e : mm_E} (hz : e.2.1 = K.2.2.2.2) {d : Nat} (hd : 1 ≤ d) {a0 : Nat} (h0 : e.1 a0 = some (5, 4)) {m : mm_V} {r : (Nat × mm_V)} (hr : X5_fresh e a0 m = some r) : mm_Cn K MX5_fresh d (mm_Fr e.1 nx r) [.ref a0] (e.1, m) nx := by
  obtain ⟨d, rfl⟩ : ∃ d', d = d' + 1 := ⟨d - 1, by omega⟩
  refine mm_entry (by decide) (Nat.le_of_ble_eq_true rfl) rfl (fun hok => ?_)
  unfold X5_fresh at hr
  refine mg_weak (L' := [some (.ref a0)]) (mm_le_s mm_le_0) ?_
  refine ml_aload_n (pc := 0) dX5_fresh_0 rfl mm_get_0 ?_
  refine mb_gi (pc := 1) dX5_fresh_1 fl_X5_22 hr (fun x1 hr => ?_)
  refine mg_bipush (pc := 4) dX5_fresh_4 kb_60 ?_
  refine mb_icmp_ge (pc := 6) 22 dX5_fresh_6 rfl hr (fun hr => ?_) (fun hr => ?_)
  · refine ml_aload_n (pc := 22) dX5_fresh_22 rfl mm_get_0 ?_
    refine ml_aload_n (pc := 23) dX5_fresh_23 rfl mm_get_0 ?_
    refine mb_gi (pc := 24) dX5_fresh_24 fl_X5_26 hr (fun x2 hr => ?_)
    refine mg_iconst (pc := 27) dX5_fresh_27 kc_1 ?_
    refine mg_iadd (pc := 28) dX5_fresh_28 ?_
    refine mg_bipush (pc := 29) dX5_fresh_29 kb_60 ?_
    refine mb_icmp_ge (pc := 31) 43 dX5_fresh_31 rfl hr (fun hr => ?_) (fun hr => ?_)
    · refine mg_iconst (pc := 43) dX5_fresh_43 kc_0 ?_
      exact mg_weak (mm_le_s mm_le_0) (X5_fresh_b44_ok hz hd h0 hr)
    · refine ml_aload_n (pc := 34) dX5_fresh_34 rfl mm_get_0 ?_
      refine mb_gi (pc := 35) dX5_fresh_35 fl_X5_26 hr (fun x3 hr => ?_)
      refine mg_iconst (pc := 38) dX5_fresh_38 kc_1 ?_
      refine mg_iadd (pc := 39) dX5_fresh_39 ?_
      refine mg_goto (pc := 40) 44 dX5_fresh_40 rfl ?_
      exact mg_weak (mm_le_s mm_le_0) (X5_fresh_b44_ok hz hd h0 hr)
  · refine ml_aload_n (pc := 9) dX5_fresh_9 rfl mm_get_0 ?_
    refine mg_dup (pc := 10) dX5_fresh_10 rfl ?_
    refine mb_gi (pc := 11) dX5_fresh_11 fl_X5_22 hr (fun x4 hr => ?_)
    refine mg_iconst (pc := 14) dX5_fresh_14 kc_1 ?_
    refine mg_iadd (pc := 15) dX5_fresh_15 ?_
    refine mb_pi (pc := 16) dX5_fresh_16 fp_X5_22 hr (fun m5 hr => ?_)
    refine mg_goto (pc := 19) 47 dX5_fresh_19 rfl ?_
    exact mg_weak (mm_le_s mm_le_0) (X5_fresh_b47_ok hz hd h0 hr)
theorem dX5_dropLast_0 : decode cX5_dropLast 0 = .ok (.aload_n 0, 1) := by decide +kernel
theorem dX5_dropLast_1 : decode cX5_dropLast 1 = .ok (.aload_n 0, 1) := by decide +kernel
theorem dX5_dropLast_2 : decode cX5_dropLast 2 = .ok (.getfield 22, 3) := by decide +kernel
theorem dX5_dropLast_5 : decode cX5_dropLast 5 = .ok (.ifCond .le 12, 3) := by decide +kernel
theorem dX5_dropLast_8 : decode cX5_dropLast 8 = .ok (.aload_n 0, 1) := by decide +kernel
theorem dX5_dropLast_9 : decode cX5_dropLast 9 = .ok (.getfield 22, 3) := by decide +kernel
theorem dX5_dropLast_12 : decode cX5_dropLast 12 = .ok (.iconst 1, 1) := by decide +kernel
theorem dX5_dropLast_13 : decode cX5_dropLast 13 = .ok (.isub, 1) := by decide +kernel
theorem dX5_dropLast_14 : decode cX5_dropLast 14 = .ok (.goto 4, 3) := by decide +kernel
theorem dX5_dropLast_17 : decode cX5_dropLast 17 = .ok (.iconst 0, 1) := by decide +kernel
theorem dX5_dropLast_18 : decode cX5_dropLast 18 = .ok (.putfield 22, 3) := by decide +kernel
theorem dX5_dropLast_21 : decode cX5_dropLast 21 = .ok (.return_, 1) := by decide +kernel
def X5_dropLast_b18 (e : mm_E) (t0 : Nat) (t1 : Int32) (m : mm_V) : Option mm_V := (mm_pf e.1 m 5 4 t0 3 (.int t1)).bind fun m1 => some m1
theorem X5_dropLast_b18_ok {K : mm_K} {nx : Option Nat} {e : mm_E} (hz : e.2.1 = K.2.2.2.2) {d : Nat} (hd : 0 ≤ d) {t0 : Nat} {t1 : Int32} {a0 : Nat} (h0 : e.1 a0 = some (5, 4)) {m : mm_V} {r : mm_V} (hr : X5_dropLast_b18 e t0 t1 m = some r) : mm_G K MX5_dropLast d (mm_Fv e.1 nx r) 18 [none] [.int t1, .ref t0] (e.1, m) nx 0 0 := by
  unfold X5_dropLast_b18 at hr
  refine mb_pi (pc := 18) dX5_dropLast_18 fp_X5_22 hr (fun m1 hr => ?_)
  exact mb_vret dX5_dropLast_21 rfl hr
def X5_dropLast (e : mm_E) (a0 : Nat) (m : mm_V) : Option mm_V := (mm_gi e.1 m 5 4 a0 3).bind fun x1 => if x1 ≤ 0 then (X5_dropLast_b18 e  a0 (0 : Int32) m) else ((mm_gi e.1 m 5 4 a0 3).bind fun x2 => X5_dropLast_b18 e  a0 (x2 - (1 : Int32)) m)
theorem X5_dropLast_ok {K : mm_K} {nx : Option Nat} {e : mm_E} (hz : e.2.1 = K.2.2.2.2) {d : Nat} (hd : 0 ≤ d) {a0 : Nat} (h0 : e.1 a0 = some (5, 4)) {m : mm_V} {r : mm_V} (hr : X5_dropLast e a0 m = some r) : mm_Cn K MX5_dropLast d (mm_Fv e.1 nx r) [.ref a0] (e.1, m) nx := by
  refine mm_entry (by decide) (Nat.le_of_ble_eq_true rfl) rfl (fun hok => ?_)
  unfold X5_dropLast at hr
  refine mg_weak (L' := [some (.ref a0)]) (mm_le_s mm_le_0) ?_
  refine ml_aload_n (pc := 0) dX5_dropLast_0 rfl mm_get_0 ?_
  refine ml_aload_n (pc := 1) dX5_dropLast_1 rfl mm_get_0 ?_
  refine mb_gi (pc := 2) dX5_dropLast_2 fl_X5_22 hr (fun x1 hr => ?_)
  refine mb_if_le (pc := 5) 17 dX5_dropLast_5 rfl hr (fun hr => ?_) (fun hr => ?_)
  · refine mg_iconst (pc := 17) dX5_dropLast_17 kc_0 ?_
    exact mg_weak (mm_le_n mm_le_0) (X5_dropLast_b18_ok hz hd h0 hr)
  · refine ml_aload_n (pc := 8) dX5_dropLast_8 rfl mm_get_0 ?_
    refine mb_gi (pc := 9) dX5_dropLast_9 fl_X5_22 hr (fun x2 hr => ?_)
    refine mg_iconst (pc := 12) dX5_dropLast_12 kc_1 ?_
    refine mg_isub (pc := 13) dX5_dropLast_13 ?_
    refine mg_goto (pc := 14) 18 dX5_dropLast_14 rfl ?_
    exact mg_weak (mm_le_n mm_le_0) (X5_dropLast_b18_ok hz hd h0 hr)
theorem dX5_clear_0 : decode cX5_clear 0 = .ok (.aload_n 0, 1) := by decide +kernel
theorem dX5_clear_1 : decode cX5_clear 1 = .ok (.iconst 0, 1) := by decide +kernel
theorem dX5_clear_2 : decode cX5_clear 2 = .ok (.putfield 26, 3) := by decide +kernel
theorem dX5_clear_5 : decode cX5_clear 5 = .ok (.aload_n 0, 1) := by decide +kernel
theorem dX5_clear_6 : decode cX5_clear 6 = .ok (.iconst 0, 1) := by decide +kernel
theorem dX5_clear_7 : decode cX5_clear 7 = .ok (.putfield 22, 3) := by decide +kernel
theorem dX5_clear_10 : decode cX5_clear 10 = .ok (.return_, 1) := by decide +kernel
def X5_clear (e : mm_E) (a0 : Nat) (m : mm_V) : Option mm_V := (mm_pf e.1 m 5 4 a0 2 (.int (0 : Int32))).bind fun m1 => (mm_pf e.1 m1 5 4 a0 3 (.int (0 : Int32))).bind fun m2 => some m2
theorem X5_clear_ok {K : mm_K} {nx : Option Nat} {e : mm_E} (hz : e.2.1 = K.2.2.2.2) {d : Nat} (hd : 0 ≤ d) {a0 : Nat} (h0 : e.1 a0 = some (5, 4)) {m : mm_V} {r : mm_V} (hr : X5_clear e a0 m = some r) : mm_Cn K MX5_clear d (mm_Fv e.1 nx r) [.ref a0] (e.1, m) nx := by
  refine mm_entry (by decide) (Nat.le_of_ble_eq_true rfl) rfl (fun hok => ?_)
  unfold X5_clear at hr
  refine mg_weak (L' := [some (.ref a0)]) (mm_le_s mm_le_0) ?_
  refine ml_aload_n (pc := 0) dX5_clear_0 rfl mm_get_0 ?_
  refine mg_iconst (pc := 1) dX5_clear_1 kc_0 ?_
  refine mb_pi (pc := 2) dX5_clear_2 fp_X5_26 hr (fun m1 hr => ?_)
  refine ml_aload_n (pc := 5) dX5_clear_5 rfl mm_get_0 ?_
  refine mg_iconst (pc := 6) dX5_clear_6 kc_0 ?_
  refine mb_pi (pc := 7) dX5_clear_7 fp_X5_22 hr (fun m2 hr => ?_)
  exact mb_vret dX5_clear_10 rfl hr
theorem dX5_copyFrom_0 : decode cX5_copyFrom 0 = .ok (.iconst 0, 1) := by decide +kernel
theorem dX5_copyFrom_1 : decode cX5_copyFrom 1 = .ok (.istore_n 2, 1) := by decide +kernel
theorem dX5_copyFrom_2 : decode cX5_copyFrom 2 = .ok (.iload_n 2, 1) := by decide +kernel
theorem dX5_copyFrom_3 : decode cX5_copyFrom 3 = .ok (.bipush 60, 2) := by decide +kernel
theorem dX5_copyFrom_5 : decode cX5_copyFrom 5 = .ok (.if_icmp .ge 24, 3) := by decide +kernel
theorem dX5_copyFrom_8 : decode cX5_copyFrom 8 = .ok (.aload_n 0, 1) := by decide +kernel
theorem dX5_copyFrom_9 : decode cX5_copyFrom 9 = .ok (.getfield 11, 3) := by decide +kernel
theorem dX5_copyFrom_12 : decode cX5_copyFrom 12 = .ok (.iload_n 2, 1) := by decide +kernel
theorem dX5_copyFrom_13 : decode cX5_copyFrom 13 = .ok (.aaload, 1) := by decide +kernel
theorem dX5_copyFrom_14 : decode cX5_copyFrom 14 = .ok (.aload_n 1, 1) := by decide +kernel
theorem dX5_copyFrom_15 : decode cX5_copyFrom 15 = .ok (.getfield 11, 3) := by decide +kernel
theorem dX5_copyFrom_18 : decode cX5_copyFrom 18 = .ok (.iload_n 2, 1) := by decide +kernel
theorem dX5_copyFrom_19 : decode cX5_copyFrom 19 = .ok (.aaload, 1) := by decide +kernel
theorem dX5_copyFrom_20 : decode cX5_copyFrom 20 = .ok (.invokevirtual 33, 3) := by decide +kernel
theorem dX5_copyFrom_23 : decode cX5_copyFrom 23 = .ok (.iinc 2 1, 3) := by decide +kernel
theorem dX5_copyFrom_26 : decode cX5_copyFrom 26 = .ok (.goto (-24), 3) := by decide +kernel
theorem dX5_copyFrom_29 : decode cX5_copyFrom 29 = .ok (.aload_n 0, 1) := by decide +kernel
theorem dX5_copyFrom_30 : decode cX5_copyFrom 30 = .ok (.aload_n 1, 1) := by decide +kernel
theorem dX5_copyFrom_31 : decode cX5_copyFrom 31 = .ok (.getfield 26, 3) := by decide +kernel
theorem dX5_copyFrom_34 : decode cX5_copyFrom 34 = .ok (.putfield 26, 3) := by decide +kernel
theorem dX5_copyFrom_37 : decode cX5_copyFrom 37 = .ok (.aload_n 0, 1) := by decide +kernel
theorem dX5_copyFrom_38 : decode cX5_copyFrom 38 = .ok (.aload_n 1, 1) := by decide +kernel
theorem dX5_copyFrom_39 : decode cX5_copyFrom 39 = .ok (.getfield 22, 3) := by decide +kernel
theorem dX5_copyFrom_42 : decode cX5_copyFrom 42 = .ok (.putfield 22, 3) := by decide +kernel
theorem dX5_copyFrom_45 : decode cX5_copyFrom 45 = .ok (.return_, 1) := by decide +kernel
def X5_copyFrom_L2 (e : mm_E) (a0 : Nat) (a1 : Nat) : Nat → Int32 → mm_V → Option mm_V
  | 0, _, _ => none
  | n + 1, i2, m => if (60 : Int32) ≤ i2 then ((mm_gi e.1 m 5 4 a1 2).bind fun x1 => (mm_pf e.1 m 5 4 a0 2 (.int x1)).bind fun m2 => (mm_gi e.1 m2 5 4 a1 3).bind fun x3 => (mm_pf e.1 m2 5 4 a0 3 (.int x3)).bind fun m4 => some m4) else ((mm_gr e.1 m 5 4 a0 0).bind fun c5 => (mm_aq e.1 m 24 c5 i2).bind fun c6 => (mm_gr e.1 m 5 4 a1 0).bind fun c7 => (mm_aq e.1 m 24 c7 i2).bind fun c8 => if e.1 c6 = some (2, 9) then ((X2_copyFrom e c6 c8 m).bind fun r9 => X5_copyFrom_L2 e a0 a1 n (i2 + 1) r9) else none)
theorem X5_copyFrom_L2_ok {K : mm_K} {nx : Option Nat} {e : mm_E} (hz : e.2.1 = K.2.2.2.2) {d : Nat} (hd : 1 ≤ d) {a0 : Nat} {a1 : Nat} (h0 : e.1 a0 = some (5, 4)) : ∀ (n : Nat) (i2 : Int32) (m : mm_V) (r : mm_V), X5_copyFrom_L2 e a0 a1 n i2 m = some r → mm_G K MX5_copyFrom d (mm_Fv e.1 nx r) 2 [some (.ref a0), some (.ref a1), some (.int i2)] [] (e.1, m) nx 0 0 := by
  obtain ⟨d, rfl⟩ : ∃ d', d = d' + 1 := ⟨d - 1, by omega⟩
  intro n
  induction n with
  | zero => intro i2 m r hr; unfold X5_copyFrom_L2 at hr; cases hr
  | succ n ih =>
    intro i2 m r hr
    unfold X5_copyFrom_L2 at hr
    refine ml_iload_n (pc := 2) dX5_copyFrom_2 rfl (mm_get_s (mm_get_s mm_get_0)) ?_
    refine mg_bipush (pc := 3) dX5_copyFrom_3 kb_60 ?_
    refine mb_icmp_ge (pc := 5) 29 dX5_copyFrom_5 rfl hr (fun hr => ?_) (fun hr => ?_)
    · refine ml_aload_n (pc := 29) dX5_copyFrom_29 rfl mm_get_0 ?_
      refine ml_aload_n (pc := 30) dX5_copyFrom_30 rfl (mm_get_s mm_get_0) ?_
      refine mb_gi (pc := 31) dX5_copyFrom_31 fl_X5_26 hr (fun x1 hr => ?_)
      refine mb_pi (pc := 34) dX5_copyFrom_34 fp_X5_26 hr (fun m2 hr => ?_)
      refine ml_aload_n (pc := 37) dX5_copyFrom_37 rfl mm_get_0 ?_
      refine ml_aload_n (pc := 38) dX5_copyFrom_38 rfl (mm_get_s mm_get_0) ?_
      refine mb_gi (pc := 39) dX5_copyFrom_39 fl_X5_22 hr (fun x3 hr => ?_)
      refine mb_pi (pc := 42) dX5_copyFrom_42 fp_X5_22 hr (fun m4 hr => ?_)
      exact mb_vret dX5_copyFrom_45 rfl hr
    · refine ml_aload_n (pc := 8) dX5_copyFrom_8 rfl mm_get_0 ?_
      refine mb_gr (pc := 9) dX5_copyFrom_9 fl_X5_11 hr (fun c5 hr => ?_)
      refine ml_iload_n (pc := 12) dX5_copyFrom_12 rfl (mm_get_s (mm_get_s mm_get_0)) ?_
      refine mb_aq (pc := 13) dX5_copyFrom_13 (by decide) (by decide) hr (fun c6 hr => ?_)
      refine ml_aload_n (pc := 14) dX5_copyFrom_14 rfl (mm_get_s mm_get_0) ?_
      refine mb_gr (pc := 15) dX5_copyFrom_15 fl_X5_11 hr (fun c7 hr => ?_)
      refine ml_iload_n (pc := 18) dX5_copyFrom_18 rfl (mm_get_s (mm_get_s mm_get_0)) ?_
      refine mb_aq (pc := 19) dX5_copyFrom_19 (by decide) (by decide) hr (fun c8 hr => ?_)
      refine mb_ck hr (fun hb10 hr => ?_)
      refine mb_cVv (pc := 20) (As := [.ref c8]) (rest := []) dX5_copyFrom_20 cw_X5_33 hb10 hr (fun v hv => X2_copyFrom_ok hz (by omega) hb10 hv) rfl (Nat.le_of_ble_eq_true rfl) (Nat.zero_le _) (Nat.zero_le _) (fun r9 hr => ?_)
      refine ml_iinc (pc := 23) dX5_copyFrom_23 (mm_get_s (mm_get_s mm_get_0)) (congrArg (fun z => i2 + z) kc_1) (Nat.le_of_ble_eq_true rfl) (mm_st1_s mm_st1_r) ?_
      refine mg_goto (pc := 26) 2 dX5_copyFrom_26 rfl ?_
      exact mg_weak (mm_le_s (mm_le_s (mm_le_s mm_le_0))) (ih _ _ _ hr)
def X5_copyFrom (e : mm_E) (a0 : Nat) (a1 : Nat) (m : mm_V) : Option mm_V := X5_copyFrom_L2 e a0 a1 e.2.2 (0 : Int32) m
theorem X5_copyFrom_ok {K : mm_K} {nx : Option Nat} {e : mm_E} (hz : e.2.1 = K.2.2.2.2) {d : Nat} (hd : 1 ≤ d) {a0 : Nat} {a1 : Nat} (h0 : e.1 a0 = some (5, 4)) {m : mm_V} {r : mm_V} (hr : X5_copyFrom e a0 a1 m = some r) : mm_Cn K MX5_copyFrom d (mm_Fv e.1 nx r) [.ref a0, .ref a1] (e.1, m) nx := by
  obtain ⟨d, rfl⟩ : ∃ d', d = d' + 1 := ⟨d - 1, by omega⟩
  refine mm_entry (by decide) (Nat.le_of_ble_eq_true rfl) rfl (fun hok => ?_)
  unfold X5_copyFrom at hr
  refine mg_weak (L' := [some (.ref a0), some (.ref a1), none]) (mm_le_s (mm_le_s (mm_le_e mm_le_0))) ?_
  refine mg_iconst (pc := 0) dX5_copyFrom_0 kc_0 ?_
  refine ml_istore_n (pc := 1) dX5_copyFrom_1 rfl (Nat.le_of_ble_eq_true rfl) (mm_st1_s mm_st1_r) ?_
  exact mg_weak (mm_le_s (mm_le_s (mm_le_s mm_le_0))) (X5_copyFrom_L2_ok hz hd h0 _ _ _ _ hr)
theorem dX6_spreadFrom_0 : decode cX6_spreadFrom 0 = .ok (.iload_n 1, 1) := by decide +kernel
theorem dX6_spreadFrom_1 : decode cX6_spreadFrom 1 = .ok (.ifCond .lt 8, 3) := by decide +kernel
theorem dX6_spreadFrom_4 : decode cX6_spreadFrom 4 = .ok (.iload_n 1, 1) := by decide +kernel
theorem dX6_spreadFrom_5 : decode cX6_spreadFrom 5 = .ok (.iconst 4, 1) := by decide +kernel
theorem dX6_spreadFrom_6 : decode cX6_spreadFrom 6 = .ok (.if_icmp .le 5, 3) := by decide +kernel
theorem dX6_spreadFrom_9 : decode cX6_spreadFrom 9 = .ok (.iconst 0, 1) := by decide +kernel
theorem dX6_spreadFrom_10 : decode cX6_spreadFrom 10 = .ok (.ireturn, 1) := by decide +kernel
theorem dX6_spreadFrom_11 : decode cX6_spreadFrom 11 = .ok (.aload_n 0, 1) := by decide +kernel
theorem dX6_spreadFrom_12 : decode cX6_spreadFrom 12 = .ok (.getfield 11, 3) := by decide +kernel
theorem dX6_spreadFrom_15 : decode cX6_spreadFrom 15 = .ok (.iload_n 1, 1) := by decide +kernel
theorem dX6_spreadFrom_16 : decode cX6_spreadFrom 16 = .ok (.aaload, 1) := by decide +kernel
theorem dX6_spreadFrom_17 : decode cX6_spreadFrom 17 = .ok (.astore 6, 2) := by decide +kernel
theorem dX6_spreadFrom_19 : decode cX6_spreadFrom 19 = .ok (.iload_n 1, 1) := by decide +kernel
theorem dX6_spreadFrom_20 : decode cX6_spreadFrom 20 = .ok (.iload_n 2, 1) := by decide +kernel
theorem dX6_spreadFrom_21 : decode cX6_spreadFrom 21 = .ok (.if_icmp .ge 16, 3) := by decide +kernel
theorem dX6_spreadFrom_24 : decode cX6_spreadFrom 24 = .ok (.iload_n 1, 1) := by decide +kernel
theorem dX6_spreadFrom_25 : decode cX6_spreadFrom 25 = .ok (.iconst 4, 1) := by decide +kernel
theorem dX6_spreadFrom_26 : decode cX6_spreadFrom 26 = .ok (.if_icmp .ge 11, 3) := by decide +kernel
theorem dX6_spreadFrom_29 : decode cX6_spreadFrom 29 = .ok (.aload 6, 2) := by decide +kernel
theorem dX6_spreadFrom_31 : decode cX6_spreadFrom 31 = .ok (.invokevirtual 64, 3) := by decide +kernel
theorem dX6_spreadFrom_34 : decode cX6_spreadFrom 34 = .ok (.ifCond .eq 77, 3) := by decide +kernel
theorem dX6_spreadFrom_37 : decode cX6_spreadFrom 37 = .ok (.aload_n 0, 1) := by decide +kernel
theorem dX6_spreadFrom_38 : decode cX6_spreadFrom 38 = .ok (.dup, 1) := by decide +kernel
theorem dX6_spreadFrom_39 : decode cX6_spreadFrom 39 = .ok (.getfield 41, 3) := by decide +kernel
theorem dX6_spreadFrom_42 : decode cX6_spreadFrom 42 = .ok (.aload 6, 2) := by decide +kernel
theorem dX6_spreadFrom_44 : decode cX6_spreadFrom 44 = .ok (.invokevirtual 68, 3) := by decide +kernel
theorem dX6_spreadFrom_47 : decode cX6_spreadFrom 47 = .ok (.iload_n 3, 1) := by decide +kernel
theorem dX6_spreadFrom_48 : decode cX6_spreadFrom 48 = .ok (.if_icmp .ne 8, 3) := by decide +kernel
theorem dX6_spreadFrom_51 : decode cX6_spreadFrom 51 = .ok (.lload 4, 2) := by decide +kernel
theorem dX6_spreadFrom_53 : decode cX6_spreadFrom 53 = .ok (.goto 4, 3) := by decide +kernel
theorem dX6_spreadFrom_56 : decode cX6_spreadFrom 56 = .ok (.lconst 0, 1) := by decide +kernel
theorem dX6_spreadFrom_57 : decode cX6_spreadFrom 57 = .ok (.ladd, 1) := by decide +kernel
theorem dX6_spreadFrom_58 : decode cX6_spreadFrom 58 = .ok (.putfield 41, 3) := by decide +kernel
theorem dX6_spreadFrom_61 : decode cX6_spreadFrom 61 = .ok (.aload_n 0, 1) := by decide +kernel
theorem dX6_spreadFrom_62 : decode cX6_spreadFrom 62 = .ok (.dup, 1) := by decide +kernel
theorem dX6_spreadFrom_63 : decode cX6_spreadFrom 63 = .ok (.getfield 45, 3) := by decide +kernel
theorem dX6_spreadFrom_66 : decode cX6_spreadFrom 66 = .ok (.aload 6, 2) := by decide +kernel
theorem dX6_spreadFrom_68 : decode cX6_spreadFrom 68 = .ok (.iload_n 3, 1) := by decide +kernel
theorem dX6_spreadFrom_69 : decode cX6_spreadFrom 69 = .ok (.invokevirtual 72, 3) := by decide +kernel
theorem dX6_spreadFrom_72 : decode cX6_spreadFrom 72 = .ok (.ifCond .eq 8, 3) := by decide +kernel
theorem dX6_spreadFrom_75 : decode cX6_spreadFrom 75 = .ok (.lload 4, 2) := by decide +kernel
theorem dX6_spreadFrom_77 : decode cX6_spreadFrom 77 = .ok (.goto 4, 3) := by decide +kernel
theorem dX6_spreadFrom_80 : decode cX6_spreadFrom 80 = .ok (.lconst 0, 1) := by decide +kernel
theorem dX6_spreadFrom_81 : decode cX6_spreadFrom 81 = .ok (.ladd, 1) := by decide +kernel
theorem dX6_spreadFrom_82 : decode cX6_spreadFrom 82 = .ok (.putfield 45, 3) := by decide +kernel
theorem dX6_spreadFrom_85 : decode cX6_spreadFrom 85 = .ok (.aload_n 0, 1) := by decide +kernel
theorem dX6_spreadFrom_86 : decode cX6_spreadFrom 86 = .ok (.dup, 1) := by decide +kernel
theorem dX6_spreadFrom_87 : decode cX6_spreadFrom 87 = .ok (.getfield 48, 3) := by decide +kernel
theorem dX6_spreadFrom_90 : decode cX6_spreadFrom 90 = .ok (.aload 6, 2) := by decide +kernel
theorem dX6_spreadFrom_92 : decode cX6_spreadFrom 92 = .ok (.invokevirtual 76, 3) := by decide +kernel
theorem dX6_spreadFrom_95 : decode cX6_spreadFrom 95 = .ok (.iload_n 3, 1) := by decide +kernel
theorem dX6_spreadFrom_96 : decode cX6_spreadFrom 96 = .ok (.if_icmp .ne 8, 3) := by decide +kernel
theorem dX6_spreadFrom_99 : decode cX6_spreadFrom 99 = .ok (.lload 4, 2) := by decide +kernel
theorem dX6_spreadFrom_101 : decode cX6_spreadFrom 101 = .ok (.goto 4, 3) := by decide +kernel
theorem dX6_spreadFrom_104 : decode cX6_spreadFrom 104 = .ok (.lconst 0, 1) := by decide +kernel
theorem dX6_spreadFrom_105 : decode cX6_spreadFrom 105 = .ok (.ladd, 1) := by decide +kernel
theorem dX6_spreadFrom_106 : decode cX6_spreadFrom 106 = .ok (.putfield 48, 3) := by decide +kernel
theorem dX6_spreadFrom_109 : decode cX6_spreadFrom 109 = .ok (.iconst 1, 1) := by decide +kernel
theorem dX6_spreadFrom_110 : decode cX6_spreadFrom 110 = .ok (.ireturn, 1) := by decide +kernel
theorem dX6_spreadFrom_111 : decode cX6_spreadFrom 111 = .ok (.aload 6, 2) := by decide +kernel
theorem dX6_spreadFrom_113 : decode cX6_spreadFrom 113 = .ok (.aload 6, 2) := by decide +kernel
theorem dX6_spreadFrom_115 : decode cX6_spreadFrom 115 = .ok (.aload 6, 2) := by decide +kernel
theorem dX6_spreadFrom_117 : decode cX6_spreadFrom 117 = .ok (.getfield 79, 3) := by decide +kernel
theorem dX6_spreadFrom_120 : decode cX6_spreadFrom 120 = .ok (.invokevirtual 83, 3) := by decide +kernel
theorem dX6_spreadFrom_123 : decode cX6_spreadFrom 123 = .ok (.invokevirtual 87, 3) := by decide +kernel
theorem dX6_spreadFrom_126 : decode cX6_spreadFrom 126 = .ok (.getfield 91, 3) := by decide +kernel
theorem dX6_spreadFrom_129 : decode cX6_spreadFrom 129 = .ok (.istore 7, 2) := by decide +kernel
theorem dX6_spreadFrom_131 : decode cX6_spreadFrom 131 = .ok (.iload 7, 2) := by decide +kernel
theorem dX6_spreadFrom_133 : decode cX6_spreadFrom 133 = .ok (.iconst 1, 1) := by decide +kernel
theorem dX6_spreadFrom_134 : decode cX6_spreadFrom 134 = .ok (.if_icmp .lt 10, 3) := by decide +kernel
theorem dX6_spreadFrom_137 : decode cX6_spreadFrom 137 = .ok (.iload 7, 2) := by decide +kernel
theorem dX6_spreadFrom_139 : decode cX6_spreadFrom 139 = .ok (.bipush 9, 2) := by decide +kernel
theorem dX6_spreadFrom_141 : decode cX6_spreadFrom 141 = .ok (.if_icmp .le 5, 3) := by decide +kernel
theorem dX6_spreadFrom_144 : decode cX6_spreadFrom 144 = .ok (.iconst 0, 1) := by decide +kernel
theorem dX6_spreadFrom_145 : decode cX6_spreadFrom 145 = .ok (.ireturn, 1) := by decide +kernel
theorem dX6_spreadFrom_146 : decode cX6_spreadFrom 146 = .ok (.iconst 0, 1) := by decide +kernel
theorem dX6_spreadFrom_147 : decode cX6_spreadFrom 147 = .ok (.istore 8, 2) := by decide +kernel
theorem dX6_spreadFrom_149 : decode cX6_spreadFrom 149 = .ok (.iload 8, 2) := by decide +kernel
theorem dX6_spreadFrom_151 : decode cX6_spreadFrom 151 = .ok (.iload 7, 2) := by decide +kernel
theorem dX6_spreadFrom_153 : decode cX6_spreadFrom 153 = .ok (.if_icmp .ge 57, 3) := by decide +kernel
theorem dX6_spreadFrom_156 : decode cX6_spreadFrom 156 = .ok (.aload_n 0, 1) := by decide +kernel
theorem dX6_spreadFrom_157 : decode cX6_spreadFrom 157 = .ok (.getfield 11, 3) := by decide +kernel
theorem dX6_spreadFrom_160 : decode cX6_spreadFrom 160 = .ok (.iload_n 1, 1) := by decide +kernel
theorem dX6_spreadFrom_161 : decode cX6_spreadFrom 161 = .ok (.iconst 1, 1) := by decide +kernel
theorem dX6_spreadFrom_162 : decode cX6_spreadFrom 162 = .ok (.iadd, 1) := by decide +kernel
theorem dX6_spreadFrom_163 : decode cX6_spreadFrom 163 = .ok (.aaload, 1) := by decide +kernel
theorem dX6_spreadFrom_164 : decode cX6_spreadFrom 164 = .ok (.astore 9, 2) := by decide +kernel
theorem dX6_spreadFrom_166 : decode cX6_spreadFrom 166 = .ok (.aload 9, 2) := by decide +kernel
theorem dX6_spreadFrom_168 : decode cX6_spreadFrom 168 = .ok (.aload 6, 2) := by decide +kernel
theorem dX6_spreadFrom_170 : decode cX6_spreadFrom 170 = .ok (.invokevirtual 56, 3) := by decide +kernel
theorem dX6_spreadFrom_173 : decode cX6_spreadFrom 173 = .ok (.aload 9, 2) := by decide +kernel
theorem dX6_spreadFrom_175 : decode cX6_spreadFrom 175 = .ok (.iload 8, 2) := by decide +kernel
theorem dX6_spreadFrom_177 : decode cX6_spreadFrom 177 = .ok (.aload_n 0, 1) := by decide +kernel
theorem dX6_spreadFrom_178 : decode cX6_spreadFrom 178 = .ok (.getfield 27, 3) := by decide +kernel
theorem dX6_spreadFrom_181 : decode cX6_spreadFrom 181 = .ok (.invokevirtual 96, 3) := by decide +kernel
theorem dX6_spreadFrom_184 : decode cX6_spreadFrom 184 = .ok (.aload_n 0, 1) := by decide +kernel
theorem dX6_spreadFrom_185 : decode cX6_spreadFrom 185 = .ok (.iload_n 1, 1) := by decide +kernel
theorem dX6_spreadFrom_186 : decode cX6_spreadFrom 186 = .ok (.iconst 1, 1) := by decide +kernel
theorem dX6_spreadFrom_187 : decode cX6_spreadFrom 187 = .ok (.iadd, 1) := by decide +kernel
theorem dX6_spreadFrom_188 : decode cX6_spreadFrom 188 = .ok (.iload_n 2, 1) := by decide +kernel
theorem dX6_spreadFrom_189 : decode cX6_spreadFrom 189 = .ok (.iload_n 3, 1) := by decide +kernel
theorem dX6_spreadFrom_190 : decode cX6_spreadFrom 190 = .ok (.lload 4, 2) := by decide +kernel
theorem dX6_spreadFrom_192 : decode cX6_spreadFrom 192 = .ok (.iload 7, 2) := by decide +kernel
theorem dX6_spreadFrom_194 : decode cX6_spreadFrom 194 = .ok (.i2l, 1) := by decide +kernel
theorem dX6_spreadFrom_195 : decode cX6_spreadFrom 195 = .ok (.ldiv, 1) := by decide +kernel
theorem dX6_spreadFrom_196 : decode cX6_spreadFrom 196 = .ok (.invokevirtual 60, 3) := by decide +kernel
theorem dX6_spreadFrom_199 : decode cX6_spreadFrom 199 = .ok (.ifCond .ne 5, 3) := by decide +kernel
theorem dX6_spreadFrom_202 : decode cX6_spreadFrom 202 = .ok (.iconst 0, 1) := by decide +kernel
theorem dX6_spreadFrom_203 : decode cX6_spreadFrom 203 = .ok (.ireturn, 1) := by decide +kernel
theorem dX6_spreadFrom_204 : decode cX6_spreadFrom 204 = .ok (.iinc 8 1, 3) := by decide +kernel
theorem dX6_spreadFrom_207 : decode cX6_spreadFrom 207 = .ok (.goto (-58), 3) := by decide +kernel
theorem dX6_spreadFrom_210 : decode cX6_spreadFrom 210 = .ok (.iconst 1, 1) := by decide +kernel
theorem dX6_spreadFrom_211 : decode cX6_spreadFrom 211 = .ok (.ireturn, 1) := by decide +kernel
def X6_spreadFrom_L149 (e : mm_E) (kr : Nat → Int32 → Int32 → Int32 → Int64 → mm_V → Option (Int32 × mm_V)) (a0 : Nat) (i1 : Int32) (i2 : Int32) (i3 : Int32) (j4 : Int64) (a6 : Nat) (i7 : Int32) : Nat → Int32 → mm_V → Option (Int32 × mm_V)
  | 0, _, _ => none
  | n + 1, i8, m => if i7 ≤ i8 then (mm_rz (1 : Int32) m) else ((mm_gr e.1 m 6 12 a0 0).bind fun c1 => (mm_aq e.1 m 25 c1 (i1 + (1 : Int32))).bind fun c2 => if e.1 c2 = some (4, 12) then ((X4_copyFrom e c2 a6 m).bind fun r3 => (mm_gr e.1 r3 6 12 a0 2).bind fun c5 => if e.1 c2 = some (4, 12) then ((X4_step e c2 i8 c5 r3).bind fun r6 => if i7.toInt64 = 0 then none else (kr a0 (i1 + (1 : Int32)) i2 i3 (j4 / i7.toInt64) r6).bind fun r8 => if ¬ r8.1 = 0 then (X6_spreadFrom_L149 e kr a0 i1 i2 i3 j4 a6 i7 n (i8 + 1) r8.2) else (mm_rz (0 : Int32) r8.2)) else none) else none)
theorem X6_spreadFrom_L149_ok {K : mm_K} {nx : Option Nat} {e : mm_E} (hz : e.2.1 = K.2.2.2.2) {d dr : Nat} (hd : dr + 4 ≤ d) {a0 : Nat} {i1 : Int32} {i2 : Int32} {i3 : Int32} {j4 : Int64} {a6 : Nat} {i7 : Int32} (h0 : e.1 a0 = some (6, 12)) {kr : Nat → Int32 → Int32 → Int32 → Int64 → mm_V → Option (Int32 × mm_V)} (hkr : ∀ (b0 : Nat) (b1 : Int32) (b2 : Int32) (b3 : Int32) (b4 : Int64) (m : mm_V) r (d9 : Nat), dr ≤ d9 → e.1 b0 = some (6, 12) → kr b0 b1 b2 b3 b4 m = some r → mm_Cn K MX6_spreadFrom d9 (mm_Fi e.1 nx r) [.ref b0, .int b1, .int b2, .int b3, .long b4] (e.1, m) nx) : ∀ (n : Nat) (i8 : Int32) (m : mm_V) (r : (Int32 × mm_V)), X6_spreadFrom_L149 e kr a0 i1 i2 i3 j4 a6 i7 n i8 m = some r → mm_G K MX6_spreadFrom d (mm_Fi e.1 nx r) 149 [some (.ref a0), some (.int i1), some (.int i2), some (.int i3), some (.long j4), none, some (.ref a6), some (.int i7), some (.int i8), none] [] (e.1, m) nx 0 0 := by
  obtain ⟨d, rfl⟩ : ∃ d', d = d' + 1 := ⟨d - 1, by omega⟩
  intro n
  induction n with
  | zero => intro i8 m r hr; unfold X6_spreadFrom_L149 at hr; cases hr
  | succ n ih =>
    intro i8 m r hr
    unfold X6_spreadFrom_L149 at hr
    refine ml_iload (pc := 149) dX6_spreadFrom_149 (mm_get_s (mm_get_s (mm_get_s (mm_get_s (mm_get_s (mm_get_s (mm_get_s (mm_get_s mm_get_0)))))))) ?_
    refine ml_iload (pc := 151) dX6_spreadFrom_151 (mm_get_s (mm_get_s (mm_get_s (mm_get_s (mm_get_s (mm_get_s (mm_get_s mm_get_0))))))) ?_
    refine mb_icmp_ge (pc := 153) 210 dX6_spreadFrom_153 rfl hr (fun hr => ?_) (fun hr => ?_)
    · refine mg_iconst (pc := 210) dX6_spreadFrom_210 kc_1 ?_
      exact mb_zret dX6_spreadFrom_211 rfl hr
    · refine ml_aload_n (pc := 156) dX6_spreadFrom_156 rfl mm_get_0 ?_
      refine mb_gr (pc := 157) dX6_spreadFrom_157 fl_X6_11 hr (fun c1 hr => ?_)
      refine ml_iload_n (pc := 160) dX6_spreadFrom_160 rfl (mm_get_s mm_get_0) ?_
      refine mg_iconst (pc := 161) dX6_spreadFrom_161 kc_1 ?_
      refine mg_iadd (pc := 162) dX6_spreadFrom_162 ?_
      refine mb_aq (pc := 163) dX6_spreadFrom_163 (by decide) (by decide) hr (fun c2 hr => ?_)
      refine ml_astore (pc := 164) dX6_spreadFrom_164 (Nat.le_of_ble_eq_true rfl) (mm_st1_s (mm_st1_s (mm_st1_s (mm_st1_s (mm_st1_s (mm_st1_s (mm_st1_s (mm_st1_s mm_st1_i)))))))) ?_
      refine ml_aload (pc := 166) dX6_spreadFrom_166 (mm_get_s (mm_get_s (mm_get_s (mm_get_s (mm_get_s (mm_get_s (mm_get_s (mm_get_s (mm_get_s mm_get_0))))))))) ?_
      refine ml_aload (pc := 168) dX6_spreadFrom_168 (mm_get_s (mm_get_s (mm_get_s (mm_get_s (mm_get_s (mm_get_s mm_get_0)))))) ?_
      refine mb_ck hr (fun hb4 hr => ?_)
      refine mb_cVv (pc := 170) (As := [.ref a6]) (rest := []) dX6_spreadFrom_170 cw_X6_56 hb4 hr (fun v hv => X4_copyFrom_ok hz (by omega) hb4 hv) rfl (Nat.le_of_ble_eq_true rfl) (Nat.zero_le _) (Nat.zero_le _) (fun r3 hr => ?_)
      refine ml_aload (pc := 173) dX6_spreadFrom_173 (mm_get_s (mm_get_s (mm_get_s (mm_get_s (mm_get_s (mm_get_s (mm_get_s (mm_get_s (mm_get_s mm_get_0))))))))) ?_
      refine ml_iload (pc := 175) dX6_spreadFrom_175 (mm_get_s (mm_get_s (mm_get_s (mm_get_s (mm_get_s (mm_get_s (mm_get_s (mm_get_s mm_get_0)))))))) ?_
      refine ml_aload_n (pc := 177) dX6_spreadFrom_177 rfl mm_get_0 ?_
      refine mb_gr (pc := 178) dX6_spreadFrom_178 fl_X6_27 hr (fun c5 hr => ?_)
      refine mb_ck hr (fun hb7 hr => ?_)
      refine mb_cVv (pc := 181) (As := [.int i8, .ref c5]) (rest := []) dX6_spreadFrom_181 cw_X6_96 hb7 hr (fun v hv => X4_step_ok hz (by omega) hb7 hv) rfl (Nat.le_of_ble_eq_true rfl) (Nat.zero_le _) (Nat.zero_le _) (fun r6 hr => ?_)
      refine ml_aload_n (pc := 184) dX6_spreadFrom_184 rfl mm_get_0 ?_
      refine ml_iload_n (pc := 185) dX6_spreadFrom_185 rfl (mm_get_s mm_get_0) ?_
      refine mg_iconst (pc := 186) dX6_spreadFrom_186 kc_1 ?_
      refine mg_iadd (pc := 187) dX6_spreadFrom_187 ?_
      refine ml_iload_n (pc := 188) dX6_spreadFrom_188 rfl (mm_get_s (mm_get_s mm_get_0)) ?_
      refine ml_iload_n (pc := 189) dX6_spreadFrom_189 rfl (mm_get_s (mm_get_s (mm_get_s mm_get_0))) ?_
      refine ml_lload (pc := 190) dX6_spreadFrom_190 (mm_get_s (mm_get_s (mm_get_s (mm_get_s mm_get_0)))) ?_
      refine ml_iload (pc := 192) dX6_spreadFrom_192 (mm_get_s (mm_get_s (mm_get_s (mm_get_s (mm_get_s (mm_get_s (mm_get_s mm_get_0))))))) ?_
      refine mg_i2l (pc := 194) dX6_spreadFrom_194 ?_
      refine mb_ldiv (pc := 195) dX6_spreadFrom_195 hr (fun hr => ?_)
      refine mb_cVi (pc := 196) (As := [.int (i1 + (1 : Int32)), .int i2, .int i3, .long (j4 / i7.toInt64)]) (rest := []) dX6_spreadFrom_196 cw_X6_60 h0 hr (fun v hv => hkr a0 (i1 + (1 : Int32)) i2 i3 (j4 / i7.toInt64) _ v _ (by omega) h0 hv) rfl (Nat.le_of_ble_eq_true rfl) (Nat.zero_le _) (Nat.zero_le _) (fun r8 hr => ?_)
      refine mb_if_ne (pc := 199) 204 dX6_spreadFrom_199 rfl hr (fun hr => ?_) (fun hr => ?_)
      · refine ml_iinc (pc := 204) dX6_spreadFrom_204 (mm_get_s (mm_get_s (mm_get_s (mm_get_s (mm_get_s (mm_get_s (mm_get_s (mm_get_s mm_get_0)))))))) (congrArg (fun z => i8 + z) kc_1) (Nat.le_of_ble_eq_true rfl) (mm_st1_s (mm_st1_s (mm_st1_s (mm_st1_s (mm_st1_s (mm_st1_s (mm_st1_s mm_st1_i))))))) ?_
        refine mg_goto (pc := 207) 149 dX6_spreadFrom_207 rfl ?_
        exact mg_weak (mm_le_s (mm_le_s (mm_le_s (mm_le_s (mm_le_s (mm_le_n (mm_le_s (mm_le_s (mm_le_s (mm_le_n mm_le_0)))))))))) (ih _ _ _ hr)
      · refine mg_iconst (pc := 202) dX6_spreadFrom_202 kc_0 ?_
        exact mb_zret dX6_spreadFrom_203 rfl hr
def X6_spreadFrom_b144 (e : mm_E) (kr : Nat → Int32 → Int32 → Int32 → Int64 → mm_V → Option (Int32 × mm_V)) (m : mm_V) : Option (Int32 × mm_V) := mm_rz (0 : Int32) m
theorem X6_spreadFrom_b144_ok {K : mm_K} {nx : Option Nat} {e : mm_E} (hz : e.2.1 = K.2.2.2.2) {d dr : Nat} (hd : dr + 4 ≤ d) {a0 : Nat} (h0 : e.1 a0 = some (6, 12)) {kr : Nat → Int32 → Int32 → Int32 → Int64 → mm_V → Option (Int32 × mm_V)} (hkr : ∀ (b0 : Nat) (b1 : Int32) (b2 : Int32) (b3 : Int32) (b4 : Int64) (m : mm_V) r (d9 : Nat), dr ≤ d9 → e.1 b0 = some (6, 12) → kr b0 b1 b2 b3 b4 m = some r → mm_Cn K MX6_spreadFrom d9 (mm_Fi e.1 nx r) [.ref b0, .int b1, .int b2, .int b3, .long b4] (e.1, m) nx) {m : mm_V} {r : (Int32 × mm_V)} (hr : X6_spreadFrom_b144 e kr m = some r) : mm_G K MX6_spreadFrom d (mm_Fi e.1 nx r) 144 [none, none, none, none, none, none, none, none, none, none] [] (e.1, m) nx 0 0 := by
  obtain ⟨d, rfl⟩ : ∃ d', d = d' + 1 := ⟨d - 1, by omega⟩
  unfold X6_spreadFrom_b144 at hr
  refine mg_iconst (pc := 144) dX6_spreadFrom_144 kc_0 ?_
  exact mb_zret dX6_spreadFrom_145 rfl hr
def X6_spreadFrom_b105 (e : mm_E) (kr : Nat → Int32 → Int32 → Int32 → Int64 → mm_V → Option (Int32 × mm_V)) (t0 : Nat) (t1 : Int64) (t2 : Int64) (m : mm_V) : Option (Int32 × mm_V) := (mm_pf e.1 m 6 12 t0 11 (.long (t1 + t2))).bind fun m1 => mm_rz (1 : Int32) m1
theorem X6_spreadFrom_b105_ok {K : mm_K} {nx : Option Nat} {e : mm_E} (hz : e.2.1 = K.2.2.2.2) {d dr : Nat} (hd : dr + 4 ≤ d) {t0 : Nat} {t1 : Int64} {t2 : Int64} {a0 : Nat} (h0 : e.1 a0 = some (6, 12)) {kr : Nat → Int32 → Int32 → Int32 → Int64 → mm_V → Option (Int32 × mm_V)} (hkr : ∀ (b0 : Nat) (b1 : Int32) (b2 : Int32) (b3 : Int32) (b4 : Int64) (m : mm_V) r (d9 : Nat), dr ≤ d9 → e.1 b0 = some (6, 12) → kr b0 b1 b2 b3 b4 m = some r → mm_Cn K MX6_spreadFrom d9 (mm_Fi e.1 nx r) [.ref b0, .int b1, .int b2, .int b3, .long b4] (e.1, m) nx) {m : mm_V} {r : (Int32 × mm_V)} (hr : X6_spreadFrom_b105 e kr t0 t1 t2 m = some r) : mm_G K MX6_spreadFrom d (mm_Fi e.1 nx r) 105 [none, none, none, none, none, none, none, none, none, none] [.long t2, .long t1, .ref t0] (e.1, m) nx 0 0 := by
  obtain ⟨d, rfl⟩ : ∃ d', d = d' + 1 := ⟨d - 1, by omega⟩
  unfold X6_spreadFrom_b105 at hr
  refine mg_ladd (pc := 105) dX6_spreadFrom_105 ?_
  refine mb_pl (pc := 106) dX6_spreadFrom_106 fp_X6_48 hr (fun m1 hr => ?_)
  refine mg_iconst (pc := 109) dX6_spreadFrom_109 kc_1 ?_
  exact mb_zret dX6_spreadFrom_110 rfl hr
def X6_spreadFrom_b81 (e : mm_E) (kr : Nat → Int32 → Int32 → Int32 → Int64 → mm_V → Option (Int32 × mm_V)) (a0 : Nat) (i3 : Int32) (j4 : Int64) (a6 : Nat) (t0 : Nat) (t1 : Int64) (t2 : Int64) (m : mm_V) : Option (Int32 × mm_V) := (mm_pf e.1 m 6 12 t0 10 (.long (t1 + t2))).bind fun m1 => (mm_gl e.1 m1 6 12 a0 11).bind fun y2 => if e.1 a6 = some (4, 12) then ((X4_loser e a6 m1).bind fun r3 => if ¬ r3.1 = i3 then (X6_spreadFrom_b105 e kr  a0 y2 (0 : Int64) r3.2) else (X6_spreadFrom_b105 e kr  a0 y2 j4 r3.2)) else none
theorem X6_spreadFrom_b81_ok {K : mm_K} {nx : Option Nat} {e : mm_E} (hz : e.2.1 = K.2.2.2.2) {d dr : Nat} (hd : dr + 4 ≤ d) {a0 : Nat} {i3 : Int32} {j4 : Int64} {a6 : Nat} {t0 : Nat} {t1 : Int64} {t2 : Int64} (h0 : e.1 a0 = some (6, 12)) {kr : Nat → Int32 → Int32 → Int32 → Int64 → mm_V → Option (Int32 × mm_V)} (hkr : ∀ (b0 : Nat) (b1 : Int32) (b2 : Int32) (b3 : Int32) (b4 : Int64) (m : mm_V) r (d9 : Nat), dr ≤ d9 → e.1 b0 = some (6, 12) → kr b0 b1 b2 b3 b4 m = some r → mm_Cn K MX6_spreadFrom d9 (mm_Fi e.1 nx r) [.ref b0, .int b1, .int b2, .int b3, .long b4] (e.1, m) nx) {m : mm_V} {r : (Int32 × mm_V)} (hr : X6_spreadFrom_b81 e kr a0 i3 j4 a6 t0 t1 t2 m = some r) : mm_G K MX6_spreadFrom d (mm_Fi e.1 nx r) 81 [some (.ref a0), none, none, some (.int i3), some (.long j4), none, some (.ref a6), none, none, none] [.long t2, .long t1, .ref t0] (e.1, m) nx 0 0 := by
  obtain ⟨d, rfl⟩ : ∃ d', d = d' + 1 := ⟨d - 1, by omega⟩
  unfold X6_spreadFrom_b81 at hr
  refine mg_ladd (pc := 81) dX6_spreadFrom_81 ?_
  refine mb_pl (pc := 82) dX6_spreadFrom_82 fp_X6_45 hr (fun m1 hr => ?_)
  refine ml_aload_n (pc := 85) dX6_spreadFrom_85 rfl mm_get_0 ?_
  refine mg_dup (pc := 86) dX6_spreadFrom_86 rfl ?_
  refine mb_gl (pc := 87) dX6_spreadFrom_87 fl_X6_48 hr (fun y2 hr => ?_)
  refine ml_aload (pc := 90) dX6_spreadFrom_90 (mm_get_s (mm_get_s (mm_get_s (mm_get_s (mm_get_s (mm_get_s mm_get_0)))))) ?_
  refine mb_ck hr (fun hb4 hr => ?_)
  refine mb_cVi (pc := 92) (As := []) (rest := [.long y2, .ref a0]) dX6_spreadFrom_92 cw_X6_76 hb4 hr (fun v hv => X4_loser_ok hz (by omega) hb4 hv) rfl (Nat.le_of_ble_eq_true rfl) (Nat.zero_le _) (Nat.zero_le _) (fun r3 hr => ?_)
  refine ml_iload_n (pc := 95) dX6_spreadFrom_95 rfl (mm_get_s (mm_get_s (mm_get_s mm_get_0))) ?_
  refine mb_icmp_ne (pc := 96) 104 dX6_spreadFrom_96 rfl hr (fun hr => ?_) (fun hr => ?_)
  · refine mg_lconst (pc := 104) dX6_spreadFrom_104 (v := (0 : Int64)) (by decide) ?_
    exact mg_weak (mm_le_n (mm_le_n (mm_le_n (mm_le_n (mm_le_n (mm_le_n (mm_le_n (mm_le_n (mm_le_n (mm_le_n mm_le_0)))))))))) (X6_spreadFrom_b105_ok hz hd h0 hkr hr)
  · refine ml_lload (pc := 99) dX6_spreadFrom_99 (mm_get_s (mm_get_s (mm_get_s (mm_get_s mm_get_0)))) ?_
    refine mg_goto (pc := 101) 105 dX6_spreadFrom_101 rfl ?_
    exact mg_weak (mm_le_n (mm_le_n (mm_le_n (mm_le_n (mm_le_n (mm_le_n (mm_le_n (mm_le_n (mm_le_n (mm_le_n mm_le_0)))))))))) (X6_spreadFrom_b105_ok hz hd h0 hkr hr)
def X6_spreadFrom_b57 (e : mm_E) (kr : Nat → Int32 → Int32 → Int32 → Int64 → mm_V → Option (Int32 × mm_V)) (a0 : Nat) (i3 : Int32) (j4 : Int64) (a6 : Nat) (t0 : Nat) (t1 : Int64) (t2 : Int64) (m : mm_V) : Option (Int32 × mm_V) := (mm_pf e.1 m 6 12 t0 9 (.long (t1 + t2))).bind fun m1 => (mm_gl e.1 m1 6 12 a0 10).bind fun y2 => if e.1 a6 = some (4, 12) then ((X4_isEmpty e a6 i3 m1).bind fun r3 => if r3.1 = 0 then (X6_spreadFrom_b81 e kr a0 i3 j4 a6 a0 y2 (0 : Int64) r3.2) else (X6_spreadFrom_b81 e kr a0 i3 j4 a6 a0 y2 j4 r3.2)) else none
theorem X6_spreadFrom_b57_ok {K : mm_K} {nx : Option Nat} {e : mm_E} (hz : e.2.1 = K.2.2.2.2) {d dr : Nat} (hd : dr + 4 ≤ d) {a0 : Nat} {i3 : Int32} {j4 : Int64} {a6 : Nat} {t0 : Nat} {t1 : Int64} {t2 : Int64} (h0 : e.1 a0 = some (6, 12)) {kr : Nat → Int32 → Int32 → Int32 → Int64 → mm_V → Option (Int32 × mm_V)} (hkr : ∀ (b0 : Nat) (b1 : Int32) (b2 : Int32) (b3 : Int32) (b4 : Int64) (m : mm_V) r (d9 : Nat), dr ≤ d9 → e.1 b0 = some (6, 12) → kr b0 b1 b2 b3 b4 m = some r → mm_Cn K MX6_spreadFrom d9 (mm_Fi e.1 nx r) [.ref b0, .int b1, .int b2, .int b3, .long b4] (e.1, m) nx) {m : mm_V} {r : (Int32 × mm_V)} (hr : X6_spreadFrom_b57 e kr a0 i3 j4 a6 t0 t1 t2 m = some r) : mm_G K MX6_spreadFrom d (mm_Fi e.1 nx r) 57 [some (.ref a0), none, none, some (.int i3), some (.long j4), none, some (.ref a6), none, none, none] [.long t2, .long t1, .ref t0] (e.1, m) nx 0 0 := by
  obtain ⟨d, rfl⟩ : ∃ d', d = d' + 1 := ⟨d - 1, by omega⟩
  unfold X6_spreadFrom_b57 at hr
  refine mg_ladd (pc := 57) dX6_spreadFrom_57 ?_
  refine mb_pl (pc := 58) dX6_spreadFrom_58 fp_X6_41 hr (fun m1 hr => ?_)
  refine ml_aload_n (pc := 61) dX6_spreadFrom_61 rfl mm_get_0 ?_
  refine mg_dup (pc := 62) dX6_spreadFrom_62 rfl ?_
  refine mb_gl (pc := 63) dX6_spreadFrom_63 fl_X6_45 hr (fun y2 hr => ?_)
  refine ml_aload (pc := 66) dX6_spreadFrom_66 (mm_get_s (mm_get_s (mm_get_s (mm_get_s (mm_get_s (mm_get_s mm_get_0)))))) ?_
  refine ml_iload_n (pc := 68) dX6_spreadFrom_68 rfl (mm_get_s (mm_get_s (mm_get_s mm_get_0))) ?_
  refine mb_ck hr (fun hb4 hr => ?_)
  refine mb_cVi (pc := 69) (As := [.int i3]) (rest := [.long y2, .ref a0]) dX6_spreadFrom_69 cw_X6_72 hb4 hr (fun v hv => X4_isEmpty_ok hz (by omega) hb4 hv) rfl (Nat.le_of_ble_eq_true rfl) (Nat.zero_le _) (Nat.zero_le _) (fun r3 hr => ?_)
  refine mb_if_eq (pc := 72) 80 dX6_spreadFrom_72 rfl hr (fun hr => ?_) (fun hr => ?_)
  · refine mg_lconst (pc := 80) dX6_spreadFrom_80 (v := (0 : Int64)) (by decide) ?_
    exact mg_weak (mm_le_s (mm_le_n (mm_le_n (mm_le_s (mm_le_s (mm_le_n (mm_le_s (mm_le_n (mm_le_n (mm_le_n mm_le_0)))))))))) (X6_spreadFrom_b81_ok hz hd h0 hkr hr)
  · refine ml_lload (pc := 75) dX6_spreadFrom_75 (mm_get_s (mm_get_s (mm_get_s (mm_get_s mm_get_0)))) ?_
    refine mg_goto (pc := 77) 81 dX6_spreadFrom_77 rfl ?_
    exact mg_weak (mm_le_s (mm_le_n (mm_le_n (mm_le_s (mm_le_s (mm_le_n (mm_le_s (mm_le_n (mm_le_n (mm_le_n mm_le_0)))))))))) (X6_spreadFrom_b81_ok hz hd h0 hkr hr)
def X6_spreadFrom_b37 (e : mm_E) (kr : Nat → Int32 → Int32 → Int32 → Int64 → mm_V → Option (Int32 × mm_V)) (a0 : Nat) (i3 : Int32) (j4 : Int64) (a6 : Nat) (m : mm_V) : Option (Int32 × mm_V) := (mm_gl e.1 m 6 12 a0 9).bind fun y1 => if e.1 a6 = some (4, 12) then ((X4_queenHolder e a6 m).bind fun r2 => if ¬ r2.1 = i3 then (X6_spreadFrom_b57 e kr a0 i3 j4 a6 a0 y1 (0 : Int64) r2.2) else (X6_spreadFrom_b57 e kr a0 i3 j4 a6 a0 y1 j4 r2.2)) else none
theorem X6_spreadFrom_b37_ok {K : mm_K} {nx : Option Nat} {e : mm_E} (hz : e.2.1 = K.2.2.2.2) {d dr : Nat} (hd : dr + 4 ≤ d) {a0 : Nat} {i3 : Int32} {j4 : Int64} {a6 : Nat} (h0 : e.1 a0 = some (6, 12)) {kr : Nat → Int32 → Int32 → Int32 → Int64 → mm_V → Option (Int32 × mm_V)} (hkr : ∀ (b0 : Nat) (b1 : Int32) (b2 : Int32) (b3 : Int32) (b4 : Int64) (m : mm_V) r (d9 : Nat), dr ≤ d9 → e.1 b0 = some (6, 12) → kr b0 b1 b2 b3 b4 m = some r → mm_Cn K MX6_spreadFrom d9 (mm_Fi e.1 nx r) [.ref b0, .int b1, .int b2, .int b3, .long b4] (e.1, m) nx) {m : mm_V} {r : (Int32 × mm_V)} (hr : X6_spreadFrom_b37 e kr a0 i3 j4 a6 m = some r) : mm_G K MX6_spreadFrom d (mm_Fi e.1 nx r) 37 [some (.ref a0), none, none, some (.int i3), some (.long j4), none, some (.ref a6), none, none, none] [] (e.1, m) nx 0 0 := by
  obtain ⟨d, rfl⟩ : ∃ d', d = d' + 1 := ⟨d - 1, by omega⟩
  unfold X6_spreadFrom_b37 at hr
  refine ml_aload_n (pc := 37) dX6_spreadFrom_37 rfl mm_get_0 ?_
  refine mg_dup (pc := 38) dX6_spreadFrom_38 rfl ?_
  refine mb_gl (pc := 39) dX6_spreadFrom_39 fl_X6_41 hr (fun y1 hr => ?_)
  refine ml_aload (pc := 42) dX6_spreadFrom_42 (mm_get_s (mm_get_s (mm_get_s (mm_get_s (mm_get_s (mm_get_s mm_get_0)))))) ?_
  refine mb_ck hr (fun hb3 hr => ?_)
  refine mb_cVi (pc := 44) (As := []) (rest := [.long y1, .ref a0]) dX6_spreadFrom_44 cw_X6_68 hb3 hr (fun v hv => X4_queenHolder_ok hz (by omega) hb3 hv) rfl (Nat.le_of_ble_eq_true rfl) (Nat.zero_le _) (Nat.zero_le _) (fun r2 hr => ?_)
  refine ml_iload_n (pc := 47) dX6_spreadFrom_47 rfl (mm_get_s (mm_get_s (mm_get_s mm_get_0))) ?_
  refine mb_icmp_ne (pc := 48) 56 dX6_spreadFrom_48 rfl hr (fun hr => ?_) (fun hr => ?_)
  · refine mg_lconst (pc := 56) dX6_spreadFrom_56 (v := (0 : Int64)) (by decide) ?_
    exact mg_weak (mm_le_s (mm_le_n (mm_le_n (mm_le_s (mm_le_s (mm_le_n (mm_le_s (mm_le_n (mm_le_n (mm_le_n mm_le_0)))))))))) (X6_spreadFrom_b57_ok hz hd h0 hkr hr)
  · refine ml_lload (pc := 51) dX6_spreadFrom_51 (mm_get_s (mm_get_s (mm_get_s (mm_get_s mm_get_0)))) ?_
    refine mg_goto (pc := 53) 57 dX6_spreadFrom_53 rfl ?_
    exact mg_weak (mm_le_s (mm_le_n (mm_le_n (mm_le_s (mm_le_s (mm_le_n (mm_le_s (mm_le_n (mm_le_n (mm_le_n mm_le_0)))))))))) (X6_spreadFrom_b57_ok hz hd h0 hkr hr)
def X6_spreadFrom_b9 (e : mm_E) (kr : Nat → Int32 → Int32 → Int32 → Int64 → mm_V → Option (Int32 × mm_V)) (m : mm_V) : Option (Int32 × mm_V) := mm_rz (0 : Int32) m
theorem X6_spreadFrom_b9_ok {K : mm_K} {nx : Option Nat} {e : mm_E} (hz : e.2.1 = K.2.2.2.2) {d dr : Nat} (hd : dr + 4 ≤ d) {a0 : Nat} (h0 : e.1 a0 = some (6, 12)) {kr : Nat → Int32 → Int32 → Int32 → Int64 → mm_V → Option (Int32 × mm_V)} (hkr : ∀ (b0 : Nat) (b1 : Int32) (b2 : Int32) (b3 : Int32) (b4 : Int64) (m : mm_V) r (d9 : Nat), dr ≤ d9 → e.1 b0 = some (6, 12) → kr b0 b1 b2 b3 b4 m = some r → mm_Cn K MX6_spreadFrom d9 (mm_Fi e.1 nx r) [.ref b0, .int b1, .int b2, .int b3, .long b4] (e.1, m) nx) {m : mm_V} {r : (Int32 × mm_V)} (hr : X6_spreadFrom_b9 e kr m = some r) : mm_G K MX6_spreadFrom d (mm_Fi e.1 nx r) 9 [none, none, none, none, none, none, none, none, none, none] [] (e.1, m) nx 0 0 := by
  obtain ⟨d, rfl⟩ : ∃ d', d = d' + 1 := ⟨d - 1, by omega⟩
  unfold X6_spreadFrom_b9 at hr
  refine mg_iconst (pc := 9) dX6_spreadFrom_9 kc_0 ?_
  exact mb_zret dX6_spreadFrom_10 rfl hr
def X6_spreadFrom_one (e : mm_E) (kr : Nat → Int32 → Int32 → Int32 → Int64 → mm_V → Option (Int32 × mm_V)) (a0 : Nat) (i1 : Int32) (i2 : Int32) (i3 : Int32) (j4 : Int64) (m : mm_V) : Option (Int32 × mm_V) := if i1 < 0 then (X6_spreadFrom_b9 e kr   m) else (if i1 ≤ (4 : Int32) then ((mm_gr e.1 m 6 12 a0 0).bind fun c1 => (mm_aq e.1 m 25 c1 i1).bind fun c2 => if i2 ≤ i1 then (X6_spreadFrom_b37 e kr a0 i3 j4 c2  m) else (if (4 : Int32) ≤ i1 then (X6_spreadFrom_b37 e kr a0 i3 j4 c2  m) else (if e.1 c2 = some (4, 12) then ((X4_over e c2 m).bind fun r3 => if r3.1 = 0 then ((mm_gi e.1 r3.2 4 12 c2 10).bind fun x5 => if e.1 c2 = some (4, 12) then ((X4_source e c2 x5 r3.2).bind fun r6 => if e.1 c2 = some (4, 12) then ((X4_fanAt e c2 r6.1 r6.2).bind fun r8 => (mm_gi e.1 r8.2 3 2 r8.1 1).bind fun x10 => if x10 < (1 : Int32) then (X6_spreadFrom_b144 e kr   r8.2) else (if x10 ≤ (9 : Int32) then (X6_spreadFrom_L149 e kr a0 i1 i2 i3 j4 c2 x10 e.2.2 (0 : Int32) r8.2) else (X6_spreadFrom_b144 e kr   r8.2))) else none) else none) else (X6_spreadFrom_b37 e kr a0 i3 j4 c2  r3.2)) else none))) else (X6_spreadFrom_b9 e kr   m))
theorem X6_spreadFrom_one_ok {K : mm_K} {nx : Option Nat} {e : mm_E} (hz : e.2.1 = K.2.2.2.2) {d dr : Nat} (hd : dr + 4 ≤ d) {a0 : Nat} {i1 : Int32} {i2 : Int32} {i3 : Int32} {j4 : Int64} (h0 : e.1 a0 = some (6, 12)) {kr : Nat → Int32 → Int32 → Int32 → Int64 → mm_V → Option (Int32 × mm_V)} (hkr : ∀ (b0 : Nat) (b1 : Int32) (b2 : Int32) (b3 : Int32) (b4 : Int64) (m : mm_V) r (d9 : Nat), dr ≤ d9 → e.1 b0 = some (6, 12) → kr b0 b1 b2 b3 b4 m = some r → mm_Cn K MX6_spreadFrom d9 (mm_Fi e.1 nx r) [.ref b0, .int b1, .int b2, .int b3, .long b4] (e.1, m) nx) {m : mm_V} {r : (Int32 × mm_V)} (hr : X6_spreadFrom_one e kr a0 i1 i2 i3 j4 m = some r) : mm_Cn K MX6_spreadFrom d (mm_Fi e.1 nx r) [.ref a0, .int i1, .int i2, .int i3, .long j4] (e.1, m) nx := by
  obtain ⟨d, rfl⟩ : ∃ d', d = d' + 1 := ⟨d - 1, by omega⟩
  refine mm_entry (by decide) (Nat.le_of_ble_eq_true rfl) rfl (fun hok => ?_)
  unfold X6_spreadFrom_one at hr
  refine mg_weak (L' := [some (.ref a0), some (.int i1), some (.int i2), some (.int i3), some (.long j4), none, none, none, none, none]) (mm_le_s (mm_le_s (mm_le_s (mm_le_s (mm_le_s (mm_le_n (mm_le_e (mm_le_e (mm_le_e (mm_le_e mm_le_0)))))))))) ?_
  refine ml_iload_n (pc := 0) dX6_spreadFrom_0 rfl (mm_get_s mm_get_0) ?_
  refine mb_if_lt (pc := 1) 9 dX6_spreadFrom_1 rfl hr (fun hr => ?_) (fun hr => ?_)
  · exact mg_weak (mm_le_n (mm_le_n (mm_le_n (mm_le_n (mm_le_n (mm_le_n (mm_le_n (mm_le_n (mm_le_n (mm_le_n mm_le_0)))))))))) (X6_spreadFrom_b9_ok hz hd h0 hkr hr)
  · refine ml_iload_n (pc := 4) dX6_spreadFrom_4 rfl (mm_get_s mm_get_0) ?_
    refine mg_iconst (pc := 5) dX6_spreadFrom_5 kc_4 ?_
    refine mb_icmp_le (pc := 6) 11 dX6_spreadFrom_6 rfl hr (fun hr => ?_) (fun hr => ?_)
    · refine ml_aload_n (pc := 11) dX6_spreadFrom_11 rfl mm_get_0 ?_
      refine mb_gr (pc := 12) dX6_spreadFrom_12 fl_X6_11 hr (fun c1 hr => ?_)
      refine ml_iload_n (pc := 15) dX6_spreadFrom_15 rfl (mm_get_s mm_get_0) ?_
      refine mb_aq (pc := 16) dX6_spreadFrom_16 (by decide) (by decide) hr (fun c2 hr => ?_)
      refine ml_astore (pc := 17) dX6_spreadFrom_17 (Nat.le_of_ble_eq_true rfl) (mm_st1_s (mm_st1_s (mm_st1_s (mm_st1_s (mm_st1_s mm_st1_n))))) ?_
      refine ml_iload_n (pc := 19) dX6_spreadFrom_19 rfl (mm_get_s mm_get_0) ?_
      refine ml_iload_n (pc := 20) dX6_spreadFrom_20 rfl (mm_get_s (mm_get_s mm_get_0)) ?_
      refine mb_icmp_ge (pc := 21) 37 dX6_spreadFrom_21 rfl hr (fun hr => ?_) (fun hr => ?_)
      · exact mg_weak (mm_le_s (mm_le_n (mm_le_n (mm_le_s (mm_le_s (mm_le_n (mm_le_s (mm_le_n (mm_le_n (mm_le_n mm_le_0)))))))))) (X6_spreadFrom_b37_ok hz hd h0 hkr hr)
      · refine ml_iload_n (pc := 24) dX6_spreadFrom_24 rfl (mm_get_s mm_get_0) ?_
        refine mg_iconst (pc := 25) dX6_spreadFrom_25 kc_4 ?_
        refine mb_icmp_ge (pc := 26) 37 dX6_spreadFrom_26 rfl hr (fun hr => ?_) (fun hr => ?_)
        · exact mg_weak (mm_le_s (mm_le_n (mm_le_n (mm_le_s (mm_le_s (mm_le_n (mm_le_s (mm_le_n (mm_le_n (mm_le_n mm_le_0)))))))))) (X6_spreadFrom_b37_ok hz hd h0 hkr hr)
        · refine ml_aload (pc := 29) dX6_spreadFrom_29 (mm_get_s (mm_get_s (mm_get_s (mm_get_s (mm_get_s (mm_get_s mm_get_0)))))) ?_
          refine mb_ck hr (fun hb4 hr => ?_)
          refine mb_cVi (pc := 31) (As := []) (rest := []) dX6_spreadFrom_31 cw_X6_64 hb4 hr (fun v hv => X4_over_ok hz (by omega) hb4 hv) rfl (Nat.le_of_ble_eq_true rfl) (Nat.zero_le _) (Nat.zero_le _) (fun r3 hr => ?_)
          refine mb_if_eq (pc := 34) 111 dX6_spreadFrom_34 rfl hr (fun hr => ?_) (fun hr => ?_)
          · refine ml_aload (pc := 111) dX6_spreadFrom_111 (mm_get_s (mm_get_s (mm_get_s (mm_get_s (mm_get_s (mm_get_s mm_get_0)))))) ?_
            refine ml_aload (pc := 113) dX6_spreadFrom_113 (mm_get_s (mm_get_s (mm_get_s (mm_get_s (mm_get_s (mm_get_s mm_get_0)))))) ?_
            refine ml_aload (pc := 115) dX6_spreadFrom_115 (mm_get_s (mm_get_s (mm_get_s (mm_get_s (mm_get_s (mm_get_s mm_get_0)))))) ?_
            refine mb_gi (pc := 117) dX6_spreadFrom_117 fl_X6_79 hr (fun x5 hr => ?_)
            refine mb_ck hr (fun hb7 hr => ?_)
            refine mb_cVi (pc := 120) (As := [.int x5]) (rest := [.ref c2]) dX6_spreadFrom_120 cw_X6_83 hb7 hr (fun v hv => X4_source_ok hz (by omega) hb7 hv) rfl (Nat.le_of_ble_eq_true rfl) (Nat.zero_le _) (Nat.zero_le _) (fun r6 hr => ?_)
            refine mb_ck hr (fun hb9 hr => ?_)
            refine mb_cVr (pc := 123) (As := [.int r6.1]) (rest := []) dX6_spreadFrom_123 cw_X6_87 hb9 hr (fun v hv => X4_fanAt_ok hz (by omega) hb9 hv) rfl (Nat.le_of_ble_eq_true rfl) (Nat.zero_le _) (Nat.zero_le _) (fun r8 hr => ?_)
            refine mb_gi (pc := 126) dX6_spreadFrom_126 fl_X6_91 hr (fun x10 hr => ?_)
            refine ml_istore (pc := 129) dX6_spreadFrom_129 (Nat.le_of_ble_eq_true rfl) (mm_st1_s (mm_st1_s (mm_st1_s (mm_st1_s (mm_st1_s (mm_st1_s mm_st1_r)))))) ?_
            refine ml_iload (pc := 131) dX6_spreadFrom_131 (mm_get_s (mm_get_s (mm_get_s (mm_get_s (mm_get_s (mm_get_s (mm_get_s mm_get_0))))))) ?_
            refine mg_iconst (pc := 133) dX6_spreadFrom_133 kc_1 ?_
            refine mb_icmp_lt (pc := 134) 144 dX6_spreadFrom_134 rfl hr (fun hr => ?_) (fun hr => ?_)
            · exact mg_weak (mm_le_n (mm_le_n (mm_le_n (mm_le_n (mm_le_n (mm_le_n (mm_le_n (mm_le_n (mm_le_n (mm_le_n mm_le_0)))))))))) (X6_spreadFrom_b144_ok hz hd h0 hkr hr)
            · refine ml_iload (pc := 137) dX6_spreadFrom_137 (mm_get_s (mm_get_s (mm_get_s (mm_get_s (mm_get_s (mm_get_s (mm_get_s mm_get_0))))))) ?_
              refine mg_bipush (pc := 139) dX6_spreadFrom_139 kb_9 ?_
              refine mb_icmp_le (pc := 141) 146 dX6_spreadFrom_141 rfl hr (fun hr => ?_) (fun hr => ?_)
              · refine mg_iconst (pc := 146) dX6_spreadFrom_146 kc_0 ?_
                refine ml_istore (pc := 147) dX6_spreadFrom_147 (Nat.le_of_ble_eq_true rfl) (mm_st1_s (mm_st1_s (mm_st1_s (mm_st1_s (mm_st1_s (mm_st1_s (mm_st1_s mm_st1_i))))))) ?_
                exact mg_weak (mm_le_s (mm_le_s (mm_le_s (mm_le_s (mm_le_s (mm_le_n (mm_le_s (mm_le_s (mm_le_s (mm_le_n mm_le_0)))))))))) (X6_spreadFrom_L149_ok hz hd h0 hkr _ _ _ _ hr)
              · exact mg_weak (mm_le_n (mm_le_n (mm_le_n (mm_le_n (mm_le_n (mm_le_n (mm_le_n (mm_le_n (mm_le_n (mm_le_n mm_le_0)))))))))) (X6_spreadFrom_b144_ok hz hd h0 hkr hr)
          · exact mg_weak (mm_le_s (mm_le_n (mm_le_n (mm_le_s (mm_le_s (mm_le_n (mm_le_s (mm_le_n (mm_le_n (mm_le_n mm_le_0)))))))))) (X6_spreadFrom_b37_ok hz hd h0 hkr hr)
    · exact mg_weak (mm_le_n (mm_le_n (mm_le_n (mm_le_n (mm_le_n (mm_le_n (mm_le_n (mm_le_n (mm_le_n (mm_le_n mm_le_0)))))))))) (X6_spreadFrom_b9_ok hz hd h0 hkr hr)
def X6_spreadFrom (e : mm_E) : Nat → Nat → Int32 → Int32 → Int32 → Int64 → mm_V → Option (Int32 × mm_V)
  | 0, _, _, _, _, _, _ => none
  | n + 1, a0, i1, i2, i3, j4, m => X6_spreadFrom_one e (X6_spreadFrom e n) a0 i1 i2 i3 j4 m
theorem X6_spreadFrom_ok {K : mm_K} {nx : Option Nat} {e : mm_E} (hz : e.2.1 = K.2.2.2.2) : ∀ {n d : Nat} (hd : 16 * n ≤ d) {a0 : Nat} {i1 : Int32} {i2 : Int32} {i3 : Int32} {j4 : Int64} (h0 : e.1 a0 = some (6, 12)) {m : mm_V} {r : (Int32 × mm_V)} (hr : X6_spreadFrom e n a0 i1 i2 i3 j4 m = some r), mm_Cn K MX6_spreadFrom d (mm_Fi e.1 nx r) [.ref a0, .int i1, .int i2, .int i3, .long j4] (e.1, m) nx := by
  intro n
  induction n with
  | zero => intro d hd a0 i1 i2 i3 j4 h0 m r hr; unfold X6_spreadFrom at hr; cases hr
  | succ n ih =>
    intro d hd a0 i1 i2 i3 j4 h0 m r hr
    unfold X6_spreadFrom at hr
    exact X6_spreadFrom_one_ok hz (dr := 16 * n) (by omega) h0 (fun b0 b1 b2 b3 b4 m r d9 hd9 hb hv => ih hd9 hb hv) hr
theorem dX6_spread_0 : decode cX6_spread 0 = .ok (.aload_n 0, 1) := by decide +kernel
theorem dX6_spread_1 : decode cX6_spread 1 = .ok (.lconst 0, 1) := by decide +kernel
theorem dX6_spread_2 : decode cX6_spread 2 = .ok (.putfield 41, 3) := by decide +kernel
theorem dX6_spread_5 : decode cX6_spread 5 = .ok (.aload_n 0, 1) := by decide +kernel
theorem dX6_spread_6 : decode cX6_spread 6 = .ok (.lconst 0, 1) := by decide +kernel
theorem dX6_spread_7 : decode cX6_spread 7 = .ok (.putfield 45, 3) := by decide +kernel
theorem dX6_spread_10 : decode cX6_spread 10 = .ok (.aload_n 0, 1) := by decide +kernel
theorem dX6_spread_11 : decode cX6_spread 11 = .ok (.lconst 0, 1) := by decide +kernel
theorem dX6_spread_12 : decode cX6_spread 12 = .ok (.putfield 48, 3) := by decide +kernel
theorem dX6_spread_15 : decode cX6_spread 15 = .ok (.aload_n 0, 1) := by decide +kernel
theorem dX6_spread_16 : decode cX6_spread 16 = .ok (.lconst 1, 1) := by decide +kernel
theorem dX6_spread_17 : decode cX6_spread 17 = .ok (.putfield 51, 3) := by decide +kernel
theorem dX6_spread_20 : decode cX6_spread 20 = .ok (.iconst 0, 1) := by decide +kernel
theorem dX6_spread_21 : decode cX6_spread 21 = .ok (.istore 4, 2) := by decide +kernel
theorem dX6_spread_23 : decode cX6_spread 23 = .ok (.iload 4, 2) := by decide +kernel
theorem dX6_spread_25 : decode cX6_spread 25 = .ok (.iload_n 3, 1) := by decide +kernel
theorem dX6_spread_26 : decode cX6_spread 26 = .ok (.if_icmp .ge 21, 3) := by decide +kernel
theorem dX6_spread_29 : decode cX6_spread 29 = .ok (.aload_n 0, 1) := by decide +kernel
theorem dX6_spread_30 : decode cX6_spread 30 = .ok (.dup, 1) := by decide +kernel
theorem dX6_spread_31 : decode cX6_spread 31 = .ok (.getfield 51, 3) := by decide +kernel
theorem dX6_spread_34 : decode cX6_spread 34 = .ok (.ldc2_w 54, 3) := by decide +kernel
theorem dX6_spread_37 : decode cX6_spread 37 = .ok (.lmul, 1) := by decide +kernel
theorem dX6_spread_38 : decode cX6_spread 38 = .ok (.putfield 51, 3) := by decide +kernel
theorem dX6_spread_41 : decode cX6_spread 41 = .ok (.iinc 4 1, 3) := by decide +kernel
theorem dX6_spread_44 : decode cX6_spread 44 = .ok (.goto (-21), 3) := by decide +kernel
theorem dX6_spread_47 : decode cX6_spread 47 = .ok (.aload_n 0, 1) := by decide +kernel
theorem dX6_spread_48 : decode cX6_spread 48 = .ok (.getfield 11, 3) := by decide +kernel
theorem dX6_spread_51 : decode cX6_spread 51 = .ok (.iconst 0, 1) := by decide +kernel
theorem dX6_spread_52 : decode cX6_spread 52 = .ok (.aaload, 1) := by decide +kernel
theorem dX6_spread_53 : decode cX6_spread 53 = .ok (.aload_n 1, 1) := by decide +kernel
theorem dX6_spread_54 : decode cX6_spread 54 = .ok (.invokevirtual 56, 3) := by decide +kernel
theorem dX6_spread_57 : decode cX6_spread 57 = .ok (.aload_n 0, 1) := by decide +kernel
theorem dX6_spread_58 : decode cX6_spread 58 = .ok (.iconst 0, 1) := by decide +kernel
theorem dX6_spread_59 : decode cX6_spread 59 = .ok (.iload_n 3, 1) := by decide +kernel
theorem dX6_spread_60 : decode cX6_spread 60 = .ok (.iload_n 2, 1) := by decide +kernel
theorem dX6_spread_61 : decode cX6_spread 61 = .ok (.aload_n 0, 1) := by decide +kernel
theorem dX6_spread_62 : decode cX6_spread 62 = .ok (.getfield 51, 3) := by decide +kernel
theorem dX6_spread_65 : decode cX6_spread 65 = .ok (.invokevirtual 60, 3) := by decide +kernel
theorem dX6_spread_68 : decode cX6_spread 68 = .ok (.ireturn, 1) := by decide +kernel
def X6_spread_L23 (e : mm_E) (a0 : Nat) (a1 : Nat) (i2 : Int32) (i3 : Int32) : Nat → Int32 → mm_V → Option (Int32 × mm_V)
  | 0, _, _ => none
  | n + 1, i4, m => if i3 ≤ i4 then ((mm_gr e.1 m 6 12 a0 0).bind fun c1 => (mm_aq e.1 m 25 c1 (0 : Int32)).bind fun c2 => if e.1 c2 = some (4, 12) then ((X4_copyFrom e c2 a1 m).bind fun r3 => (mm_gl e.1 r3 6 12 a0 8).bind fun y5 => (X6_spreadFrom e 6 a0 (0 : Int32) i3 i2 y5 r3).bind fun r6 => mm_rz r6.1 r6.2) else none) else ((mm_gl e.1 m 6 12 a0 8).bind fun y7 => (mm_pf e.1 m 6 12 a0 8 (.long (y7 * (2520 : Int64)))).bind fun m8 => X6_spread_L23 e a0 a1 i2 i3 n (i4 + 1) m8)
theorem X6_spread_L23_ok {K : mm_K} {nx : Option Nat} {e : mm_E} (hz : e.2.1 = K.2.2.2.2) {d : Nat} (hd : 97 ≤ d) {a0 : Nat} {a1 : Nat} {i2 : Int32} {i3 : Int32} (h0 : e.1 a0 = some (6, 12)) : ∀ (n : Nat) (i4 : Int32) (m : mm_V) (r : (Int32 × mm_V)), X6_spread_L23 e a0 a1 i2 i3 n i4 m = some r → mm_G K MX6_spread d (mm_Fi e.1 nx r) 23 [some (.ref a0), some (.ref a1), some (.int i2), some (.int i3), some (.int i4)] [] (e.1, m) nx 0 0 := by
  obtain ⟨d, rfl⟩ : ∃ d', d = d' + 1 := ⟨d - 1, by omega⟩
  intro n
  induction n with
  | zero => intro i4 m r hr; unfold X6_spread_L23 at hr; cases hr
  | succ n ih =>
    intro i4 m r hr
    unfold X6_spread_L23 at hr
    refine ml_iload (pc := 23) dX6_spread_23 (mm_get_s (mm_get_s (mm_get_s (mm_get_s mm_get_0)))) ?_
    refine ml_iload_n (pc := 25) dX6_spread_25 rfl (mm_get_s (mm_get_s (mm_get_s mm_get_0))) ?_
    refine mb_icmp_ge (pc := 26) 47 dX6_spread_26 rfl hr (fun hr => ?_) (fun hr => ?_)
    · refine ml_aload_n (pc := 47) dX6_spread_47 rfl mm_get_0 ?_
      refine mb_gr (pc := 48) dX6_spread_48 fl_X6_11 hr (fun c1 hr => ?_)
      refine mg_iconst (pc := 51) dX6_spread_51 kc_0 ?_
      refine mb_aq (pc := 52) dX6_spread_52 (by decide) (by decide) hr (fun c2 hr => ?_)
      refine ml_aload_n (pc := 53) dX6_spread_53 rfl (mm_get_s mm_get_0) ?_
      refine mb_ck hr (fun hb4 hr => ?_)
      refine mb_cVv (pc := 54) (As := [.ref a1]) (rest := []) dX6_spread_54 cw_X6_56 hb4 hr (fun v hv => X4_copyFrom_ok hz (by omega) hb4 hv) rfl (Nat.le_of_ble_eq_true rfl) (Nat.zero_le _) (Nat.zero_le _) (fun r3 hr => ?_)
      refine ml_aload_n (pc := 57) dX6_spread_57 rfl mm_get_0 ?_
      refine mg_iconst (pc := 58) dX6_spread_58 kc_0 ?_
      refine ml_iload_n (pc := 59) dX6_spread_59 rfl (mm_get_s (mm_get_s (mm_get_s mm_get_0))) ?_
      refine ml_iload_n (pc := 60) dX6_spread_60 rfl (mm_get_s (mm_get_s mm_get_0)) ?_
      refine ml_aload_n (pc := 61) dX6_spread_61 rfl mm_get_0 ?_
      refine mb_gl (pc := 62) dX6_spread_62 fl_X6_51 hr (fun y5 hr => ?_)
      refine mb_cVi (pc := 65) (As := [.int (0 : Int32), .int i3, .int i2, .long y5]) (rest := []) dX6_spread_65 cw_X6_60 h0 hr (fun v hv => X6_spreadFrom_ok hz (n := 6) (by omega) h0 hv) rfl (Nat.le_of_ble_eq_true rfl) (Nat.zero_le _) (Nat.zero_le _) (fun r6 hr => ?_)
      exact mb_zret dX6_spread_68 rfl hr
    · refine ml_aload_n (pc := 29) dX6_spread_29 rfl mm_get_0 ?_
      refine mg_dup (pc := 30) dX6_spread_30 rfl ?_
      refine mb_gl (pc := 31) dX6_spread_31 fl_X6_51 hr (fun y7 hr => ?_)
      refine mg_ldc2 (pc := 34) dX6_spread_34 (v := (2520 : Int64)) tw_1126 ?_
      refine mg_lmul (pc := 37) dX6_spread_37 ?_
      refine mb_pl (pc := 38) dX6_spread_38 fp_X6_51 hr (fun m8 hr => ?_)
      refine ml_iinc (pc := 41) dX6_spread_41 (mm_get_s (mm_get_s (mm_get_s (mm_get_s mm_get_0)))) (congrArg (fun z => i4 + z) kc_1) (Nat.le_of_ble_eq_true rfl) (mm_st1_s (mm_st1_s (mm_st1_s mm_st1_i))) ?_
      refine mg_goto (pc := 44) 23 dX6_spread_44 rfl ?_
      exact mg_weak (mm_le_s (mm_le_s (mm_le_s (mm_le_s (mm_le_s mm_le_0))))) (ih _ _ _ hr)
def X6_spread (e : mm_E) (a0 : Nat) (a1 : Nat) (i2 : Int32) (i3 : Int32) (m : mm_V) : Option (Int32 × mm_V) := (mm_pf e.1 m 6 12 a0 9 (.long (0 : Int64))).bind fun m1 => (mm_pf e.1 m1 6 12 a0 10 (.long (0 : Int64))).bind fun m2 => (mm_pf e.1 m2 6 12 a0 11 (.long (0 : Int64))).bind fun m3 => (mm_pf e.1 m3 6 12 a0 8 (.long (1 : Int64))).bind fun m4 => X6_spread_L23 e a0 a1 i2 i3 e.2.2 (0 : Int32) m4
theorem X6_spread_ok {K : mm_K} {nx : Option Nat} {e : mm_E} (hz : e.2.1 = K.2.2.2.2) {d : Nat} (hd : 97 ≤ d) {a0 : Nat} {a1 : Nat} {i2 : Int32} {i3 : Int32} (h0 : e.1 a0 = some (6, 12)) {m : mm_V} {r : (Int32 × mm_V)} (hr : X6_spread e a0 a1 i2 i3 m = some r) : mm_Cn K MX6_spread d (mm_Fi e.1 nx r) [.ref a0, .ref a1, .int i2, .int i3] (e.1, m) nx := by
  obtain ⟨d, rfl⟩ : ∃ d', d = d' + 1 := ⟨d - 1, by omega⟩
  refine mm_entry (by decide) (Nat.le_of_ble_eq_true rfl) rfl (fun hok => ?_)
  unfold X6_spread at hr
  refine mg_weak (L' := [some (.ref a0), some (.ref a1), some (.int i2), some (.int i3), none]) (mm_le_s (mm_le_s (mm_le_s (mm_le_s (mm_le_e mm_le_0))))) ?_
  refine ml_aload_n (pc := 0) dX6_spread_0 rfl mm_get_0 ?_
  refine mg_lconst (pc := 1) dX6_spread_1 (v := (0 : Int64)) (by decide) ?_
  refine mb_pl (pc := 2) dX6_spread_2 fp_X6_41 hr (fun m1 hr => ?_)
  refine ml_aload_n (pc := 5) dX6_spread_5 rfl mm_get_0 ?_
  refine mg_lconst (pc := 6) dX6_spread_6 (v := (0 : Int64)) (by decide) ?_
  refine mb_pl (pc := 7) dX6_spread_7 fp_X6_45 hr (fun m2 hr => ?_)
  refine ml_aload_n (pc := 10) dX6_spread_10 rfl mm_get_0 ?_
  refine mg_lconst (pc := 11) dX6_spread_11 (v := (0 : Int64)) (by decide) ?_
  refine mb_pl (pc := 12) dX6_spread_12 fp_X6_48 hr (fun m3 hr => ?_)
  refine ml_aload_n (pc := 15) dX6_spread_15 rfl mm_get_0 ?_
  refine mg_lconst (pc := 16) dX6_spread_16 (v := (1 : Int64)) (by decide) ?_
  refine mb_pl (pc := 17) dX6_spread_17 fp_X6_51 hr (fun m4 hr => ?_)
  refine mg_iconst (pc := 20) dX6_spread_20 kc_0 ?_
  refine ml_istore (pc := 21) dX6_spread_21 (Nat.le_of_ble_eq_true rfl) (mm_st1_s (mm_st1_s (mm_st1_s mm_st1_i))) ?_
  exact mg_weak (mm_le_s (mm_le_s (mm_le_s (mm_le_s (mm_le_s mm_le_0))))) (X6_spread_L23_ok hz hd h0 _ _ _ _ hr)
theorem dX6_begin_0 : decode cX6_begin 0 = .ok (.aload_n 0, 1) := by decide +kernel
theorem dX6_begin_1 : decode cX6_begin 1 = .ok (.iconst 0, 1) := by decide +kernel
theorem dX6_begin_2 : decode cX6_begin 2 = .ok (.putfield 100, 3) := by decide +kernel
theorem dX6_begin_5 : decode cX6_begin 5 = .ok (.aload_n 0, 1) := by decide +kernel
theorem dX6_begin_6 : decode cX6_begin 6 = .ok (.iconst 0, 1) := by decide +kernel
theorem dX6_begin_7 : decode cX6_begin 7 = .ok (.putfield 103, 3) := by decide +kernel
theorem dX6_begin_10 : decode cX6_begin 10 = .ok (.iconst 0, 1) := by decide +kernel
theorem dX6_begin_11 : decode cX6_begin 11 = .ok (.istore_n 1, 1) := by decide +kernel
theorem dX6_begin_12 : decode cX6_begin 12 = .ok (.iload_n 1, 1) := by decide +kernel
theorem dX6_begin_13 : decode cX6_begin 13 = .ok (.bipush 6, 2) := by decide +kernel
theorem dX6_begin_15 : decode cX6_begin 15 = .ok (.if_icmp .ge 16, 3) := by decide +kernel
theorem dX6_begin_18 : decode cX6_begin 18 = .ok (.aload_n 0, 1) := by decide +kernel
theorem dX6_begin_19 : decode cX6_begin 19 = .ok (.getfield 35, 3) := by decide +kernel
theorem dX6_begin_22 : decode cX6_begin 22 = .ok (.iload_n 1, 1) := by decide +kernel
theorem dX6_begin_23 : decode cX6_begin 23 = .ok (.iconst 0, 1) := by decide +kernel
theorem dX6_begin_24 : decode cX6_begin 24 = .ok (.iastore, 1) := by decide +kernel
theorem dX6_begin_25 : decode cX6_begin 25 = .ok (.iinc 1 1, 3) := by decide +kernel
theorem dX6_begin_28 : decode cX6_begin 28 = .ok (.goto (-16), 3) := by decide +kernel
theorem dX6_begin_31 : decode cX6_begin 31 = .ok (.return_, 1) := by decide +kernel
def X6_begin_L12 (e : mm_E) (a0 : Nat) : Nat → Int32 → mm_V → Option mm_V
  | 0, _, _ => none
  | n + 1, i1, m => if (6 : Int32) ≤ i1 then (some m) else ((mm_gr e.1 m 6 12 a0 4).bind fun c1 => (mm_si e.1 m c1 i1 (0 : Int32)).bind fun m2 => X6_begin_L12 e a0 n (i1 + 1) m2)
theorem X6_begin_L12_ok {K : mm_K} {nx : Option Nat} {e : mm_E} (hz : e.2.1 = K.2.2.2.2) {d : Nat} (hd : 0 ≤ d) {a0 : Nat} (h0 : e.1 a0 = some (6, 12)) : ∀ (n : Nat) (i1 : Int32) (m : mm_V) (r : mm_V), X6_begin_L12 e a0 n i1 m = some r → mm_G K MX6_begin d (mm_Fv e.1 nx r) 12 [some (.ref a0), some (.int i1)] [] (e.1, m) nx 0 0 := by
  intro n
  induction n with
  | zero => intro i1 m r hr; unfold X6_begin_L12 at hr; cases hr
  | succ n ih =>
    intro i1 m r hr
    unfold X6_begin_L12 at hr
    refine ml_iload_n (pc := 12) dX6_begin_12 rfl (mm_get_s mm_get_0) ?_
    refine mg_bipush (pc := 13) dX6_begin_13 kb_6 ?_
    refine mb_icmp_ge (pc := 15) 31 dX6_begin_15 rfl hr (fun hr => ?_) (fun hr => ?_)
    · exact mb_vret dX6_begin_31 rfl hr
    · refine ml_aload_n (pc := 18) dX6_begin_18 rfl mm_get_0 ?_
      refine mb_gr (pc := 19) dX6_begin_19 fl_X6_35 hr (fun c1 hr => ?_)
      refine ml_iload_n (pc := 22) dX6_begin_22 rfl (mm_get_s mm_get_0) ?_
      refine mg_iconst (pc := 23) dX6_begin_23 kc_0 ?_
      refine mb_si (pc := 24) dX6_begin_24 hr (fun m2 hr => ?_)
      refine ml_iinc (pc := 25) dX6_begin_25 (mm_get_s mm_get_0) (congrArg (fun z => i1 + z) kc_1) (Nat.le_of_ble_eq_true rfl) mm_st1_r ?_
      refine mg_goto (pc := 28) 12 dX6_begin_28 rfl ?_
      exact mg_weak (mm_le_s (mm_le_s mm_le_0)) (ih _ _ _ hr)
def X6_begin (e : mm_E) (a0 : Nat) (m : mm_V) : Option mm_V := (mm_pf e.1 m 6 12 a0 5 (.int (0 : Int32))).bind fun m1 => (mm_pf e.1 m1 6 12 a0 6 (.int (0 : Int32))).bind fun m2 => X6_begin_L12 e a0 e.2.2 (0 : Int32) m2
theorem X6_begin_ok {K : mm_K} {nx : Option Nat} {e : mm_E} (hz : e.2.1 = K.2.2.2.2) {d : Nat} (hd : 0 ≤ d) {a0 : Nat} (h0 : e.1 a0 = some (6, 12)) {m : mm_V} {r : mm_V} (hr : X6_begin e a0 m = some r) : mm_Cn K MX6_begin d (mm_Fv e.1 nx r) [.ref a0] (e.1, m) nx := by
  refine mm_entry (by decide) (Nat.le_of_ble_eq_true rfl) rfl (fun hok => ?_)
  unfold X6_begin at hr
  refine mg_weak (L' := [some (.ref a0), none]) (mm_le_s (mm_le_e mm_le_0)) ?_
  refine ml_aload_n (pc := 0) dX6_begin_0 rfl mm_get_0 ?_
  refine mg_iconst (pc := 1) dX6_begin_1 kc_0 ?_
  refine mb_pi (pc := 2) dX6_begin_2 fp_X6_100 hr (fun m1 hr => ?_)
  refine ml_aload_n (pc := 5) dX6_begin_5 rfl mm_get_0 ?_
  refine mg_iconst (pc := 6) dX6_begin_6 kc_0 ?_
  refine mb_pi (pc := 7) dX6_begin_7 fp_X6_103 hr (fun m2 hr => ?_)
  refine mg_iconst (pc := 10) dX6_begin_10 kc_0 ?_
  refine ml_istore_n (pc := 11) dX6_begin_11 rfl (Nat.le_of_ble_eq_true rfl) mm_st1_r ?_
  exact mg_weak (mm_le_s (mm_le_s mm_le_0)) (X6_begin_L12_ok hz hd h0 _ _ _ _ hr)
theorem dJ9_max_7cf53_0 : decode cJ9_max_7cf53 0 = .ok (.iload_n 0, 1) := by decide +kernel
theorem dJ9_max_7cf53_1 : decode cJ9_max_7cf53 1 = .ok (.iload_n 1, 1) := by decide +kernel
theorem dJ9_max_7cf53_2 : decode cJ9_max_7cf53 2 = .ok (.if_icmp .lt 7, 3) := by decide +kernel
theorem dJ9_max_7cf53_5 : decode cJ9_max_7cf53 5 = .ok (.iload_n 0, 1) := by decide +kernel
theorem dJ9_max_7cf53_6 : decode cJ9_max_7cf53 6 = .ok (.goto 4, 3) := by decide +kernel
theorem dJ9_max_7cf53_9 : decode cJ9_max_7cf53 9 = .ok (.iload_n 1, 1) := by decide +kernel
theorem dJ9_max_7cf53_10 : decode cJ9_max_7cf53 10 = .ok (.ireturn, 1) := by decide +kernel
def J9_max_7cf53_b10 (e : mm_E) (t0 : Int32) (m : mm_V) : Option (Int32 × mm_V) := some (t0, m)
theorem J9_max_7cf53_b10_ok {K : mm_K} {nx : Option Nat} {e : mm_E} (hz : e.2.1 = K.2.2.2.2) {d : Nat} (hd : 0 ≤ d) {t0 : Int32} {m : mm_V} {r : (Int32 × mm_V)} (hr : J9_max_7cf53_b10 e t0 m = some r) : mm_G K MJ9_max_7cf53 d (mm_Fi e.1 nx r) 10 [none, none] [.int t0] (e.1, m) nx 0 0 := by
  unfold J9_max_7cf53_b10 at hr
  exact mb_iret dJ9_max_7cf53_10 rfl hr
def J9_max_7cf53 (e : mm_E) (i0 : Int32) (i1 : Int32) (m : mm_V) : Option (Int32 × mm_V) := if i0 < i1 then (J9_max_7cf53_b10 e  i1 m) else (J9_max_7cf53_b10 e  i0 m)
theorem J9_max_7cf53_ok {K : mm_K} {nx : Option Nat} {e : mm_E} (hz : e.2.1 = K.2.2.2.2) {d : Nat} (hd : 0 ≤ d) {i0 : Int32} {i1 : Int32} {m : mm_V} {r : (Int32 × mm_V)} (hr : J9_max_7cf53 e i0 i1 m = some r) : mm_Cn K MJ9_max_7cf53 d (mm_Fi e.1 nx r) [.int i0, .int i1] (e.1, m) nx := by
  refine mm_entryF (by decide +kernel) (Nat.le_of_ble_eq_true rfl) rfl (fun hok => ?_)
  unfold J9_max_7cf53 at hr
  refine mg_weak (L' := [some (.int i0), some (.int i1)]) (mm_le_s (mm_le_s mm_le_0)) ?_
  refine ml_iload_n (pc := 0) dJ9_max_7cf53_0 rfl mm_get_0 ?_
  refine ml_iload_n (pc := 1) dJ9_max_7cf53_1 rfl (mm_get_s mm_get_0) ?_
  refine mb_icmp_lt (pc := 2) 9 dJ9_max_7cf53_2 rfl hr (fun hr => ?_) (fun hr => ?_)
  · refine ml_iload_n (pc := 9) dJ9_max_7cf53_9 rfl (mm_get_s mm_get_0) ?_
    exact mg_weak (mm_le_n (mm_le_n mm_le_0)) (J9_max_7cf53_b10_ok hz hd hr)
  · refine ml_iload_n (pc := 5) dJ9_max_7cf53_5 rfl mm_get_0 ?_
    refine mg_goto (pc := 6) 10 dJ9_max_7cf53_6 rfl ?_
    exact mg_weak (mm_le_n (mm_le_n mm_le_0)) (J9_max_7cf53_b10_ok hz hd hr)
theorem dX7_noteQueen_0 : decode cX7_noteQueen 0 = .ok (.aload_n 0, 1) := by decide +kernel
theorem dX7_noteQueen_1 : decode cX7_noteQueen 1 = .ok (.iload_n 1, 1) := by decide +kernel
theorem dX7_noteQueen_2 : decode cX7_noteQueen 2 = .ok (.aload_n 0, 1) := by decide +kernel
theorem dX7_noteQueen_3 : decode cX7_noteQueen 3 = .ok (.getfield 32, 3) := by decide +kernel
theorem dX7_noteQueen_6 : decode cX7_noteQueen 6 = .ok (.if_icmp .ne 12, 3) := by decide +kernel
theorem dX7_noteQueen_9 : decode cX7_noteQueen 9 = .ok (.aload_n 0, 1) := by decide +kernel
theorem dX7_noteQueen_10 : decode cX7_noteQueen 10 = .ok (.getfield 35, 3) := by decide +kernel
theorem dX7_noteQueen_13 : decode cX7_noteQueen 13 = .ok (.iconst 1, 1) := by decide +kernel
theorem dX7_noteQueen_14 : decode cX7_noteQueen 14 = .ok (.iadd, 1) := by decide +kernel
theorem dX7_noteQueen_15 : decode cX7_noteQueen 15 = .ok (.goto 4, 3) := by decide +kernel
theorem dX7_noteQueen_18 : decode cX7_noteQueen 18 = .ok (.iconst 1, 1) := by decide +kernel
theorem dX7_noteQueen_19 : decode cX7_noteQueen 19 = .ok (.putfield 35, 3) := by decide +kernel
theorem dX7_noteQueen_22 : decode cX7_noteQueen 22 = .ok (.aload_n 0, 1) := by decide +kernel
theorem dX7_noteQueen_23 : decode cX7_noteQueen 23 = .ok (.iload_n 1, 1) := by decide +kernel
theorem dX7_noteQueen_24 : decode cX7_noteQueen 24 = .ok (.putfield 32, 3) := by decide +kernel
theorem dX7_noteQueen_27 : decode cX7_noteQueen 27 = .ok (.iload_n 1, 1) := by decide +kernel
theorem dX7_noteQueen_28 : decode cX7_noteQueen 28 = .ok (.ifCond .lt 38, 3) := by decide +kernel
theorem dX7_noteQueen_31 : decode cX7_noteQueen 31 = .ok (.iload_n 1, 1) := by decide +kernel
theorem dX7_noteQueen_32 : decode cX7_noteQueen 32 = .ok (.bipush 6, 2) := by decide +kernel
theorem dX7_noteQueen_34 : decode cX7_noteQueen 34 = .ok (.if_icmp .ge 32, 3) := by decide +kernel
theorem dX7_noteQueen_37 : decode cX7_noteQueen 37 = .ok (.aload_n 0, 1) := by decide +kernel
theorem dX7_noteQueen_38 : decode cX7_noteQueen 38 = .ok (.getfield 9, 3) := by decide +kernel
theorem dX7_noteQueen_41 : decode cX7_noteQueen 41 = .ok (.iload_n 1, 1) := by decide +kernel
theorem dX7_noteQueen_42 : decode cX7_noteQueen 42 = .ok (.dup2, 1) := by decide +kernel
theorem dX7_noteQueen_43 : decode cX7_noteQueen 43 = .ok (.iaload, 1) := by decide +kernel
theorem dX7_noteQueen_44 : decode cX7_noteQueen 44 = .ok (.iconst 1, 1) := by decide +kernel
theorem dX7_noteQueen_45 : decode cX7_noteQueen 45 = .ok (.iadd, 1) := by decide +kernel
theorem dX7_noteQueen_46 : decode cX7_noteQueen 46 = .ok (.iastore, 1) := by decide +kernel
theorem dX7_noteQueen_47 : decode cX7_noteQueen 47 = .ok (.aload_n 0, 1) := by decide +kernel
theorem dX7_noteQueen_48 : decode cX7_noteQueen 48 = .ok (.getfield 15, 3) := by decide +kernel
theorem dX7_noteQueen_51 : decode cX7_noteQueen 51 = .ok (.iload_n 1, 1) := by decide +kernel
theorem dX7_noteQueen_52 : decode cX7_noteQueen 52 = .ok (.aload_n 0, 1) := by decide +kernel
theorem dX7_noteQueen_53 : decode cX7_noteQueen 53 = .ok (.getfield 15, 3) := by decide +kernel
theorem dX7_noteQueen_56 : decode cX7_noteQueen 56 = .ok (.iload_n 1, 1) := by decide +kernel
theorem dX7_noteQueen_57 : decode cX7_noteQueen 57 = .ok (.iaload, 1) := by decide +kernel
theorem dX7_noteQueen_58 : decode cX7_noteQueen 58 = .ok (.aload_n 0, 1) := by decide +kernel
theorem dX7_noteQueen_59 : decode cX7_noteQueen 59 = .ok (.getfield 35, 3) := by decide +kernel
theorem dX7_noteQueen_62 : decode cX7_noteQueen 62 = .ok (.invokestatic 72, 3) := by decide +kernel
theorem dX7_noteQueen_65 : decode cX7_noteQueen 65 = .ok (.iastore, 1) := by decide +kernel
theorem dX7_noteQueen_66 : decode cX7_noteQueen 66 = .ok (.return_, 1) := by decide +kernel
def X7_noteQueen_b66 (e : mm_E) (m : mm_V) : Option mm_V := some m
theorem X7_noteQueen_b66_ok {K : mm_K} {nx : Option Nat} {e : mm_E} (hz : e.2.1 = K.2.2.2.2) {d : Nat} (hd : 1 ≤ d) {a0 : Nat} (h0 : e.1 a0 = some (7, 8)) {m : mm_V} {r : mm_V} (hr : X7_noteQueen_b66 e m = some r) : mm_G K MX7_noteQueen d (mm_Fv e.1 nx r) 66 [none, none] [] (e.1, m) nx 0 0 := by
  obtain ⟨d, rfl⟩ : ∃ d', d = d' + 1 := ⟨d - 1, by omega⟩
  unfold X7_noteQueen_b66 at hr
  exact mb_vret dX7_noteQueen_66 rfl hr
def X7_noteQueen_b19 (e : mm_E) (a0 : Nat) (i1 : Int32) (t0 : Nat) (t1 : Int32) (m : mm_V) : Option mm_V := (mm_pf e.1 m 7 8 t0 7 (.int t1)).bind fun m1 => (mm_pf e.1 m1 7 8 a0 6 (.int i1)).bind fun m2 => if i1 < 0 then (X7_noteQueen_b66 e   m2) else (if (6 : Int32) ≤ i1 then (X7_noteQueen_b66 e   m2) else ((mm_gr e.1 m2 7 8 a0 0).bind fun c3 => (mm_ai e.1 m2 20 c3 i1).bind fun x4 => (mm_si e.1 m2 c3 i1 (x4 + (1 : Int32))).bind fun m5 => (mm_gr e.1 m5 7 8 a0 1).bind fun c6 => (mm_gr e.1 m5 7 8 a0 1).bind fun c7 => (mm_ai e.1 m5 20 c7 i1).bind fun x8 => (mm_gi e.1 m5 7 8 a0 7).bind fun x9 => (J9_max_7cf53 e x8 x9 m5).bind fun r10 => (mm_si e.1 r10.2 c6 i1 r10.1).bind fun m11 => X7_noteQueen_b66 e   m11))
theorem X7_noteQueen_b19_ok {K : mm_K} {nx : Option Nat} {e : mm_E} (hz : e.2.1 = K.2.2.2.2) {d : Nat} (hd : 1 ≤ d) {a0 : Nat} {i1 : Int32} {t0 : Nat} {t1 : Int32} (h0 : e.1 a0 = some (7, 8)) {m : mm_V} {r : mm_V} (hr : X7_noteQueen_b19 e a0 i1 t0 t1 m = some r) : mm_G K MX7_noteQueen d (mm_Fv e.1 nx r) 19 [some (.ref a0), some (.int i1)] [.int t1, .ref t0] (e.1, m) nx 0 0 := by
  obtain ⟨d, rfl⟩ : ∃ d', d = d' + 1 := ⟨d - 1, by omega⟩
  unfold X7_noteQueen_b19 at hr
  refine mb_pi (pc := 19) dX7_noteQueen_19 fp_X7_35 hr (fun m1 hr => ?_)
  refine ml_aload_n (pc := 22) dX7_noteQueen_22 rfl mm_get_0 ?_
  refine ml_iload_n (pc := 23) dX7_noteQueen_23 rfl (mm_get_s mm_get_0) ?_
  refine mb_pi (pc := 24) dX7_noteQueen_24 fp_X7_32 hr (fun m2 hr => ?_)
  refine ml_iload_n (pc := 27) dX7_noteQueen_27 rfl (mm_get_s mm_get_0) ?_
  refine mb_if_lt (pc := 28) 66 dX7_noteQueen_28 rfl hr (fun hr => ?_) (fun hr => ?_)
  · exact mg_weak (mm_le_n (mm_le_n mm_le_0)) (X7_noteQueen_b66_ok hz hd h0 hr)
  · refine ml_iload_n (pc := 31) dX7_noteQueen_31 rfl (mm_get_s mm_get_0) ?_
    refine mg_bipush (pc := 32) dX7_noteQueen_32 kb_6 ?_
    refine mb_icmp_ge (pc := 34) 66 dX7_noteQueen_34 rfl hr (fun hr => ?_) (fun hr => ?_)
    · exact mg_weak (mm_le_n (mm_le_n mm_le_0)) (X7_noteQueen_b66_ok hz hd h0 hr)
    · refine ml_aload_n (pc := 37) dX7_noteQueen_37 rfl mm_get_0 ?_
      refine mb_gr (pc := 38) dX7_noteQueen_38 fl_X7_9 hr (fun c3 hr => ?_)
      refine ml_iload_n (pc := 41) dX7_noteQueen_41 rfl (mm_get_s mm_get_0) ?_
      refine mg_dup2 (pc := 42) dX7_noteQueen_42 rfl rfl ?_
      refine mb_ai (pc := 43) dX7_noteQueen_43 hr (fun x4 hr => ?_)
      refine mg_iconst (pc := 44) dX7_noteQueen_44 kc_1 ?_
      refine mg_iadd (pc := 45) dX7_noteQueen_45 ?_
      refine mb_si (pc := 46) dX7_noteQueen_46 hr (fun m5 hr => ?_)
      refine ml_aload_n (pc := 47) dX7_noteQueen_47 rfl mm_get_0 ?_
      refine mb_gr (pc := 48) dX7_noteQueen_48 fl_X7_15 hr (fun c6 hr => ?_)
      refine ml_iload_n (pc := 51) dX7_noteQueen_51 rfl (mm_get_s mm_get_0) ?_
      refine ml_aload_n (pc := 52) dX7_noteQueen_52 rfl mm_get_0 ?_
      refine mb_gr (pc := 53) dX7_noteQueen_53 fl_X7_15 hr (fun c7 hr => ?_)
      refine ml_iload_n (pc := 56) dX7_noteQueen_56 rfl (mm_get_s mm_get_0) ?_
      refine mb_ai (pc := 57) dX7_noteQueen_57 hr (fun x8 hr => ?_)
      refine ml_aload_n (pc := 58) dX7_noteQueen_58 rfl mm_get_0 ?_
      refine mb_gi (pc := 59) dX7_noteQueen_59 fl_X7_35 hr (fun x9 hr => ?_)
      refine mb_cSi (pc := 62) (As := [.int x8, .int x9]) (rest := [.int i1, .ref c6]) dX7_noteQueen_62 cw_X7_72  hr (fun v hv => J9_max_7cf53_ok hz (by omega)  hv) rfl (Nat.le_of_ble_eq_true rfl) (Nat.zero_le _) (Nat.zero_le _) (fun r10 hr => ?_)
      refine mb_si (pc := 65) dX7_noteQueen_65 hr (fun m11 hr => ?_)
      exact mg_weak (mm_le_n (mm_le_n mm_le_0)) (X7_noteQueen_b66_ok hz hd h0 hr)
def X7_noteQueen (e : mm_E) (a0 : Nat) (i1 : Int32) (m : mm_V) : Option mm_V := (mm_gi e.1 m 7 8 a0 6).bind fun x1 => if ¬ i1 = x1 then (X7_noteQueen_b19 e a0 i1 a0 (1 : Int32) m) else ((mm_gi e.1 m 7 8 a0 7).bind fun x2 => X7_noteQueen_b19 e a0 i1 a0 (x2 + (1 : Int32)) m)
theorem X7_noteQueen_ok {K : mm_K} {nx : Option Nat} {e : mm_E} (hz : e.2.1 = K.2.2.2.2) {d : Nat} (hd : 1 ≤ d) {a0 : Nat} {i1 : Int32} (h0 : e.1 a0 = some (7, 8)) {m : mm_V} {r : mm_V} (hr : X7_noteQueen e a0 i1 m = some r) : mm_Cn K MX7_noteQueen d (mm_Fv e.1 nx r) [.ref a0, .int i1] (e.1, m) nx := by
  obtain ⟨d, rfl⟩ : ∃ d', d = d' + 1 := ⟨d - 1, by omega⟩
  refine mm_entry (by decide) (Nat.le_of_ble_eq_true rfl) rfl (fun hok => ?_)
  unfold X7_noteQueen at hr
  refine mg_weak (L' := [some (.ref a0), some (.int i1)]) (mm_le_s (mm_le_s mm_le_0)) ?_
  refine ml_aload_n (pc := 0) dX7_noteQueen_0 rfl mm_get_0 ?_
  refine ml_iload_n (pc := 1) dX7_noteQueen_1 rfl (mm_get_s mm_get_0) ?_
  refine ml_aload_n (pc := 2) dX7_noteQueen_2 rfl mm_get_0 ?_
  refine mb_gi (pc := 3) dX7_noteQueen_3 fl_X7_32 hr (fun x1 hr => ?_)
  refine mb_icmp_ne (pc := 6) 18 dX7_noteQueen_6 rfl hr (fun hr => ?_) (fun hr => ?_)
  · refine mg_iconst (pc := 18) dX7_noteQueen_18 kc_1 ?_
    exact mg_weak (mm_le_s (mm_le_s mm_le_0)) (X7_noteQueen_b19_ok hz hd h0 hr)
  · refine ml_aload_n (pc := 9) dX7_noteQueen_9 rfl mm_get_0 ?_
    refine mb_gi (pc := 10) dX7_noteQueen_10 fl_X7_35 hr (fun x2 hr => ?_)
    refine mg_iconst (pc := 13) dX7_noteQueen_13 kc_1 ?_
    refine mg_iadd (pc := 14) dX7_noteQueen_14 ?_
    refine mg_goto (pc := 15) 19 dX7_noteQueen_15 rfl ?_
    exact mg_weak (mm_le_s (mm_le_s mm_le_0)) (X7_noteQueen_b19_ok hz hd h0 hr)
theorem dX7_noteOut_0 : decode cX7_noteOut 0 = .ok (.iconst 0, 1) := by decide +kernel
theorem dX7_noteOut_1 : decode cX7_noteOut 1 = .ok (.istore_n 2, 1) := by decide +kernel
theorem dX7_noteOut_2 : decode cX7_noteOut 2 = .ok (.iload_n 2, 1) := by decide +kernel
theorem dX7_noteOut_3 : decode cX7_noteOut 3 = .ok (.bipush 6, 2) := by decide +kernel
theorem dX7_noteOut_5 : decode cX7_noteOut 5 = .ok (.if_icmp .ge 46, 3) := by decide +kernel
theorem dX7_noteOut_8 : decode cX7_noteOut 8 = .ok (.aload_n 0, 1) := by decide +kernel
theorem dX7_noteOut_9 : decode cX7_noteOut 9 = .ok (.getfield 18, 3) := by decide +kernel
theorem dX7_noteOut_12 : decode cX7_noteOut 12 = .ok (.iload_n 2, 1) := by decide +kernel
theorem dX7_noteOut_13 : decode cX7_noteOut 13 = .ok (.aload_n 0, 1) := by decide +kernel
theorem dX7_noteOut_14 : decode cX7_noteOut 14 = .ok (.getfield 18, 3) := by decide +kernel
theorem dX7_noteOut_17 : decode cX7_noteOut 17 = .ok (.iload_n 2, 1) := by decide +kernel
theorem dX7_noteOut_18 : decode cX7_noteOut 18 = .ok (.iaload, 1) := by decide +kernel
theorem dX7_noteOut_19 : decode cX7_noteOut 19 = .ok (.iconst (-1), 1) := by decide +kernel
theorem dX7_noteOut_20 : decode cX7_noteOut 20 = .ok (.if_icmp .ne 18, 3) := by decide +kernel
theorem dX7_noteOut_23 : decode cX7_noteOut 23 = .ok (.aload_n 1, 1) := by decide +kernel
theorem dX7_noteOut_24 : decode cX7_noteOut 24 = .ok (.iload_n 2, 1) := by decide +kernel
theorem dX7_noteOut_25 : decode cX7_noteOut 25 = .ok (.invokevirtual 38, 3) := by decide +kernel
theorem dX7_noteOut_28 : decode cX7_noteOut 28 = .ok (.ifCond .eq 10, 3) := by decide +kernel
theorem dX7_noteOut_31 : decode cX7_noteOut 31 = .ok (.aload_n 0, 1) := by decide +kernel
theorem dX7_noteOut_32 : decode cX7_noteOut 32 = .ok (.getfield 28, 3) := by decide +kernel
theorem dX7_noteOut_35 : decode cX7_noteOut 35 = .ok (.goto 9, 3) := by decide +kernel
theorem dX7_noteOut_38 : decode cX7_noteOut 38 = .ok (.aload_n 0, 1) := by decide +kernel
theorem dX7_noteOut_39 : decode cX7_noteOut 39 = .ok (.getfield 18, 3) := by decide +kernel
theorem dX7_noteOut_42 : decode cX7_noteOut 42 = .ok (.iload_n 2, 1) := by decide +kernel
theorem dX7_noteOut_43 : decode cX7_noteOut 43 = .ok (.iaload, 1) := by decide +kernel
theorem dX7_noteOut_44 : decode cX7_noteOut 44 = .ok (.iastore, 1) := by decide +kernel
theorem dX7_noteOut_45 : decode cX7_noteOut 45 = .ok (.iinc 2 1, 3) := by decide +kernel
theorem dX7_noteOut_48 : decode cX7_noteOut 48 = .ok (.goto (-46), 3) := by decide +kernel
theorem dX7_noteOut_51 : decode cX7_noteOut 51 = .ok (.return_, 1) := by decide +kernel
def X7_noteOut_b44 (e : mm_E) (k2 : Int32 → mm_V → Option mm_V) (a0 : Nat) (a1 : Nat) (i2 : Int32) (t0 : Nat) (t1 : Int32) (t2 : Int32) (m : mm_V) : Option mm_V := (mm_si e.1 m t0 t1 t2).bind fun m1 => k2 (i2 + 1) m1
theorem X7_noteOut_b44_ok {K : mm_K} {nx : Option Nat} {e : mm_E} (hz : e.2.1 = K.2.2.2.2) {d : Nat} (hd : 2 ≤ d) {a0 : Nat} {a1 : Nat} {i2 : Int32} {t0 : Nat} {t1 : Int32} {t2 : Int32} (h0 : e.1 a0 = some (7, 8)) {k2 : Int32 → mm_V → Option mm_V} (hk2 : ∀ (w2 : Int32) (m : mm_V) (r : mm_V), k2 w2 m = some r → mm_G K MX7_noteOut d (mm_Fv e.1 nx r) 2 [some (.ref a0), some (.ref a1), some (.int w2)] [] (e.1, m) nx 0 0) {m : mm_V} {r : mm_V} (hr : X7_noteOut_b44 e k2 a0 a1 i2 t0 t1 t2 m = some r) : mm_G K MX7_noteOut d (mm_Fv e.1 nx r) 44 [some (.ref a0), some (.ref a1), some (.int i2)] [.int t2, .int t1, .ref t0] (e.1, m) nx 0 0 := by
  obtain ⟨d, rfl⟩ : ∃ d', d = d' + 1 := ⟨d - 1, by omega⟩
  unfold X7_noteOut_b44 at hr
  refine mb_si (pc := 44) dX7_noteOut_44 hr (fun m1 hr => ?_)
  refine ml_iinc (pc := 45) dX7_noteOut_45 (mm_get_s (mm_get_s mm_get_0)) (congrArg (fun z => i2 + z) kc_1) (Nat.le_of_ble_eq_true rfl) (mm_st1_s mm_st1_r) ?_
  refine mg_goto (pc := 48) 2 dX7_noteOut_48 rfl ?_
  exact mg_weak (mm_le_s (mm_le_s (mm_le_s mm_le_0))) (hk2 _ _ _ hr)
def X7_noteOut_b38 (e : mm_E) (k2 : Int32 → mm_V → Option mm_V) (a0 : Nat) (a1 : Nat) (i2 : Int32) (t0 : Nat) (t1 : Int32) (m : mm_V) : Option mm_V := (mm_gr e.1 m 7 8 a0 2).bind fun c1 => (mm_ai e.1 m 20 c1 i2).bind fun x2 => X7_noteOut_b44 e k2 a0 a1 i2 t0 t1 x2 m
theorem X7_noteOut_b38_ok {K : mm_K} {nx : Option Nat} {e : mm_E} (hz : e.2.1 = K.2.2.2.2) {d : Nat} (hd : 2 ≤ d) {a0 : Nat} {a1 : Nat} {i2 : Int32} {t0 : Nat} {t1 : Int32} (h0 : e.1 a0 = some (7, 8)) {k2 : Int32 → mm_V → Option mm_V} (hk2 : ∀ (w2 : Int32) (m : mm_V) (r : mm_V), k2 w2 m = some r → mm_G K MX7_noteOut d (mm_Fv e.1 nx r) 2 [some (.ref a0), some (.ref a1), some (.int w2)] [] (e.1, m) nx 0 0) {m : mm_V} {r : mm_V} (hr : X7_noteOut_b38 e k2 a0 a1 i2 t0 t1 m = some r) : mm_G K MX7_noteOut d (mm_Fv e.1 nx r) 38 [some (.ref a0), some (.ref a1), some (.int i2)] [.int t1, .ref t0] (e.1, m) nx 0 0 := by
  obtain ⟨d, rfl⟩ : ∃ d', d = d' + 1 := ⟨d - 1, by omega⟩
  unfold X7_noteOut_b38 at hr
  refine ml_aload_n (pc := 38) dX7_noteOut_38 rfl mm_get_0 ?_
  refine mb_gr (pc := 39) dX7_noteOut_39 fl_X7_18 hr (fun c1 hr => ?_)
  refine ml_iload_n (pc := 42) dX7_noteOut_42 rfl (mm_get_s (mm_get_s mm_get_0)) ?_
  refine mb_ai (pc := 43) dX7_noteOut_43 hr (fun x2 hr => ?_)
  exact mg_weak (mm_le_s (mm_le_s (mm_le_s mm_le_0))) (X7_noteOut_b44_ok hz hd h0 hk2 hr)
def X7_noteOut_L2 (e : mm_E) (a0 : Nat) (a1 : Nat) : Nat → Int32 → mm_V → Option mm_V
  | 0, _, _ => none
  | n + 1, i2, m => if (6 : Int32) ≤ i2 then (some m) else ((mm_gr e.1 m 7 8 a0 2).bind fun c1 => (mm_gr e.1 m 7 8 a0 2).bind fun c2 => (mm_ai e.1 m 20 c2 i2).bind fun x3 => if ¬ x3 = (-1 : Int32) then (X7_noteOut_b38 e (X7_noteOut_L2 e a0 a1 n) a0 a1 i2 c1 i2 m) else (if e.1 a1 = some (4, 12) then ((X4_isEmpty e a1 i2 m).bind fun r4 => if r4.1 = 0 then (X7_noteOut_b38 e (X7_noteOut_L2 e a0 a1 n) a0 a1 i2 c1 i2 r4.2) else ((mm_gi e.1 r4.2 7 8 a0 5).bind fun x6 => X7_noteOut_b44 e (X7_noteOut_L2 e a0 a1 n) a0 a1 i2 c1 i2 x6 r4.2)) else none))
theorem X7_noteOut_L2_ok {K : mm_K} {nx : Option Nat} {e : mm_E} (hz : e.2.1 = K.2.2.2.2) {d : Nat} (hd : 2 ≤ d) {a0 : Nat} {a1 : Nat} (h0 : e.1 a0 = some (7, 8)) : ∀ (n : Nat) (i2 : Int32) (m : mm_V) (r : mm_V), X7_noteOut_L2 e a0 a1 n i2 m = some r → mm_G K MX7_noteOut d (mm_Fv e.1 nx r) 2 [some (.ref a0), some (.ref a1), some (.int i2)] [] (e.1, m) nx 0 0 := by
  obtain ⟨d, rfl⟩ : ∃ d', d = d' + 1 := ⟨d - 1, by omega⟩
  intro n
  induction n with
  | zero => intro i2 m r hr; unfold X7_noteOut_L2 at hr; cases hr
  | succ n ih =>
    intro i2 m r hr
    unfold X7_noteOut_L2 at hr
    refine ml_iload_n (pc := 2) dX7_noteOut_2 rfl (mm_get_s (mm_get_s mm_get_0)) ?_
    refine mg_bipush (pc := 3) dX7_noteOut_3 kb_6 ?_
    refine mb_icmp_ge (pc := 5) 51 dX7_noteOut_5 rfl hr (fun hr => ?_) (fun hr => ?_)
    · exact mb_vret dX7_noteOut_51 rfl hr
    · refine ml_aload_n (pc := 8) dX7_noteOut_8 rfl mm_get_0 ?_
      refine mb_gr (pc := 9) dX7_noteOut_9 fl_X7_18 hr (fun c1 hr => ?_)
      refine ml_iload_n (pc := 12) dX7_noteOut_12 rfl (mm_get_s (mm_get_s mm_get_0)) ?_
      refine ml_aload_n (pc := 13) dX7_noteOut_13 rfl mm_get_0 ?_
      refine mb_gr (pc := 14) dX7_noteOut_14 fl_X7_18 hr (fun c2 hr => ?_)
      refine ml_iload_n (pc := 17) dX7_noteOut_17 rfl (mm_get_s (mm_get_s mm_get_0)) ?_
      refine mb_ai (pc := 18) dX7_noteOut_18 hr (fun x3 hr => ?_)
      refine mg_iconst (pc := 19) dX7_noteOut_19 kc_m1 ?_
      refine mb_icmp_ne (pc := 20) 38 dX7_noteOut_20 rfl hr (fun hr => ?_) (fun hr => ?_)
      · exact mg_weak (mm_le_s (mm_le_s (mm_le_s mm_le_0))) (X7_noteOut_b38_ok hz hd h0 ih hr)
      · refine ml_aload_n (pc := 23) dX7_noteOut_23 rfl (mm_get_s mm_get_0) ?_
        refine ml_iload_n (pc := 24) dX7_noteOut_24 rfl (mm_get_s (mm_get_s mm_get_0)) ?_
        refine mb_ck hr (fun hb5 hr => ?_)
        refine mb_cVi (pc := 25) (As := [.int i2]) (rest := [.int i2, .ref c1]) dX7_noteOut_25 cw_X7_38 hb5 hr (fun v hv => X4_isEmpty_ok hz (by omega) hb5 hv) rfl (Nat.le_of_ble_eq_true rfl) (Nat.zero_le _) (Nat.zero_le _) (fun r4 hr => ?_)
        refine mb_if_eq (pc := 28) 38 dX7_noteOut_28 rfl hr (fun hr => ?_) (fun hr => ?_)
        · exact mg_weak (mm_le_s (mm_le_s (mm_le_s mm_le_0))) (X7_noteOut_b38_ok hz hd h0 ih hr)
        · refine ml_aload_n (pc := 31) dX7_noteOut_31 rfl mm_get_0 ?_
          refine mb_gi (pc := 32) dX7_noteOut_32 fl_X7_28 hr (fun x6 hr => ?_)
          refine mg_goto (pc := 35) 44 dX7_noteOut_35 rfl ?_
          exact mg_weak (mm_le_s (mm_le_s (mm_le_s mm_le_0))) (X7_noteOut_b44_ok hz hd h0 ih hr)
def X7_noteOut (e : mm_E) (a0 : Nat) (a1 : Nat) (m : mm_V) : Option mm_V := X7_noteOut_L2 e a0 a1 e.2.2 (0 : Int32) m
theorem X7_noteOut_ok {K : mm_K} {nx : Option Nat} {e : mm_E} (hz : e.2.1 = K.2.2.2.2) {d : Nat} (hd : 2 ≤ d) {a0 : Nat} {a1 : Nat} (h0 : e.1 a0 = some (7, 8)) {m : mm_V} {r : mm_V} (hr : X7_noteOut e a0 a1 m = some r) : mm_Cn K MX7_noteOut d (mm_Fv e.1 nx r) [.ref a0, .ref a1] (e.1, m) nx := by
  obtain ⟨d, rfl⟩ : ∃ d', d = d' + 1 := ⟨d - 1, by omega⟩
  refine mm_entry (by decide) (Nat.le_of_ble_eq_true rfl) rfl (fun hok => ?_)
  unfold X7_noteOut at hr
  refine mg_weak (L' := [some (.ref a0), some (.ref a1), none]) (mm_le_s (mm_le_s (mm_le_e mm_le_0))) ?_
  refine mg_iconst (pc := 0) dX7_noteOut_0 kc_0 ?_
  refine ml_istore_n (pc := 1) dX7_noteOut_1 rfl (Nat.le_of_ble_eq_true rfl) (mm_st1_s mm_st1_r) ?_
  exact mg_weak (mm_le_s (mm_le_s (mm_le_s mm_le_0))) (X7_noteOut_L2_ok hz hd h0 _ _ _ _ hr)
theorem dX7_watch_0 : decode cX7_watch 0 = .ok (.aload_n 0, 1) := by decide +kernel
theorem dX7_watch_1 : decode cX7_watch 1 = .ok (.iconst 0, 1) := by decide +kernel
theorem dX7_watch_2 : decode cX7_watch 2 = .ok (.putfield 28, 3) := by decide +kernel
theorem dX7_watch_5 : decode cX7_watch 5 = .ok (.aload_n 0, 1) := by decide +kernel
theorem dX7_watch_6 : decode cX7_watch 6 = .ok (.iconst (-1), 1) := by decide +kernel
theorem dX7_watch_7 : decode cX7_watch 7 = .ok (.putfield 32, 3) := by decide +kernel
theorem dX7_watch_10 : decode cX7_watch 10 = .ok (.aload_n 0, 1) := by decide +kernel
theorem dX7_watch_11 : decode cX7_watch 11 = .ok (.iconst 0, 1) := by decide +kernel
theorem dX7_watch_12 : decode cX7_watch 12 = .ok (.putfield 35, 3) := by decide +kernel
theorem dX7_watch_15 : decode cX7_watch 15 = .ok (.iconst 0, 1) := by decide +kernel
theorem dX7_watch_16 : decode cX7_watch 16 = .ok (.istore_n 2, 1) := by decide +kernel
theorem dX7_watch_17 : decode cX7_watch 17 = .ok (.iload_n 2, 1) := by decide +kernel
theorem dX7_watch_18 : decode cX7_watch 18 = .ok (.bipush 6, 2) := by decide +kernel
theorem dX7_watch_20 : decode cX7_watch 20 = .ok (.if_icmp .ge 42, 3) := by decide +kernel
theorem dX7_watch_23 : decode cX7_watch 23 = .ok (.aload_n 0, 1) := by decide +kernel
theorem dX7_watch_24 : decode cX7_watch 24 = .ok (.getfield 9, 3) := by decide +kernel
theorem dX7_watch_27 : decode cX7_watch 27 = .ok (.iload_n 2, 1) := by decide +kernel
theorem dX7_watch_28 : decode cX7_watch 28 = .ok (.iconst 0, 1) := by decide +kernel
theorem dX7_watch_29 : decode cX7_watch 29 = .ok (.iastore, 1) := by decide +kernel
theorem dX7_watch_30 : decode cX7_watch 30 = .ok (.aload_n 0, 1) := by decide +kernel
theorem dX7_watch_31 : decode cX7_watch 31 = .ok (.getfield 15, 3) := by decide +kernel
theorem dX7_watch_34 : decode cX7_watch 34 = .ok (.iload_n 2, 1) := by decide +kernel
theorem dX7_watch_35 : decode cX7_watch 35 = .ok (.iconst 0, 1) := by decide +kernel
theorem dX7_watch_36 : decode cX7_watch 36 = .ok (.iastore, 1) := by decide +kernel
theorem dX7_watch_37 : decode cX7_watch 37 = .ok (.aload_n 0, 1) := by decide +kernel
theorem dX7_watch_38 : decode cX7_watch 38 = .ok (.getfield 18, 3) := by decide +kernel
theorem dX7_watch_41 : decode cX7_watch 41 = .ok (.iload_n 2, 1) := by decide +kernel
theorem dX7_watch_42 : decode cX7_watch 42 = .ok (.aload_n 1, 1) := by decide +kernel
theorem dX7_watch_43 : decode cX7_watch 43 = .ok (.iload_n 2, 1) := by decide +kernel
theorem dX7_watch_44 : decode cX7_watch 44 = .ok (.invokevirtual 38, 3) := by decide +kernel
theorem dX7_watch_47 : decode cX7_watch 47 = .ok (.ifCond .eq 7, 3) := by decide +kernel
theorem dX7_watch_50 : decode cX7_watch 50 = .ok (.iconst 0, 1) := by decide +kernel
theorem dX7_watch_51 : decode cX7_watch 51 = .ok (.goto 4, 3) := by decide +kernel
theorem dX7_watch_54 : decode cX7_watch 54 = .ok (.iconst (-1), 1) := by decide +kernel
theorem dX7_watch_55 : decode cX7_watch 55 = .ok (.iastore, 1) := by decide +kernel
theorem dX7_watch_56 : decode cX7_watch 56 = .ok (.iinc 2 1, 3) := by decide +kernel
theorem dX7_watch_59 : decode cX7_watch 59 = .ok (.goto (-42), 3) := by decide +kernel
theorem dX7_watch_62 : decode cX7_watch 62 = .ok (.aload_n 0, 1) := by decide +kernel
theorem dX7_watch_63 : decode cX7_watch 63 = .ok (.getfield 28, 3) := by decide +kernel
theorem dX7_watch_66 : decode cX7_watch 66 = .ok (.sipush 200, 3) := by decide +kernel
theorem dX7_watch_69 : decode cX7_watch 69 = .ok (.if_icmp .ge 48, 3) := by decide +kernel
theorem dX7_watch_72 : decode cX7_watch 72 = .ok (.aload_n 1, 1) := by decide +kernel
theorem dX7_watch_73 : decode cX7_watch 73 = .ok (.invokevirtual 44, 3) := by decide +kernel
theorem dX7_watch_76 : decode cX7_watch 76 = .ok (.ifCond .ne 41, 3) := by decide +kernel
theorem dX7_watch_79 : decode cX7_watch 79 = .ok (.aload_n 1, 1) := by decide +kernel
theorem dX7_watch_80 : decode cX7_watch 80 = .ok (.aload_n 1, 1) := by decide +kernel
theorem dX7_watch_81 : decode cX7_watch 81 = .ok (.invokevirtual 48, 3) := by decide +kernel
theorem dX7_watch_84 : decode cX7_watch 84 = .ok (.aload_n 0, 1) := by decide +kernel
theorem dX7_watch_85 : decode cX7_watch 85 = .ok (.getfield 24, 3) := by decide +kernel
theorem dX7_watch_88 : decode cX7_watch 88 = .ok (.invokevirtual 52, 3) := by decide +kernel
theorem dX7_watch_91 : decode cX7_watch 91 = .ok (.aload_n 0, 1) := by decide +kernel
theorem dX7_watch_92 : decode cX7_watch 92 = .ok (.dup, 1) := by decide +kernel
theorem dX7_watch_93 : decode cX7_watch 93 = .ok (.getfield 28, 3) := by decide +kernel
theorem dX7_watch_96 : decode cX7_watch 96 = .ok (.iconst 1, 1) := by decide +kernel
theorem dX7_watch_97 : decode cX7_watch 97 = .ok (.iadd, 1) := by decide +kernel
theorem dX7_watch_98 : decode cX7_watch 98 = .ok (.putfield 28, 3) := by decide +kernel
theorem dX7_watch_101 : decode cX7_watch 101 = .ok (.aload_n 0, 1) := by decide +kernel
theorem dX7_watch_102 : decode cX7_watch 102 = .ok (.aload_n 1, 1) := by decide +kernel
theorem dX7_watch_103 : decode cX7_watch 103 = .ok (.invokevirtual 56, 3) := by decide +kernel
theorem dX7_watch_106 : decode cX7_watch 106 = .ok (.invokevirtual 59, 3) := by decide +kernel
theorem dX7_watch_109 : decode cX7_watch 109 = .ok (.aload_n 0, 1) := by decide +kernel
theorem dX7_watch_110 : decode cX7_watch 110 = .ok (.aload_n 1, 1) := by decide +kernel
theorem dX7_watch_111 : decode cX7_watch 111 = .ok (.invokevirtual 63, 3) := by decide +kernel
theorem dX7_watch_114 : decode cX7_watch 114 = .ok (.goto (-52), 3) := by decide +kernel
theorem dX7_watch_117 : decode cX7_watch 117 = .ok (.aload_n 0, 1) := by decide +kernel
theorem dX7_watch_118 : decode cX7_watch 118 = .ok (.aload_n 1, 1) := by decide +kernel
theorem dX7_watch_119 : decode cX7_watch 119 = .ok (.invokevirtual 67, 3) := by decide +kernel
theorem dX7_watch_122 : decode cX7_watch 122 = .ok (.putfield 70, 3) := by decide +kernel
theorem dX7_watch_125 : decode cX7_watch 125 = .ok (.return_, 1) := by decide +kernel
def X7_watch_b117 (e : mm_E) (a0 : Nat) (a1 : Nat) (m : mm_V) : Option mm_V := if e.1 a1 = some (4, 12) then ((X4_loser e a1 m).bind fun r1 => (mm_pf e.1 r1.2 7 8 a0 4 (.int r1.1)).bind fun m3 => some m3) else none
theorem X7_watch_b117_ok {K : mm_K} {nx : Option Nat} {e : mm_E} (hz : e.2.1 = K.2.2.2.2) {d : Nat} (hd : 4 ≤ d) {a0 : Nat} {a1 : Nat} (h0 : e.1 a0 = some (7, 8)) {m : mm_V} {r : mm_V} (hr : X7_watch_b117 e a0 a1 m = some r) : mm_G K MX7_watch d (mm_Fv e.1 nx r) 117 [some (.ref a0), some (.ref a1), none] [] (e.1, m) nx 0 0 := by
  obtain ⟨d, rfl⟩ : ∃ d', d = d' + 1 := ⟨d - 1, by omega⟩
  unfold X7_watch_b117 at hr
  refine ml_aload_n (pc := 117) dX7_watch_117 rfl mm_get_0 ?_
  refine ml_aload_n (pc := 118) dX7_watch_118 rfl (mm_get_s mm_get_0) ?_
  refine mb_ck hr (fun hb2 hr => ?_)
  refine mb_cVi (pc := 119) (As := []) (rest := [.ref a0]) dX7_watch_119 cw_X7_67 hb2 hr (fun v hv => X4_loser_ok hz (by omega) hb2 hv) rfl (Nat.le_of_ble_eq_true rfl) (Nat.zero_le _) (Nat.zero_le _) (fun r1 hr => ?_)
  refine mb_pi (pc := 122) dX7_watch_122 fp_X7_70 hr (fun m3 hr => ?_)
  exact mb_vret dX7_watch_125 rfl hr
def X7_watch_L62 (e : mm_E) (a0 : Nat) (a1 : Nat) : Nat → mm_V → Option mm_V
  | 0, _ => none
  | n + 1, m => (mm_gi e.1 m 7 8 a0 5).bind fun x1 => if (200 : Int32) ≤ x1 then (X7_watch_b117 e a0 a1  m) else (if e.1 a1 = some (4, 12) then ((X4_over e a1 m).bind fun r2 => if ¬ r2.1 = 0 then (X7_watch_b117 e a0 a1  r2.2) else (if e.1 a1 = some (4, 12) then ((X4_placeNow e a1 r2.2).bind fun r4 => (mm_gr e.1 r4.2 7 8 a0 3).bind fun c6 => if e.1 a1 = some (4, 12) then ((X4_step e a1 r4.1 c6 r4.2).bind fun r7 => (mm_gi e.1 r7 7 8 a0 5).bind fun x9 => (mm_pf e.1 r7 7 8 a0 5 (.int (x9 + (1 : Int32)))).bind fun m10 => if e.1 a1 = some (4, 12) then ((X4_queenHolder e a1 m10).bind fun r11 => (X7_noteQueen e a0 r11.1 r11.2).bind fun r13 => (X7_noteOut e a0 a1 r13).bind fun r14 => X7_watch_L62 e a0 a1 n  r14) else none) else none) else none)) else none)
theorem X7_watch_L62_ok {K : mm_K} {nx : Option Nat} {e : mm_E} (hz : e.2.1 = K.2.2.2.2) {d : Nat} (hd : 4 ≤ d) {a0 : Nat} {a1 : Nat} (h0 : e.1 a0 = some (7, 8)) : ∀ (n : Nat) (m : mm_V) (r : mm_V), X7_watch_L62 e a0 a1 n  m = some r → mm_G K MX7_watch d (mm_Fv e.1 nx r) 62 [some (.ref a0), some (.ref a1), none] [] (e.1, m) nx 0 0 := by
  obtain ⟨d, rfl⟩ : ∃ d', d = d' + 1 := ⟨d - 1, by omega⟩
  intro n
  induction n with
  | zero => intro m r hr; unfold X7_watch_L62 at hr; cases hr
  | succ n ih =>
    intro m r hr
    unfold X7_watch_L62 at hr
    refine ml_aload_n (pc := 62) dX7_watch_62 rfl mm_get_0 ?_
    refine mb_gi (pc := 63) dX7_watch_63 fl_X7_28 hr (fun x1 hr => ?_)
    refine mg_sipush (pc := 66) dX7_watch_66 ks_200 ?_
    refine mb_icmp_ge (pc := 69) 117 dX7_watch_69 rfl hr (fun hr => ?_) (fun hr => ?_)
    · exact mg_weak (mm_le_s (mm_le_s (mm_le_n mm_le_0))) (X7_watch_b117_ok hz hd h0 hr)
    · refine ml_aload_n (pc := 72) dX7_watch_72 rfl (mm_get_s mm_get_0) ?_
      refine mb_ck hr (fun hb3 hr => ?_)
      refine mb_cVi (pc := 73) (As := []) (rest := []) dX7_watch_73 cw_X7_44 hb3 hr (fun v hv => X4_over_ok hz (by omega) hb3 hv) rfl (Nat.le_of_ble_eq_true rfl) (Nat.zero_le _) (Nat.zero_le _) (fun r2 hr => ?_)
      refine mb_if_ne (pc := 76) 117 dX7_watch_76 rfl hr (fun hr => ?_) (fun hr => ?_)
      · exact mg_weak (mm_le_s (mm_le_s (mm_le_n mm_le_0))) (X7_watch_b117_ok hz hd h0 hr)
      · refine ml_aload_n (pc := 79) dX7_watch_79 rfl (mm_get_s mm_get_0) ?_
        refine ml_aload_n (pc := 80) dX7_watch_80 rfl (mm_get_s mm_get_0) ?_
        refine mb_ck hr (fun hb5 hr => ?_)
        refine mb_cVi (pc := 81) (As := []) (rest := [.ref a1]) dX7_watch_81 cw_X7_48 hb5 hr (fun v hv => X4_placeNow_ok hz (by omega) hb5 hv) rfl (Nat.le_of_ble_eq_true rfl) (Nat.zero_le _) (Nat.zero_le _) (fun r4 hr => ?_)
        refine ml_aload_n (pc := 84) dX7_watch_84 rfl mm_get_0 ?_
        refine mb_gr (pc := 85) dX7_watch_85 fl_X7_24 hr (fun c6 hr => ?_)
        refine mb_ck hr (fun hb8 hr => ?_)
        refine mb_cVv (pc := 88) (As := [.int r4.1, .ref c6]) (rest := []) dX7_watch_88 cw_X7_52 hb8 hr (fun v hv => X4_step_ok hz (by omega) hb8 hv) rfl (Nat.le_of_ble_eq_true rfl) (Nat.zero_le _) (Nat.zero_le _) (fun r7 hr => ?_)
        refine ml_aload_n (pc := 91) dX7_watch_91 rfl mm_get_0 ?_
        refine mg_dup (pc := 92) dX7_watch_92 rfl ?_
        refine mb_gi (pc := 93) dX7_watch_93 fl_X7_28 hr (fun x9 hr => ?_)
        refine mg_iconst (pc := 96) dX7_watch_96 kc_1 ?_
        refine mg_iadd (pc := 97) dX7_watch_97 ?_
        refine mb_pi (pc := 98) dX7_watch_98 fp_X7_28 hr (fun m10 hr => ?_)
        refine ml_aload_n (pc := 101) dX7_watch_101 rfl mm_get_0 ?_
        refine ml_aload_n (pc := 102) dX7_watch_102 rfl (mm_get_s mm_get_0) ?_
        refine mb_ck hr (fun hb12 hr => ?_)
        refine mb_cVi (pc := 103) (As := []) (rest := [.ref a0]) dX7_watch_103 cw_X7_56 hb12 hr (fun v hv => X4_queenHolder_ok hz (by omega) hb12 hv) rfl (Nat.le_of_ble_eq_true rfl) (Nat.zero_le _) (Nat.zero_le _) (fun r11 hr => ?_)
        refine mb_cVv (pc := 106) (As := [.int r11.1]) (rest := []) dX7_watch_106 cw_X7_59 h0 hr (fun v hv => X7_noteQueen_ok hz (by omega) h0 hv) rfl (Nat.le_of_ble_eq_true rfl) (Nat.zero_le _) (Nat.zero_le _) (fun r13 hr => ?_)
        refine ml_aload_n (pc := 109) dX7_watch_109 rfl mm_get_0 ?_
        refine ml_aload_n (pc := 110) dX7_watch_110 rfl (mm_get_s mm_get_0) ?_
        refine mb_cVv (pc := 111) (As := [.ref a1]) (rest := []) dX7_watch_111 cw_X7_63 h0 hr (fun v hv => X7_noteOut_ok hz (by omega) h0 hv) rfl (Nat.le_of_ble_eq_true rfl) (Nat.zero_le _) (Nat.zero_le _) (fun r14 hr => ?_)
        refine mg_goto (pc := 114) 62 dX7_watch_114 rfl ?_
        exact mg_weak (mm_le_s (mm_le_s (mm_le_n mm_le_0))) (ih  _ _ hr)
def X7_watch_b55 (e : mm_E) (k17 : Int32 → mm_V → Option mm_V) (a0 : Nat) (a1 : Nat) (i2 : Int32) (t0 : Nat) (t1 : Int32) (t2 : Int32) (m : mm_V) : Option mm_V := (mm_si e.1 m t0 t1 t2).bind fun m1 => k17 (i2 + 1) m1
theorem X7_watch_b55_ok {K : mm_K} {nx : Option Nat} {e : mm_E} (hz : e.2.1 = K.2.2.2.2) {d : Nat} (hd : 4 ≤ d) {a0 : Nat} {a1 : Nat} {i2 : Int32} {t0 : Nat} {t1 : Int32} {t2 : Int32} (h0 : e.1 a0 = some (7, 8)) {k17 : Int32 → mm_V → Option mm_V} (hk17 : ∀ (w2 : Int32) (m : mm_V) (r : mm_V), k17 w2 m = some r → mm_G K MX7_watch d (mm_Fv e.1 nx r) 17 [some (.ref a0), some (.ref a1), some (.int w2)] [] (e.1, m) nx 0 0) {m : mm_V} {r : mm_V} (hr : X7_watch_b55 e k17 a0 a1 i2 t0 t1 t2 m = some r) : mm_G K MX7_watch d (mm_Fv e.1 nx r) 55 [some (.ref a0), some (.ref a1), some (.int i2)] [.int t2, .int t1, .ref t0] (e.1, m) nx 0 0 := by
  obtain ⟨d, rfl⟩ : ∃ d', d = d' + 1 := ⟨d - 1, by omega⟩
  unfold X7_watch_b55 at hr
  refine mb_si (pc := 55) dX7_watch_55 hr (fun m1 hr => ?_)
  refine ml_iinc (pc := 56) dX7_watch_56 (mm_get_s (mm_get_s mm_get_0)) (congrArg (fun z => i2 + z) kc_1) (Nat.le_of_ble_eq_true rfl) (mm_st1_s mm_st1_r) ?_
  refine mg_goto (pc := 59) 17 dX7_watch_59 rfl ?_
  exact mg_weak (mm_le_s (mm_le_s (mm_le_s mm_le_0))) (hk17 _ _ _ hr)
def X7_watch_L17 (e : mm_E) (a0 : Nat) (a1 : Nat) : Nat → Int32 → mm_V → Option mm_V
  | 0, _, _ => none
  | n + 1, i2, m => if (6 : Int32) ≤ i2 then (X7_watch_L62 e a0 a1 e.2.2  m) else ((mm_gr e.1 m 7 8 a0 0).bind fun c1 => (mm_si e.1 m c1 i2 (0 : Int32)).bind fun m2 => (mm_gr e.1 m2 7 8 a0 1).bind fun c3 => (mm_si e.1 m2 c3 i2 (0 : Int32)).bind fun m4 => (mm_gr e.1 m4 7 8 a0 2).bind fun c5 => if e.1 a1 = some (4, 12) then ((X4_isEmpty e a1 i2 m4).bind fun r6 => if r6.1 = 0 then (X7_watch_b55 e (X7_watch_L17 e a0 a1 n) a0 a1 i2 c5 i2 (-1 : Int32) r6.2) else (X7_watch_b55 e (X7_watch_L17 e a0 a1 n) a0 a1 i2 c5 i2 (0 : Int32) r6.2)) else none)
theorem X7_watch_L17_ok {K : mm_K} {nx : Option Nat} {e : mm_E} (hz : e.2.1 = K.2.2.2.2) {d : Nat} (hd : 4 ≤ d) {a0 : Nat} {a1 : Nat} (h0 : e.1 a0 = some (7, 8)) : ∀ (n : Nat) (i2 : Int32) (m : mm_V) (r : mm_V), X7_watch_L17 e a0 a1 n i2 m = some r → mm_G K MX7_watch d (mm_Fv e.1 nx r) 17 [some (.ref a0), some (.ref a1), some (.int i2)] [] (e.1, m) nx 0 0 := by
  obtain ⟨d, rfl⟩ : ∃ d', d = d' + 1 := ⟨d - 1, by omega⟩
  intro n
  induction n with
  | zero => intro i2 m r hr; unfold X7_watch_L17 at hr; cases hr
  | succ n ih =>
    intro i2 m r hr
    unfold X7_watch_L17 at hr
    refine ml_iload_n (pc := 17) dX7_watch_17 rfl (mm_get_s (mm_get_s mm_get_0)) ?_
    refine mg_bipush (pc := 18) dX7_watch_18 kb_6 ?_
    refine mb_icmp_ge (pc := 20) 62 dX7_watch_20 rfl hr (fun hr => ?_) (fun hr => ?_)
    · exact mg_weak (mm_le_s (mm_le_s (mm_le_n mm_le_0))) (X7_watch_L62_ok hz hd h0 _  _ _ hr)
    · refine ml_aload_n (pc := 23) dX7_watch_23 rfl mm_get_0 ?_
      refine mb_gr (pc := 24) dX7_watch_24 fl_X7_9 hr (fun c1 hr => ?_)
      refine ml_iload_n (pc := 27) dX7_watch_27 rfl (mm_get_s (mm_get_s mm_get_0)) ?_
      refine mg_iconst (pc := 28) dX7_watch_28 kc_0 ?_
      refine mb_si (pc := 29) dX7_watch_29 hr (fun m2 hr => ?_)
      refine ml_aload_n (pc := 30) dX7_watch_30 rfl mm_get_0 ?_
      refine mb_gr (pc := 31) dX7_watch_31 fl_X7_15 hr (fun c3 hr => ?_)
      refine ml_iload_n (pc := 34) dX7_watch_34 rfl (mm_get_s (mm_get_s mm_get_0)) ?_
      refine mg_iconst (pc := 35) dX7_watch_35 kc_0 ?_
      refine mb_si (pc := 36) dX7_watch_36 hr (fun m4 hr => ?_)
      refine ml_aload_n (pc := 37) dX7_watch_37 rfl mm_get_0 ?_
      refine mb_gr (pc := 38) dX7_watch_38 fl_X7_18 hr (fun c5 hr => ?_)
      refine ml_iload_n (pc := 41) dX7_watch_41 rfl (mm_get_s (mm_get_s mm_get_0)) ?_
      refine ml_aload_n (pc := 42) dX7_watch_42 rfl (mm_get_s mm_get_0) ?_
      refine ml_iload_n (pc := 43) dX7_watch_43 rfl (mm_get_s (mm_get_s mm_get_0)) ?_
      refine mb_ck hr (fun hb7 hr => ?_)
      refine mb_cVi (pc := 44) (As := [.int i2]) (rest := [.int i2, .ref c5]) dX7_watch_44 cw_X7_38 hb7 hr (fun v hv => X4_isEmpty_ok hz (by omega) hb7 hv) rfl (Nat.le_of_ble_eq_true rfl) (Nat.zero_le _) (Nat.zero_le _) (fun r6 hr => ?_)
      refine mb_if_eq (pc := 47) 54 dX7_watch_47 rfl hr (fun hr => ?_) (fun hr => ?_)
      · refine mg_iconst (pc := 54) dX7_watch_54 kc_m1 ?_
        exact mg_weak (mm_le_s (mm_le_s (mm_le_s mm_le_0))) (X7_watch_b55_ok hz hd h0 ih hr)
      · refine mg_iconst (pc := 50) dX7_watch_50 kc_0 ?_
        refine mg_goto (pc := 51) 55 dX7_watch_51 rfl ?_
        exact mg_weak (mm_le_s (mm_le_s (mm_le_s mm_le_0))) (X7_watch_b55_ok hz hd h0 ih hr)
def X7_watch (e : mm_E) (a0 : Nat) (a1 : Nat) (m : mm_V) : Option mm_V := (mm_pf e.1 m 7 8 a0 5 (.int (0 : Int32))).bind fun m1 => (mm_pf e.1 m1 7 8 a0 6 (.int (-1 : Int32))).bind fun m2 => (mm_pf e.1 m2 7 8 a0 7 (.int (0 : Int32))).bind fun m3 => X7_watch_L17 e a0 a1 e.2.2 (0 : Int32) m3
theorem X7_watch_ok {K : mm_K} {nx : Option Nat} {e : mm_E} (hz : e.2.1 = K.2.2.2.2) {d : Nat} (hd : 4 ≤ d) {a0 : Nat} {a1 : Nat} (h0 : e.1 a0 = some (7, 8)) {m : mm_V} {r : mm_V} (hr : X7_watch e a0 a1 m = some r) : mm_Cn K MX7_watch d (mm_Fv e.1 nx r) [.ref a0, .ref a1] (e.1, m) nx := by
  obtain ⟨d, rfl⟩ : ∃ d', d = d' + 1 := ⟨d - 1, by omega⟩
  refine mm_entry (by decide) (Nat.le_of_ble_eq_true rfl) rfl (fun hok => ?_)
  unfold X7_watch at hr
  refine mg_weak (L' := [some (.ref a0), some (.ref a1), none]) (mm_le_s (mm_le_s (mm_le_e mm_le_0))) ?_
  refine ml_aload_n (pc := 0) dX7_watch_0 rfl mm_get_0 ?_
  refine mg_iconst (pc := 1) dX7_watch_1 kc_0 ?_
  refine mb_pi (pc := 2) dX7_watch_2 fp_X7_28 hr (fun m1 hr => ?_)
  refine ml_aload_n (pc := 5) dX7_watch_5 rfl mm_get_0 ?_
  refine mg_iconst (pc := 6) dX7_watch_6 kc_m1 ?_
  refine mb_pi (pc := 7) dX7_watch_7 fp_X7_32 hr (fun m2 hr => ?_)
  refine ml_aload_n (pc := 10) dX7_watch_10 rfl mm_get_0 ?_
  refine mg_iconst (pc := 11) dX7_watch_11 kc_0 ?_
  refine mb_pi (pc := 12) dX7_watch_12 fp_X7_35 hr (fun m3 hr => ?_)
  refine mg_iconst (pc := 15) dX7_watch_15 kc_0 ?_
  refine ml_istore_n (pc := 16) dX7_watch_16 rfl (Nat.le_of_ble_eq_true rfl) (mm_st1_s mm_st1_r) ?_
  exact mg_weak (mm_le_s (mm_le_s (mm_le_s mm_le_0))) (X7_watch_L17_ok hz hd h0 _ _ _ _ hr)
