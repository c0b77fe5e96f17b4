theorem kb_17 : (Int8.ofInt (17)).toInt32 = (17 : Int32) := by decide
theorem tw_1675 : Cond.methodLink "SootQueenModel" 204 ⟨"SootQueenModel", "letters", "(I)J"⟩ ∈ lw_tbl := List.mem_append_right _ (List.mem_of_getElem? (i := 1675) (by decide +kernel))
theorem tw_1677 : Cond.code ⟨"SootQueenModel", "letters", "(I)J"⟩ prog_14_method_13_code 1 (some .long) ∈ lw_tbl := List.mem_append_right _ (List.mem_of_getElem? (i := 1677) (by decide +kernel))
theorem tw_1676 : Cond.static ⟨"SootQueenModel", "letters", "(I)J"⟩ ∈ lw_tbl := List.mem_append_right _ (List.mem_of_getElem? (i := 1676) (by decide +kernel))
theorem cw_X12_204 : mm_CS RX12 204 MX12_letters 1 := ⟨⟨Or.inl tw_1675, tw_1677, tw_14, ⟨by decide, by decide⟩, by decide +kernel, by decide⟩, tw_1676⟩
theorem tw_1412 : Cond.fieldLink "SootQueenModel" 208 "SootQueenModel" "faultKind" "I" ∈ lw_tbl := List.mem_append_right _ (List.mem_of_getElem? (i := 1412) (by decide +kernel))
theorem fl_X12_208 : mm_FL RX12 208 12 10 75 := ⟨(RX12, TX12, 75), rfl, rfl, by decide, by decide, Or.inl tw_1412⟩
theorem fp_X12_208 : mm_FP RX12 208 12 10 75 .int := ⟨fl_X12_208, (RX12, TX12, 75), rfl, rfl, by decide +kernel⟩
theorem tw_1413 : Cond.fieldLink "SootQueenModel" 29 "SootQueenModel" "faultPlace" "I" ∈ lw_tbl := List.mem_append_right _ (List.mem_of_getElem? (i := 1413) (by decide +kernel))
theorem fl_X12_29 : mm_FL RX12 29 12 11 75 := ⟨(RX12, TX12, 75), rfl, rfl, by decide, by decide, Or.inl tw_1413⟩
theorem fp_X12_29 : mm_FP RX12 29 12 11 75 .int := ⟨fl_X12_29, (RX12, TX12, 75), rfl, rfl, by decide +kernel⟩
theorem tw_1663 : Cond.methodLink "SootQueenModel" 211 ⟨"SootQueenModel", "isGood", "()Z"⟩ ∈ lw_tbl := List.mem_append_right _ (List.mem_of_getElem? (i := 1663) (by decide +kernel))
theorem tw_1666 : Cond.code ⟨"SootQueenModel", "isGood", "()Z"⟩ prog_14_method_16_code 1 (some .boolean) ∈ lw_tbl := List.mem_append_right _ (List.mem_of_getElem? (i := 1666) (by decide +kernel))
theorem tw_1665 : Cond.instanceMethod ⟨"SootQueenModel", "isGood", "()Z"⟩ ∈ lw_tbl := List.mem_append_right _ (List.mem_of_getElem? (i := 1665) (by decide +kernel))
theorem sw_64 : Cond.selects "SootQueenModel" ⟨"SootQueenModel", "isGood", "()Z"⟩ ⟨"SootQueenModel", "isGood", "()Z"⟩ ∈ lw_tbl := List.mem_append_left _ (List.mem_of_getElem? (i := 64) (by decide +kernel))
theorem cw_X12_211 : mm_CV RX12 211 MX12_isGood 12 0 := ⟨⟨Or.inl tw_1663, tw_1666, tw_14, ⟨by decide, by decide⟩, by decide +kernel, by decide⟩, tw_1665, by decide, (RX12, TX12, 75), rfl, sw_64⟩
theorem tw_1686 : Cond.methodLink "SootQueenModel" 218 ⟨"SootQueenModel", "wrong", "(I)V"⟩ ∈ lw_tbl := List.mem_append_right _ (List.mem_of_getElem? (i := 1686) (by decide +kernel))
theorem tw_1689 : Cond.code ⟨"SootQueenModel", "wrong", "(I)V"⟩ prog_14_method_15_code 2 none ∈ lw_tbl := List.mem_append_right _ (List.mem_of_getElem? (i := 1689) (by decide +kernel))
theorem tw_1688 : Cond.instanceMethod ⟨"SootQueenModel", "wrong", "(I)V"⟩ ∈ lw_tbl := List.mem_append_right _ (List.mem_of_getElem? (i := 1688) (by decide +kernel))
theorem sw_68 : Cond.selects "SootQueenModel" ⟨"SootQueenModel", "wrong", "(I)V"⟩ ⟨"SootQueenModel", "wrong", "(I)V"⟩ ∈ lw_tbl := List.mem_append_left _ (List.mem_of_getElem? (i := 68) (by decide +kernel))
theorem cw_X12_218 : mm_CV RX12 218 MX12_wrong 12 1 := ⟨⟨Or.inl tw_1686, tw_1689, tw_14, ⟨by decide, by decide⟩, by decide +kernel, by decide⟩, tw_1688, by decide, (RX12, TX12, 75), rfl, sw_68⟩
theorem tw_1649 : Cond.methodLink "SootQueenModel" 215 ⟨"SootQueenModel", "goes", "()V"⟩ ∈ lw_tbl := List.mem_append_right _ (List.mem_of_getElem? (i := 1649) (by decide +kernel))
theorem tw_1652 : Cond.code ⟨"SootQueenModel", "goes", "()V"⟩ prog_14_method_11_code 2 none ∈ lw_tbl := List.mem_append_right _ (List.mem_of_getElem? (i := 1652) (by decide +kernel))
theorem tw_1651 : Cond.instanceMethod ⟨"SootQueenModel", "goes", "()V"⟩ ∈ lw_tbl := List.mem_append_right _ (List.mem_of_getElem? (i := 1651) (by decide +kernel))
theorem sw_62 : Cond.selects "SootQueenModel" ⟨"SootQueenModel", "goes", "()V"⟩ ⟨"SootQueenModel", "goes", "()V"⟩ ∈ lw_tbl := List.mem_append_left _ (List.mem_of_getElem? (i := 62) (by decide +kernel))
theorem cw_X12_215 : mm_CV RX12 215 MX12_goes 12 0 := ⟨⟨Or.inl tw_1649, tw_1652, tw_14, ⟨by decide, by decide⟩, by decide +kernel, by decide⟩, tw_1651, by decide, (RX12, TX12, 75), rfl, sw_62⟩
theorem tw_1436 : Cond.fieldLink "SootQueenModel" 44 "SootQueenModel" "readCode" "[I" ∈ lw_tbl := List.mem_append_right _ (List.mem_of_getElem? (i := 1436) (by decide +kernel))
theorem fl_X12_44 : mm_FL RX12 44 12 34 75 := ⟨(RX12, TX12, 75), rfl, rfl, by decide, by decide, Or.inl tw_1436⟩
theorem tw_1427 : Cond.fieldLink "SootQueenModel" 139 "SootQueenModel" "top" "I" ∈ lw_tbl := List.mem_append_right _ (List.mem_of_getElem? (i := 1427) (by decide +kernel))
theorem fl_X12_139 : mm_FL RX12 139 12 25 75 := ⟨(RX12, TX12, 75), rfl, rfl, by decide, by decide, Or.inl tw_1427⟩
theorem fp_X12_139 : mm_FP RX12 139 12 25 75 .int := ⟨fl_X12_139, (RX12, TX12, 75), rfl, rfl, by decide +kernel⟩
theorem kb_14 : (Int8.ofInt (14)).toInt32 = (14 : Int32) := by decide
theorem kb_7 : (Int8.ofInt (7)).toInt32 = (7 : Int32) := by decide
theorem kb_8 : (Int8.ofInt (8)).toInt32 = (8 : Int32) := by decide
theorem tw_1428 : Cond.fieldLink "SootQueenModel" 221 "SootQueenModel" "waiting" "I" ∈ lw_tbl := List.mem_append_right _ (List.mem_of_getElem? (i := 1428) (by decide +kernel))
theorem fl_X12_221 : mm_FL RX12 221 12 26 75 := ⟨(RX12, TX12, 75), rfl, rfl, by decide, by decide, Or.inl tw_1428⟩
theorem tw_1437 : Cond.fieldLink "SootQueenModel" 47 "SootQueenModel" "waits" "[I" ∈ lw_tbl := List.mem_append_right _ (List.mem_of_getElem? (i := 1437) (by decide +kernel))
theorem fl_X12_47 : mm_FL RX12 47 12 35 75 := ⟨(RX12, TX12, 75), rfl, rfl, by decide, by decide, Or.inl tw_1437⟩
theorem tw_1734 : Cond.methodLink "SootQueenModel" 224 ⟨"SootQueenModel", "isOpen", "(I)Z"⟩ ∈ lw_tbl := List.mem_append_right _ (List.mem_of_getElem? (i := 1734) (by decide +kernel))
theorem tw_1736 : Cond.code ⟨"SootQueenModel", "isOpen", "(I)Z"⟩ prog_14_method_21_code 1 (some .boolean) ∈ lw_tbl := List.mem_append_right _ (List.mem_of_getElem? (i := 1736) (by decide +kernel))
theorem tw_1735 : Cond.static ⟨"SootQueenModel", "isOpen", "(I)Z"⟩ ∈ lw_tbl := List.mem_append_right _ (List.mem_of_getElem? (i := 1735) (by decide +kernel))
theorem cw_X12_224 : mm_CS RX12 224 MX12_isOpen 1 := ⟨⟨Or.inl tw_1734, tw_1736, tw_14, ⟨by decide, by decide⟩, by decide +kernel, by decide⟩, tw_1735⟩
theorem tw_1737 : Cond.methodLink "SootQueenModel" 227 ⟨"SootQueenModel", "strength", "(I)I"⟩ ∈ lw_tbl := List.mem_append_right _ (List.mem_of_getElem? (i := 1737) (by decide +kernel))
theorem tw_1739 : Cond.code ⟨"SootQueenModel", "strength", "(I)I"⟩ prog_14_method_22_code 1 (some .int) ∈ lw_tbl := List.mem_append_right _ (List.mem_of_getElem? (i := 1739) (by decide +kernel))
theorem tw_1738 : Cond.static ⟨"SootQueenModel", "strength", "(I)I"⟩ ∈ lw_tbl := List.mem_append_right _ (List.mem_of_getElem? (i := 1738) (by decide +kernel))
theorem cw_X12_227 : mm_CS RX12 227 MX12_strength 1 := ⟨⟨Or.inl tw_1737, tw_1739, tw_14, ⟨by decide, by decide⟩, by decide +kernel, by decide⟩, tw_1738⟩
theorem fp_X12_221 : mm_FP RX12 221 12 26 75 .int := ⟨fl_X12_221, (RX12, TX12, 75), rfl, rfl, by decide +kernel⟩
theorem tw_1726 : Cond.methodLink "SootQueenModel" 230 ⟨"SootQueenModel", "puts", "(I)V"⟩ ∈ lw_tbl := List.mem_append_right _ (List.mem_of_getElem? (i := 1726) (by decide +kernel))
theorem tw_1729 : Cond.code ⟨"SootQueenModel", "puts", "(I)V"⟩ prog_14_method_20_code 2 none ∈ lw_tbl := List.mem_append_right _ (List.mem_of_getElem? (i := 1729) (by decide +kernel))
theorem tw_1728 : Cond.instanceMethod ⟨"SootQueenModel", "puts", "(I)V"⟩ ∈ lw_tbl := List.mem_append_right _ (List.mem_of_getElem? (i := 1728) (by decide +kernel))
theorem sw_78 : Cond.selects "SootQueenModel" ⟨"SootQueenModel", "puts", "(I)V"⟩ ⟨"SootQueenModel", "puts", "(I)V"⟩ ∈ lw_tbl := List.mem_append_left _ (List.mem_of_getElem? (i := 78) (by decide +kernel))
theorem cw_X12_230 : mm_CV RX12 230 MX12_puts 12 1 := ⟨⟨Or.inl tw_1726, tw_1729, tw_14, ⟨by decide, by decide⟩, by decide +kernel, by decide⟩, tw_1728, by decide, (RX12, TX12, 75), rfl, sw_78⟩
theorem tw_1671 : Cond.methodLink "SootQueenModel" 233 ⟨"SootQueenModel", "knownWord", "()I"⟩ ∈ lw_tbl := List.mem_append_right _ (List.mem_of_getElem? (i := 1671) (by decide +kernel))
theorem tw_1674 : Cond.code ⟨"SootQueenModel", "knownWord", "()I"⟩ prog_14_method_14_code 2 (some .int) ∈ lw_tbl := List.mem_append_right _ (List.mem_of_getElem? (i := 1674) (by decide +kernel))
theorem tw_1673 : Cond.instanceMethod ⟨"SootQueenModel", "knownWord", "()I"⟩ ∈ lw_tbl := List.mem_append_right _ (List.mem_of_getElem? (i := 1673) (by decide +kernel))
theorem sw_66 : Cond.selects "SootQueenModel" ⟨"SootQueenModel", "knownWord", "()I"⟩ ⟨"SootQueenModel", "knownWord", "()I"⟩ ∈ lw_tbl := List.mem_append_left _ (List.mem_of_getElem? (i := 66) (by decide +kernel))
theorem cw_X12_233 : mm_CV RX12 233 MX12_knownWord 12 0 := ⟨⟨Or.inl tw_1671, tw_1674, tw_14, ⟨by decide, by decide⟩, by decide +kernel, by decide⟩, tw_1673, by decide, (RX12, TX12, 75), rfl, sw_66⟩
theorem tw_1429 : Cond.fieldLink "SootQueenModel" 237 "SootQueenModel" "depth" "I" ∈ lw_tbl := List.mem_append_right _ (List.mem_of_getElem? (i := 1429) (by decide +kernel))
theorem fl_X12_237 : mm_FL RX12 237 12 27 75 := ⟨(RX12, TX12, 75), rfl, rfl, by decide, by decide, Or.inl tw_1429⟩
theorem tw_1710 : Cond.methodLink "SootQueenModel" 240 ⟨"SootQueenModel", "isSign", "(I)Z"⟩ ∈ lw_tbl := List.mem_append_right _ (List.mem_of_getElem? (i := 1710) (by decide +kernel))
theorem tw_1713 : Cond.code ⟨"SootQueenModel", "isSign", "(I)Z"⟩ prog_14_method_17_code 2 (some .boolean) ∈ lw_tbl := List.mem_append_right _ (List.mem_of_getElem? (i := 1713) (by decide +kernel))
theorem tw_1712 : Cond.instanceMethod ⟨"SootQueenModel", "isSign", "(I)Z"⟩ ∈ lw_tbl := List.mem_append_right _ (List.mem_of_getElem? (i := 1712) (by decide +kernel))
theorem sw_74 : Cond.selects "SootQueenModel" ⟨"SootQueenModel", "isSign", "(I)Z"⟩ ⟨"SootQueenModel", "isSign", "(I)Z"⟩ ∈ lw_tbl := List.mem_append_left _ (List.mem_of_getElem? (i := 74) (by decide +kernel))
theorem cw_X12_240 : mm_CV RX12 240 MX12_isSign 12 1 := ⟨⟨Or.inl tw_1710, tw_1713, tw_14, ⟨by decide, by decide⟩, by decide +kernel, by decide⟩, tw_1712, by decide, (RX12, TX12, 75), rfl, sw_74⟩
theorem fp_X12_237 : mm_FP RX12 237 12 27 75 .int := ⟨fl_X12_237, (RX12, TX12, 75), rfl, rfl, by decide +kernel⟩
theorem tw_1439 : Cond.fieldLink "SootQueenModel" 53 "SootQueenModel" "tested" "[Z" ∈ lw_tbl := List.mem_append_right _ (List.mem_of_getElem? (i := 1439) (by decide +kernel))
theorem fl_X12_53 : mm_FL RX12 53 12 37 75 := ⟨(RX12, TX12, 75), rfl, rfl, by decide, by decide, Or.inl tw_1439⟩
theorem tw_1722 : Cond.methodLink "SootQueenModel" 249 ⟨"SootQueenModel", "part", "()V"⟩ ∈ lw_tbl := List.mem_append_right _ (List.mem_of_getElem? (i := 1722) (by decide +kernel))
theorem tw_1725 : Cond.code ⟨"SootQueenModel", "part", "()V"⟩ prog_14_method_25_code 2 none ∈ lw_tbl := List.mem_append_right _ (List.mem_of_getElem? (i := 1725) (by decide +kernel))
theorem tw_1724 : Cond.instanceMethod ⟨"SootQueenModel", "part", "()V"⟩ ∈ lw_tbl := List.mem_append_right _ (List.mem_of_getElem? (i := 1724) (by decide +kernel))
theorem sw_77 : Cond.selects "SootQueenModel" ⟨"SootQueenModel", "part", "()V"⟩ ⟨"SootQueenModel", "part", "()V"⟩ ∈ lw_tbl := List.mem_append_left _ (List.mem_of_getElem? (i := 77) (by decide +kernel))
theorem cw_X12_249 : mm_CV RX12 249 MX12_part 12 0 := ⟨⟨Or.inl tw_1722, tw_1725, tw_14, ⟨by decide, by decide⟩, by decide +kernel, by decide⟩, tw_1724, by decide, (RX12, TX12, 75), rfl, sw_77⟩
theorem tw_1718 : Cond.methodLink "SootQueenModel" 243 ⟨"SootQueenModel", "waitsFor", "(I)V"⟩ ∈ lw_tbl := List.mem_append_right _ (List.mem_of_getElem? (i := 1718) (by decide +kernel))
theorem tw_1721 : Cond.code ⟨"SootQueenModel", "waitsFor", "(I)V"⟩ prog_14_method_24_code 2 none ∈ lw_tbl := List.mem_append_right _ (List.mem_of_getElem? (i := 1721) (by decide +kernel))
theorem tw_1720 : Cond.instanceMethod ⟨"SootQueenModel", "waitsFor", "(I)V"⟩ ∈ lw_tbl := List.mem_append_right _ (List.mem_of_getElem? (i := 1720) (by decide +kernel))
theorem sw_76 : Cond.selects "SootQueenModel" ⟨"SootQueenModel", "waitsFor", "(I)V"⟩ ⟨"SootQueenModel", "waitsFor", "(I)V"⟩ ∈ lw_tbl := List.mem_append_left _ (List.mem_of_getElem? (i := 76) (by decide +kernel))
theorem cw_X12_243 : mm_CV RX12 243 MX12_waitsFor 12 1 := ⟨⟨Or.inl tw_1718, tw_1721, tw_14, ⟨by decide, by decide⟩, by decide +kernel, by decide⟩, tw_1720, by decide, (RX12, TX12, 75), rfl, sw_76⟩
theorem tw_1706 : Cond.methodLink "SootQueenModel" 246 ⟨"SootQueenModel", "deeper", "()V"⟩ ∈ lw_tbl := List.mem_append_right _ (List.mem_of_getElem? (i := 1706) (by decide +kernel))
theorem tw_1709 : Cond.code ⟨"SootQueenModel", "deeper", "()V"⟩ prog_14_method_26_code 1 none ∈ lw_tbl := List.mem_append_right _ (List.mem_of_getElem? (i := 1709) (by decide +kernel))
theorem tw_1708 : Cond.instanceMethod ⟨"SootQueenModel", "deeper", "()V"⟩ ∈ lw_tbl := List.mem_append_right _ (List.mem_of_getElem? (i := 1708) (by decide +kernel))
theorem sw_73 : Cond.selects "SootQueenModel" ⟨"SootQueenModel", "deeper", "()V"⟩ ⟨"SootQueenModel", "deeper", "()V"⟩ ∈ lw_tbl := List.mem_append_left _ (List.mem_of_getElem? (i := 73) (by decide +kernel))
theorem cw_X12_246 : mm_CV RX12 246 MX12_deeper 12 0 := ⟨⟨Or.inl tw_1706, tw_1709, tw_14, ⟨by decide, by decide⟩, by decide +kernel, by decide⟩, tw_1708, by decide, (RX12, TX12, 75), rfl, sw_73⟩
theorem tw_1730 : Cond.methodLink "SootQueenModel" 252 ⟨"SootQueenModel", "drops", "(I)V"⟩ ∈ lw_tbl := List.mem_append_right _ (List.mem_of_getElem? (i := 1730) (by decide +kernel))
theorem tw_1733 : Cond.code ⟨"SootQueenModel", "drops", "(I)V"⟩ prog_14_method_23_code 2 none ∈ lw_tbl := List.mem_append_right _ (List.mem_of_getElem? (i := 1733) (by decide +kernel))
theorem tw_1732 : Cond.instanceMethod ⟨"SootQueenModel", "drops", "(I)V"⟩ ∈ lw_tbl := List.mem_append_right _ (List.mem_of_getElem? (i := 1732) (by decide +kernel))
theorem sw_79 : Cond.selects "SootQueenModel" ⟨"SootQueenModel", "drops", "(I)V"⟩ ⟨"SootQueenModel", "drops", "(I)V"⟩ ∈ lw_tbl := List.mem_append_left _ (List.mem_of_getElem? (i := 79) (by decide +kernel))
theorem cw_X12_252 : mm_CV RX12 252 MX12_drops 12 1 := ⟨⟨Or.inl tw_1730, tw_1733, tw_14, ⟨by decide, by decide⟩, by decide +kernel, by decide⟩, tw_1732, by decide, (RX12, TX12, 75), rfl, sw_79⟩
theorem tw_1714 : Cond.methodLink "SootQueenModel" 255 ⟨"SootQueenModel", "operand", "(Z)V"⟩ ∈ lw_tbl := List.mem_append_right _ (List.mem_of_getElem? (i := 1714) (by decide +kernel))
theorem tw_1717 : Cond.code ⟨"SootQueenModel", "operand", "(Z)V"⟩ prog_14_method_27_code 5 none ∈ lw_tbl := List.mem_append_right _ (List.mem_of_getElem? (i := 1717) (by decide +kernel))
theorem tw_1716 : Cond.instanceMethod ⟨"SootQueenModel", "operand", "(Z)V"⟩ ∈ lw_tbl := List.mem_append_right _ (List.mem_of_getElem? (i := 1716) (by decide +kernel))
theorem sw_75 : Cond.selects "SootQueenModel" ⟨"SootQueenModel", "operand", "(Z)V"⟩ ⟨"SootQueenModel", "operand", "(Z)V"⟩ ∈ lw_tbl := List.mem_append_left _ (List.mem_of_getElem? (i := 75) (by decide +kernel))
theorem cw_X12_255 : mm_CV RX12 255 MX12_operand 12 1 := ⟨⟨Or.inl tw_1714, tw_1717, tw_14, ⟨by decide, by decide⟩, by decide +kernel, by decide⟩, tw_1716, by decide, (RX12, TX12, 75), rfl, sw_75⟩
theorem kb_11 : (Int8.ofInt (11)).toInt32 = (11 : Int32) := by decide
theorem tw_1740 : Cond.methodLink "SootQueenModel" 259 ⟨"SootQueenModel", "isOpened", "()Z"⟩ ∈ lw_tbl := List.mem_append_right _ (List.mem_of_getElem? (i := 1740) (by decide +kernel))
theorem tw_1743 : Cond.code ⟨"SootQueenModel", "isOpened", "()Z"⟩ prog_14_method_28_code 2 (some .boolean) ∈ lw_tbl := List.mem_append_right _ (List.mem_of_getElem? (i := 1743) (by decide +kernel))
theorem tw_1742 : Cond.instanceMethod ⟨"SootQueenModel", "isOpened", "()Z"⟩ ∈ lw_tbl := List.mem_append_right _ (List.mem_of_getElem? (i := 1742) (by decide +kernel))
theorem sw_80 : Cond.selects "SootQueenModel" ⟨"SootQueenModel", "isOpened", "()Z"⟩ ⟨"SootQueenModel", "isOpened", "()Z"⟩ ∈ lw_tbl := List.mem_append_left _ (List.mem_of_getElem? (i := 80) (by decide +kernel))
theorem cw_X12_259 : mm_CV RX12 259 MX12_isOpened 12 0 := ⟨⟨Or.inl tw_1740, tw_1743, tw_14, ⟨by decide, by decide⟩, by decide +kernel, by decide⟩, tw_1742, by decide, (RX12, TX12, 75), rfl, sw_80⟩
theorem tw_1744 : Cond.methodLink "SootQueenModel" 262 ⟨"SootQueenModel", "closes", "()V"⟩ ∈ lw_tbl := List.mem_append_right _ (List.mem_of_getElem? (i := 1744) (by decide +kernel))
theorem tw_1747 : Cond.code ⟨"SootQueenModel", "closes", "()V"⟩ prog_14_method_29_code 1 none ∈ lw_tbl := List.mem_append_right _ (List.mem_of_getElem? (i := 1747) (by decide +kernel))
theorem tw_1746 : Cond.instanceMethod ⟨"SootQueenModel", "closes", "()V"⟩ ∈ lw_tbl := List.mem_append_right _ (List.mem_of_getElem? (i := 1746) (by decide +kernel))
theorem sw_81 : Cond.selects "SootQueenModel" ⟨"SootQueenModel", "closes", "()V"⟩ ⟨"SootQueenModel", "closes", "()V"⟩ ∈ lw_tbl := List.mem_append_left _ (List.mem_of_getElem? (i := 81) (by decide +kernel))
theorem cw_X12_262 : mm_CV RX12 262 MX12_closes 12 0 := ⟨⟨Or.inl tw_1744, tw_1747, tw_14, ⟨by decide, by decide⟩, by decide +kernel, by decide⟩, tw_1746, by decide, (RX12, TX12, 75), rfl, sw_81⟩
theorem kb_15 : (Int8.ofInt (15)).toInt32 = (15 : Int32) := by decide
theorem tw_1432 : Cond.fieldLink "SootQueenModel" 268 "SootQueenModel" "toldBy" "I" ∈ lw_tbl := List.mem_append_right _ (List.mem_of_getElem? (i := 1432) (by decide +kernel))
theorem fl_X12_268 : mm_FL RX12 268 12 30 75 := ⟨(RX12, TX12, 75), rfl, rfl, by decide, by decide, Or.inl tw_1432⟩
theorem fp_X12_268 : mm_FP RX12 268 12 30 75 .int := ⟨fl_X12_268, (RX12, TX12, 75), rfl, rfl, by decide +kernel⟩
theorem tw_1430 : Cond.fieldLink "SootQueenModel" 271 "SootQueenModel" "toldOf" "Z" ∈ lw_tbl := List.mem_append_right _ (List.mem_of_getElem? (i := 1430) (by decide +kernel))
theorem fl_X12_271 : mm_FL RX12 271 12 28 75 := ⟨(RX12, TX12, 75), rfl, rfl, by decide, by decide, Or.inl tw_1430⟩
theorem fp_X12_271 : mm_FP RX12 271 12 28 75 .boolean := ⟨fl_X12_271, (RX12, TX12, 75), rfl, rfl, by decide +kernel⟩
theorem tw_1423 : Cond.fieldLink "SootQueenModel" 265 "SootQueenModel" "newPeople" "I" ∈ lw_tbl := List.mem_append_right _ (List.mem_of_getElem? (i := 1423) (by decide +kernel))
theorem fl_X12_265 : mm_FL RX12 265 12 21 75 := ⟨(RX12, TX12, 75), rfl, rfl, by decide, by decide, Or.inl tw_1423⟩
theorem tw_1426 : Cond.fieldLink "SootQueenModel" 275 "SootQueenModel" "toldOnce" "I" ∈ lw_tbl := List.mem_append_right _ (List.mem_of_getElem? (i := 1426) (by decide +kernel))
theorem fl_X12_275 : mm_FL RX12 275 12 24 75 := ⟨(RX12, TX12, 75), rfl, rfl, by decide, by decide, Or.inl tw_1426⟩
theorem fp_X12_275 : mm_FP RX12 275 12 24 75 .int := ⟨fl_X12_275, (RX12, TX12, 75), rfl, rfl, by decide +kernel⟩
theorem tw_1690 : Cond.methodLink "SootQueenModel" 278 ⟨"SootQueenModel", "number", "(II)I"⟩ ∈ lw_tbl := List.mem_append_right _ (List.mem_of_getElem? (i := 1690) (by decide +kernel))
theorem tw_1693 : Cond.code ⟨"SootQueenModel", "number", "(II)I"⟩ prog_14_method_19_code 4 (some .int) ∈ lw_tbl := List.mem_append_right _ (List.mem_of_getElem? (i := 1693) (by decide +kernel))
theorem tw_1692 : Cond.instanceMethod ⟨"SootQueenModel", "number", "(II)I"⟩ ∈ lw_tbl := List.mem_append_right _ (List.mem_of_getElem? (i := 1692) (by decide +kernel))
theorem sw_69 : Cond.selects "SootQueenModel" ⟨"SootQueenModel", "number", "(II)I"⟩ ⟨"SootQueenModel", "number", "(II)I"⟩ ∈ lw_tbl := List.mem_append_left _ (List.mem_of_getElem? (i := 69) (by decide +kernel))
theorem cw_X12_278 : mm_CV RX12 278 MX12_number 12 2 := ⟨⟨Or.inl tw_1690, tw_1693, tw_14, ⟨by decide, by decide⟩, by decide +kernel, by decide⟩, tw_1692, by decide, (RX12, TX12, 75), rfl, sw_69⟩
theorem tw_1425 : Cond.fieldLink "SootQueenModel" 285 "SootQueenModel" "newSeed" "I" ∈ lw_tbl := List.mem_append_right _ (List.mem_of_getElem? (i := 1425) (by decide +kernel))
theorem fl_X12_285 : mm_FL RX12 285 12 23 75 := ⟨(RX12, TX12, 75), rfl, rfl, by decide, by decide, Or.inl tw_1425⟩
theorem fp_X12_285 : mm_FP RX12 285 12 23 75 .int := ⟨fl_X12_285, (RX12, TX12, 75), rfl, rfl, by decide +kernel⟩
theorem tw_1424 : Cond.fieldLink "SootQueenModel" 282 "SootQueenModel" "newPairs" "I" ∈ lw_tbl := List.mem_append_right _ (List.mem_of_getElem? (i := 1424) (by decide +kernel))
theorem fl_X12_282 : mm_FL RX12 282 12 22 75 := ⟨(RX12, TX12, 75), rfl, rfl, by decide, by decide, Or.inl tw_1424⟩
theorem fp_X12_282 : mm_FP RX12 282 12 22 75 .int := ⟨fl_X12_282, (RX12, TX12, 75), rfl, rfl, by decide +kernel⟩
theorem fp_X12_265 : mm_FP RX12 265 12 21 75 .int := ⟨fl_X12_265, (RX12, TX12, 75), rfl, rfl, by decide +kernel⟩
theorem tw_1435 : Cond.fieldLink "SootQueenModel" 41 "SootQueenModel" "newFan" "[I" ∈ lw_tbl := List.mem_append_right _ (List.mem_of_getElem? (i := 1435) (by decide +kernel))
theorem fl_X12_41 : mm_FL RX12 41 12 33 75 := ⟨(RX12, TX12, 75), rfl, rfl, by decide, by decide, Or.inl tw_1435⟩
theorem tw_1438 : Cond.fieldLink "SootQueenModel" 50 "SootQueenModel" "copiesOf" "[I" ∈ lw_tbl := List.mem_append_right _ (List.mem_of_getElem? (i := 1438) (by decide +kernel))
theorem fl_X12_50 : mm_FL RX12 50 12 36 75 := ⟨(RX12, TX12, 75), rfl, rfl, by decide, by decide, Or.inl tw_1438⟩
theorem kb_13 : (Int8.ofInt (13)).toInt32 = (13 : Int32) := by decide
theorem tw_1698 : Cond.methodLink "SootQueenModel" 288 ⟨"SootQueenModel", "personHere", "(I)I"⟩ ∈ lw_tbl := List.mem_append_right _ (List.mem_of_getElem? (i := 1698) (by decide +kernel))
theorem tw_1701 : Cond.code ⟨"SootQueenModel", "personHere", "(I)I"⟩ prog_14_method_31_code 3 (some .int) ∈ lw_tbl := List.mem_append_right _ (List.mem_of_getElem? (i := 1701) (by decide +kernel))
theorem tw_1700 : Cond.instanceMethod ⟨"SootQueenModel", "personHere", "(I)I"⟩ ∈ lw_tbl := List.mem_append_right _ (List.mem_of_getElem? (i := 1700) (by decide +kernel))
theorem sw_71 : Cond.selects "SootQueenModel" ⟨"SootQueenModel", "personHere", "(I)I"⟩ ⟨"SootQueenModel", "personHere", "(I)I"⟩ ∈ lw_tbl := List.mem_append_left _ (List.mem_of_getElem? (i := 71) (by decide +kernel))
theorem cw_X12_288 : mm_CV RX12 288 MX12_personHere 12 1 := ⟨⟨Or.inl tw_1698, tw_1701, tw_14, ⟨by decide, by decide⟩, by decide +kernel, by decide⟩, tw_1700, by decide, (RX12, TX12, 75), rfl, sw_71⟩
theorem tw_1431 : Cond.fieldLink "SootQueenModel" 291 "SootQueenModel" "newFans" "Z" ∈ lw_tbl := List.mem_append_right _ (List.mem_of_getElem? (i := 1431) (by decide +kernel))
theorem fl_X12_291 : mm_FL RX12 291 12 29 75 := ⟨(RX12, TX12, 75), rfl, rfl, by decide, by decide, Or.inl tw_1431⟩
theorem fp_X12_291 : mm_FP RX12 291 12 29 75 .boolean := ⟨fl_X12_291, (RX12, TX12, 75), rfl, rfl, by decide +kernel⟩
theorem tw_1748 : Cond.methodLink "SootQueenModel" 303 ⟨"SootQueenModel", "need", "(Z)V"⟩ ∈ lw_tbl := List.mem_append_right _ (List.mem_of_getElem? (i := 1748) (by decide +kernel))
theorem tw_1751 : Cond.code ⟨"SootQueenModel", "need", "(Z)V"⟩ prog_14_method_18_code 2 none ∈ lw_tbl := List.mem_append_right _ (List.mem_of_getElem? (i := 1751) (by decide +kernel))
theorem tw_1750 : Cond.instanceMethod ⟨"SootQueenModel", "need", "(Z)V"⟩ ∈ lw_tbl := List.mem_append_right _ (List.mem_of_getElem? (i := 1750) (by decide +kernel))
theorem sw_82 : Cond.selects "SootQueenModel" ⟨"SootQueenModel", "need", "(Z)V"⟩ ⟨"SootQueenModel", "need", "(Z)V"⟩ ∈ lw_tbl := List.mem_append_left _ (List.mem_of_getElem? (i := 82) (by decide +kernel))
theorem cw_X12_303 : mm_CV RX12 303 MX12_need 12 1 := ⟨⟨Or.inl tw_1748, tw_1751, tw_14, ⟨by decide, by decide⟩, by decide +kernel, by decide⟩, tw_1750, by decide, (RX12, TX12, 75), rfl, sw_82⟩
theorem tw_1434 : Cond.fieldLink "SootQueenModel" 38 "SootQueenModel" "newHabits" "[I" ∈ lw_tbl := List.mem_append_right _ (List.mem_of_getElem? (i := 1434) (by decide +kernel))
theorem fl_X12_38 : mm_FL RX12 38 12 32 75 := ⟨(RX12, TX12, 75), rfl, rfl, by decide, by decide, Or.inl tw_1434⟩
theorem tw_1702 : Cond.methodLink "SootQueenModel" 300 ⟨"SootQueenModel", "expression", "()V"⟩ ∈ lw_tbl := List.mem_append_right _ (List.mem_of_getElem? (i := 1702) (by decide +kernel))
theorem tw_1705 : Cond.code ⟨"SootQueenModel", "expression", "()V"⟩ prog_14_method_30_code 3 none ∈ lw_tbl := List.mem_append_right _ (List.mem_of_getElem? (i := 1705) (by decide +kernel))
theorem tw_1704 : Cond.instanceMethod ⟨"SootQueenModel", "expression", "()V"⟩ ∈ lw_tbl := List.mem_append_right _ (List.mem_of_getElem? (i := 1704) (by decide +kernel))
theorem sw_72 : Cond.selects "SootQueenModel" ⟨"SootQueenModel", "expression", "()V"⟩ ⟨"SootQueenModel", "expression", "()V"⟩ ∈ lw_tbl := List.mem_append_left _ (List.mem_of_getElem? (i := 72) (by decide +kernel))
theorem cw_X12_300 : mm_CV RX12 300 MX12_expression 12 0 := ⟨⟨Or.inl tw_1702, tw_1705, tw_14, ⟨by decide, by decide⟩, by decide +kernel, by decide⟩, tw_1704, by decide, (RX12, TX12, 75), rfl, sw_72⟩
theorem tw_1433 : Cond.fieldLink "SootQueenModel" 35 "SootQueenModel" "newRuleAt" "[I" ∈ lw_tbl := List.mem_append_right _ (List.mem_of_getElem? (i := 1433) (by decide +kernel))
theorem fl_X12_35 : mm_FL RX12 35 12 31 75 := ⟨(RX12, TX12, 75), rfl, rfl, by decide, by decide, Or.inl tw_1433⟩
theorem tw_1682 : Cond.methodLink "SootQueenModel" 294 ⟨"SootQueenModel", "once", "(I)V"⟩ ∈ lw_tbl := List.mem_append_right _ (List.mem_of_getElem? (i := 1682) (by decide +kernel))
theorem tw_1685 : Cond.code ⟨"SootQueenModel", "once", "(I)V"⟩ prog_14_method_32_code 2 none ∈ lw_tbl := List.mem_append_right _ (List.mem_of_getElem? (i := 1685) (by decide +kernel))
theorem tw_1684 : Cond.instanceMethod ⟨"SootQueenModel", "once", "(I)V"⟩ ∈ lw_tbl := List.mem_append_right _ (List.mem_of_getElem? (i := 1684) (by decide +kernel))
theorem sw_67 : Cond.selects "SootQueenModel" ⟨"SootQueenModel", "once", "(I)V"⟩ ⟨"SootQueenModel", "once", "(I)V"⟩ ∈ lw_tbl := List.mem_append_left _ (List.mem_of_getElem? (i := 67) (by decide +kernel))
theorem cw_X12_294 : mm_CV RX12 294 MX12_once 12 1 := ⟨⟨Or.inl tw_1682, tw_1685, tw_14, ⟨by decide, by decide⟩, by decide +kernel, by decide⟩, tw_1684, by decide, (RX12, TX12, 75), rfl, sw_67⟩
theorem tw_1694 : Cond.methodLink "SootQueenModel" 297 ⟨"SootQueenModel", "readsFan", "()V"⟩ ∈ lw_tbl := List.mem_append_right _ (List.mem_of_getElem? (i := 1694) (by decide +kernel))
theorem tw_1697 : Cond.code ⟨"SootQueenModel", "readsFan", "()V"⟩ prog_14_method_33_code 8 none ∈ lw_tbl := List.mem_append_right _ (List.mem_of_getElem? (i := 1697) (by decide +kernel))
theorem tw_1696 : Cond.instanceMethod ⟨"SootQueenModel", "readsFan", "()V"⟩ ∈ lw_tbl := List.mem_append_right _ (List.mem_of_getElem? (i := 1696) (by decide +kernel))
theorem sw_70 : Cond.selects "SootQueenModel" ⟨"SootQueenModel", "readsFan", "()V"⟩ ⟨"SootQueenModel", "readsFan", "()V"⟩ ∈ lw_tbl := List.mem_append_left _ (List.mem_of_getElem? (i := 70) (by decide +kernel))
theorem cw_X12_297 : mm_CV RX12 297 MX12_readsFan 12 0 := ⟨⟨Or.inl tw_1694, tw_1697, tw_14, ⟨by decide, by decide⟩, by decide +kernel, by decide⟩, tw_1696, by decide, (RX12, TX12, 75), rfl, sw_70⟩
theorem dX12_knownWord_0 : decode cX12_knownWord 0 = .ok (.aload_n 0, 1) := by decide +kernel
theorem dX12_knownWord_1 : decode cX12_knownWord 1 = .ok (.getfield 185, 3) := by decide +kernel
theorem dX12_knownWord_4 : decode cX12_knownWord 4 = .ok (.iconst 1, 1) := by decide +kernel
theorem dX12_knownWord_5 : decode cX12_knownWord 5 = .ok (.if_icmp .ne 12, 3) := by decide +kernel
theorem dX12_knownWord_8 : decode cX12_knownWord 8 = .ok (.aload_n 0, 1) := by decide +kernel
theorem dX12_knownWord_9 : decode cX12_knownWord 9 = .ok (.getfield 195, 3) := by decide +kernel
theorem dX12_knownWord_12 : decode cX12_knownWord 12 = .ok (.bipush 6, 2) := by decide +kernel
theorem dX12_knownWord_14 : decode cX12_knownWord 14 = .ok (.if_icmp .le 5, 3) := by decide +kernel
theorem dX12_knownWord_17 : decode cX12_knownWord 17 = .ok (.iconst (-1), 1) := by decide +kernel
theorem dX12_knownWord_18 : decode cX12_knownWord 18 = .ok (.ireturn, 1) := by decide +kernel
theorem dX12_knownWord_19 : decode cX12_knownWord 19 = .ok (.iconst 0, 1) := by decide +kernel
theorem dX12_knownWord_20 : decode cX12_knownWord 20 = .ok (.istore_n 1, 1) := by decide +kernel
theorem dX12_knownWord_21 : decode cX12_knownWord 21 = .ok (.iload_n 1, 1) := by decide +kernel
theorem dX12_knownWord_22 : decode cX12_knownWord 22 = .ok (.bipush 17, 2) := by decide +kernel
theorem dX12_knownWord_24 : decode cX12_knownWord 24 = .ok (.if_icmp .ge 23, 3) := by decide +kernel
theorem dX12_knownWord_27 : decode cX12_knownWord 27 = .ok (.iload_n 1, 1) := by decide +kernel
theorem dX12_knownWord_28 : decode cX12_knownWord 28 = .ok (.invokestatic 204, 3) := by decide +kernel
theorem dX12_knownWord_31 : decode cX12_knownWord 31 = .ok (.aload_n 0, 1) := by decide +kernel
theorem dX12_knownWord_32 : decode cX12_knownWord 32 = .ok (.getfield 175, 3) := by decide +kernel
theorem dX12_knownWord_35 : decode cX12_knownWord 35 = .ok (.lcmp, 1) := by decide +kernel
theorem dX12_knownWord_36 : decode cX12_knownWord 36 = .ok (.ifCond .ne 5, 3) := by decide +kernel
theorem dX12_knownWord_39 : decode cX12_knownWord 39 = .ok (.iload_n 1, 1) := by decide +kernel
theorem dX12_knownWord_40 : decode cX12_knownWord 40 = .ok (.ireturn, 1) := by decide +kernel
theorem dX12_knownWord_41 : decode cX12_knownWord 41 = .ok (.iinc 1 1, 3) := by decide +kernel
theorem dX12_knownWord_44 : decode cX12_knownWord 44 = .ok (.goto (-23), 3) := by decide +kernel
theorem dX12_knownWord_47 : decode cX12_knownWord 47 = .ok (.iconst (-1), 1) := by decide +kernel
theorem dX12_knownWord_48 : decode cX12_knownWord 48 = .ok (.ireturn, 1) := by decide +kernel
def X12_knownWord_L21 (e : mm_E) (a0 : Nat) : Nat → Int32 → mm_V → Option (Int32 × mm_V)
  | 0, _, _ => none
  | n + 1, i1, m => if (17 : Int32) ≤ i1 then (some ((-1 : Int32), m)) else ((X12_letters e i1 m).bind fun r1 => (mm_gl e.1 r1.2 12 75 a0 20).bind fun y2 => if ¬ (lg_cmp r1.1 y2) = 0 then (X12_knownWord_L21 e a0 n (i1 + 1) r1.2) else (some (i1, r1.2)))
theorem X12_knownWord_L21_ok {K : mm_K} {nx : Option Nat} {e : mm_E} (hz : e.2.1 = K.2.2.2.2) {d : Nat} (hd : 2 ≤ d) {a0 : Nat} (h0 : e.1 a0 = some (12, 75)) : ∀ (n : Nat) (i1 : Int32) (m : mm_V) (r : (Int32 × mm_V)), X12_knownWord_L21 e a0 n i1 m = some r → mm_G K MX12_knownWord d (mm_Fi e.1 nx r) 21 [some (.ref a0), some (.int i1)] [] (e.1, m) nx 0 0 := by
  obtain ⟨d, rfl⟩ : ∃ d', d = d' + 1 := ⟨d - 1, by omega⟩
  intro n
  induction n with
  | zero => intro i1 m r hr; unfold X12_knownWord_L21 at hr; cases hr
  | succ n ih =>
    intro i1 m r hr
    unfold X12_knownWord_L21 at hr
    refine ml_iload_n (pc := 21) dX12_knownWord_21 rfl (mm_get_s mm_get_0) ?_
    refine mg_bipush (pc := 22) dX12_knownWord_22 kb_17 ?_
    refine mb_icmp_ge (pc := 24) 47 dX12_knownWord_24 rfl hr (fun hr => ?_) (fun hr => ?_)
    · refine mg_iconst (pc := 47) dX12_knownWord_47 kc_m1 ?_
      exact mb_iret dX12_knownWord_48 rfl hr
    · refine ml_iload_n (pc := 27) dX12_knownWord_27 rfl (mm_get_s mm_get_0) ?_
      refine mb_cSl (pc := 28) (As := [.int i1]) (rest := []) dX12_knownWord_28 cw_X12_204  hr (fun v hv => X12_letters_ok hz (by omega)  hv) rfl (Nat.le_of_ble_eq_true rfl) (Nat.zero_le _) (Nat.zero_le _) (fun r1 hr => ?_)
      refine ml_aload_n (pc := 31) dX12_knownWord_31 rfl mm_get_0 ?_
      refine mb_gl (pc := 32) dX12_knownWord_32 fl_X12_175 hr (fun y2 hr => ?_)
      refine mg_lcmp (pc := 35) dX12_knownWord_35 ?_
      refine mb_if_ne (pc := 36) 41 dX12_knownWord_36 rfl hr (fun hr => ?_) (fun hr => ?_)
      · refine ml_iinc (pc := 41) dX12_knownWord_41 (mm_get_s mm_get_0) (congrArg (fun z => i1 + z) kc_1) (Nat.le_of_ble_eq_true rfl) mm_st1_r ?_
        refine mg_goto (pc := 44) 21 dX12_knownWord_44 rfl ?_
        exact mg_weak (mm_le_s (mm_le_s mm_le_0)) (ih _ _ _ hr)
      · refine ml_iload_n (pc := 39) dX12_knownWord_39 rfl (mm_get_s mm_get_0) ?_
        exact mb_iret dX12_knownWord_40 rfl hr
def X12_knownWord_b17 (e : mm_E) (m : mm_V) : Option (Int32 × mm_V) := some ((-1 : Int32), m)
theorem X12_knownWord_b17_ok {K : mm_K} {nx : Option Nat} {e : mm_E} (hz : e.2.1 = K.2.2.2.2) {d : Nat} (hd : 2 ≤ d) {a0 : Nat} (h0 : e.1 a0 = some (12, 75)) {m : mm_V} {r : (Int32 × mm_V)} (hr : X12_knownWord_b17 e m = some r) : mm_G K MX12_knownWord d (mm_Fi e.1 nx r) 17 [none, none] [] (e.1, m) nx 0 0 := by
  obtain ⟨d, rfl⟩ : ∃ d', d = d' + 1 := ⟨d - 1, by omega⟩
  unfold X12_knownWord_b17 at hr
  refine mg_iconst (pc := 17) dX12_knownWord_17 kc_m1 ?_
  exact mb_iret dX12_knownWord_18 rfl hr
def X12_knownWord (e : mm_E) (a0 : Nat) (m : mm_V) : Option (Int32 × mm_V) := (mm_gi e.1 m 12 75 a0 15).bind fun x1 => if ¬ x1 = (1 : Int32) then (X12_knownWord_b17 e   m) else ((mm_gi e.1 m 12 75 a0 17).bind fun x2 => if x2 ≤ (6 : Int32) then (X12_knownWord_L21 e a0 e.2.2 (0 : Int32) m) else (X12_knownWord_b17 e   m))
theorem X12_knownWord_ok {K : mm_K} {nx : Option Nat} {e : mm_E} (hz : e.2.1 = K.2.2.2.2) {d : Nat} (hd : 2 ≤ d) {a0 : Nat} (h0 : e.1 a0 = some (12, 75)) {m : mm_V} {r : (Int32 × mm_V)} (hr : X12_knownWord e a0 m = some r) : mm_Cn K MX12_knownWord d (mm_Fi e.1 nx r) [.ref a0] (e.1, m) nx := by
  obtain ⟨d, rfl⟩ : ∃ d', d = d' + 1 := ⟨d - 1, by omega⟩
  refine mm_entry (by decide) (Nat.le_of_ble_eq_true rfl) rfl (fun hok => ?_)
  unfold X12_knownWord at hr
  refine mg_weak (L' := [some (.ref a0), none]) (mm_le_s (mm_le_e mm_le_0)) ?_
  refine ml_aload_n (pc := 0) dX12_knownWord_0 rfl mm_get_0 ?_
  refine mb_gi (pc := 1) dX12_knownWord_1 fl_X12_185 hr (fun x1 hr => ?_)
  refine mg_iconst (pc := 4) dX12_knownWord_4 kc_1 ?_
  refine mb_icmp_ne (pc := 5) 17 dX12_knownWord_5 rfl hr (fun hr => ?_) (fun hr => ?_)
  · exact mg_weak (mm_le_n (mm_le_n mm_le_0)) (X12_knownWord_b17_ok hz hd h0 hr)
  · refine ml_aload_n (pc := 8) dX12_knownWord_8 rfl mm_get_0 ?_
    refine mb_gi (pc := 9) dX12_knownWord_9 fl_X12_195 hr (fun x2 hr => ?_)
    refine mg_bipush (pc := 12) dX12_knownWord_12 kb_6 ?_
    refine mb_icmp_le (pc := 14) 19 dX12_knownWord_14 rfl hr (fun hr => ?_) (fun hr => ?_)
    · refine mg_iconst (pc := 19) dX12_knownWord_19 kc_0 ?_
      refine ml_istore_n (pc := 20) dX12_knownWord_20 rfl (Nat.le_of_ble_eq_true rfl) mm_st1_r ?_
      exact mg_weak (mm_le_s (mm_le_s mm_le_0)) (X12_knownWord_L21_ok hz hd h0 _ _ _ _ hr)
    · exact mg_weak (mm_le_n (mm_le_n mm_le_0)) (X12_knownWord_b17_ok hz hd h0 hr)
theorem dX12_wrong_0 : decode cX12_wrong 0 = .ok (.aload_n 0, 1) := by decide +kernel
theorem dX12_wrong_1 : decode cX12_wrong 1 = .ok (.getfield 208, 3) := by decide +kernel
theorem dX12_wrong_4 : decode cX12_wrong 4 = .ok (.ifCond .eq 4, 3) := by decide +kernel
theorem dX12_wrong_7 : decode cX12_wrong 7 = .ok (.return_, 1) := by decide +kernel
theorem dX12_wrong_8 : decode cX12_wrong 8 = .ok (.aload_n 0, 1) := by decide +kernel
theorem dX12_wrong_9 : decode cX12_wrong 9 = .ok (.iload_n 1, 1) := by decide +kernel
theorem dX12_wrong_10 : decode cX12_wrong 10 = .ok (.putfield 208, 3) := by decide +kernel
theorem dX12_wrong_13 : decode cX12_wrong 13 = .ok (.aload_n 0, 1) := by decide +kernel
theorem dX12_wrong_14 : decode cX12_wrong 14 = .ok (.aload_n 0, 1) := by decide +kernel
theorem dX12_wrong_15 : decode cX12_wrong 15 = .ok (.getfield 172, 3) := by decide +kernel
theorem dX12_wrong_18 : decode cX12_wrong 18 = .ok (.putfield 29, 3) := by decide +kernel
theorem dX12_wrong_21 : decode cX12_wrong 21 = .ok (.return_, 1) := by decide +kernel
def X12_wrong (e : mm_E) (a0 : Nat) (i1 : Int32) (m : mm_V) : Option mm_V := (mm_gi e.1 m 12 75 a0 10).bind fun x1 => if x1 = 0 then ((mm_pf e.1 m 12 75 a0 10 (.int i1)).bind fun m2 => (mm_gi e.1 m2 12 75 a0 16).bind fun x3 => (mm_pf e.1 m2 12 75 a0 11 (.int x3)).bind fun m4 => some m4) else (some m)
theorem X12_wrong_ok {K : mm_K} {nx : Option Nat} {e : mm_E} (hz : e.2.1 = K.2.2.2.2) {d : Nat} (hd : 0 ≤ d) {a0 : Nat} {i1 : Int32} (h0 : e.1 a0 = some (12, 75)) {m : mm_V} {r : mm_V} (hr : X12_wrong e a0 i1 m = some r) : mm_Cn K MX12_wrong d (mm_Fv e.1 nx r) [.ref a0, .int i1] (e.1, m) nx := by
  refine mm_entry (by decide) (Nat.le_of_ble_eq_true rfl) rfl (fun hok => ?_)
  unfold X12_wrong at hr
  refine mg_weak (L' := [some (.ref a0), some (.int i1)]) (mm_le_s (mm_le_s mm_le_0)) ?_
  refine ml_aload_n (pc := 0) dX12_wrong_0 rfl mm_get_0 ?_
  refine mb_gi (pc := 1) dX12_wrong_1 fl_X12_208 hr (fun x1 hr => ?_)
  refine mb_if_eq (pc := 4) 8 dX12_wrong_4 rfl hr (fun hr => ?_) (fun hr => ?_)
  · refine ml_aload_n (pc := 8) dX12_wrong_8 rfl mm_get_0 ?_
    refine ml_iload_n (pc := 9) dX12_wrong_9 rfl (mm_get_s mm_get_0) ?_
    refine mb_pi (pc := 10) dX12_wrong_10 fp_X12_208 hr (fun m2 hr => ?_)
    refine ml_aload_n (pc := 13) dX12_wrong_13 rfl mm_get_0 ?_
    refine ml_aload_n (pc := 14) dX12_wrong_14 rfl mm_get_0 ?_
    refine mb_gi (pc := 15) dX12_wrong_15 fl_X12_172 hr (fun x3 hr => ?_)
    refine mb_pi (pc := 18) dX12_wrong_18 fp_X12_29 hr (fun m4 hr => ?_)
    exact mb_vret dX12_wrong_21 rfl hr
  · exact mb_vret dX12_wrong_7 rfl hr
theorem dX12_isGood_0 : decode cX12_isGood 0 = .ok (.aload_n 0, 1) := by decide +kernel
theorem dX12_isGood_1 : decode cX12_isGood 1 = .ok (.getfield 208, 3) := by decide +kernel
theorem dX12_isGood_4 : decode cX12_isGood 4 = .ok (.ifCond .ne 7, 3) := by decide +kernel
theorem dX12_isGood_7 : decode cX12_isGood 7 = .ok (.iconst 1, 1) := by decide +kernel
theorem dX12_isGood_8 : decode cX12_isGood 8 = .ok (.goto 4, 3) := by decide +kernel
theorem dX12_isGood_11 : decode cX12_isGood 11 = .ok (.iconst 0, 1) := by decide +kernel
theorem dX12_isGood_12 : decode cX12_isGood 12 = .ok (.ireturn, 1) := by decide +kernel
def X12_isGood_b12 (e : mm_E) (t0 : Int32) (m : mm_V) : Option (Int32 × mm_V) := mm_rz t0 m
theorem X12_isGood_b12_ok {K : mm_K} {nx : Option Nat} {e : mm_E} (hz : e.2.1 = K.2.2.2.2) {d : Nat} (hd : 0 ≤ d) {t0 : Int32} {a0 : Nat} (h0 : e.1 a0 = some (12, 75)) {m : mm_V} {r : (Int32 × mm_V)} (hr : X12_isGood_b12 e t0 m = some r) : mm_G K MX12_isGood d (mm_Fi e.1 nx r) 12 [none] [.int t0] (e.1, m) nx 0 0 := by
  unfold X12_isGood_b12 at hr
  exact mb_zret dX12_isGood_12 rfl hr
def X12_isGood (e : mm_E) (a0 : Nat) (m : mm_V) : Option (Int32 × mm_V) := (mm_gi e.1 m 12 75 a0 10).bind fun x1 => if ¬ x1 = 0 then (X12_isGood_b12 e  (0 : Int32) m) else (X12_isGood_b12 e  (1 : Int32) m)
theorem X12_isGood_ok {K : mm_K} {nx : Option Nat} {e : mm_E} (hz : e.2.1 = K.2.2.2.2) {d : Nat} (hd : 0 ≤ d) {a0 : Nat} (h0 : e.1 a0 = some (12, 75)) {m : mm_V} {r : (Int32 × mm_V)} (hr : X12_isGood e a0 m = some r) : mm_Cn K MX12_isGood d (mm_Fi e.1 nx r) [.ref a0] (e.1, m) nx := by
  refine mm_entry (by decide) (Nat.le_of_ble_eq_true rfl) rfl (fun hok => ?_)
  unfold X12_isGood at hr
  refine mg_weak (L' := [some (.ref a0)]) (mm_le_s mm_le_0) ?_
  refine ml_aload_n (pc := 0) dX12_isGood_0 rfl mm_get_0 ?_
  refine mb_gi (pc := 1) dX12_isGood_1 fl_X12_208 hr (fun x1 hr => ?_)
  refine mb_if_ne (pc := 4) 11 dX12_isGood_4 rfl hr (fun hr => ?_) (fun hr => ?_)
  · refine mg_iconst (pc := 11) dX12_isGood_11 kc_0 ?_
    exact mg_weak (mm_le_n mm_le_0) (X12_isGood_b12_ok hz hd h0 hr)
  · refine mg_iconst (pc := 7) dX12_isGood_7 kc_1 ?_
    refine mg_goto (pc := 8) 12 dX12_isGood_8 rfl ?_
    exact mg_weak (mm_le_n mm_le_0) (X12_isGood_b12_ok hz hd h0 hr)
theorem dX12_isSign_0 : decode cX12_isSign 0 = .ok (.aload_n 0, 1) := by decide +kernel
theorem dX12_isSign_1 : decode cX12_isSign 1 = .ok (.getfield 185, 3) := by decide +kernel
theorem dX12_isSign_4 : decode cX12_isSign 4 = .ok (.iconst 3, 1) := by decide +kernel
theorem dX12_isSign_5 : decode cX12_isSign 5 = .ok (.if_icmp .ne 15, 3) := by decide +kernel
theorem dX12_isSign_8 : decode cX12_isSign 8 = .ok (.aload_n 0, 1) := by decide +kernel
theorem dX12_isSign_9 : decode cX12_isSign 9 = .ok (.getfield 182, 3) := by decide +kernel
theorem dX12_isSign_12 : decode cX12_isSign 12 = .ok (.iload_n 1, 1) := by decide +kernel
theorem dX12_isSign_13 : decode cX12_isSign 13 = .ok (.if_icmp .ne 7, 3) := by decide +kernel
theorem dX12_isSign_16 : decode cX12_isSign 16 = .ok (.iconst 1, 1) := by decide +kernel
theorem dX12_isSign_17 : decode cX12_isSign 17 = .ok (.goto 4, 3) := by decide +kernel
theorem dX12_isSign_20 : decode cX12_isSign 20 = .ok (.iconst 0, 1) := by decide +kernel
theorem dX12_isSign_21 : decode cX12_isSign 21 = .ok (.ireturn, 1) := by decide +kernel
def X12_isSign_b21 (e : mm_E) (t0 : Int32) (m : mm_V) : Option (Int32 × mm_V) := mm_rz t0 m
theorem X12_isSign_b21_ok {K : mm_K} {nx : Option Nat} {e : mm_E} (hz : e.2.1 = K.2.2.2.2) {d : Nat} (hd : 0 ≤ d) {t0 : Int32} {a0 : Nat} (h0 : e.1 a0 = some (12, 75)) {m : mm_V} {r : (Int32 × mm_V)} (hr : X12_isSign_b21 e t0 m = some r) : mm_G K MX12_isSign d (mm_Fi e.1 nx r) 21 [none, none] [.int t0] (e.1, m) nx 0 0 := by
  unfold X12_isSign_b21 at hr
  exact mb_zret dX12_isSign_21 rfl hr
def X12_isSign_b20 (e : mm_E) (m : mm_V) : Option (Int32 × mm_V) := X12_isSign_b21 e  (0 : Int32) m
theorem X12_isSign_b20_ok {K : mm_K} {nx : Option Nat} {e : mm_E} (hz : e.2.1 = K.2.2.2.2) {d : Nat} (hd : 0 ≤ d) {a0 : Nat} (h0 : e.1 a0 = some (12, 75)) {m : mm_V} {r : (Int32 × mm_V)} (hr : X12_isSign_b20 e m = some r) : mm_G K MX12_isSign d (mm_Fi e.1 nx r) 20 [none, none] [] (e.1, m) nx 0 0 := by
  unfold X12_isSign_b20 at hr
  refine mg_iconst (pc := 20) dX12_isSign_20 kc_0 ?_
  exact mg_weak (mm_le_n (mm_le_n mm_le_0)) (X12_isSign_b21_ok hz hd h0 hr)
def X12_isSign (e : mm_E) (a0 : Nat) (i1 : Int32) (m : mm_V) : Option (Int32 × mm_V) := (mm_gi e.1 m 12 75 a0 15).bind fun x1 => if ¬ x1 = (3 : Int32) then (X12_isSign_b20 e   m) else ((mm_gi e.1 m 12 75 a0 19).bind fun x2 => if ¬ x2 = i1 then (X12_isSign_b20 e   m) else (X12_isSign_b21 e  (1 : Int32) m))
theorem X12_isSign_ok {K : mm_K} {nx : Option Nat} {e : mm_E} (hz : e.2.1 = K.2.2.2.2) {d : Nat} (hd : 0 ≤ d) {a0 : Nat} {i1 : Int32} (h0 : e.1 a0 = some (12, 75)) {m : mm_V} {r : (Int32 × mm_V)} (hr : X12_isSign e a0 i1 m = some r) : mm_Cn K MX12_isSign d (mm_Fi e.1 nx r) [.ref a0, .int i1] (e.1, m) nx := by
  refine mm_entry (by decide) (Nat.le_of_ble_eq_true rfl) rfl (fun hok => ?_)
  unfold X12_isSign at hr
  refine mg_weak (L' := [some (.ref a0), some (.int i1)]) (mm_le_s (mm_le_s mm_le_0)) ?_
  refine ml_aload_n (pc := 0) dX12_isSign_0 rfl mm_get_0 ?_
  refine mb_gi (pc := 1) dX12_isSign_1 fl_X12_185 hr (fun x1 hr => ?_)
  refine mg_iconst (pc := 4) dX12_isSign_4 kc_3 ?_
  refine mb_icmp_ne (pc := 5) 20 dX12_isSign_5 rfl hr (fun hr => ?_) (fun hr => ?_)
  · exact mg_weak (mm_le_n (mm_le_n mm_le_0)) (X12_isSign_b20_ok hz hd h0 hr)
  · refine ml_aload_n (pc := 8) dX12_isSign_8 rfl mm_get_0 ?_
    refine mb_gi (pc := 9) dX12_isSign_9 fl_X12_182 hr (fun x2 hr => ?_)
    refine ml_iload_n (pc := 12) dX12_isSign_12 rfl (mm_get_s mm_get_0) ?_
    refine mb_icmp_ne (pc := 13) 20 dX12_isSign_13 rfl hr (fun hr => ?_) (fun hr => ?_)
    · exact mg_weak (mm_le_n (mm_le_n mm_le_0)) (X12_isSign_b20_ok hz hd h0 hr)
    · refine mg_iconst (pc := 16) dX12_isSign_16 kc_1 ?_
      refine mg_goto (pc := 17) 21 dX12_isSign_17 rfl ?_
      exact mg_weak (mm_le_n (mm_le_n mm_le_0)) (X12_isSign_b21_ok hz hd h0 hr)
theorem dX12_need_0 : decode cX12_need 0 = .ok (.aload_n 0, 1) := by decide +kernel
theorem dX12_need_1 : decode cX12_need 1 = .ok (.invokevirtual 211, 3) := by decide +kernel
theorem dX12_need_4 : decode cX12_need 4 = .ok (.ifCond .ne 4, 3) := by decide +kernel
theorem dX12_need_7 : decode cX12_need 7 = .ok (.return_, 1) := by decide +kernel
theorem dX12_need_8 : decode cX12_need 8 = .ok (.iload_n 1, 1) := by decide +kernel
theorem dX12_need_9 : decode cX12_need 9 = .ok (.ifCond .eq 10, 3) := by decide +kernel
theorem dX12_need_12 : decode cX12_need 12 = .ok (.aload_n 0, 1) := by decide +kernel
theorem dX12_need_13 : decode cX12_need 13 = .ok (.invokevirtual 215, 3) := by decide +kernel
theorem dX12_need_16 : decode cX12_need 16 = .ok (.goto 8, 3) := by decide +kernel
theorem dX12_need_19 : decode cX12_need 19 = .ok (.aload_n 0, 1) := by decide +kernel
theorem dX12_need_20 : decode cX12_need 20 = .ok (.iconst 1, 1) := by decide +kernel
theorem dX12_need_21 : decode cX12_need 21 = .ok (.invokevirtual 218, 3) := by decide +kernel
theorem dX12_need_24 : decode cX12_need 24 = .ok (.return_, 1) := by decide +kernel
def X12_need_b24 (e : mm_E) (m : mm_V) : Option mm_V := some m
theorem X12_need_b24_ok {K : mm_K} {nx : Option Nat} {e : mm_E} (hz : e.2.1 = K.2.2.2.2) {d : Nat} (hd : 2 ≤ d) {a0 : Nat} (h0 : e.1 a0 = some (12, 75)) {m : mm_V} {r : mm_V} (hr : X12_need_b24 e m = some r) : mm_G K MX12_need d (mm_Fv e.1 nx r) 24 [none, none] [] (e.1, m) nx 0 0 := by
  obtain ⟨d, rfl⟩ : ∃ d', d = d' + 1 := ⟨d - 1, by omega⟩
  unfold X12_need_b24 at hr
  exact mb_vret dX12_need_24 rfl hr
def X12_need (e : mm_E) (a0 : Nat) (i1 : Int32) (m : mm_V) : Option mm_V := (X12_isGood e a0 m).bind fun r1 => if ¬ r1.1 = 0 then (if i1 = 0 then ((X12_wrong e a0 (1 : Int32) r1.2).bind fun r2 => X12_need_b24 e   r2) else ((X12_goes e a0 r1.2).bind fun r3 => X12_need_b24 e   r3)) else (some r1.2)
theorem X12_need_ok {K : mm_K} {nx : Option Nat} {e : mm_E} (hz : e.2.1 = K.2.2.2.2) {d : Nat} (hd : 2 ≤ d) {a0 : Nat} {i1 : Int32} (h0 : e.1 a0 = some (12, 75)) {m : mm_V} {r : mm_V} (hr : X12_need e a0 i1 m = some r) : mm_Cn K MX12_need d (mm_Fv e.1 nx r) [.ref a0, .int i1] (e.1, m) nx := by
  obtain ⟨d, rfl⟩ : ∃ d', d = d' + 1 := ⟨d - 1, by omega⟩
  refine mm_entry (by decide) (Nat.le_of_ble_eq_true rfl) rfl (fun hok => ?_)
  unfold X12_need at hr
  refine mg_weak (L' := [some (.ref a0), some (.int i1)]) (mm_le_s (mm_le_s mm_le_0)) ?_
  refine ml_aload_n (pc := 0) dX12_need_0 rfl mm_get_0 ?_
  refine mb_cVi (pc := 1) (As := []) (rest := []) dX12_need_1 cw_X12_211 h0 hr (fun v hv => X12_isGood_ok hz (by omega) h0 hv) rfl (Nat.le_of_ble_eq_true rfl) (Nat.zero_le _) (Nat.zero_le _) (fun r1 hr => ?_)
  refine mb_if_ne (pc := 4) 8 dX12_need_4 rfl hr (fun hr => ?_) (fun hr => ?_)
  · refine ml_iload_n (pc := 8) dX12_need_8 rfl (mm_get_s mm_get_0) ?_
    refine mb_if_eq (pc := 9) 19 dX12_need_9 rfl hr (fun hr => ?_) (fun hr => ?_)
    · refine ml_aload_n (pc := 19) dX12_need_19 rfl mm_get_0 ?_
      refine mg_iconst (pc := 20) dX12_need_20 kc_1 ?_
      refine mb_cVv (pc := 21) (As := [.int (1 : Int32)]) (rest := []) dX12_need_21 cw_X12_218 h0 hr (fun v hv => X12_wrong_ok hz (by omega) h0 hv) rfl (Nat.le_of_ble_eq_true rfl) (Nat.zero_le _) (Nat.zero_le _) (fun r2 hr => ?_)
      exact mg_weak (mm_le_n (mm_le_n mm_le_0)) (X12_need_b24_ok hz hd h0 hr)
    · refine ml_aload_n (pc := 12) dX12_need_12 rfl mm_get_0 ?_
      refine mb_cVv (pc := 13) (As := []) (rest := []) dX12_need_13 cw_X12_215 h0 hr (fun v hv => X12_goes_ok hz (by omega) h0 hv) rfl (Nat.le_of_ble_eq_true rfl) (Nat.zero_le _) (Nat.zero_le _) (fun r3 hr => ?_)
      refine mg_goto (pc := 16) 24 dX12_need_16 rfl ?_
      exact mg_weak (mm_le_n (mm_le_n mm_le_0)) (X12_need_b24_ok hz hd h0 hr)
  · exact mb_vret dX12_need_7 rfl hr
theorem dX12_number_0 : decode cX12_number 0 = .ok (.aload_n 0, 1) := by decide +kernel
theorem dX12_number_1 : decode cX12_number 1 = .ok (.invokevirtual 211, 3) := by decide +kernel
theorem dX12_number_4 : decode cX12_number 4 = .ok (.ifCond .ne 5, 3) := by decide +kernel
theorem dX12_number_7 : decode cX12_number 7 = .ok (.iconst 0, 1) := by decide +kernel
theorem dX12_number_8 : decode cX12_number 8 = .ok (.ireturn, 1) := by decide +kernel
theorem dX12_number_9 : decode cX12_number 9 = .ok (.aload_n 0, 1) := by decide +kernel
theorem dX12_number_10 : decode cX12_number 10 = .ok (.getfield 185, 3) := by decide +kernel
theorem dX12_number_13 : decode cX12_number 13 = .ok (.iconst 2, 1) := by decide +kernel
theorem dX12_number_14 : decode cX12_number 14 = .ok (.if_icmp .eq 11, 3) := by decide +kernel
theorem dX12_number_17 : decode cX12_number 17 = .ok (.aload_n 0, 1) := by decide +kernel
theorem dX12_number_18 : decode cX12_number 18 = .ok (.iconst 1, 1) := by decide +kernel
theorem dX12_number_19 : decode cX12_number 19 = .ok (.invokevirtual 218, 3) := by decide +kernel
theorem dX12_number_22 : decode cX12_number 22 = .ok (.goto 32, 3) := by decide +kernel
theorem dX12_number_25 : decode cX12_number 25 = .ok (.aload_n 0, 1) := by decide +kernel
theorem dX12_number_26 : decode cX12_number 26 = .ok (.getfield 195, 3) := by decide +kernel
theorem dX12_number_29 : decode cX12_number 29 = .ok (.iconst 4, 1) := by decide +kernel
theorem dX12_number_30 : decode cX12_number 30 = .ok (.if_icmp .gt 19, 3) := by decide +kernel
theorem dX12_number_33 : decode cX12_number 33 = .ok (.aload_n 0, 1) := by decide +kernel
theorem dX12_number_34 : decode cX12_number 34 = .ok (.getfield 179, 3) := by decide +kernel
theorem dX12_number_37 : decode cX12_number 37 = .ok (.iload_n 1, 1) := by decide +kernel
theorem dX12_number_38 : decode cX12_number 38 = .ok (.if_icmp .lt 11, 3) := by decide +kernel
theorem dX12_number_41 : decode cX12_number 41 = .ok (.aload_n 0, 1) := by decide +kernel
theorem dX12_number_42 : decode cX12_number 42 = .ok (.getfield 179, 3) := by decide +kernel
theorem dX12_number_45 : decode cX12_number 45 = .ok (.iload_n 2, 1) := by decide +kernel
theorem dX12_number_46 : decode cX12_number 46 = .ok (.if_icmp .le 8, 3) := by decide +kernel
theorem dX12_number_49 : decode cX12_number 49 = .ok (.aload_n 0, 1) := by decide +kernel
theorem dX12_number_50 : decode cX12_number 50 = .ok (.iconst 2, 1) := by decide +kernel
theorem dX12_number_51 : decode cX12_number 51 = .ok (.invokevirtual 218, 3) := by decide +kernel
theorem dX12_number_54 : decode cX12_number 54 = .ok (.aload_n 0, 1) := by decide +kernel
theorem dX12_number_55 : decode cX12_number 55 = .ok (.getfield 179, 3) := by decide +kernel
theorem dX12_number_58 : decode cX12_number 58 = .ok (.istore_n 3, 1) := by decide +kernel
theorem dX12_number_59 : decode cX12_number 59 = .ok (.aload_n 0, 1) := by decide +kernel
theorem dX12_number_60 : decode cX12_number 60 = .ok (.invokevirtual 211, 3) := by decide +kernel
theorem dX12_number_63 : decode cX12_number 63 = .ok (.ifCond .eq 7, 3) := by decide +kernel
theorem dX12_number_66 : decode cX12_number 66 = .ok (.aload_n 0, 1) := by decide +kernel
theorem dX12_number_67 : decode cX12_number 67 = .ok (.invokevirtual 215, 3) := by decide +kernel
theorem dX12_number_70 : decode cX12_number 70 = .ok (.iload_n 3, 1) := by decide +kernel
theorem dX12_number_71 : decode cX12_number 71 = .ok (.ireturn, 1) := by decide +kernel
def X12_number_b70 (e : mm_E) (i3 : Int32) (m : mm_V) : Option (Int32 × mm_V) := some (i3, m)
theorem X12_number_b70_ok {K : mm_K} {nx : Option Nat} {e : mm_E} (hz : e.2.1 = K.2.2.2.2) {d : Nat} (hd : 2 ≤ d) {i3 : Int32} {a0 : Nat} (h0 : e.1 a0 = some (12, 75)) {m : mm_V} {r : (Int32 × mm_V)} (hr : X12_number_b70 e i3 m = some r) : mm_G K MX12_number d (mm_Fi e.1 nx r) 70 [none, none, none, some (.int i3)] [] (e.1, m) nx 0 0 := by
  obtain ⟨d, rfl⟩ : ∃ d', d = d' + 1 := ⟨d - 1, by omega⟩
  unfold X12_number_b70 at hr
  refine ml_iload_n (pc := 70) dX12_number_70 rfl (mm_get_s (mm_get_s (mm_get_s mm_get_0))) ?_
  exact mb_iret dX12_number_71 rfl hr
def X12_number_b54 (e : mm_E) (a0 : Nat) (m : mm_V) : Option (Int32 × mm_V) := (mm_gi e.1 m 12 75 a0 18).bind fun x1 => (X12_isGood e a0 m).bind fun r2 => if r2.1 = 0 then (X12_number_b70 e x1  r2.2) else ((X12_goes e a0 r2.2).bind fun r3 => X12_number_b70 e x1  r3)
theorem X12_number_b54_ok {K : mm_K} {nx : Option Nat} {e : mm_E} (hz : e.2.1 = K.2.2.2.2) {d : Nat} (hd : 2 ≤ d) {a0 : Nat} (h0 : e.1 a0 = some (12, 75)) {m : mm_V} {r : (Int32 × mm_V)} (hr : X12_number_b54 e a0 m = some r) : mm_G K MX12_number d (mm_Fi e.1 nx r) 54 [some (.ref a0), none, none, none] [] (e.1, m) nx 0 0 := by
  obtain ⟨d, rfl⟩ : ∃ d', d = d' + 1 := ⟨d - 1, by omega⟩
  unfold X12_number_b54 at hr
  refine ml_aload_n (pc := 54) dX12_number_54 rfl mm_get_0 ?_
  refine mb_gi (pc := 55) dX12_number_55 fl_X12_179 hr (fun x1 hr => ?_)
  refine ml_istore_n (pc := 58) dX12_number_58 rfl (Nat.le_of_ble_eq_true rfl) (mm_st1_s (mm_st1_s mm_st1_n)) ?_
  refine ml_aload_n (pc := 59) dX12_number_59 rfl mm_get_0 ?_
  refine mb_cVi (pc := 60) (As := []) (rest := []) dX12_number_60 cw_X12_211 h0 hr (fun v hv => X12_isGood_ok hz (by omega) h0 hv) rfl (Nat.le_of_ble_eq_true rfl) (Nat.zero_le _) (Nat.zero_le _) (fun r2 hr => ?_)
  refine mb_if_eq (pc := 63) 70 dX12_number_63 rfl hr (fun hr => ?_) (fun hr => ?_)
  · exact mg_weak (mm_le_n (mm_le_n (mm_le_n (mm_le_s mm_le_0)))) (X12_number_b70_ok hz hd h0 hr)
  · refine ml_aload_n (pc := 66) dX12_number_66 rfl mm_get_0 ?_
    refine mb_cVv (pc := 67) (As := []) (rest := []) dX12_number_67 cw_X12_215 h0 hr (fun v hv => X12_goes_ok hz (by omega) h0 hv) rfl (Nat.le_of_ble_eq_true rfl) (Nat.zero_le _) (Nat.zero_le _) (fun r3 hr => ?_)
    exact mg_weak (mm_le_n (mm_le_n (mm_le_n (mm_le_s mm_le_0)))) (X12_number_b70_ok hz hd h0 hr)
def X12_number_b49 (e : mm_E) (a0 : Nat) (m : mm_V) : Option (Int32 × mm_V) := (X12_wrong e a0 (2 : Int32) m).bind fun r1 => X12_number_b54 e a0  r1
theorem X12_number_b49_ok {K : mm_K} {nx : Option Nat} {e : mm_E} (hz : e.2.1 = K.2.2.2.2) {d : Nat} (hd : 2 ≤ d) {a0 : Nat} (h0 : e.1 a0 = some (12, 75)) {m : mm_V} {r : (Int32 × mm_V)} (hr : X12_number_b49 e a0 m = some r) : mm_G K MX12_number d (mm_Fi e.1 nx r) 49 [some (.ref a0), none, none, none] [] (e.1, m) nx 0 0 := by
  obtain ⟨d, rfl⟩ : ∃ d', d = d' + 1 := ⟨d - 1, by omega⟩
  unfold X12_number_b49 at hr
  refine ml_aload_n (pc := 49) dX12_number_49 rfl mm_get_0 ?_
  refine mg_iconst (pc := 50) dX12_number_50 kc_2 ?_
  refine mb_cVv (pc := 51) (As := [.int (2 : Int32)]) (rest := []) dX12_number_51 cw_X12_218 h0 hr (fun v hv => X12_wrong_ok hz (by omega) h0 hv) rfl (Nat.le_of_ble_eq_true rfl) (Nat.zero_le _) (Nat.zero_le _) (fun r1 hr => ?_)
  exact mg_weak (mm_le_s (mm_le_n (mm_le_n (mm_le_n mm_le_0)))) (X12_number_b54_ok hz hd h0 hr)
def X12_number (e : mm_E) (a0 : Nat) (i1 : Int32) (i2 : Int32) (m : mm_V) : Option (Int32 × mm_V) := (X12_isGood e a0 m).bind fun r1 => if ¬ r1.1 = 0 then ((mm_gi e.1 r1.2 12 75 a0 15).bind fun x2 => if x2 = (2 : Int32) then ((mm_gi e.1 r1.2 12 75 a0 17).bind fun x3 => if (4 : Int32) < x3 then (X12_number_b49 e a0  r1.2) else ((mm_gi e.1 r1.2 12 75 a0 18).bind fun x4 => if x4 < i1 then (X12_number_b49 e a0  r1.2) else ((mm_gi e.1 r1.2 12 75 a0 18).bind fun x5 => if x5 ≤ i2 then (X12_number_b54 e a0  r1.2) else (X12_number_b49 e a0  r1.2)))) else ((X12_wrong e a0 (1 : Int32) r1.2).bind fun r6 => X12_number_b54 e a0  r6)) else (some ((0 : Int32), r1.2))
theorem X12_number_ok {K : mm_K} {nx : Option Nat} {e : mm_E} (hz : e.2.1 = K.2.2.2.2) {d : Nat} (hd : 2 ≤ d) {a0 : Nat} {i1 : Int32} {i2 : Int32} (h0 : e.1 a0 = some (12, 75)) {m : mm_V} {r : (Int32 × mm_V)} (hr : X12_number e a0 i1 i2 m = some r) : mm_Cn K MX12_number d (mm_Fi e.1 nx r) [.ref a0, .int i1, .int i2] (e.1, m) nx := by
  obtain ⟨d, rfl⟩ : ∃ d', d = d' + 1 := ⟨d - 1, by omega⟩
  refine mm_entry (by decide) (Nat.le_of_ble_eq_true rfl) rfl (fun hok => ?_)
  unfold X12_number at hr
  refine mg_weak (L' := [some (.ref a0), some (.int i1), some (.int i2), none]) (mm_le_s (mm_le_s (mm_le_s (mm_le_e mm_le_0)))) ?_
  refine ml_aload_n (pc := 0) dX12_number_0 rfl mm_get_0 ?_
  refine mb_cVi (pc := 1) (As := []) (rest := []) dX12_number_1 cw_X12_211 h0 hr (fun v hv => X12_isGood_ok hz (by omega) h0 hv) rfl (Nat.le_of_ble_eq_true rfl) (Nat.zero_le _) (Nat.zero_le _) (fun r1 hr => ?_)
  refine mb_if_ne (pc := 4) 9 dX12_number_4 rfl hr (fun hr => ?_) (fun hr => ?_)
  · refine ml_aload_n (pc := 9) dX12_number_9 rfl mm_get_0 ?_
    refine mb_gi (pc := 10) dX12_number_10 fl_X12_185 hr (fun x2 hr => ?_)
    refine mg_iconst (pc := 13) dX12_number_13 kc_2 ?_
    refine mb_icmp_eq (pc := 14) 25 dX12_number_14 rfl hr (fun hr => ?_) (fun hr => ?_)
    · refine ml_aload_n (pc := 25) dX12_number_25 rfl mm_get_0 ?_
      refine mb_gi (pc := 26) dX12_number_26 fl_X12_195 hr (fun x3 hr => ?_)
      refine mg_iconst (pc := 29) dX12_number_29 kc_4 ?_
      refine mb_icmp_gt (pc := 30) 49 dX12_number_30 rfl hr (fun hr => ?_) (fun hr => ?_)
      · exact mg_weak (mm_le_s (mm_le_n (mm_le_n (mm_le_n mm_le_0)))) (X12_number_b49_ok hz hd h0 hr)
      · refine ml_aload_n (pc := 33) dX12_number_33 rfl mm_get_0 ?_
        refine mb_gi (pc := 34) dX12_number_34 fl_X12_179 hr (fun x4 hr => ?_)
        refine ml_iload_n (pc := 37) dX12_number_37 rfl (mm_get_s mm_get_0) ?_
        refine mb_icmp_lt (pc := 38) 49 dX12_number_38 rfl hr (fun hr => ?_) (fun hr => ?_)
        · exact mg_weak (mm_le_s (mm_le_n (mm_le_n (mm_le_n mm_le_0)))) (X12_number_b49_ok hz hd h0 hr)
        · refine ml_aload_n (pc := 41) dX12_number_41 rfl mm_get_0 ?_
          refine mb_gi (pc := 42) dX12_number_42 fl_X12_179 hr (fun x5 hr => ?_)
          refine ml_iload_n (pc := 45) dX12_number_45 rfl (mm_get_s (mm_get_s mm_get_0)) ?_
          refine mb_icmp_le (pc := 46) 54 dX12_number_46 rfl hr (fun hr => ?_) (fun hr => ?_)
          · exact mg_weak (mm_le_s (mm_le_n (mm_le_n (mm_le_n mm_le_0)))) (X12_number_b54_ok hz hd h0 hr)
          · exact mg_weak (mm_le_s (mm_le_n (mm_le_n (mm_le_n mm_le_0)))) (X12_number_b49_ok hz hd h0 hr)
    · refine ml_aload_n (pc := 17) dX12_number_17 rfl mm_get_0 ?_
      refine mg_iconst (pc := 18) dX12_number_18 kc_1 ?_
      refine mb_cVv (pc := 19) (As := [.int (1 : Int32)]) (rest := []) dX12_number_19 cw_X12_218 h0 hr (fun v hv => X12_wrong_ok hz (by omega) h0 hv) rfl (Nat.le_of_ble_eq_true rfl) (Nat.zero_le _) (Nat.zero_le _) (fun r6 hr => ?_)
      refine mg_goto (pc := 22) 54 dX12_number_22 rfl ?_
      exact mg_weak (mm_le_s (mm_le_n (mm_le_n (mm_le_n mm_le_0)))) (X12_number_b54_ok hz hd h0 hr)
  · refine mg_iconst (pc := 7) dX12_number_7 kc_0 ?_
    exact mb_iret dX12_number_8 rfl hr
theorem dX12_puts_0 : decode cX12_puts 0 = .ok (.aload_n 0, 1) := by decide +kernel
theorem dX12_puts_1 : decode cX12_puts 1 = .ok (.getfield 44, 3) := by decide +kernel
theorem dX12_puts_4 : decode cX12_puts 4 = .ok (.aload_n 0, 1) := by decide +kernel
theorem dX12_puts_5 : decode cX12_puts 5 = .ok (.getfield 139, 3) := by decide +kernel
theorem dX12_puts_8 : decode cX12_puts 8 = .ok (.iload_n 1, 1) := by decide +kernel
theorem dX12_puts_9 : decode cX12_puts 9 = .ok (.iastore, 1) := by decide +kernel
theorem dX12_puts_10 : decode cX12_puts 10 = .ok (.aload_n 0, 1) := by decide +kernel
theorem dX12_puts_11 : decode cX12_puts 11 = .ok (.dup, 1) := by decide +kernel
theorem dX12_puts_12 : decode cX12_puts 12 = .ok (.getfield 139, 3) := by decide +kernel
theorem dX12_puts_15 : decode cX12_puts 15 = .ok (.iconst 1, 1) := by decide +kernel
theorem dX12_puts_16 : decode cX12_puts 16 = .ok (.iadd, 1) := by decide +kernel
theorem dX12_puts_17 : decode cX12_puts 17 = .ok (.putfield 139, 3) := by decide +kernel
theorem dX12_puts_20 : decode cX12_puts 20 = .ok (.return_, 1) := by decide +kernel
def X12_puts (e : mm_E) (a0 : Nat) (i1 : Int32) (m : mm_V) : Option mm_V := (mm_gr e.1 m 12 75 a0 34).bind fun c1 => (mm_gi e.1 m 12 75 a0 25).bind fun x2 => (mm_si e.1 m c1 x2 i1).bind fun m3 => (mm_gi e.1 m3 12 75 a0 25).bind fun x4 => (mm_pf e.1 m3 12 75 a0 25 (.int (x4 + (1 : Int32)))).bind fun m5 => some m5
theorem X12_puts_ok {K : mm_K} {nx : Option Nat} {e : mm_E} (hz : e.2.1 = K.2.2.2.2) {d : Nat} (hd : 0 ≤ d) {a0 : Nat} {i1 : Int32} (h0 : e.1 a0 = some (12, 75)) {m : mm_V} {r : mm_V} (hr : X12_puts e a0 i1 m = some r) : mm_Cn K MX12_puts d (mm_Fv e.1 nx r) [.ref a0, .int i1] (e.1, m) nx := by
  refine mm_entry (by decide) (Nat.le_of_ble_eq_true rfl) rfl (fun hok => ?_)
  unfold X12_puts at hr
  refine mg_weak (L' := [some (.ref a0), some (.int i1)]) (mm_le_s (mm_le_s mm_le_0)) ?_
  refine ml_aload_n (pc := 0) dX12_puts_0 rfl mm_get_0 ?_
  refine mb_gr (pc := 1) dX12_puts_1 fl_X12_44 hr (fun c1 hr => ?_)
  refine ml_aload_n (pc := 4) dX12_puts_4 rfl mm_get_0 ?_
  refine mb_gi (pc := 5) dX12_puts_5 fl_X12_139 hr (fun x2 hr => ?_)
  refine ml_iload_n (pc := 8) dX12_puts_8 rfl (mm_get_s mm_get_0) ?_
  refine mb_si (pc := 9) dX12_puts_9 hr (fun m3 hr => ?_)
  refine ml_aload_n (pc := 10) dX12_puts_10 rfl mm_get_0 ?_
  refine mg_dup (pc := 11) dX12_puts_11 rfl ?_
  refine mb_gi (pc := 12) dX12_puts_12 fl_X12_139 hr (fun x4 hr => ?_)
  refine mg_iconst (pc := 15) dX12_puts_15 kc_1 ?_
  refine mg_iadd (pc := 16) dX12_puts_16 ?_
  refine mb_pi (pc := 17) dX12_puts_17 fp_X12_139 hr (fun m5 hr => ?_)
  exact mb_vret dX12_puts_20 rfl hr
theorem dX12_isOpen_0 : decode cX12_isOpen 0 = .ok (.iload_n 0, 1) := by decide +kernel
theorem dX12_isOpen_1 : decode cX12_isOpen 1 = .ok (.bipush 14, 2) := by decide +kernel
theorem dX12_isOpen_3 : decode cX12_isOpen 3 = .ok (.if_icmp .lt 7, 3) := by decide +kernel
theorem dX12_isOpen_6 : decode cX12_isOpen 6 = .ok (.iconst 1, 1) := by decide +kernel
theorem dX12_isOpen_7 : decode cX12_isOpen 7 = .ok (.goto 4, 3) := by decide +kernel
theorem dX12_isOpen_10 : decode cX12_isOpen 10 = .ok (.iconst 0, 1) := by decide +kernel
theorem dX12_isOpen_11 : decode cX12_isOpen 11 = .ok (.ireturn, 1) := by decide +kernel
def X12_isOpen_b11 (e : mm_E) (t0 : Int32) (m : mm_V) : Option (Int32 × mm_V) := mm_rz t0 m
theorem X12_isOpen_b11_ok {K : mm_K} {nx : Option Nat} {e : mm_E} (hz : e.2.1 = K.2.2.2.2) {d : Nat} (hd : 0 ≤ d) {t0 : Int32} {m : mm_V} {r : (Int32 × mm_V)} (hr : X12_isOpen_b11 e t0 m = some r) : mm_G K MX12_isOpen d (mm_Fi e.1 nx r) 11 [none] [.int t0] (e.1, m) nx 0 0 := by
  unfold X12_isOpen_b11 at hr
  exact mb_zret dX12_isOpen_11 rfl hr
def X12_isOpen (e : mm_E) (i0 : Int32) (m : mm_V) : Option (Int32 × mm_V) := if i0 < (14 : Int32) then (X12_isOpen_b11 e  (0 : Int32) m) else (X12_isOpen_b11 e  (1 : Int32) m)
theorem X12_isOpen_ok {K : mm_K} {nx : Option Nat} {e : mm_E} (hz : e.2.1 = K.2.2.2.2) {d : Nat} (hd : 0 ≤ d) {i0 : Int32} {m : mm_V} {r : (Int32 × mm_V)} (hr : X12_isOpen e i0 m = some r) : mm_Cn K MX12_isOpen d (mm_Fi e.1 nx r) [.int i0] (e.1, m) nx := by
  refine mm_entry (by decide) (Nat.le_of_ble_eq_true rfl) rfl (fun hok => ?_)
  unfold X12_isOpen at hr
  refine mg_weak (L' := [some (.int i0)]) (mm_le_s mm_le_0) ?_
  refine ml_iload_n (pc := 0) dX12_isOpen_0 rfl mm_get_0 ?_
  refine mg_bipush (pc := 1) dX12_isOpen_1 kb_14 ?_
  refine mb_icmp_lt (pc := 3) 10 dX12_isOpen_3 rfl hr (fun hr => ?_) (fun hr => ?_)
  · refine mg_iconst (pc := 10) dX12_isOpen_10 kc_0 ?_
    exact mg_weak (mm_le_n mm_le_0) (X12_isOpen_b11_ok hz hd hr)
  · refine mg_iconst (pc := 6) dX12_isOpen_6 kc_1 ?_
    refine mg_goto (pc := 7) 11 dX12_isOpen_7 rfl ?_
    exact mg_weak (mm_le_n mm_le_0) (X12_isOpen_b11_ok hz hd hr)
theorem dX12_strength_0 : decode cX12_strength 0 = .ok (.iload_n 0, 1) := by decide +kernel
theorem dX12_strength_1 : decode cX12_strength 1 = .ok (.iconst 5, 1) := by decide +kernel
theorem dX12_strength_2 : decode cX12_strength 2 = .ok (.if_icmp .ne 7, 3) := by decide +kernel
theorem dX12_strength_5 : decode cX12_strength 5 = .ok (.iconst 1, 1) := by decide +kernel
theorem dX12_strength_6 : decode cX12_strength 6 = .ok (.goto 55, 3) := by decide +kernel
theorem dX12_strength_9 : decode cX12_strength 9 = .ok (.iload_n 0, 1) := by decide +kernel
theorem dX12_strength_10 : decode cX12_strength 10 = .ok (.iconst 4, 1) := by decide +kernel
theorem dX12_strength_11 : decode cX12_strength 11 = .ok (.if_icmp .ne 7, 3) := by decide +kernel
theorem dX12_strength_14 : decode cX12_strength 14 = .ok (.iconst 2, 1) := by decide +kernel
theorem dX12_strength_15 : decode cX12_strength 15 = .ok (.goto 46, 3) := by decide +kernel
theorem dX12_strength_18 : decode cX12_strength 18 = .ok (.iload_n 0, 1) := by decide +kernel
theorem dX12_strength_19 : decode cX12_strength 19 = .ok (.iconst 3, 1) := by decide +kernel
theorem dX12_strength_20 : decode cX12_strength 20 = .ok (.if_icmp .ne 7, 3) := by decide +kernel
theorem dX12_strength_23 : decode cX12_strength 23 = .ok (.iconst 3, 1) := by decide +kernel
theorem dX12_strength_24 : decode cX12_strength 24 = .ok (.goto 37, 3) := by decide +kernel
theorem dX12_strength_27 : decode cX12_strength 27 = .ok (.iload_n 0, 1) := by decide +kernel
theorem dX12_strength_28 : decode cX12_strength 28 = .ok (.bipush 6, 2) := by decide +kernel
theorem dX12_strength_30 : decode cX12_strength 30 = .ok (.if_icmp .eq 9, 3) := by decide +kernel
theorem dX12_strength_33 : decode cX12_strength 33 = .ok (.iload_n 0, 1) := by decide +kernel
theorem dX12_strength_34 : decode cX12_strength 34 = .ok (.bipush 7, 2) := by decide +kernel
theorem dX12_strength_36 : decode cX12_strength 36 = .ok (.if_icmp .ne 7, 3) := by decide +kernel
theorem dX12_strength_39 : decode cX12_strength 39 = .ok (.iconst 4, 1) := by decide +kernel
theorem dX12_strength_40 : decode cX12_strength 40 = .ok (.goto 21, 3) := by decide +kernel
theorem dX12_strength_43 : decode cX12_strength 43 = .ok (.iload_n 0, 1) := by decide +kernel
theorem dX12_strength_44 : decode cX12_strength 44 = .ok (.bipush 8, 2) := by decide +kernel
theorem dX12_strength_46 : decode cX12_strength 46 = .ok (.if_icmp .eq 9, 3) := by decide +kernel
theorem dX12_strength_49 : decode cX12_strength 49 = .ok (.iload_n 0, 1) := by decide +kernel
theorem dX12_strength_50 : decode cX12_strength 50 = .ok (.bipush 9, 2) := by decide +kernel
theorem dX12_strength_52 : decode cX12_strength 52 = .ok (.if_icmp .ne 7, 3) := by decide +kernel
theorem dX12_strength_55 : decode cX12_strength 55 = .ok (.iconst 5, 1) := by decide +kernel
theorem dX12_strength_56 : decode cX12_strength 56 = .ok (.goto 5, 3) := by decide +kernel
theorem dX12_strength_59 : decode cX12_strength 59 = .ok (.bipush 6, 2) := by decide +kernel
theorem dX12_strength_61 : decode cX12_strength 61 = .ok (.ireturn, 1) := by decide +kernel
def X12_strength_b61 (e : mm_E) (t0 : Int32) (m : mm_V) : Option (Int32 × mm_V) := some (t0, m)
theorem X12_strength_b61_ok {K : mm_K} {nx : Option Nat} {e : mm_E} (hz : e.2.1 = K.2.2.2.2) {d : Nat} (hd : 0 ≤ d) {t0 : Int32} {m : mm_V} {r : (Int32 × mm_V)} (hr : X12_strength_b61 e t0 m = some r) : mm_G K MX12_strength d (mm_Fi e.1 nx r) 61 [none] [.int t0] (e.1, m) nx 0 0 := by
  unfold X12_strength_b61 at hr
  exact mb_iret dX12_strength_61 rfl hr
def X12_strength_b55 (e : mm_E) (m : mm_V) : Option (Int32 × mm_V) := X12_strength_b61 e  (5 : Int32) m
theorem X12_strength_b55_ok {K : mm_K} {nx : Option Nat} {e : mm_E} (hz : e.2.1 = K.2.2.2.2) {d : Nat} (hd : 0 ≤ d) {m : mm_V} {r : (Int32 × mm_V)} (hr : X12_strength_b55 e m = some r) : mm_G K MX12_strength d (mm_Fi e.1 nx r) 55 [none] [] (e.1, m) nx 0 0 := by
  unfold X12_strength_b55 at hr
  refine mg_iconst (pc := 55) dX12_strength_55 kc_5 ?_
  refine mg_goto (pc := 56) 61 dX12_strength_56 rfl ?_
  exact mg_weak (mm_le_n mm_le_0) (X12_strength_b61_ok hz hd hr)
def X12_strength_b39 (e : mm_E) (m : mm_V) : Option (Int32 × mm_V) := X12_strength_b61 e  (4 : Int32) m
theorem X12_strength_b39_ok {K : mm_K} {nx : Option Nat} {e : mm_E} (hz : e.2.1 = K.2.2.2.2) {d : Nat} (hd : 0 ≤ d) {m : mm_V} {r : (Int32 × mm_V)} (hr : X12_strength_b39 e m = some r) : mm_G K MX12_strength d (mm_Fi e.1 nx r) 39 [none] [] (e.1, m) nx 0 0 := by
  unfold X12_strength_b39 at hr
  refine mg_iconst (pc := 39) dX12_strength_39 kc_4 ?_
  refine mg_goto (pc := 40) 61 dX12_strength_40 rfl ?_
  exact mg_weak (mm_le_n mm_le_0) (X12_strength_b61_ok hz hd hr)
def X12_strength (e : mm_E) (i0 : Int32) (m : mm_V) : Option (Int32 × mm_V) := if ¬ i0 = (5 : Int32) then (if ¬ i0 = (4 : Int32) then (if ¬ i0 = (3 : Int32) then (if i0 = (6 : Int32) then (X12_strength_b39 e   m) else (if ¬ i0 = (7 : Int32) then (if i0 = (8 : Int32) then (X12_strength_b55 e   m) else (if ¬ i0 = (9 : Int32) then (X12_strength_b61 e  (6 : Int32) m) else (X12_strength_b55 e   m))) else (X12_strength_b39 e   m))) else (X12_strength_b61 e  (3 : Int32) m)) else (X12_strength_b61 e  (2 : Int32) m)) else (X12_strength_b61 e  (1 : Int32) m)
theorem X12_strength_ok {K : mm_K} {nx : Option Nat} {e : mm_E} (hz : e.2.1 = K.2.2.2.2) {d : Nat} (hd : 0 ≤ d) {i0 : Int32} {m : mm_V} {r : (Int32 × mm_V)} (hr : X12_strength e i0 m = some r) : mm_Cn K MX12_strength d (mm_Fi e.1 nx r) [.int i0] (e.1, m) nx := by
  refine mm_entry (by decide) (Nat.le_of_ble_eq_true rfl) rfl (fun hok => ?_)
  unfold X12_strength at hr
  refine mg_weak (L' := [some (.int i0)]) (mm_le_s mm_le_0) ?_
  refine ml_iload_n (pc := 0) dX12_strength_0 rfl mm_get_0 ?_
  refine mg_iconst (pc := 1) dX12_strength_1 kc_5 ?_
  refine mb_icmp_ne (pc := 2) 9 dX12_strength_2 rfl hr (fun hr => ?_) (fun hr => ?_)
  · refine ml_iload_n (pc := 9) dX12_strength_9 rfl mm_get_0 ?_
    refine mg_iconst (pc := 10) dX12_strength_10 kc_4 ?_
    refine mb_icmp_ne (pc := 11) 18 dX12_strength_11 rfl hr (fun hr => ?_) (fun hr => ?_)
    · refine ml_iload_n (pc := 18) dX12_strength_18 rfl mm_get_0 ?_
      refine mg_iconst (pc := 19) dX12_strength_19 kc_3 ?_
      refine mb_icmp_ne (pc := 20) 27 dX12_strength_20 rfl hr (fun hr => ?_) (fun hr => ?_)
      · refine ml_iload_n (pc := 27) dX12_strength_27 rfl mm_get_0 ?_
        refine mg_bipush (pc := 28) dX12_strength_28 kb_6 ?_
        refine mb_icmp_eq (pc := 30) 39 dX12_strength_30 rfl hr (fun hr => ?_) (fun hr => ?_)
        · exact mg_weak (mm_le_n mm_le_0) (X12_strength_b39_ok hz hd hr)
        · refine ml_iload_n (pc := 33) dX12_strength_33 rfl mm_get_0 ?_
          refine mg_bipush (pc := 34) dX12_strength_34 kb_7 ?_
          refine mb_icmp_ne (pc := 36) 43 dX12_strength_36 rfl hr (fun hr => ?_) (fun hr => ?_)
          · refine ml_iload_n (pc := 43) dX12_strength_43 rfl mm_get_0 ?_
            refine mg_bipush (pc := 44) dX12_strength_44 kb_8 ?_
            refine mb_icmp_eq (pc := 46) 55 dX12_strength_46 rfl hr (fun hr => ?_) (fun hr => ?_)
            · exact mg_weak (mm_le_n mm_le_0) (X12_strength_b55_ok hz hd hr)
            · refine ml_iload_n (pc := 49) dX12_strength_49 rfl mm_get_0 ?_
              refine mg_bipush (pc := 50) dX12_strength_50 kb_9 ?_
              refine mb_icmp_ne (pc := 52) 59 dX12_strength_52 rfl hr (fun hr => ?_) (fun hr => ?_)
              · refine mg_bipush (pc := 59) dX12_strength_59 kb_6 ?_
                exact mg_weak (mm_le_n mm_le_0) (X12_strength_b61_ok hz hd hr)
              · exact mg_weak (mm_le_n mm_le_0) (X12_strength_b55_ok hz hd hr)
          · exact mg_weak (mm_le_n mm_le_0) (X12_strength_b39_ok hz hd hr)
      · refine mg_iconst (pc := 23) dX12_strength_23 kc_3 ?_
        refine mg_goto (pc := 24) 61 dX12_strength_24 rfl ?_
        exact mg_weak (mm_le_n mm_le_0) (X12_strength_b61_ok hz hd hr)
    · refine mg_iconst (pc := 14) dX12_strength_14 kc_2 ?_
      refine mg_goto (pc := 15) 61 dX12_strength_15 rfl ?_
      exact mg_weak (mm_le_n mm_le_0) (X12_strength_b61_ok hz hd hr)
  · refine mg_iconst (pc := 5) dX12_strength_5 kc_1 ?_
    refine mg_goto (pc := 6) 61 dX12_strength_6 rfl ?_
    exact mg_weak (mm_le_n mm_le_0) (X12_strength_b61_ok hz hd hr)
theorem dX12_drops_0 : decode cX12_drops 0 = .ok (.aload_n 0, 1) := by decide +kernel
theorem dX12_drops_1 : decode cX12_drops 1 = .ok (.getfield 221, 3) := by decide +kernel
theorem dX12_drops_4 : decode cX12_drops 4 = .ok (.ifCond .le 64, 3) := by decide +kernel
theorem dX12_drops_7 : decode cX12_drops 7 = .ok (.aload_n 0, 1) := by decide +kernel
theorem dX12_drops_8 : decode cX12_drops 8 = .ok (.getfield 47, 3) := by decide +kernel
theorem dX12_drops_11 : decode cX12_drops 11 = .ok (.aload_n 0, 1) := by decide +kernel
theorem dX12_drops_12 : decode cX12_drops 12 = .ok (.getfield 221, 3) := by decide +kernel
theorem dX12_drops_15 : decode cX12_drops 15 = .ok (.iconst 1, 1) := by decide +kernel
theorem dX12_drops_16 : decode cX12_drops 16 = .ok (.isub, 1) := by decide +kernel
theorem dX12_drops_17 : decode cX12_drops 17 = .ok (.iaload, 1) := by decide +kernel
theorem dX12_drops_18 : decode cX12_drops 18 = .ok (.invokestatic 224, 3) := by decide +kernel
theorem dX12_drops_21 : decode cX12_drops 21 = .ok (.ifCond .ne 47, 3) := by decide +kernel
theorem dX12_drops_24 : decode cX12_drops 24 = .ok (.aload_n 0, 1) := by decide +kernel
theorem dX12_drops_25 : decode cX12_drops 25 = .ok (.getfield 47, 3) := by decide +kernel
theorem dX12_drops_28 : decode cX12_drops 28 = .ok (.aload_n 0, 1) := by decide +kernel
theorem dX12_drops_29 : decode cX12_drops 29 = .ok (.getfield 221, 3) := by decide +kernel
theorem dX12_drops_32 : decode cX12_drops 32 = .ok (.iconst 1, 1) := by decide +kernel
theorem dX12_drops_33 : decode cX12_drops 33 = .ok (.isub, 1) := by decide +kernel
theorem dX12_drops_34 : decode cX12_drops 34 = .ok (.iaload, 1) := by decide +kernel
theorem dX12_drops_35 : decode cX12_drops 35 = .ok (.invokestatic 227, 3) := by decide +kernel
theorem dX12_drops_38 : decode cX12_drops 38 = .ok (.iload_n 1, 1) := by decide +kernel
theorem dX12_drops_39 : decode cX12_drops 39 = .ok (.if_icmp .lt 29, 3) := by decide +kernel
theorem dX12_drops_42 : decode cX12_drops 42 = .ok (.aload_n 0, 1) := by decide +kernel
theorem dX12_drops_43 : decode cX12_drops 43 = .ok (.dup, 1) := by decide +kernel
theorem dX12_drops_44 : decode cX12_drops 44 = .ok (.getfield 221, 3) := by decide +kernel
theorem dX12_drops_47 : decode cX12_drops 47 = .ok (.iconst 1, 1) := by decide +kernel
theorem dX12_drops_48 : decode cX12_drops 48 = .ok (.isub, 1) := by decide +kernel
theorem dX12_drops_49 : decode cX12_drops 49 = .ok (.putfield 221, 3) := by decide +kernel
theorem dX12_drops_52 : decode cX12_drops 52 = .ok (.aload_n 0, 1) := by decide +kernel
theorem dX12_drops_53 : decode cX12_drops 53 = .ok (.aload_n 0, 1) := by decide +kernel
theorem dX12_drops_54 : decode cX12_drops 54 = .ok (.getfield 47, 3) := by decide +kernel
theorem dX12_drops_57 : decode cX12_drops 57 = .ok (.aload_n 0, 1) := by decide +kernel
theorem dX12_drops_58 : decode cX12_drops 58 = .ok (.getfield 221, 3) := by decide +kernel
theorem dX12_drops_61 : decode cX12_drops 61 = .ok (.iaload, 1) := by decide +kernel
theorem dX12_drops_62 : decode cX12_drops 62 = .ok (.invokevirtual 230, 3) := by decide +kernel
theorem dX12_drops_65 : decode cX12_drops 65 = .ok (.goto (-65), 3) := by decide +kernel
theorem dX12_drops_68 : decode cX12_drops 68 = .ok (.return_, 1) := by decide +kernel
def X12_drops_b68 (e : mm_E) (m : mm_V) : Option mm_V := some m
theorem X12_drops_b68_ok {K : mm_K} {nx : Option Nat} {e : mm_E} (hz : e.2.1 = K.2.2.2.2) {d : Nat} (hd : 1 ≤ d) {a0 : Nat} (h0 : e.1 a0 = some (12, 75)) {m : mm_V} {r : mm_V} (hr : X12_drops_b68 e m = some r) : mm_G K MX12_drops d (mm_Fv e.1 nx r) 68 [none, none] [] (e.1, m) nx 0 0 := by
  obtain ⟨d, rfl⟩ : ∃ d', d = d' + 1 := ⟨d - 1, by omega⟩
  unfold X12_drops_b68 at hr
  exact mb_vret dX12_drops_68 rfl hr
def X12_drops_L0 (e : mm_E) (a0 : Nat) (i1 : Int32) : Nat → mm_V → Option mm_V
  | 0, _ => none
  | n + 1, m => (mm_gi e.1 m 12 75 a0 26).bind fun x1 => if x1 ≤ 0 then (X12_drops_b68 e   m) else ((mm_gr e.1 m 12 75 a0 35).bind fun c2 => (mm_gi e.1 m 12 75 a0 26).bind fun x3 => (mm_ai e.1 m 20 c2 (x3 - (1 : Int32))).bind fun x4 => (X12_isOpen e x4 m).bind fun r5 => if ¬ r5.1 = 0 then (X12_drops_b68 e   r5.2) else ((mm_gr e.1 r5.2 12 75 a0 35).bind fun c6 => (mm_gi e.1 r5.2 12 75 a0 26).bind fun x7 => (mm_ai e.1 r5.2 20 c6 (x7 - (1 : Int32))).bind fun x8 => (X12_strength e x8 r5.2).bind fun r9 => if r9.1 < i1 then (X12_drops_b68 e   r9.2) else ((mm_gi e.1 r9.2 12 75 a0 26).bind fun x10 => (mm_pf e.1 r9.2 12 75 a0 26 (.int (x10 - (1 : Int32)))).bind fun m11 => (mm_gr e.1 m11 12 75 a0 35).bind fun c12 => (mm_gi e.1 m11 12 75 a0 26).bind fun x13 => (mm_ai e.1 m11 20 c12 x13).bind fun x14 => (X12_puts e a0 x14 m11).bind fun r15 => X12_drops_L0 e a0 i1 n  r15)))
theorem X12_drops_L0_ok {K : mm_K} {nx : Option Nat} {e : mm_E} (hz : e.2.1 = K.2.2.2.2) {d : Nat} (hd : 1 ≤ d) {a0 : Nat} {i1 : Int32} (h0 : e.1 a0 = some (12, 75)) : ∀ (n : Nat) (m : mm_V) (r : mm_V), X12_drops_L0 e a0 i1 n  m = some r → mm_G K MX12_drops d (mm_Fv e.1 nx r) 0 [some (.ref a0), some (.int i1)] [] (e.1, m) nx 0 0 := by
  obtain ⟨d, rfl⟩ : ∃ d', d = d' + 1 := ⟨d - 1, by omega⟩
  intro n
  induction n with
  | zero => intro m r hr; unfold X12_drops_L0 at hr; cases hr
  | succ n ih =>
    intro m r hr
    unfold X12_drops_L0 at hr
    refine ml_aload_n (pc := 0) dX12_drops_0 rfl mm_get_0 ?_
    refine mb_gi (pc := 1) dX12_drops_1 fl_X12_221 hr (fun x1 hr => ?_)
    refine mb_if_le (pc := 4) 68 dX12_drops_4 rfl hr (fun hr => ?_) (fun hr => ?_)
    · exact mg_weak (mm_le_n (mm_le_n mm_le_0)) (X12_drops_b68_ok hz hd h0 hr)
    · refine ml_aload_n (pc := 7) dX12_drops_7 rfl mm_get_0 ?_
      refine mb_gr (pc := 8) dX12_drops_8 fl_X12_47 hr (fun c2 hr => ?_)
      refine ml_aload_n (pc := 11) dX12_drops_11 rfl mm_get_0 ?_
      refine mb_gi (pc := 12) dX12_drops_12 fl_X12_221 hr (fun x3 hr => ?_)
      refine mg_iconst (pc := 15) dX12_drops_15 kc_1 ?_
      refine mg_isub (pc := 16) dX12_drops_16 ?_
      refine mb_ai (pc := 17) dX12_drops_17 hr (fun x4 hr => ?_)
      refine mb_cSi (pc := 18) (As := [.int x4]) (rest := []) dX12_drops_18 cw_X12_224  hr (fun v hv => X12_isOpen_ok hz (by omega)  hv) rfl (Nat.le_of_ble_eq_true rfl) (Nat.zero_le _) (Nat.zero_le _) (fun r5 hr => ?_)
      refine mb_if_ne (pc := 21) 68 dX12_drops_21 rfl hr (fun hr => ?_) (fun hr => ?_)
      · exact mg_weak (mm_le_n (mm_le_n mm_le_0)) (X12_drops_b68_ok hz hd h0 hr)
      · refine ml_aload_n (pc := 24) dX12_drops_24 rfl mm_get_0 ?_
        refine mb_gr (pc := 25) dX12_drops_25 fl_X12_47 hr (fun c6 hr => ?_)
        refine ml_aload_n (pc := 28) dX12_drops_28 rfl mm_get_0 ?_
        refine mb_gi (pc := 29) dX12_drops_29 fl_X12_221 hr (fun x7 hr => ?_)
        refine mg_iconst (pc := 32) dX12_drops_32 kc_1 ?_
        refine mg_isub (pc := 33) dX12_drops_33 ?_
        refine mb_ai (pc := 34) dX12_drops_34 hr (fun x8 hr => ?_)
        refine mb_cSi (pc := 35) (As := [.int x8]) (rest := []) dX12_drops_35 cw_X12_227  hr (fun v hv => X12_strength_ok hz (by omega)  hv) rfl (Nat.le_of_ble_eq_true rfl) (Nat.zero_le _) (Nat.zero_le _) (fun r9 hr => ?_)
        refine ml_iload_n (pc := 38) dX12_drops_38 rfl (mm_get_s mm_get_0) ?_
        refine mb_icmp_lt (pc := 39) 68 dX12_drops_39 rfl hr (fun hr => ?_) (fun hr => ?_)
        · exact mg_weak (mm_le_n (mm_le_n mm_le_0)) (X12_drops_b68_ok hz hd h0 hr)
        · refine ml_aload_n (pc := 42) dX12_drops_42 rfl mm_get_0 ?_
          refine mg_dup (pc := 43) dX12_drops_43 rfl ?_
          refine mb_gi (pc := 44) dX12_drops_44 fl_X12_221 hr (fun x10 hr => ?_)
          refine mg_iconst (pc := 47) dX12_drops_47 kc_1 ?_
          refine mg_isub (pc := 48) dX12_drops_48 ?_
          refine mb_pi (pc := 49) dX12_drops_49 fp_X12_221 hr (fun m11 hr => ?_)
          refine ml_aload_n (pc := 52) dX12_drops_52 rfl mm_get_0 ?_
          refine ml_aload_n (pc := 53) dX12_drops_53 rfl mm_get_0 ?_
          refine mb_gr (pc := 54) dX12_drops_54 fl_X12_47 hr (fun c12 hr => ?_)
          refine ml_aload_n (pc := 57) dX12_drops_57 rfl mm_get_0 ?_
          refine mb_gi (pc := 58) dX12_drops_58 fl_X12_221 hr (fun x13 hr => ?_)
          refine mb_ai (pc := 61) dX12_drops_61 hr (fun x14 hr => ?_)
          refine mb_cVv (pc := 62) (As := [.int x14]) (rest := []) dX12_drops_62 cw_X12_230 h0 hr (fun v hv => X12_puts_ok hz (by omega) h0 hv) rfl (Nat.le_of_ble_eq_true rfl) (Nat.zero_le _) (Nat.zero_le _) (fun r15 hr => ?_)
          refine mg_goto (pc := 65) 0 dX12_drops_65 rfl ?_
          exact mg_weak (mm_le_s (mm_le_s mm_le_0)) (ih  _ _ hr)
def X12_drops (e : mm_E) (a0 : Nat) (i1 : Int32) (m : mm_V) : Option mm_V := X12_drops_L0 e a0 i1 e.2.2  m
theorem X12_drops_ok {K : mm_K} {nx : Option Nat} {e : mm_E} (hz : e.2.1 = K.2.2.2.2) {d : Nat} (hd : 1 ≤ d) {a0 : Nat} {i1 : Int32} (h0 : e.1 a0 = some (12, 75)) {m : mm_V} {r : mm_V} (hr : X12_drops e a0 i1 m = some r) : mm_Cn K MX12_drops d (mm_Fv e.1 nx r) [.ref a0, .int i1] (e.1, m) nx := by
  obtain ⟨d, rfl⟩ : ∃ d', d = d' + 1 := ⟨d - 1, by omega⟩
  refine mm_entry (by decide) (Nat.le_of_ble_eq_true rfl) rfl (fun hok => ?_)
  unfold X12_drops at hr
  refine mg_weak (L' := [some (.ref a0), some (.int i1)]) (mm_le_s (mm_le_s mm_le_0)) ?_
  exact mg_weak (mm_le_s (mm_le_s mm_le_0)) (X12_drops_L0_ok hz hd h0 _  _ _ hr)
theorem dX12_waitsFor_0 : decode cX12_waitsFor 0 = .ok (.aload_n 0, 1) := by decide +kernel
theorem dX12_waitsFor_1 : decode cX12_waitsFor 1 = .ok (.getfield 47, 3) := by decide +kernel
theorem dX12_waitsFor_4 : decode cX12_waitsFor 4 = .ok (.aload_n 0, 1) := by decide +kernel
theorem dX12_waitsFor_5 : decode cX12_waitsFor 5 = .ok (.getfield 221, 3) := by decide +kernel
theorem dX12_waitsFor_8 : decode cX12_waitsFor 8 = .ok (.iload_n 1, 1) := by decide +kernel
theorem dX12_waitsFor_9 : decode cX12_waitsFor 9 = .ok (.iastore, 1) := by decide +kernel
theorem dX12_waitsFor_10 : decode cX12_waitsFor 10 = .ok (.aload_n 0, 1) := by decide +kernel
theorem dX12_waitsFor_11 : decode cX12_waitsFor 11 = .ok (.dup, 1) := by decide +kernel
theorem dX12_waitsFor_12 : decode cX12_waitsFor 12 = .ok (.getfield 221, 3) := by decide +kernel
theorem dX12_waitsFor_15 : decode cX12_waitsFor 15 = .ok (.iconst 1, 1) := by decide +kernel
theorem dX12_waitsFor_16 : decode cX12_waitsFor 16 = .ok (.iadd, 1) := by decide +kernel
theorem dX12_waitsFor_17 : decode cX12_waitsFor 17 = .ok (.putfield 221, 3) := by decide +kernel
theorem dX12_waitsFor_20 : decode cX12_waitsFor 20 = .ok (.return_, 1) := by decide +kernel
def X12_waitsFor (e : mm_E) (a0 : Nat) (i1 : Int32) (m : mm_V) : Option mm_V := (mm_gr e.1 m 12 75 a0 35).bind fun c1 => (mm_gi e.1 m 12 75 a0 26).bind fun x2 => (mm_si e.1 m c1 x2 i1).bind fun m3 => (mm_gi e.1 m3 12 75 a0 26).bind fun x4 => (mm_pf e.1 m3 12 75 a0 26 (.int (x4 + (1 : Int32)))).bind fun m5 => some m5
theorem X12_waitsFor_ok {K : mm_K} {nx : Option Nat} {e : mm_E} (hz : e.2.1 = K.2.2.2.2) {d : Nat} (hd : 0 ≤ d) {a0 : Nat} {i1 : Int32} (h0 : e.1 a0 = some (12, 75)) {m : mm_V} {r : mm_V} (hr : X12_waitsFor e a0 i1 m = some r) : mm_Cn K MX12_waitsFor d (mm_Fv e.1 nx r) [.ref a0, .int i1] (e.1, m) nx := by
  refine mm_entry (by decide) (Nat.le_of_ble_eq_true rfl) rfl (fun hok => ?_)
  unfold X12_waitsFor at hr
  refine mg_weak (L' := [some (.ref a0), some (.int i1)]) (mm_le_s (mm_le_s mm_le_0)) ?_
  refine ml_aload_n (pc := 0) dX12_waitsFor_0 rfl mm_get_0 ?_
  refine mb_gr (pc := 1) dX12_waitsFor_1 fl_X12_47 hr (fun c1 hr => ?_)
  refine ml_aload_n (pc := 4) dX12_waitsFor_4 rfl mm_get_0 ?_
  refine mb_gi (pc := 5) dX12_waitsFor_5 fl_X12_221 hr (fun x2 hr => ?_)
  refine ml_iload_n (pc := 8) dX12_waitsFor_8 rfl (mm_get_s mm_get_0) ?_
  refine mb_si (pc := 9) dX12_waitsFor_9 hr (fun m3 hr => ?_)
  refine ml_aload_n (pc := 10) dX12_waitsFor_10 rfl mm_get_0 ?_
  refine mg_dup (pc := 11) dX12_waitsFor_11 rfl ?_
  refine mb_gi (pc := 12) dX12_waitsFor_12 fl_X12_221 hr (fun x4 hr => ?_)
  refine mg_iconst (pc := 15) dX12_waitsFor_15 kc_1 ?_
  refine mg_iadd (pc := 16) dX12_waitsFor_16 ?_
  refine mb_pi (pc := 17) dX12_waitsFor_17 fp_X12_221 hr (fun m5 hr => ?_)
  exact mb_vret dX12_waitsFor_20 rfl hr
theorem dX12_part_0 : decode cX12_part 0 = .ok (.aload_n 0, 1) := by decide +kernel
theorem dX12_part_1 : decode cX12_part 1 = .ok (.invokevirtual 211, 3) := by decide +kernel
theorem dX12_part_4 : decode cX12_part 4 = .ok (.ifCond .ne 4, 3) := by decide +kernel
theorem dX12_part_7 : decode cX12_part 7 = .ok (.return_, 1) := by decide +kernel
theorem dX12_part_8 : decode cX12_part 8 = .ok (.aload_n 0, 1) := by decide +kernel
theorem dX12_part_9 : decode cX12_part 9 = .ok (.getfield 185, 3) := by decide +kernel
theorem dX12_part_12 : decode cX12_part 12 = .ok (.iconst 2, 1) := by decide +kernel
theorem dX12_part_13 : decode cX12_part 13 = .ok (.if_icmp .ne 32, 3) := by decide +kernel
theorem dX12_part_16 : decode cX12_part 16 = .ok (.aload_n 0, 1) := by decide +kernel
theorem dX12_part_17 : decode cX12_part 17 = .ok (.getfield 195, 3) := by decide +kernel
theorem dX12_part_20 : decode cX12_part 20 = .ok (.iconst 4, 1) := by decide +kernel
theorem dX12_part_21 : decode cX12_part 21 = .ok (.if_icmp .le 8, 3) := by decide +kernel
theorem dX12_part_24 : decode cX12_part 24 = .ok (.aload_n 0, 1) := by decide +kernel
theorem dX12_part_25 : decode cX12_part 25 = .ok (.iconst 2, 1) := by decide +kernel
theorem dX12_part_26 : decode cX12_part 26 = .ok (.invokevirtual 218, 3) := by decide +kernel
theorem dX12_part_29 : decode cX12_part 29 = .ok (.aload_n 0, 1) := by decide +kernel
theorem dX12_part_30 : decode cX12_part 30 = .ok (.iconst 1, 1) := by decide +kernel
theorem dX12_part_31 : decode cX12_part 31 = .ok (.invokevirtual 230, 3) := by decide +kernel
theorem dX12_part_34 : decode cX12_part 34 = .ok (.aload_n 0, 1) := by decide +kernel
theorem dX12_part_35 : decode cX12_part 35 = .ok (.aload_n 0, 1) := by decide +kernel
theorem dX12_part_36 : decode cX12_part 36 = .ok (.getfield 179, 3) := by decide +kernel
theorem dX12_part_39 : decode cX12_part 39 = .ok (.invokevirtual 230, 3) := by decide +kernel
theorem dX12_part_42 : decode cX12_part 42 = .ok (.goto 48, 3) := by decide +kernel
theorem dX12_part_45 : decode cX12_part 45 = .ok (.aload_n 0, 1) := by decide +kernel
theorem dX12_part_46 : decode cX12_part 46 = .ok (.getfield 185, 3) := by decide +kernel
theorem dX12_part_49 : decode cX12_part 49 = .ok (.iconst 1, 1) := by decide +kernel
theorem dX12_part_50 : decode cX12_part 50 = .ok (.if_icmp .ne 35, 3) := by decide +kernel
theorem dX12_part_53 : decode cX12_part 53 = .ok (.aload_n 0, 1) := by decide +kernel
theorem dX12_part_54 : decode cX12_part 54 = .ok (.invokevirtual 233, 3) := by decide +kernel
theorem dX12_part_57 : decode cX12_part 57 = .ok (.istore_n 1, 1) := by decide +kernel
theorem dX12_part_58 : decode cX12_part 58 = .ok (.iload_n 1, 1) := by decide +kernel
theorem dX12_part_59 : decode cX12_part 59 = .ok (.ifCond .lt 8, 3) := by decide +kernel
theorem dX12_part_62 : decode cX12_part 62 = .ok (.iload_n 1, 1) := by decide +kernel
theorem dX12_part_63 : decode cX12_part 63 = .ok (.iconst 5, 1) := by decide +kernel
theorem dX12_part_64 : decode cX12_part 64 = .ok (.if_icmp .le 8, 3) := by decide +kernel
theorem dX12_part_67 : decode cX12_part 67 = .ok (.aload_n 0, 1) := by decide +kernel
theorem dX12_part_68 : decode cX12_part 68 = .ok (.iconst 3, 1) := by decide +kernel
theorem dX12_part_69 : decode cX12_part 69 = .ok (.invokevirtual 218, 3) := by decide +kernel
theorem dX12_part_72 : decode cX12_part 72 = .ok (.aload_n 0, 1) := by decide +kernel
theorem dX12_part_73 : decode cX12_part 73 = .ok (.iconst 2, 1) := by decide +kernel
theorem dX12_part_74 : decode cX12_part 74 = .ok (.invokevirtual 230, 3) := by decide +kernel
theorem dX12_part_77 : decode cX12_part 77 = .ok (.aload_n 0, 1) := by decide +kernel
theorem dX12_part_78 : decode cX12_part 78 = .ok (.iload_n 1, 1) := by decide +kernel
theorem dX12_part_79 : decode cX12_part 79 = .ok (.invokevirtual 230, 3) := by decide +kernel
theorem dX12_part_82 : decode cX12_part 82 = .ok (.goto 8, 3) := by decide +kernel
theorem dX12_part_85 : decode cX12_part 85 = .ok (.aload_n 0, 1) := by decide +kernel
theorem dX12_part_86 : decode cX12_part 86 = .ok (.iconst 1, 1) := by decide +kernel
theorem dX12_part_87 : decode cX12_part 87 = .ok (.invokevirtual 218, 3) := by decide +kernel
theorem dX12_part_90 : decode cX12_part 90 = .ok (.aload_n 0, 1) := by decide +kernel
theorem dX12_part_91 : decode cX12_part 91 = .ok (.invokevirtual 211, 3) := by decide +kernel
theorem dX12_part_94 : decode cX12_part 94 = .ok (.ifCond .eq 7, 3) := by decide +kernel
theorem dX12_part_97 : decode cX12_part 97 = .ok (.aload_n 0, 1) := by decide +kernel
theorem dX12_part_98 : decode cX12_part 98 = .ok (.invokevirtual 215, 3) := by decide +kernel
theorem dX12_part_101 : decode cX12_part 101 = .ok (.return_, 1) := by decide +kernel
def X12_part_b101 (e : mm_E) (m : mm_V) : Option mm_V := some m
theorem X12_part_b101_ok {K : mm_K} {nx : Option Nat} {e : mm_E} (hz : e.2.1 = K.2.2.2.2) {d : Nat} (hd : 3 ≤ d) {a0 : Nat} (h0 : e.1 a0 = some (12, 75)) {m : mm_V} {r : mm_V} (hr : X12_part_b101 e m = some r) : mm_G K MX12_part d (mm_Fv e.1 nx r) 101 [none, none] [] (e.1, m) nx 0 0 := by
  obtain ⟨d, rfl⟩ : ∃ d', d = d' + 1 := ⟨d - 1, by omega⟩
  unfold X12_part_b101 at hr
  exact mb_vret dX12_part_101 rfl hr
def X12_part_b90 (e : mm_E) (a0 : Nat) (m : mm_V) : Option mm_V := (X12_isGood e a0 m).bind fun r1 => if r1.1 = 0 then (X12_part_b101 e   r1.2) else ((X12_goes e a0 r1.2).bind fun r2 => X12_part_b101 e   r2)
theorem X12_part_b90_ok {K : mm_K} {nx : Option Nat} {e : mm_E} (hz : e.2.1 = K.2.2.2.2) {d : Nat} (hd : 3 ≤ d) {a0 : Nat} (h0 : e.1 a0 = some (12, 75)) {m : mm_V} {r : mm_V} (hr : X12_part_b90 e a0 m = some r) : mm_G K MX12_part d (mm_Fv e.1 nx r) 90 [some (.ref a0), none] [] (e.1, m) nx 0 0 := by
  obtain ⟨d, rfl⟩ : ∃ d', d = d' + 1 := ⟨d - 1, by omega⟩
  unfold X12_part_b90 at hr
  refine ml_aload_n (pc := 90) dX12_part_90 rfl mm_get_0 ?_
  refine mb_cVi (pc := 91) (As := []) (rest := []) dX12_part_91 cw_X12_211 h0 hr (fun v hv => X12_isGood_ok hz (by omega) h0 hv) rfl (Nat.le_of_ble_eq_true rfl) (Nat.zero_le _) (Nat.zero_le _) (fun r1 hr => ?_)
  refine mb_if_eq (pc := 94) 101 dX12_part_94 rfl hr (fun hr => ?_) (fun hr => ?_)
  · exact mg_weak (mm_le_n (mm_le_n mm_le_0)) (X12_part_b101_ok hz hd h0 hr)
  · refine ml_aload_n (pc := 97) dX12_part_97 rfl mm_get_0 ?_
    refine mb_cVv (pc := 98) (As := []) (rest := []) dX12_part_98 cw_X12_215 h0 hr (fun v hv => X12_goes_ok hz (by omega) h0 hv) rfl (Nat.le_of_ble_eq_true rfl) (Nat.zero_le _) (Nat.zero_le _) (fun r2 hr => ?_)
    exact mg_weak (mm_le_n (mm_le_n mm_le_0)) (X12_part_b101_ok hz hd h0 hr)
def X12_part_b72 (e : mm_E) (a0 : Nat) (i1 : Int32) (m : mm_V) : Option mm_V := (X12_puts e a0 (2 : Int32) m).bind fun r1 => (X12_puts e a0 i1 r1).bind fun r2 => X12_part_b90 e a0  r2
theorem X12_part_b72_ok {K : mm_K} {nx : Option Nat} {e : mm_E} (hz : e.2.1 = K.2.2.2.2) {d : Nat} (hd : 3 ≤ d) {a0 : Nat} {i1 : Int32} (h0 : e.1 a0 = some (12, 75)) {m : mm_V} {r : mm_V} (hr : X12_part_b72 e a0 i1 m = some r) : mm_G K MX12_part d (mm_Fv e.1 nx r) 72 [some (.ref a0), some (.int i1)] [] (e.1, m) nx 0 0 := by
  obtain ⟨d, rfl⟩ : ∃ d', d = d' + 1 := ⟨d - 1, by omega⟩
  unfold X12_part_b72 at hr
  refine ml_aload_n (pc := 72) dX12_part_72 rfl mm_get_0 ?_
  refine mg_iconst (pc := 73) dX12_part_73 kc_2 ?_
  refine mb_cVv (pc := 74) (As := [.int (2 : Int32)]) (rest := []) dX12_part_74 cw_X12_230 h0 hr (fun v hv => X12_puts_ok hz (by omega) h0 hv) rfl (Nat.le_of_ble_eq_true rfl) (Nat.zero_le _) (Nat.zero_le _) (fun r1 hr => ?_)
  refine ml_aload_n (pc := 77) dX12_part_77 rfl mm_get_0 ?_
  refine ml_iload_n (pc := 78) dX12_part_78 rfl (mm_get_s mm_get_0) ?_
  refine mb_cVv (pc := 79) (As := [.int i1]) (rest := []) dX12_part_79 cw_X12_230 h0 hr (fun v hv => X12_puts_ok hz (by omega) h0 hv) rfl (Nat.le_of_ble_eq_true rfl) (Nat.zero_le _) (Nat.zero_le _) (fun r2 hr => ?_)
  refine mg_goto (pc := 82) 90 dX12_part_82 rfl ?_
  exact mg_weak (mm_le_s (mm_le_n mm_le_0)) (X12_part_b90_ok hz hd h0 hr)
def X12_part_b67 (e : mm_E) (a0 : Nat) (i1 : Int32) (m : mm_V) : Option mm_V := (X12_wrong e a0 (3 : Int32) m).bind fun r1 => X12_part_b72 e a0 i1  r1
theorem X12_part_b67_ok {K : mm_K} {nx : Option Nat} {e : mm_E} (hz : e.2.1 = K.2.2.2.2) {d : Nat} (hd : 3 ≤ d) {a0 : Nat} {i1 : Int32} (h0 : e.1 a0 = some (12, 75)) {m : mm_V} {r : mm_V} (hr : X12_part_b67 e a0 i1 m = some r) : mm_G K MX12_part d (mm_Fv e.1 nx r) 67 [some (.ref a0), some (.int i1)] [] (e.1, m) nx 0 0 := by
  obtain ⟨d, rfl⟩ : ∃ d', d = d' + 1 := ⟨d - 1, by omega⟩
  unfold X12_part_b67 at hr
  refine ml_aload_n (pc := 67) dX12_part_67 rfl mm_get_0 ?_
  refine mg_iconst (pc := 68) dX12_part_68 kc_3 ?_
  refine mb_cVv (pc := 69) (As := [.int (3 : Int32)]) (rest := []) dX12_part_69 cw_X12_218 h0 hr (fun v hv => X12_wrong_ok hz (by omega) h0 hv) rfl (Nat.le_of_ble_eq_true rfl) (Nat.zero_le _) (Nat.zero_le _) (fun r1 hr => ?_)
  exact mg_weak (mm_le_s (mm_le_s mm_le_0)) (X12_part_b72_ok hz hd h0 hr)
def X12_part_b29 (e : mm_E) (a0 : Nat) (m : mm_V) : Option mm_V := (X12_puts e a0 (1 : Int32) m).bind fun r1 => (mm_gi e.1 r1 12 75 a0 18).bind fun x2 => (X12_puts e a0 x2 r1).bind fun r3 => X12_part_b90 e a0  r3
theorem X12_part_b29_ok {K : mm_K} {nx : Option Nat} {e : mm_E} (hz : e.2.1 = K.2.2.2.2) {d : Nat} (hd : 3 ≤ d) {a0 : Nat} (h0 : e.1 a0 = some (12, 75)) {m : mm_V} {r : mm_V} (hr : X12_part_b29 e a0 m = some r) : mm_G K MX12_part d (mm_Fv e.1 nx r) 29 [some (.ref a0), none] [] (e.1, m) nx 0 0 := by
  obtain ⟨d, rfl⟩ : ∃ d', d = d' + 1 := ⟨d - 1, by omega⟩
  unfold X12_part_b29 at hr
  refine ml_aload_n (pc := 29) dX12_part_29 rfl mm_get_0 ?_
  refine mg_iconst (pc := 30) dX12_part_30 kc_1 ?_
  refine mb_cVv (pc := 31) (As := [.int (1 : Int32)]) (rest := []) dX12_part_31 cw_X12_230 h0 hr (fun v hv => X12_puts_ok hz (by omega) h0 hv) rfl (Nat.le_of_ble_eq_true rfl) (Nat.zero_le _) (Nat.zero_le _) (fun r1 hr => ?_)
  refine ml_aload_n (pc := 34) dX12_part_34 rfl mm_get_0 ?_
  refine ml_aload_n (pc := 35) dX12_part_35 rfl mm_get_0 ?_
  refine mb_gi (pc := 36) dX12_part_36 fl_X12_179 hr (fun x2 hr => ?_)
  refine mb_cVv (pc := 39) (As := [.int x2]) (rest := []) dX12_part_39 cw_X12_230 h0 hr (fun v hv => X12_puts_ok hz (by omega) h0 hv) rfl (Nat.le_of_ble_eq_true rfl) (Nat.zero_le _) (Nat.zero_le _) (fun r3 hr => ?_)
  refine mg_goto (pc := 42) 90 dX12_part_42 rfl ?_
  exact mg_weak (mm_le_s (mm_le_n mm_le_0)) (X12_part_b90_ok hz hd h0 hr)
def X12_part (e : mm_E) (a0 : Nat) (m : mm_V) : Option mm_V := (X12_isGood e a0 m).bind fun r1 => if ¬ r1.1 = 0 then ((mm_gi e.1 r1.2 12 75 a0 15).bind fun x2 => if ¬ x2 = (2 : Int32) then ((mm_gi e.1 r1.2 12 75 a0 15).bind fun x3 => if ¬ x3 = (1 : Int32) then ((X12_wrong e a0 (1 : Int32) r1.2).bind fun r4 => X12_part_b90 e a0  r4) else ((X12_knownWord e a0 r1.2).bind fun r5 => if r5.1 < 0 then (X12_part_b67 e a0 r5.1  r5.2) else (if r5.1 ≤ (5 : Int32) then (X12_part_b72 e a0 r5.1  r5.2) else (X12_part_b67 e a0 r5.1  r5.2)))) else ((mm_gi e.1 r1.2 12 75 a0 17).bind fun x6 => if x6 ≤ (4 : Int32) then (X12_part_b29 e a0  r1.2) else ((X12_wrong e a0 (2 : Int32) r1.2).bind fun r7 => X12_part_b29 e a0  r7))) else (some r1.2)
theorem X12_part_ok {K : mm_K} {nx : Option Nat} {e : mm_E} (hz : e.2.1 = K.2.2.2.2) {d : Nat} (hd : 3 ≤ d) {a0 : Nat} (h0 : e.1 a0 = some (12, 75)) {m : mm_V} {r : mm_V} (hr : X12_part e a0 m = some r) : mm_Cn K MX12_part d (mm_Fv e.1 nx r) [.ref a0] (e.1, m) nx := by
  obtain ⟨d, rfl⟩ : ∃ d', d = d' + 1 := ⟨d - 1, by omega⟩
  refine mm_entry (by decide) (Nat.le_of_ble_eq_true rfl) rfl (fun hok => ?_)
  unfold X12_part at hr
  refine mg_weak (L' := [some (.ref a0), none]) (mm_le_s (mm_le_e mm_le_0)) ?_
  refine ml_aload_n (pc := 0) dX12_part_0 rfl mm_get_0 ?_
  refine mb_cVi (pc := 1) (As := []) (rest := []) dX12_part_1 cw_X12_211 h0 hr (fun v hv => X12_isGood_ok hz (by omega) h0 hv) rfl (Nat.le_of_ble_eq_true rfl) (Nat.zero_le _) (Nat.zero_le _) (fun r1 hr => ?_)
  refine mb_if_ne (pc := 4) 8 dX12_part_4 rfl hr (fun hr => ?_) (fun hr => ?_)
  · refine ml_aload_n (pc := 8) dX12_part_8 rfl mm_get_0 ?_
    refine mb_gi (pc := 9) dX12_part_9 fl_X12_185 hr (fun x2 hr => ?_)
    refine mg_iconst (pc := 12) dX12_part_12 kc_2 ?_
    refine mb_icmp_ne (pc := 13) 45 dX12_part_13 rfl hr (fun hr => ?_) (fun hr => ?_)
    · refine ml_aload_n (pc := 45) dX12_part_45 rfl mm_get_0 ?_
      refine mb_gi (pc := 46) dX12_part_46 fl_X12_185 hr (fun x3 hr => ?_)
      refine mg_iconst (pc := 49) dX12_part_49 kc_1 ?_
      refine mb_icmp_ne (pc := 50) 85 dX12_part_50 rfl hr (fun hr => ?_) (fun hr => ?_)
      · refine ml_aload_n (pc := 85) dX12_part_85 rfl mm_get_0 ?_
        refine mg_iconst (pc := 86) dX12_part_86 kc_1 ?_
        refine mb_cVv (pc := 87) (As := [.int (1 : Int32)]) (rest := []) dX12_part_87 cw_X12_218 h0 hr (fun v hv => X12_wrong_ok hz (by omega) h0 hv) rfl (Nat.le_of_ble_eq_true rfl) (Nat.zero_le _) (Nat.zero_le _) (fun r4 hr => ?_)
        exact mg_weak (mm_le_s (mm_le_n mm_le_0)) (X12_part_b90_ok hz hd h0 hr)
      · refine ml_aload_n (pc := 53) dX12_part_53 rfl mm_get_0 ?_
        refine mb_cVi (pc := 54) (As := []) (rest := []) dX12_part_54 cw_X12_233 h0 hr (fun v hv => X12_knownWord_ok hz (by omega) h0 hv) rfl (Nat.le_of_ble_eq_true rfl) (Nat.zero_le _) (Nat.zero_le _) (fun r5 hr => ?_)
        refine ml_istore_n (pc := 57) dX12_part_57 rfl (Nat.le_of_ble_eq_true rfl) mm_st1_r ?_
        refine ml_iload_n (pc := 58) dX12_part_58 rfl (mm_get_s mm_get_0) ?_
        refine mb_if_lt (pc := 59) 67 dX12_part_59 rfl hr (fun hr => ?_) (fun hr => ?_)
        · exact mg_weak (mm_le_s (mm_le_s mm_le_0)) (X12_part_b67_ok hz hd h0 hr)
        · refine ml_iload_n (pc := 62) dX12_part_62 rfl (mm_get_s mm_get_0) ?_
          refine mg_iconst (pc := 63) dX12_part_63 kc_5 ?_
          refine mb_icmp_le (pc := 64) 72 dX12_part_64 rfl hr (fun hr => ?_) (fun hr => ?_)
          · exact mg_weak (mm_le_s (mm_le_s mm_le_0)) (X12_part_b72_ok hz hd h0 hr)
          · exact mg_weak (mm_le_s (mm_le_s mm_le_0)) (X12_part_b67_ok hz hd h0 hr)
    · refine ml_aload_n (pc := 16) dX12_part_16 rfl mm_get_0 ?_
      refine mb_gi (pc := 17) dX12_part_17 fl_X12_195 hr (fun x6 hr => ?_)
      refine mg_iconst (pc := 20) dX12_part_20 kc_4 ?_
      refine mb_icmp_le (pc := 21) 29 dX12_part_21 rfl hr (fun hr => ?_) (fun hr => ?_)
      · exact mg_weak (mm_le_s (mm_le_n mm_le_0)) (X12_part_b29_ok hz hd h0 hr)
      · refine ml_aload_n (pc := 24) dX12_part_24 rfl mm_get_0 ?_
        refine mg_iconst (pc := 25) dX12_part_25 kc_2 ?_
        refine mb_cVv (pc := 26) (As := [.int (2 : Int32)]) (rest := []) dX12_part_26 cw_X12_218 h0 hr (fun v hv => X12_wrong_ok hz (by omega) h0 hv) rfl (Nat.le_of_ble_eq_true rfl) (Nat.zero_le _) (Nat.zero_le _) (fun r7 hr => ?_)
        exact mg_weak (mm_le_s (mm_le_n mm_le_0)) (X12_part_b29_ok hz hd h0 hr)
  · exact mb_vret dX12_part_7 rfl hr
theorem dX12_deeper_0 : decode cX12_deeper 0 = .ok (.aload_n 0, 1) := by decide +kernel
theorem dX12_deeper_1 : decode cX12_deeper 1 = .ok (.getfield 237, 3) := by decide +kernel
theorem dX12_deeper_4 : decode cX12_deeper 4 = .ok (.bipush 6, 2) := by decide +kernel
theorem dX12_deeper_6 : decode cX12_deeper 6 = .ok (.if_icmp .ge 24, 3) := by decide +kernel
theorem dX12_deeper_9 : decode cX12_deeper 9 = .ok (.aload_n 0, 1) := by decide +kernel
theorem dX12_deeper_10 : decode cX12_deeper 10 = .ok (.dup, 1) := by decide +kernel
theorem dX12_deeper_11 : decode cX12_deeper 11 = .ok (.getfield 237, 3) := by decide +kernel
theorem dX12_deeper_14 : decode cX12_deeper 14 = .ok (.iconst 1, 1) := by decide +kernel
theorem dX12_deeper_15 : decode cX12_deeper 15 = .ok (.iadd, 1) := by decide +kernel
theorem dX12_deeper_16 : decode cX12_deeper 16 = .ok (.putfield 237, 3) := by decide +kernel
theorem dX12_deeper_19 : decode cX12_deeper 19 = .ok (.aload_n 0, 1) := by decide +kernel
theorem dX12_deeper_20 : decode cX12_deeper 20 = .ok (.getfield 53, 3) := by decide +kernel
theorem dX12_deeper_23 : decode cX12_deeper 23 = .ok (.aload_n 0, 1) := by decide +kernel
theorem dX12_deeper_24 : decode cX12_deeper 24 = .ok (.getfield 237, 3) := by decide +kernel
theorem dX12_deeper_27 : decode cX12_deeper 27 = .ok (.iconst 0, 1) := by decide +kernel
theorem dX12_deeper_28 : decode cX12_deeper 28 = .ok (.bastore, 1) := by decide +kernel
theorem dX12_deeper_29 : decode cX12_deeper 29 = .ok (.return_, 1) := by decide +kernel
theorem dX12_deeper_30 : decode cX12_deeper 30 = .ok (.aload_n 0, 1) := by decide +kernel
theorem dX12_deeper_31 : decode cX12_deeper 31 = .ok (.aload_n 0, 1) := by decide +kernel
theorem dX12_deeper_32 : decode cX12_deeper 32 = .ok (.getfield 185, 3) := by decide +kernel
theorem dX12_deeper_35 : decode cX12_deeper 35 = .ok (.iconst 2, 1) := by decide +kernel
theorem dX12_deeper_36 : decode cX12_deeper 36 = .ok (.if_icmp .eq 20, 3) := by decide +kernel
theorem dX12_deeper_39 : decode cX12_deeper 39 = .ok (.aload_n 0, 1) := by decide +kernel
theorem dX12_deeper_40 : decode cX12_deeper 40 = .ok (.getfield 185, 3) := by decide +kernel
theorem dX12_deeper_43 : decode cX12_deeper 43 = .ok (.iconst 1, 1) := by decide +kernel
theorem dX12_deeper_44 : decode cX12_deeper 44 = .ok (.if_icmp .eq 12, 3) := by decide +kernel
theorem dX12_deeper_47 : decode cX12_deeper 47 = .ok (.aload_n 0, 1) := by decide +kernel
theorem dX12_deeper_48 : decode cX12_deeper 48 = .ok (.bipush 40, 2) := by decide +kernel
theorem dX12_deeper_50 : decode cX12_deeper 50 = .ok (.invokevirtual 240, 3) := by decide +kernel
theorem dX12_deeper_53 : decode cX12_deeper 53 = .ok (.ifCond .eq 7, 3) := by decide +kernel
theorem dX12_deeper_56 : decode cX12_deeper 56 = .ok (.iconst 2, 1) := by decide +kernel
theorem dX12_deeper_57 : decode cX12_deeper 57 = .ok (.goto 4, 3) := by decide +kernel
theorem dX12_deeper_60 : decode cX12_deeper 60 = .ok (.iconst 1, 1) := by decide +kernel
theorem dX12_deeper_61 : decode cX12_deeper 61 = .ok (.invokevirtual 218, 3) := by decide +kernel
theorem dX12_deeper_64 : decode cX12_deeper 64 = .ok (.return_, 1) := by decide +kernel
def X12_deeper_b61 (e : mm_E) (t0 : Nat) (t1 : Int32) (m : mm_V) : Option mm_V := if e.1 t0 = some (12, 75) then ((X12_wrong e t0 t1 m).bind fun r1 => some r1) else none
theorem X12_deeper_b61_ok {K : mm_K} {nx : Option Nat} {e : mm_E} (hz : e.2.1 = K.2.2.2.2) {d : Nat} (hd : 1 ≤ d) {t0 : Nat} {t1 : Int32} {a0 : Nat} (h0 : e.1 a0 = some (12, 75)) {m : mm_V} {r : mm_V} (hr : X12_deeper_b61 e t0 t1 m = some r) : mm_G K MX12_deeper d (mm_Fv e.1 nx r) 61 [none] [.int t1, .ref t0] (e.1, m) nx 0 0 := by
  obtain ⟨d, rfl⟩ : ∃ d', d = d' + 1 := ⟨d - 1, by omega⟩
  unfold X12_deeper_b61 at hr
  refine mb_ck hr (fun hb2 hr => ?_)
  refine mb_cVv (pc := 61) (As := [.int t1]) (rest := []) dX12_deeper_61 cw_X12_218 hb2 hr (fun v hv => X12_wrong_ok hz (by omega) hb2 hv) rfl (Nat.le_of_ble_eq_true rfl) (Nat.zero_le _) (Nat.zero_le _) (fun r1 hr => ?_)
  exact mb_vret dX12_deeper_64 rfl hr
def X12_deeper_b56 (e : mm_E) (t0 : Nat) (m : mm_V) : Option mm_V := X12_deeper_b61 e  t0 (2 : Int32) m
theorem X12_deeper_b56_ok {K : mm_K} {nx : Option Nat} {e : mm_E} (hz : e.2.1 = K.2.2.2.2) {d : Nat} (hd : 1 ≤ d) {t0 : Nat} {a0 : Nat} (h0 : e.1 a0 = some (12, 75)) {m : mm_V} {r : mm_V} (hr : X12_deeper_b56 e t0 m = some r) : mm_G K MX12_deeper d (mm_Fv e.1 nx r) 56 [none] [.ref t0] (e.1, m) nx 0 0 := by
  obtain ⟨d, rfl⟩ : ∃ d', d = d' + 1 := ⟨d - 1, by omega⟩
  unfold X12_deeper_b56 at hr
  refine mg_iconst (pc := 56) dX12_deeper_56 kc_2 ?_
  refine mg_goto (pc := 57) 61 dX12_deeper_57 rfl ?_
  exact mg_weak (mm_le_n mm_le_0) (X12_deeper_b61_ok hz hd h0 hr)
def X12_deeper (e : mm_E) (a0 : Nat) (m : mm_V) : Option mm_V := (mm_gi e.1 m 12 75 a0 27).bind fun x1 => if (6 : Int32) ≤ x1 then ((mm_gi e.1 m 12 75 a0 15).bind fun x2 => if x2 = (2 : Int32) then (X12_deeper_b56 e  a0 m) else ((mm_gi e.1 m 12 75 a0 15).bind fun x3 => if x3 = (1 : Int32) then (X12_deeper_b56 e  a0 m) else ((X12_isSign e a0 (40 : Int32) m).bind fun r4 => if r4.1 = 0 then (X12_deeper_b61 e  a0 (1 : Int32) r4.2) else (X12_deeper_b56 e  a0 r4.2)))) else ((mm_gi e.1 m 12 75 a0 27).bind fun x5 => (mm_pf e.1 m 12 75 a0 27 (.int (x5 + (1 : Int32)))).bind fun m6 => (mm_gr e.1 m6 12 75 a0 37).bind fun c7 => (mm_gi e.1 m6 12 75 a0 27).bind fun x8 => (mm_sz e.1 m6 c7 x8 (0 : Int32)).bind fun m9 => some m9)
theorem X12_deeper_ok {K : mm_K} {nx : Option Nat} {e : mm_E} (hz : e.2.1 = K.2.2.2.2) {d : Nat} (hd : 1 ≤ d) {a0 : Nat} (h0 : e.1 a0 = some (12, 75)) {m : mm_V} {r : mm_V} (hr : X12_deeper e a0 m = some r) : mm_Cn K MX12_deeper d (mm_Fv e.1 nx r) [.ref a0] (e.1, m) nx := by
  obtain ⟨d, rfl⟩ : ∃ d', d = d' + 1 := ⟨d - 1, by omega⟩
  refine mm_entry (by decide) (Nat.le_of_ble_eq_true rfl) rfl (fun hok => ?_)
  unfold X12_deeper at hr
  refine mg_weak (L' := [some (.ref a0)]) (mm_le_s mm_le_0) ?_
  refine ml_aload_n (pc := 0) dX12_deeper_0 rfl mm_get_0 ?_
  refine mb_gi (pc := 1) dX12_deeper_1 fl_X12_237 hr (fun x1 hr => ?_)
  refine mg_bipush (pc := 4) dX12_deeper_4 kb_6 ?_
  refine mb_icmp_ge (pc := 6) 30 dX12_deeper_6 rfl hr (fun hr => ?_) (fun hr => ?_)
  · refine ml_aload_n (pc := 30) dX12_deeper_30 rfl mm_get_0 ?_
    refine ml_aload_n (pc := 31) dX12_deeper_31 rfl mm_get_0 ?_
    refine mb_gi (pc := 32) dX12_deeper_32 fl_X12_185 hr (fun x2 hr => ?_)
    refine mg_iconst (pc := 35) dX12_deeper_35 kc_2 ?_
    refine mb_icmp_eq (pc := 36) 56 dX12_deeper_36 rfl hr (fun hr => ?_) (fun hr => ?_)
    · exact mg_weak (mm_le_n mm_le_0) (X12_deeper_b56_ok hz hd h0 hr)
    · refine ml_aload_n (pc := 39) dX12_deeper_39 rfl mm_get_0 ?_
      refine mb_gi (pc := 40) dX12_deeper_40 fl_X12_185 hr (fun x3 hr => ?_)
      refine mg_iconst (pc := 43) dX12_deeper_43 kc_1 ?_
      refine mb_icmp_eq (pc := 44) 56 dX12_deeper_44 rfl hr (fun hr => ?_) (fun hr => ?_)
      · exact mg_weak (mm_le_n mm_le_0) (X12_deeper_b56_ok hz hd h0 hr)
      · refine ml_aload_n (pc := 47) dX12_deeper_47 rfl mm_get_0 ?_
        refine mg_bipush (pc := 48) dX12_deeper_48 kb_40 ?_
        refine mb_cVi (pc := 50) (As := [.int (40 : Int32)]) (rest := [.ref a0]) dX12_deeper_50 cw_X12_240 h0 hr (fun v hv => X12_isSign_ok hz (by omega) h0 hv) rfl (Nat.le_of_ble_eq_true rfl) (Nat.zero_le _) (Nat.zero_le _) (fun r4 hr => ?_)
        refine mb_if_eq (pc := 53) 60 dX12_deeper_53 rfl hr (fun hr => ?_) (fun hr => ?_)
        · refine mg_iconst (pc := 60) dX12_deeper_60 kc_1 ?_
          exact mg_weak (mm_le_n mm_le_0) (X12_deeper_b61_ok hz hd h0 hr)
        · exact mg_weak (mm_le_n mm_le_0) (X12_deeper_b56_ok hz hd h0 hr)
  · refine ml_aload_n (pc := 9) dX12_deeper_9 rfl mm_get_0 ?_
    refine mg_dup (pc := 10) dX12_deeper_10 rfl ?_
    refine mb_gi (pc := 11) dX12_deeper_11 fl_X12_237 hr (fun x5 hr => ?_)
    refine mg_iconst (pc := 14) dX12_deeper_14 kc_1 ?_
    refine mg_iadd (pc := 15) dX12_deeper_15 ?_
    refine mb_pi (pc := 16) dX12_deeper_16 fp_X12_237 hr (fun m6 hr => ?_)
    refine ml_aload_n (pc := 19) dX12_deeper_19 rfl mm_get_0 ?_
    refine mb_gr (pc := 20) dX12_deeper_20 fl_X12_53 hr (fun c7 hr => ?_)
    refine ml_aload_n (pc := 23) dX12_deeper_23 rfl mm_get_0 ?_
    refine mb_gi (pc := 24) dX12_deeper_24 fl_X12_237 hr (fun x8 hr => ?_)
    refine mg_iconst (pc := 27) dX12_deeper_27 kc_0 ?_
    refine mb_sz (pc := 28) dX12_deeper_28 hr (fun m9 hr => ?_)
    exact mb_vret dX12_deeper_29 rfl hr
theorem dX12_operand_0 : decode cX12_operand 0 = .ok (.iload_n 1, 1) := by decide +kernel
theorem dX12_operand_1 : decode cX12_operand 1 = .ok (.istore_n 2, 1) := by decide +kernel
theorem dX12_operand_2 : decode cX12_operand 2 = .ok (.iconst 1, 1) := by decide +kernel
theorem dX12_operand_3 : decode cX12_operand 3 = .ok (.istore_n 3, 1) := by decide +kernel
theorem dX12_operand_4 : decode cX12_operand 4 = .ok (.iload_n 3, 1) := by decide +kernel
theorem dX12_operand_5 : decode cX12_operand 5 = .ok (.ifCond .eq 115, 3) := by decide +kernel
theorem dX12_operand_8 : decode cX12_operand 8 = .ok (.aload_n 0, 1) := by decide +kernel
theorem dX12_operand_9 : decode cX12_operand 9 = .ok (.invokevirtual 211, 3) := by decide +kernel
theorem dX12_operand_12 : decode cX12_operand 12 = .ok (.ifCond .eq 108, 3) := by decide +kernel
theorem dX12_operand_15 : decode cX12_operand 15 = .ok (.iconst 0, 1) := by decide +kernel
theorem dX12_operand_16 : decode cX12_operand 16 = .ok (.istore 4, 2) := by decide +kernel
theorem dX12_operand_18 : decode cX12_operand 18 = .ok (.aload_n 0, 1) := by decide +kernel
theorem dX12_operand_19 : decode cX12_operand 19 = .ok (.invokevirtual 211, 3) := by decide +kernel
theorem dX12_operand_22 : decode cX12_operand 22 = .ok (.ifCond .eq 53, 3) := by decide +kernel
theorem dX12_operand_25 : decode cX12_operand 25 = .ok (.iload_n 2, 1) := by decide +kernel
theorem dX12_operand_26 : decode cX12_operand 26 = .ok (.ifCond .eq 49, 3) := by decide +kernel
theorem dX12_operand_29 : decode cX12_operand 29 = .ok (.aload_n 0, 1) := by decide +kernel
theorem dX12_operand_30 : decode cX12_operand 30 = .ok (.invokevirtual 233, 3) := by decide +kernel
theorem dX12_operand_33 : decode cX12_operand 33 = .ok (.bipush 16, 2) := by decide +kernel
theorem dX12_operand_35 : decode cX12_operand 35 = .ok (.if_icmp .ne 40, 3) := by decide +kernel
theorem dX12_operand_38 : decode cX12_operand 38 = .ok (.iload 4, 2) := by decide +kernel
theorem dX12_operand_40 : decode cX12_operand 40 = .ok (.bipush 6, 2) := by decide +kernel
theorem dX12_operand_42 : decode cX12_operand 42 = .ok (.if_icmp .ne 8, 3) := by decide +kernel
theorem dX12_operand_45 : decode cX12_operand 45 = .ok (.aload_n 0, 1) := by decide +kernel
theorem dX12_operand_46 : decode cX12_operand 46 = .ok (.iconst 2, 1) := by decide +kernel
theorem dX12_operand_47 : decode cX12_operand 47 = .ok (.invokevirtual 218, 3) := by decide +kernel
theorem dX12_operand_50 : decode cX12_operand 50 = .ok (.iinc 4 1, 3) := by decide +kernel
theorem dX12_operand_53 : decode cX12_operand 53 = .ok (.aload_n 0, 1) := by decide +kernel
theorem dX12_operand_54 : decode cX12_operand 54 = .ok (.invokevirtual 211, 3) := by decide +kernel
theorem dX12_operand_57 : decode cX12_operand 57 = .ok (.ifCond .ne 6, 3) := by decide +kernel
theorem dX12_operand_60 : decode cX12_operand 60 = .ok (.goto (-42), 3) := by decide +kernel
theorem dX12_operand_63 : decode cX12_operand 63 = .ok (.aload_n 0, 1) := by decide +kernel
theorem dX12_operand_64 : decode cX12_operand 64 = .ok (.iconst 3, 1) := by decide +kernel
theorem dX12_operand_65 : decode cX12_operand 65 = .ok (.invokevirtual 243, 3) := by decide +kernel
theorem dX12_operand_68 : decode cX12_operand 68 = .ok (.aload_n 0, 1) := by decide +kernel
theorem dX12_operand_69 : decode cX12_operand 69 = .ok (.invokevirtual 215, 3) := by decide +kernel
theorem dX12_operand_72 : decode cX12_operand 72 = .ok (.goto (-54), 3) := by decide +kernel
theorem dX12_operand_75 : decode cX12_operand 75 = .ok (.aload_n 0, 1) := by decide +kernel
theorem dX12_operand_76 : decode cX12_operand 76 = .ok (.invokevirtual 211, 3) := by decide +kernel
theorem dX12_operand_79 : decode cX12_operand 79 = .ok (.ifCond .eq 16, 3) := by decide +kernel
theorem dX12_operand_82 : decode cX12_operand 82 = .ok (.aload_n 0, 1) := by decide +kernel
theorem dX12_operand_83 : decode cX12_operand 83 = .ok (.bipush 40, 2) := by decide +kernel
theorem dX12_operand_85 : decode cX12_operand 85 = .ok (.invokevirtual 240, 3) := by decide +kernel
theorem dX12_operand_88 : decode cX12_operand 88 = .ok (.ifCond .eq 7, 3) := by decide +kernel
theorem dX12_operand_91 : decode cX12_operand 91 = .ok (.iconst 1, 1) := by decide +kernel
theorem dX12_operand_92 : decode cX12_operand 92 = .ok (.goto 4, 3) := by decide +kernel
theorem dX12_operand_95 : decode cX12_operand 95 = .ok (.iconst 0, 1) := by decide +kernel
theorem dX12_operand_96 : decode cX12_operand 96 = .ok (.istore_n 3, 1) := by decide +kernel
theorem dX12_operand_97 : decode cX12_operand 97 = .ok (.iload_n 3, 1) := by decide +kernel
theorem dX12_operand_98 : decode cX12_operand 98 = .ok (.ifCond .eq 19, 3) := by decide +kernel
theorem dX12_operand_101 : decode cX12_operand 101 = .ok (.aload_n 0, 1) := by decide +kernel
theorem dX12_operand_102 : decode cX12_operand 102 = .ok (.bipush 14, 2) := by decide +kernel
theorem dX12_operand_104 : decode cX12_operand 104 = .ok (.invokevirtual 243, 3) := by decide +kernel
theorem dX12_operand_107 : decode cX12_operand 107 = .ok (.aload_n 0, 1) := by decide +kernel
theorem dX12_operand_108 : decode cX12_operand 108 = .ok (.invokevirtual 215, 3) := by decide +kernel
theorem dX12_operand_111 : decode cX12_operand 111 = .ok (.aload_n 0, 1) := by decide +kernel
theorem dX12_operand_112 : decode cX12_operand 112 = .ok (.invokevirtual 246, 3) := by decide +kernel
theorem dX12_operand_115 : decode cX12_operand 115 = .ok (.iconst 1, 1) := by decide +kernel
theorem dX12_operand_116 : decode cX12_operand 116 = .ok (.istore_n 2, 1) := by decide +kernel
theorem dX12_operand_117 : decode cX12_operand 117 = .ok (.goto (-113), 3) := by decide +kernel
theorem dX12_operand_120 : decode cX12_operand 120 = .ok (.aload_n 0, 1) := by decide +kernel
theorem dX12_operand_121 : decode cX12_operand 121 = .ok (.invokevirtual 249, 3) := by decide +kernel
theorem dX12_operand_124 : decode cX12_operand 124 = .ok (.return_, 1) := by decide +kernel
def X12_operand_b120 (e : mm_E) (a0 : Nat) (m : mm_V) : Option mm_V := (X12_part e a0 m).bind fun r1 => some r1
theorem X12_operand_b120_ok {K : mm_K} {nx : Option Nat} {e : mm_E} (hz : e.2.1 = K.2.2.2.2) {d : Nat} (hd : 4 ≤ d) {a0 : Nat} (h0 : e.1 a0 = some (12, 75)) {m : mm_V} {r : mm_V} (hr : X12_operand_b120 e a0 m = some r) : mm_G K MX12_operand d (mm_Fv e.1 nx r) 120 [some (.ref a0), none, none, none, none] [] (e.1, m) nx 0 0 := by
  obtain ⟨d, rfl⟩ : ∃ d', d = d' + 1 := ⟨d - 1, by omega⟩
  unfold X12_operand_b120 at hr
  refine ml_aload_n (pc := 120) dX12_operand_120 rfl mm_get_0 ?_
  refine mb_cVv (pc := 121) (As := []) (rest := []) dX12_operand_121 cw_X12_249 h0 hr (fun v hv => X12_part_ok hz (by omega) h0 hv) rfl (Nat.le_of_ble_eq_true rfl) (Nat.zero_le _) (Nat.zero_le _) (fun r1 hr => ?_)
  exact mb_vret dX12_operand_124 rfl hr
def X12_operand_b117 (e : mm_E) (k4 : Int32 → Int32 → mm_V → Option mm_V) (a0 : Nat) (i2 : Int32) (i3 : Int32) (m : mm_V) : Option mm_V := k4 i2 i3 m
theorem X12_operand_b117_ok {K : mm_K} {nx : Option Nat} {e : mm_E} (hz : e.2.1 = K.2.2.2.2) {d : Nat} (hd : 4 ≤ d) {a0 : Nat} {i2 : Int32} {i3 : Int32} (h0 : e.1 a0 = some (12, 75)) {k4 : Int32 → Int32 → mm_V → Option mm_V} (hk4 : ∀ (w2 : Int32) (w3 : Int32) (m : mm_V) (r : mm_V), k4 w2 w3 m = some r → mm_G K MX12_operand d (mm_Fv e.1 nx r) 4 [some (.ref a0), none, some (.int w2), some (.int w3), none] [] (e.1, m) nx 0 0) {m : mm_V} {r : mm_V} (hr : X12_operand_b117 e k4 a0 i2 i3 m = some r) : mm_G K MX12_operand d (mm_Fv e.1 nx r) 117 [some (.ref a0), none, some (.int i2), some (.int i3), none] [] (e.1, m) nx 0 0 := by
  obtain ⟨d, rfl⟩ : ∃ d', d = d' + 1 := ⟨d - 1, by omega⟩
  unfold X12_operand_b117 at hr
  refine mg_goto (pc := 117) 4 dX12_operand_117 rfl ?_
  exact mg_weak (mm_le_s (mm_le_n (mm_le_s (mm_le_s (mm_le_n mm_le_0))))) (hk4 _ _ _ _ hr)
def X12_operand_b96 (e : mm_E) (k4 : Int32 → Int32 → mm_V → Option mm_V) (a0 : Nat) (i2 : Int32) (t0 : Int32) (m : mm_V) : Option mm_V := if t0 = 0 then (X12_operand_b117 e k4 a0 i2 t0  m) else ((X12_waitsFor e a0 (14 : Int32) m).bind fun r1 => (X12_goes e a0 r1).bind fun r2 => (X12_deeper e a0 r2).bind fun r3 => X12_operand_b117 e k4 a0 (1 : Int32) t0  r3)
theorem X12_operand_b96_ok {K : mm_K} {nx : Option Nat} {e : mm_E} (hz : e.2.1 = K.2.2.2.2) {d : Nat} (hd : 4 ≤ d) {a0 : Nat} {i2 : Int32} {t0 : Int32} (h0 : e.1 a0 = some (12, 75)) {k4 : Int32 → Int32 → mm_V → Option mm_V} (hk4 : ∀ (w2 : Int32) (w3 : Int32) (m : mm_V) (r : mm_V), k4 w2 w3 m = some r → mm_G K MX12_operand d (mm_Fv e.1 nx r) 4 [some (.ref a0), none, some (.int w2), some (.int w3), none] [] (e.1, m) nx 0 0) {m : mm_V} {r : mm_V} (hr : X12_operand_b96 e k4 a0 i2 t0 m = some r) : mm_G K MX12_operand d (mm_Fv e.1 nx r) 96 [some (.ref a0), none, some (.int i2), none, none] [.int t0] (e.1, m) nx 0 0 := by
  obtain ⟨d, rfl⟩ : ∃ d', d = d' + 1 := ⟨d - 1, by omega⟩
  unfold X12_operand_b96 at hr
  refine ml_istore_n (pc := 96) dX12_operand_96 rfl (Nat.le_of_ble_eq_true rfl) (mm_st1_s (mm_st1_s mm_st1_i)) ?_
  refine ml_iload_n (pc := 97) dX12_operand_97 rfl (mm_get_s (mm_get_s (mm_get_s mm_get_0))) ?_
  refine mb_if_eq (pc := 98) 117 dX12_operand_98 rfl hr (fun hr => ?_) (fun hr => ?_)
  · exact mg_weak (mm_le_s (mm_le_n (mm_le_s (mm_le_s (mm_le_n mm_le_0))))) (X12_operand_b117_ok hz hd h0 hk4 hr)
  · refine ml_aload_n (pc := 101) dX12_operand_101 rfl mm_get_0 ?_
    refine mg_bipush (pc := 102) dX12_operand_102 kb_14 ?_
    refine mb_cVv (pc := 104) (As := [.int (14 : Int32)]) (rest := []) dX12_operand_104 cw_X12_243 h0 hr (fun v hv => X12_waitsFor_ok hz (by omega) h0 hv) rfl (Nat.le_of_ble_eq_true rfl) (Nat.zero_le _) (Nat.zero_le _) (fun r1 hr => ?_)
    refine ml_aload_n (pc := 107) dX12_operand_107 rfl mm_get_0 ?_
    refine mb_cVv (pc := 108) (As := []) (rest := []) dX12_operand_108 cw_X12_215 h0 hr (fun v hv => X12_goes_ok hz (by omega) h0 hv) rfl (Nat.le_of_ble_eq_true rfl) (Nat.zero_le _) (Nat.zero_le _) (fun r2 hr => ?_)
    refine ml_aload_n (pc := 111) dX12_operand_111 rfl mm_get_0 ?_
    refine mb_cVv (pc := 112) (As := []) (rest := []) dX12_operand_112 cw_X12_246 h0 hr (fun v hv => X12_deeper_ok hz (by omega) h0 hv) rfl (Nat.le_of_ble_eq_true rfl) (Nat.zero_le _) (Nat.zero_le _) (fun r3 hr => ?_)
    refine mg_iconst (pc := 115) dX12_operand_115 kc_1 ?_
    refine ml_istore_n (pc := 116) dX12_operand_116 rfl (Nat.le_of_ble_eq_true rfl) (mm_st1_s mm_st1_n) ?_
    exact mg_weak (mm_le_s (mm_le_n (mm_le_s (mm_le_s (mm_le_n mm_le_0))))) (X12_operand_b117_ok hz hd h0 hk4 hr)
def X12_operand_b95 (e : mm_E) (k4 : Int32 → Int32 → mm_V → Option mm_V) (a0 : Nat) (i2 : Int32) (m : mm_V) : Option mm_V := X12_operand_b96 e k4 a0 i2 (0 : Int32) m
theorem X12_operand_b95_ok {K : mm_K} {nx : Option Nat} {e : mm_E} (hz : e.2.1 = K.2.2.2.2) {d : Nat} (hd : 4 ≤ d) {a0 : Nat} {i2 : Int32} (h0 : e.1 a0 = some (12, 75)) {k4 : Int32 → Int32 → mm_V → Option mm_V} (hk4 : ∀ (w2 : Int32) (w3 : Int32) (m : mm_V) (r : mm_V), k4 w2 w3 m = some r → mm_G K MX12_operand d (mm_Fv e.1 nx r) 4 [some (.ref a0), none, some (.int w2), some (.int w3), none] [] (e.1, m) nx 0 0) {m : mm_V} {r : mm_V} (hr : X12_operand_b95 e k4 a0 i2 m = some r) : mm_G K MX12_operand d (mm_Fv e.1 nx r) 95 [some (.ref a0), none, some (.int i2), none, none] [] (e.1, m) nx 0 0 := by
  obtain ⟨d, rfl⟩ : ∃ d', d = d' + 1 := ⟨d - 1, by omega⟩
  unfold X12_operand_b95 at hr
  refine mg_iconst (pc := 95) dX12_operand_95 kc_0 ?_
  exact mg_weak (mm_le_s (mm_le_n (mm_le_s (mm_le_n (mm_le_n mm_le_0))))) (X12_operand_b96_ok hz hd h0 hk4 hr)
def X12_operand_b75 (e : mm_E) (k4 : Int32 → Int32 → mm_V → Option mm_V) (a0 : Nat) (i2 : Int32) (m : mm_V) : Option mm_V := (X12_isGood e a0 m).bind fun r1 => if r1.1 = 0 then (X12_operand_b95 e k4 a0 i2  r1.2) else ((X12_isSign e a0 (40 : Int32) r1.2).bind fun r2 => if r2.1 = 0 then (X12_operand_b95 e k4 a0 i2  r2.2) else (X12_operand_b96 e k4 a0 i2 (1 : Int32) r2.2))
theorem X12_operand_b75_ok {K : mm_K} {nx : Option Nat} {e : mm_E} (hz : e.2.1 = K.2.2.2.2) {d : Nat} (hd : 4 ≤ d) {a0 : Nat} {i2 : Int32} (h0 : e.1 a0 = some (12, 75)) {k4 : Int32 → Int32 → mm_V → Option mm_V} (hk4 : ∀ (w2 : Int32) (w3 : Int32) (m : mm_V) (r : mm_V), k4 w2 w3 m = some r → mm_G K MX12_operand d (mm_Fv e.1 nx r) 4 [some (.ref a0), none, some (.int w2), some (.int w3), none] [] (e.1, m) nx 0 0) {m : mm_V} {r : mm_V} (hr : X12_operand_b75 e k4 a0 i2 m = some r) : mm_G K MX12_operand d (mm_Fv e.1 nx r) 75 [some (.ref a0), none, some (.int i2), none, none] [] (e.1, m) nx 0 0 := by
  obtain ⟨d, rfl⟩ : ∃ d', d = d' + 1 := ⟨d - 1, by omega⟩
  unfold X12_operand_b75 at hr
  refine ml_aload_n (pc := 75) dX12_operand_75 rfl mm_get_0 ?_
  refine mb_cVi (pc := 76) (As := []) (rest := []) dX12_operand_76 cw_X12_211 h0 hr (fun v hv => X12_isGood_ok hz (by omega) h0 hv) rfl (Nat.le_of_ble_eq_true rfl) (Nat.zero_le _) (Nat.zero_le _) (fun r1 hr => ?_)
  refine mb_if_eq (pc := 79) 95 dX12_operand_79 rfl hr (fun hr => ?_) (fun hr => ?_)
  · exact mg_weak (mm_le_s (mm_le_n (mm_le_s (mm_le_n (mm_le_n mm_le_0))))) (X12_operand_b95_ok hz hd h0 hk4 hr)
  · refine ml_aload_n (pc := 82) dX12_operand_82 rfl mm_get_0 ?_
    refine mg_bipush (pc := 83) dX12_operand_83 kb_40 ?_
    refine mb_cVi (pc := 85) (As := [.int (40 : Int32)]) (rest := []) dX12_operand_85 cw_X12_240 h0 hr (fun v hv => X12_isSign_ok hz (by omega) h0 hv) rfl (Nat.le_of_ble_eq_true rfl) (Nat.zero_le _) (Nat.zero_le _) (fun r2 hr => ?_)
    refine mb_if_eq (pc := 88) 95 dX12_operand_88 rfl hr (fun hr => ?_) (fun hr => ?_)
    · exact mg_weak (mm_le_s (mm_le_n (mm_le_s (mm_le_n (mm_le_n mm_le_0))))) (X12_operand_b95_ok hz hd h0 hk4 hr)
    · refine mg_iconst (pc := 91) dX12_operand_91 kc_1 ?_
      refine mg_goto (pc := 92) 96 dX12_operand_92 rfl ?_
      exact mg_weak (mm_le_s (mm_le_n (mm_le_s (mm_le_n (mm_le_n mm_le_0))))) (X12_operand_b96_ok hz hd h0 hk4 hr)
def X12_operand_b50 (e : mm_E) (k4 : Int32 → Int32 → mm_V → Option mm_V) (k18 : Int32 → mm_V → Option mm_V) (a0 : Nat) (i2 : Int32) (i4 : Int32) (m : mm_V) : Option mm_V := (X12_isGood e a0 m).bind fun r1 => if ¬ r1.1 = 0 then ((X12_waitsFor e a0 (3 : Int32) r1.2).bind fun r2 => (X12_goes e a0 r2).bind fun r3 => k18 (i4 + 1) r3) else (k18 (i4 + 1) r1.2)
theorem X12_operand_b50_ok {K : mm_K} {nx : Option Nat} {e : mm_E} (hz : e.2.1 = K.2.2.2.2) {d : Nat} (hd : 4 ≤ d) {a0 : Nat} {i2 : Int32} {i4 : Int32} (h0 : e.1 a0 = some (12, 75)) {k4 : Int32 → Int32 → mm_V → Option mm_V} {k18 : Int32 → mm_V → Option mm_V} (hk4 : ∀ (w2 : Int32) (w3 : Int32) (m : mm_V) (r : mm_V), k4 w2 w3 m = some r → mm_G K MX12_operand d (mm_Fv e.1 nx r) 4 [some (.ref a0), none, some (.int w2), some (.int w3), none] [] (e.1, m) nx 0 0) (hk18 : ∀ (w4 : Int32) (m : mm_V) (r : mm_V), k18 w4 m = some r → mm_G K MX12_operand d (mm_Fv e.1 nx r) 18 [some (.ref a0), none, some (.int i2), none, some (.int w4)] [] (e.1, m) nx 0 0) {m : mm_V} {r : mm_V} (hr : X12_operand_b50 e k4 k18 a0 i2 i4 m = some r) : mm_G K MX12_operand d (mm_Fv e.1 nx r) 50 [some (.ref a0), none, some (.int i2), none, some (.int i4)] [] (e.1, m) nx 0 0 := by
  obtain ⟨d, rfl⟩ : ∃ d', d = d' + 1 := ⟨d - 1, by omega⟩
  unfold X12_operand_b50 at hr
  refine ml_iinc (pc := 50) dX12_operand_50 (mm_get_s (mm_get_s (mm_get_s (mm_get_s mm_get_0)))) (congrArg (fun z => i4 + z) kc_1) (Nat.le_of_ble_eq_true rfl) (mm_st1_s (mm_st1_s (mm_st1_s mm_st1_n))) ?_
  refine ml_aload_n (pc := 53) dX12_operand_53 rfl mm_get_0 ?_
  refine mb_cVi (pc := 54) (As := []) (rest := []) dX12_operand_54 cw_X12_211 h0 hr (fun v hv => X12_isGood_ok hz (by omega) h0 hv) rfl (Nat.le_of_ble_eq_true rfl) (Nat.zero_le _) (Nat.zero_le _) (fun r1 hr => ?_)
  refine mb_if_ne (pc := 57) 63 dX12_operand_57 rfl hr (fun hr => ?_) (fun hr => ?_)
  · refine ml_aload_n (pc := 63) dX12_operand_63 rfl mm_get_0 ?_
    refine mg_iconst (pc := 64) dX12_operand_64 kc_3 ?_
    refine mb_cVv (pc := 65) (As := [.int (3 : Int32)]) (rest := []) dX12_operand_65 cw_X12_243 h0 hr (fun v hv => X12_waitsFor_ok hz (by omega) h0 hv) rfl (Nat.le_of_ble_eq_true rfl) (Nat.zero_le _) (Nat.zero_le _) (fun r2 hr => ?_)
    refine ml_aload_n (pc := 68) dX12_operand_68 rfl mm_get_0 ?_
    refine mb_cVv (pc := 69) (As := []) (rest := []) dX12_operand_69 cw_X12_215 h0 hr (fun v hv => X12_goes_ok hz (by omega) h0 hv) rfl (Nat.le_of_ble_eq_true rfl) (Nat.zero_le _) (Nat.zero_le _) (fun r3 hr => ?_)
    refine mg_goto (pc := 72) 18 dX12_operand_72 rfl ?_
    exact mg_weak (mm_le_s (mm_le_n (mm_le_s (mm_le_n (mm_le_s mm_le_0))))) (hk18 _ _ _ hr)
  · refine mg_goto (pc := 60) 18 dX12_operand_60 rfl ?_
    exact mg_weak (mm_le_s (mm_le_n (mm_le_s (mm_le_n (mm_le_s mm_le_0))))) (hk18 _ _ _ hr)
def X12_operand_L18 (e : mm_E) (k4 : Int32 → Int32 → mm_V → Option mm_V) (a0 : Nat) (i2 : Int32) : Nat → Int32 → mm_V → Option mm_V
  | 0, _, _ => none
  | n + 1, i4, m => (X12_isGood e a0 m).bind fun r1 => if r1.1 = 0 then (X12_operand_b75 e k4 a0 i2  r1.2) else (if i2 = 0 then (X12_operand_b75 e k4 a0 i2  r1.2) else ((X12_knownWord e a0 r1.2).bind fun r2 => if ¬ r2.1 = (16 : Int32) then (X12_operand_b75 e k4 a0 i2  r2.2) else (if ¬ i4 = (6 : Int32) then (X12_operand_b50 e k4 (X12_operand_L18 e k4 a0 i2 n) a0 i2 i4  r2.2) else ((X12_wrong e a0 (2 : Int32) r2.2).bind fun r3 => X12_operand_b50 e k4 (X12_operand_L18 e k4 a0 i2 n) a0 i2 i4  r3))))
theorem X12_operand_L18_ok {K : mm_K} {nx : Option Nat} {e : mm_E} (hz : e.2.1 = K.2.2.2.2) {d : Nat} (hd : 4 ≤ d) {a0 : Nat} {i2 : Int32} (h0 : e.1 a0 = some (12, 75)) {k4 : Int32 → Int32 → mm_V → Option mm_V} (hk4 : ∀ (w2 : Int32) (w3 : Int32) (m : mm_V) (r : mm_V), k4 w2 w3 m = some r → mm_G K MX12_operand d (mm_Fv e.1 nx r) 4 [some (.ref a0), none, some (.int w2), some (.int w3), none] [] (e.1, m) nx 0 0) : ∀ (n : Nat) (i4 : Int32) (m : mm_V) (r : mm_V), X12_operand_L18 e k4 a0 i2 n i4 m = some r → mm_G K MX12_operand d (mm_Fv e.1 nx r) 18 [some (.ref a0), none, some (.int i2), none, some (.int i4)] [] (e.1, m) nx 0 0 := by
  obtain ⟨d, rfl⟩ : ∃ d', d = d' + 1 := ⟨d - 1, by omega⟩
  intro n
  induction n with
  | zero => intro i4 m r hr; unfold X12_operand_L18 at hr; cases hr
  | succ n ih =>
    intro i4 m r hr
    unfold X12_operand_L18 at hr
    refine ml_aload_n (pc := 18) dX12_operand_18 rfl mm_get_0 ?_
    refine mb_cVi (pc := 19) (As := []) (rest := []) dX12_operand_19 cw_X12_211 h0 hr (fun v hv => X12_isGood_ok hz (by omega) h0 hv) rfl (Nat.le_of_ble_eq_true rfl) (Nat.zero_le _) (Nat.zero_le _) (fun r1 hr => ?_)
    refine mb_if_eq (pc := 22) 75 dX12_operand_22 rfl hr (fun hr => ?_) (fun hr => ?_)
    · exact mg_weak (mm_le_s (mm_le_n (mm_le_s (mm_le_n (mm_le_n mm_le_0))))) (X12_operand_b75_ok hz hd h0 hk4 hr)
    · refine ml_iload_n (pc := 25) dX12_operand_25 rfl (mm_get_s (mm_get_s mm_get_0)) ?_
      refine mb_if_eq (pc := 26) 75 dX12_operand_26 rfl hr (fun hr => ?_) (fun hr => ?_)
      · exact mg_weak (mm_le_s (mm_le_n (mm_le_s (mm_le_n (mm_le_n mm_le_0))))) (X12_operand_b75_ok hz hd h0 hk4 hr)
      · refine ml_aload_n (pc := 29) dX12_operand_29 rfl mm_get_0 ?_
        refine mb_cVi (pc := 30) (As := []) (rest := []) dX12_operand_30 cw_X12_233 h0 hr (fun v hv => X12_knownWord_ok hz (by omega) h0 hv) rfl (Nat.le_of_ble_eq_true rfl) (Nat.zero_le _) (Nat.zero_le _) (fun r2 hr => ?_)
        refine mg_bipush (pc := 33) dX12_operand_33 kb_16 ?_
        refine mb_icmp_ne (pc := 35) 75 dX12_operand_35 rfl hr (fun hr => ?_) (fun hr => ?_)
        · exact mg_weak (mm_le_s (mm_le_n (mm_le_s (mm_le_n (mm_le_n mm_le_0))))) (X12_operand_b75_ok hz hd h0 hk4 hr)
        · refine ml_iload (pc := 38) dX12_operand_38 (mm_get_s (mm_get_s (mm_get_s (mm_get_s mm_get_0)))) ?_
          refine mg_bipush (pc := 40) dX12_operand_40 kb_6 ?_
          refine mb_icmp_ne (pc := 42) 50 dX12_operand_42 rfl hr (fun hr => ?_) (fun hr => ?_)
          · exact mg_weak (mm_le_s (mm_le_n (mm_le_s (mm_le_n (mm_le_s mm_le_0))))) (X12_operand_b50_ok hz hd h0 hk4 ih hr)
          · refine ml_aload_n (pc := 45) dX12_operand_45 rfl mm_get_0 ?_
            refine mg_iconst (pc := 46) dX12_operand_46 kc_2 ?_
            refine mb_cVv (pc := 47) (As := [.int (2 : Int32)]) (rest := []) dX12_operand_47 cw_X12_218 h0 hr (fun v hv => X12_wrong_ok hz (by omega) h0 hv) rfl (Nat.le_of_ble_eq_true rfl) (Nat.zero_le _) (Nat.zero_le _) (fun r3 hr => ?_)
            exact mg_weak (mm_le_s (mm_le_n (mm_le_s (mm_le_n (mm_le_s mm_le_0))))) (X12_operand_b50_ok hz hd h0 hk4 ih hr)
def X12_operand_L4 (e : mm_E) (a0 : Nat) : Nat → Int32 → Int32 → mm_V → Option mm_V
  | 0, _, _, _ => none
  | n + 1, i2, i3, m => if i3 = 0 then (X12_operand_b120 e a0  m) else ((X12_isGood e a0 m).bind fun r1 => if r1.1 = 0 then (X12_operand_b120 e a0  r1.2) else (X12_operand_L18 e (X12_operand_L4 e a0 n) a0 i2 e.2.2 (0 : Int32) r1.2))
theorem X12_operand_L4_ok {K : mm_K} {nx : Option Nat} {e : mm_E} (hz : e.2.1 = K.2.2.2.2) {d : Nat} (hd : 4 ≤ d) {a0 : Nat} (h0 : e.1 a0 = some (12, 75)) : ∀ (n : Nat) (i2 : Int32) (i3 : Int32) (m : mm_V) (r : mm_V), X12_operand_L4 e a0 n i2 i3 m = some r → mm_G K MX12_operand d (mm_Fv e.1 nx r) 4 [some (.ref a0), none, some (.int i2), some (.int i3), none] [] (e.1, m) nx 0 0 := by
  obtain ⟨d, rfl⟩ : ∃ d', d = d' + 1 := ⟨d - 1, by omega⟩
  intro n
  induction n with
  | zero => intro i2 i3 m r hr; unfold X12_operand_L4 at hr; cases hr
  | succ n ih =>
    intro i2 i3 m r hr
    unfold X12_operand_L4 at hr
    refine ml_iload_n (pc := 4) dX12_operand_4 rfl (mm_get_s (mm_get_s (mm_get_s mm_get_0))) ?_
    refine mb_if_eq (pc := 5) 120 dX12_operand_5 rfl hr (fun hr => ?_) (fun hr => ?_)
    · exact mg_weak (mm_le_s (mm_le_n (mm_le_n (mm_le_n (mm_le_n mm_le_0))))) (X12_operand_b120_ok hz hd h0 hr)
    · refine ml_aload_n (pc := 8) dX12_operand_8 rfl mm_get_0 ?_
      refine mb_cVi (pc := 9) (As := []) (rest := []) dX12_operand_9 cw_X12_211 h0 hr (fun v hv => X12_isGood_ok hz (by omega) h0 hv) rfl (Nat.le_of_ble_eq_true rfl) (Nat.zero_le _) (Nat.zero_le _) (fun r1 hr => ?_)
      refine mb_if_eq (pc := 12) 120 dX12_operand_12 rfl hr (fun hr => ?_) (fun hr => ?_)
      · exact mg_weak (mm_le_s (mm_le_n (mm_le_n (mm_le_n (mm_le_n mm_le_0))))) (X12_operand_b120_ok hz hd h0 hr)
      · refine mg_iconst (pc := 15) dX12_operand_15 kc_0 ?_
        refine ml_istore (pc := 16) dX12_operand_16 (Nat.le_of_ble_eq_true rfl) (mm_st1_s (mm_st1_s (mm_st1_s mm_st1_i))) ?_
        exact mg_weak (mm_le_s (mm_le_n (mm_le_s (mm_le_n (mm_le_s mm_le_0))))) (X12_operand_L18_ok hz hd h0 ih _ _ _ _ hr)
def X12_operand (e : mm_E) (a0 : Nat) (i1 : Int32) (m : mm_V) : Option mm_V := X12_operand_L4 e a0 e.2.2 i1 (1 : Int32) m
theorem X12_operand_ok {K : mm_K} {nx : Option Nat} {e : mm_E} (hz : e.2.1 = K.2.2.2.2) {d : Nat} (hd : 4 ≤ d) {a0 : Nat} {i1 : Int32} (h0 : e.1 a0 = some (12, 75)) {m : mm_V} {r : mm_V} (hr : X12_operand e a0 i1 m = some r) : mm_Cn K MX12_operand d (mm_Fv e.1 nx r) [.ref a0, .int i1] (e.1, m) nx := by
  obtain ⟨d, rfl⟩ : ∃ d', d = d' + 1 := ⟨d - 1, by omega⟩
  refine mm_entry (by decide) (Nat.le_of_ble_eq_true rfl) rfl (fun hok => ?_)
  unfold X12_operand at hr
  refine mg_weak (L' := [some (.ref a0), some (.int i1), none, none, none]) (mm_le_s (mm_le_s (mm_le_e (mm_le_e (mm_le_e mm_le_0))))) ?_
  refine ml_iload_n (pc := 0) dX12_operand_0 rfl (mm_get_s mm_get_0) ?_
  refine ml_istore_n (pc := 1) dX12_operand_1 rfl (Nat.le_of_ble_eq_true rfl) (mm_st1_s mm_st1_i) ?_
  refine mg_iconst (pc := 2) dX12_operand_2 kc_1 ?_
  refine ml_istore_n (pc := 3) dX12_operand_3 rfl (Nat.le_of_ble_eq_true rfl) (mm_st1_s (mm_st1_s mm_st1_i)) ?_
  exact mg_weak (mm_le_s (mm_le_n (mm_le_s (mm_le_s (mm_le_n mm_le_0))))) (X12_operand_L4_ok hz hd h0 _ _ _ _ _ hr)
theorem dX12_isOpened_0 : decode cX12_isOpened 0 = .ok (.aload_n 0, 1) := by decide +kernel
theorem dX12_isOpened_1 : decode cX12_isOpened 1 = .ok (.getfield 221, 3) := by decide +kernel
theorem dX12_isOpened_4 : decode cX12_isOpened 4 = .ok (.iconst 1, 1) := by decide +kernel
theorem dX12_isOpened_5 : decode cX12_isOpened 5 = .ok (.isub, 1) := by decide +kernel
theorem dX12_isOpened_6 : decode cX12_isOpened 6 = .ok (.istore_n 1, 1) := by decide +kernel
theorem dX12_isOpened_7 : decode cX12_isOpened 7 = .ok (.iload_n 1, 1) := by decide +kernel
theorem dX12_isOpened_8 : decode cX12_isOpened 8 = .ok (.ifCond .lt 21, 3) := by decide +kernel
theorem dX12_isOpened_11 : decode cX12_isOpened 11 = .ok (.aload_n 0, 1) := by decide +kernel
theorem dX12_isOpened_12 : decode cX12_isOpened 12 = .ok (.getfield 47, 3) := by decide +kernel
theorem dX12_isOpened_15 : decode cX12_isOpened 15 = .ok (.iload_n 1, 1) := by decide +kernel
theorem dX12_isOpened_16 : decode cX12_isOpened 16 = .ok (.iaload, 1) := by decide +kernel
theorem dX12_isOpened_17 : decode cX12_isOpened 17 = .ok (.invokestatic 224, 3) := by decide +kernel
theorem dX12_isOpened_20 : decode cX12_isOpened 20 = .ok (.ifCond .ne 9, 3) := by decide +kernel
theorem dX12_isOpened_23 : decode cX12_isOpened 23 = .ok (.iinc 1 (-1), 3) := by decide +kernel
theorem dX12_isOpened_26 : decode cX12_isOpened 26 = .ok (.goto (-19), 3) := by decide +kernel
theorem dX12_isOpened_29 : decode cX12_isOpened 29 = .ok (.iload_n 1, 1) := by decide +kernel
theorem dX12_isOpened_30 : decode cX12_isOpened 30 = .ok (.ifCond .lt 7, 3) := by decide +kernel
theorem dX12_isOpened_33 : decode cX12_isOpened 33 = .ok (.iconst 1, 1) := by decide +kernel
theorem dX12_isOpened_34 : decode cX12_isOpened 34 = .ok (.goto 4, 3) := by decide +kernel
theorem dX12_isOpened_37 : decode cX12_isOpened 37 = .ok (.iconst 0, 1) := by decide +kernel
theorem dX12_isOpened_38 : decode cX12_isOpened 38 = .ok (.ireturn, 1) := by decide +kernel
def X12_isOpened_b38 (e : mm_E) (t0 : Int32) (m : mm_V) : Option (Int32 × mm_V) := mm_rz t0 m
theorem X12_isOpened_b38_ok {K : mm_K} {nx : Option Nat} {e : mm_E} (hz : e.2.1 = K.2.2.2.2) {d : Nat} (hd : 1 ≤ d) {t0 : Int32} {a0 : Nat} (h0 : e.1 a0 = some (12, 75)) {m : mm_V} {r : (Int32 × mm_V)} (hr : X12_isOpened_b38 e t0 m = some r) : mm_G K MX12_isOpened d (mm_Fi e.1 nx r) 38 [none, none] [.int t0] (e.1, m) nx 0 0 := by
  obtain ⟨d, rfl⟩ : ∃ d', d = d' + 1 := ⟨d - 1, by omega⟩
  unfold X12_isOpened_b38 at hr
  exact mb_zret dX12_isOpened_38 rfl hr
def X12_isOpened_b29 (e : mm_E) (i1 : Int32) (m : mm_V) : Option (Int32 × mm_V) := if i1 < 0 then (X12_isOpened_b38 e  (0 : Int32) m) else (X12_isOpened_b38 e  (1 : Int32) m)
theorem X12_isOpened_b29_ok {K : mm_K} {nx : Option Nat} {e : mm_E} (hz : e.2.1 = K.2.2.2.2) {d : Nat} (hd : 1 ≤ d) {i1 : Int32} {a0 : Nat} (h0 : e.1 a0 = some (12, 75)) {m : mm_V} {r : (Int32 × mm_V)} (hr : X12_isOpened_b29 e i1 m = some r) : mm_G K MX12_isOpened d (mm_Fi e.1 nx r) 29 [none, some (.int i1)] [] (e.1, m) nx 0 0 := by
  obtain ⟨d, rfl⟩ : ∃ d', d = d' + 1 := ⟨d - 1, by omega⟩
  unfold X12_isOpened_b29 at hr
  refine ml_iload_n (pc := 29) dX12_isOpened_29 rfl (mm_get_s mm_get_0) ?_
  refine mb_if_lt (pc := 30) 37 dX12_isOpened_30 rfl hr (fun hr => ?_) (fun hr => ?_)
  · refine mg_iconst (pc := 37) dX12_isOpened_37 kc_0 ?_
    exact mg_weak (mm_le_n (mm_le_n mm_le_0)) (X12_isOpened_b38_ok hz hd h0 hr)
  · refine mg_iconst (pc := 33) dX12_isOpened_33 kc_1 ?_
    refine mg_goto (pc := 34) 38 dX12_isOpened_34 rfl ?_
    exact mg_weak (mm_le_n (mm_le_n mm_le_0)) (X12_isOpened_b38_ok hz hd h0 hr)
def X12_isOpened_L7 (e : mm_E) (a0 : Nat) : Nat → Int32 → mm_V → Option (Int32 × mm_V)
  | 0, _, _ => none
  | n + 1, i1, m => if i1 < 0 then (X12_isOpened_b29 e i1  m) else ((mm_gr e.1 m 12 75 a0 35).bind fun c1 => (mm_ai e.1 m 20 c1 i1).bind fun x2 => (X12_isOpen e x2 m).bind fun r3 => if ¬ r3.1 = 0 then (X12_isOpened_b29 e i1  r3.2) else (X12_isOpened_L7 e a0 n (i1 + (-1)) r3.2))
theorem X12_isOpened_L7_ok {K : mm_K} {nx : Option Nat} {e : mm_E} (hz : e.2.1 = K.2.2.2.2) {d : Nat} (hd : 1 ≤ d) {a0 : Nat} (h0 : e.1 a0 = some (12, 75)) : ∀ (n : Nat) (i1 : Int32) (m : mm_V) (r : (Int32 × mm_V)), X12_isOpened_L7 e a0 n i1 m = some r → mm_G K MX12_isOpened d (mm_Fi e.1 nx r) 7 [some (.ref a0), some (.int i1)] [] (e.1, m) nx 0 0 := by
  obtain ⟨d, rfl⟩ : ∃ d', d = d' + 1 := ⟨d - 1, by omega⟩
  intro n
  induction n with
  | zero => intro i1 m r hr; unfold X12_isOpened_L7 at hr; cases hr
  | succ n ih =>
    intro i1 m r hr
    unfold X12_isOpened_L7 at hr
    refine ml_iload_n (pc := 7) dX12_isOpened_7 rfl (mm_get_s mm_get_0) ?_
    refine mb_if_lt (pc := 8) 29 dX12_isOpened_8 rfl hr (fun hr => ?_) (fun hr => ?_)
    · exact mg_weak (mm_le_n (mm_le_s mm_le_0)) (X12_isOpened_b29_ok hz hd h0 hr)
    · refine ml_aload_n (pc := 11) dX12_isOpened_11 rfl mm_get_0 ?_
      refine mb_gr (pc := 12) dX12_isOpened_12 fl_X12_47 hr (fun c1 hr => ?_)
      refine ml_iload_n (pc := 15) dX12_isOpened_15 rfl (mm_get_s mm_get_0) ?_
      refine mb_ai (pc := 16) dX12_isOpened_16 hr (fun x2 hr => ?_)
      refine mb_cSi (pc := 17) (As := [.int x2]) (rest := []) dX12_isOpened_17 cw_X12_224  hr (fun v hv => X12_isOpen_ok hz (by omega)  hv) rfl (Nat.le_of_ble_eq_true rfl) (Nat.zero_le _) (Nat.zero_le _) (fun r3 hr => ?_)
      refine mb_if_ne (pc := 20) 29 dX12_isOpened_20 rfl hr (fun hr => ?_) (fun hr => ?_)
      · exact mg_weak (mm_le_n (mm_le_s mm_le_0)) (X12_isOpened_b29_ok hz hd h0 hr)
      · refine ml_iinc (pc := 23) dX12_isOpened_23 (mm_get_s mm_get_0) (congrArg (fun z => i1 + z) kc_m1) (Nat.le_of_ble_eq_true rfl) mm_st1_r ?_
        refine mg_goto (pc := 26) 7 dX12_isOpened_26 rfl ?_
        exact mg_weak (mm_le_s (mm_le_s mm_le_0)) (ih _ _ _ hr)
def X12_isOpened (e : mm_E) (a0 : Nat) (m : mm_V) : Option (Int32 × mm_V) := (mm_gi e.1 m 12 75 a0 26).bind fun x1 => X12_isOpened_L7 e a0 e.2.2 (x1 - (1 : Int32)) m
theorem X12_isOpened_ok {K : mm_K} {nx : Option Nat} {e : mm_E} (hz : e.2.1 = K.2.2.2.2) {d : Nat} (hd : 1 ≤ d) {a0 : Nat} (h0 : e.1 a0 = some (12, 75)) {m : mm_V} {r : (Int32 × mm_V)} (hr : X12_isOpened e a0 m = some r) : mm_Cn K MX12_isOpened d (mm_Fi e.1 nx r) [.ref a0] (e.1, m) nx := by
  obtain ⟨d, rfl⟩ : ∃ d', d = d' + 1 := ⟨d - 1, by omega⟩
  refine mm_entry (by decide) (Nat.le_of_ble_eq_true rfl) rfl (fun hok => ?_)
  unfold X12_isOpened at hr
  refine mg_weak (L' := [some (.ref a0), none]) (mm_le_s (mm_le_e mm_le_0)) ?_
  refine ml_aload_n (pc := 0) dX12_isOpened_0 rfl mm_get_0 ?_
  refine mb_gi (pc := 1) dX12_isOpened_1 fl_X12_221 hr (fun x1 hr => ?_)
  refine mg_iconst (pc := 4) dX12_isOpened_4 kc_1 ?_
  refine mg_isub (pc := 5) dX12_isOpened_5 ?_
  refine ml_istore_n (pc := 6) dX12_isOpened_6 rfl (Nat.le_of_ble_eq_true rfl) mm_st1_r ?_
  exact mg_weak (mm_le_s (mm_le_s mm_le_0)) (X12_isOpened_L7_ok hz hd h0 _ _ _ _ hr)
theorem dX12_closes_0 : decode cX12_closes 0 = .ok (.aload_n 0, 1) := by decide +kernel
theorem dX12_closes_1 : decode cX12_closes 1 = .ok (.iconst 0, 1) := by decide +kernel
theorem dX12_closes_2 : decode cX12_closes 2 = .ok (.invokevirtual 252, 3) := by decide +kernel
theorem dX12_closes_5 : decode cX12_closes 5 = .ok (.aload_n 0, 1) := by decide +kernel
theorem dX12_closes_6 : decode cX12_closes 6 = .ok (.dup, 1) := by decide +kernel
theorem dX12_closes_7 : decode cX12_closes 7 = .ok (.getfield 221, 3) := by decide +kernel
theorem dX12_closes_10 : decode cX12_closes 10 = .ok (.iconst 1, 1) := by decide +kernel
theorem dX12_closes_11 : decode cX12_closes 11 = .ok (.isub, 1) := by decide +kernel
theorem dX12_closes_12 : decode cX12_closes 12 = .ok (.putfield 221, 3) := by decide +kernel
theorem dX12_closes_15 : decode cX12_closes 15 = .ok (.aload_n 0, 1) := by decide +kernel
theorem dX12_closes_16 : decode cX12_closes 16 = .ok (.dup, 1) := by decide +kernel
theorem dX12_closes_17 : decode cX12_closes 17 = .ok (.getfield 237, 3) := by decide +kernel
theorem dX12_closes_20 : decode cX12_closes 20 = .ok (.iconst 1, 1) := by decide +kernel
theorem dX12_closes_21 : decode cX12_closes 21 = .ok (.isub, 1) := by decide +kernel
theorem dX12_closes_22 : decode cX12_closes 22 = .ok (.putfield 237, 3) := by decide +kernel
theorem dX12_closes_25 : decode cX12_closes 25 = .ok (.aload_n 0, 1) := by decide +kernel
theorem dX12_closes_26 : decode cX12_closes 26 = .ok (.invokevirtual 215, 3) := by decide +kernel
theorem dX12_closes_29 : decode cX12_closes 29 = .ok (.return_, 1) := by decide +kernel
def X12_closes (e : mm_E) (a0 : Nat) (m : mm_V) : Option mm_V := (X12_drops e a0 (0 : Int32) m).bind fun r1 => (mm_gi e.1 r1 12 75 a0 26).bind fun x2 => (mm_pf e.1 r1 12 75 a0 26 (.int (x2 - (1 : Int32)))).bind fun m3 => (mm_gi e.1 m3 12 75 a0 27).bind fun x4 => (mm_pf e.1 m3 12 75 a0 27 (.int (x4 - (1 : Int32)))).bind fun m5 => (X12_goes e a0 m5).bind fun r6 => some r6
theorem X12_closes_ok {K : mm_K} {nx : Option Nat} {e : mm_E} (hz : e.2.1 = K.2.2.2.2) {d : Nat} (hd : 2 ≤ d) {a0 : Nat} (h0 : e.1 a0 = some (12, 75)) {m : mm_V} {r : mm_V} (hr : X12_closes e a0 m = some r) : mm_Cn K MX12_closes d (mm_Fv e.1 nx r) [.ref a0] (e.1, m) nx := by
  obtain ⟨d, rfl⟩ : ∃ d', d = d' + 1 := ⟨d - 1, by omega⟩
  refine mm_entry (by decide) (Nat.le_of_ble_eq_true rfl) rfl (fun hok => ?_)
  unfold X12_closes at hr
  refine mg_weak (L' := [some (.ref a0)]) (mm_le_s mm_le_0) ?_
  refine ml_aload_n (pc := 0) dX12_closes_0 rfl mm_get_0 ?_
  refine mg_iconst (pc := 1) dX12_closes_1 kc_0 ?_
  refine mb_cVv (pc := 2) (As := [.int (0 : Int32)]) (rest := []) dX12_closes_2 cw_X12_252 h0 hr (fun v hv => X12_drops_ok hz (by omega) h0 hv) rfl (Nat.le_of_ble_eq_true rfl) (Nat.zero_le _) (Nat.zero_le _) (fun r1 hr => ?_)
  refine ml_aload_n (pc := 5) dX12_closes_5 rfl mm_get_0 ?_
  refine mg_dup (pc := 6) dX12_closes_6 rfl ?_
  refine mb_gi (pc := 7) dX12_closes_7 fl_X12_221 hr (fun x2 hr => ?_)
  refine mg_iconst (pc := 10) dX12_closes_10 kc_1 ?_
  refine mg_isub (pc := 11) dX12_closes_11 ?_
  refine mb_pi (pc := 12) dX12_closes_12 fp_X12_221 hr (fun m3 hr => ?_)
  refine ml_aload_n (pc := 15) dX12_closes_15 rfl mm_get_0 ?_
  refine mg_dup (pc := 16) dX12_closes_16 rfl ?_
  refine mb_gi (pc := 17) dX12_closes_17 fl_X12_237 hr (fun x4 hr => ?_)
  refine mg_iconst (pc := 20) dX12_closes_20 kc_1 ?_
  refine mg_isub (pc := 21) dX12_closes_21 ?_
  refine mb_pi (pc := 22) dX12_closes_22 fp_X12_237 hr (fun m5 hr => ?_)
  refine ml_aload_n (pc := 25) dX12_closes_25 rfl mm_get_0 ?_
  refine mb_cVv (pc := 26) (As := []) (rest := []) dX12_closes_26 cw_X12_215 h0 hr (fun v hv => X12_goes_ok hz (by omega) h0 hv) rfl (Nat.le_of_ble_eq_true rfl) (Nat.zero_le _) (Nat.zero_le _) (fun r6 hr => ?_)
  exact mb_vret dX12_closes_29 rfl hr
theorem dX12_expression_0 : decode cX12_expression 0 = .ok (.aload_n 0, 1) := by decide +kernel
theorem dX12_expression_1 : decode cX12_expression 1 = .ok (.invokevirtual 211, 3) := by decide +kernel
theorem dX12_expression_4 : decode cX12_expression 4 = .ok (.ifCond .ne 4, 3) := by decide +kernel
theorem dX12_expression_7 : decode cX12_expression 7 = .ok (.return_, 1) := by decide +kernel
theorem dX12_expression_8 : decode cX12_expression 8 = .ok (.aload_n 0, 1) := by decide +kernel
theorem dX12_expression_9 : decode cX12_expression 9 = .ok (.iconst 0, 1) := by decide +kernel
theorem dX12_expression_10 : decode cX12_expression 10 = .ok (.putfield 221, 3) := by decide +kernel
theorem dX12_expression_13 : decode cX12_expression 13 = .ok (.aload_n 0, 1) := by decide +kernel
theorem dX12_expression_14 : decode cX12_expression 14 = .ok (.iconst 0, 1) := by decide +kernel
theorem dX12_expression_15 : decode cX12_expression 15 = .ok (.putfield 237, 3) := by decide +kernel
theorem dX12_expression_18 : decode cX12_expression 18 = .ok (.aload_n 0, 1) := by decide +kernel
theorem dX12_expression_19 : decode cX12_expression 19 = .ok (.invokevirtual 246, 3) := by decide +kernel
theorem dX12_expression_22 : decode cX12_expression 22 = .ok (.aload_n 0, 1) := by decide +kernel
theorem dX12_expression_23 : decode cX12_expression 23 = .ok (.iconst 1, 1) := by decide +kernel
theorem dX12_expression_24 : decode cX12_expression 24 = .ok (.invokevirtual 255, 3) := by decide +kernel
theorem dX12_expression_27 : decode cX12_expression 27 = .ok (.iconst 1, 1) := by decide +kernel
theorem dX12_expression_28 : decode cX12_expression 28 = .ok (.istore_n 1, 1) := by decide +kernel
theorem dX12_expression_29 : decode cX12_expression 29 = .ok (.iload_n 1, 1) := by decide +kernel
theorem dX12_expression_30 : decode cX12_expression 30 = .ok (.ifCond .eq 295, 3) := by decide +kernel
theorem dX12_expression_33 : decode cX12_expression 33 = .ok (.aload_n 0, 1) := by decide +kernel
theorem dX12_expression_34 : decode cX12_expression 34 = .ok (.invokevirtual 211, 3) := by decide +kernel
theorem dX12_expression_37 : decode cX12_expression 37 = .ok (.ifCond .eq 288, 3) := by decide +kernel
theorem dX12_expression_40 : decode cX12_expression 40 = .ok (.aload_n 0, 1) := by decide +kernel
theorem dX12_expression_41 : decode cX12_expression 41 = .ok (.invokevirtual 233, 3) := by decide +kernel
theorem dX12_expression_44 : decode cX12_expression 44 = .ok (.istore_n 2, 1) := by decide +kernel
theorem dX12_expression_45 : decode cX12_expression 45 = .ok (.iload_n 2, 1) := by decide +kernel
theorem dX12_expression_46 : decode cX12_expression 46 = .ok (.bipush 14, 2) := by decide +kernel
theorem dX12_expression_48 : decode cX12_expression 48 = .ok (.if_icmp .eq 9, 3) := by decide +kernel
theorem dX12_expression_51 : decode cX12_expression 51 = .ok (.iload_n 2, 1) := by decide +kernel
theorem dX12_expression_52 : decode cX12_expression 52 = .ok (.bipush 15, 2) := by decide +kernel
theorem dX12_expression_54 : decode cX12_expression 54 = .ok (.if_icmp .ne 55, 3) := by decide +kernel
theorem dX12_expression_57 : decode cX12_expression 57 = .ok (.aload_n 0, 1) := by decide +kernel
theorem dX12_expression_58 : decode cX12_expression 58 = .ok (.iload_n 2, 1) := by decide +kernel
theorem dX12_expression_59 : decode cX12_expression 59 = .ok (.bipush 14, 2) := by decide +kernel
theorem dX12_expression_61 : decode cX12_expression 61 = .ok (.if_icmp .ne 7, 3) := by decide +kernel
theorem dX12_expression_64 : decode cX12_expression 64 = .ok (.iconst 2, 1) := by decide +kernel
theorem dX12_expression_65 : decode cX12_expression 65 = .ok (.goto 4, 3) := by decide +kernel
theorem dX12_expression_68 : decode cX12_expression 68 = .ok (.iconst 1, 1) := by decide +kernel
theorem dX12_expression_69 : decode cX12_expression 69 = .ok (.invokevirtual 252, 3) := by decide +kernel
theorem dX12_expression_72 : decode cX12_expression 72 = .ok (.aload_n 0, 1) := by decide +kernel
theorem dX12_expression_73 : decode cX12_expression 73 = .ok (.iload_n 2, 1) := by decide +kernel
theorem dX12_expression_74 : decode cX12_expression 74 = .ok (.bipush 14, 2) := by decide +kernel
theorem dX12_expression_76 : decode cX12_expression 76 = .ok (.if_icmp .ne 7, 3) := by decide +kernel
theorem dX12_expression_79 : decode cX12_expression 79 = .ok (.iconst 4, 1) := by decide +kernel
theorem dX12_expression_80 : decode cX12_expression 80 = .ok (.goto 4, 3) := by decide +kernel
theorem dX12_expression_83 : decode cX12_expression 83 = .ok (.iconst 5, 1) := by decide +kernel
theorem dX12_expression_84 : decode cX12_expression 84 = .ok (.invokevirtual 243, 3) := by decide +kernel
theorem dX12_expression_87 : decode cX12_expression 87 = .ok (.aload_n 0, 1) := by decide +kernel
theorem dX12_expression_88 : decode cX12_expression 88 = .ok (.getfield 53, 3) := by decide +kernel
theorem dX12_expression_91 : decode cX12_expression 91 = .ok (.aload_n 0, 1) := by decide +kernel
theorem dX12_expression_92 : decode cX12_expression 92 = .ok (.getfield 237, 3) := by decide +kernel
theorem dX12_expression_95 : decode cX12_expression 95 = .ok (.iconst 0, 1) := by decide +kernel
theorem dX12_expression_96 : decode cX12_expression 96 = .ok (.bastore, 1) := by decide +kernel
theorem dX12_expression_97 : decode cX12_expression 97 = .ok (.aload_n 0, 1) := by decide +kernel
theorem dX12_expression_98 : decode cX12_expression 98 = .ok (.invokevirtual 215, 3) := by decide +kernel
theorem dX12_expression_101 : decode cX12_expression 101 = .ok (.aload_n 0, 1) := by decide +kernel
theorem dX12_expression_102 : decode cX12_expression 102 = .ok (.iconst 1, 1) := by decide +kernel
theorem dX12_expression_103 : decode cX12_expression 103 = .ok (.invokevirtual 255, 3) := by decide +kernel
theorem dX12_expression_106 : decode cX12_expression 106 = .ok (.goto 216, 3) := by decide +kernel
theorem dX12_expression_109 : decode cX12_expression 109 = .ok (.aload_n 0, 1) := by decide +kernel
theorem dX12_expression_110 : decode cX12_expression 110 = .ok (.bipush 60, 2) := by decide +kernel
theorem dX12_expression_112 : decode cX12_expression 112 = .ok (.invokevirtual 240, 3) := by decide +kernel
theorem dX12_expression_115 : decode cX12_expression 115 = .ok (.ifCond .ne 12, 3) := by decide +kernel
theorem dX12_expression_118 : decode cX12_expression 118 = .ok (.aload_n 0, 1) := by decide +kernel
theorem dX12_expression_119 : decode cX12_expression 119 = .ok (.bipush 61, 2) := by decide +kernel
theorem dX12_expression_121 : decode cX12_expression 121 = .ok (.invokevirtual 240, 3) := by decide +kernel
theorem dX12_expression_124 : decode cX12_expression 124 = .ok (.ifCond .eq 62, 3) := by decide +kernel
theorem dX12_expression_127 : decode cX12_expression 127 = .ok (.aload_n 0, 1) := by decide +kernel
theorem dX12_expression_128 : decode cX12_expression 128 = .ok (.getfield 53, 3) := by decide +kernel
theorem dX12_expression_131 : decode cX12_expression 131 = .ok (.aload_n 0, 1) := by decide +kernel
theorem dX12_expression_132 : decode cX12_expression 132 = .ok (.getfield 237, 3) := by decide +kernel
theorem dX12_expression_135 : decode cX12_expression 135 = .ok (.baload, 1) := by decide +kernel
theorem dX12_expression_136 : decode cX12_expression 136 = .ok (.ifCond .ne 50, 3) := by decide +kernel
theorem dX12_expression_139 : decode cX12_expression 139 = .ok (.aload_n 0, 1) := by decide +kernel
theorem dX12_expression_140 : decode cX12_expression 140 = .ok (.iconst 4, 1) := by decide +kernel
theorem dX12_expression_141 : decode cX12_expression 141 = .ok (.invokevirtual 252, 3) := by decide +kernel
theorem dX12_expression_144 : decode cX12_expression 144 = .ok (.aload_n 0, 1) := by decide +kernel
theorem dX12_expression_145 : decode cX12_expression 145 = .ok (.aload_n 0, 1) := by decide +kernel
theorem dX12_expression_146 : decode cX12_expression 146 = .ok (.bipush 60, 2) := by decide +kernel
theorem dX12_expression_148 : decode cX12_expression 148 = .ok (.invokevirtual 240, 3) := by decide +kernel
theorem dX12_expression_151 : decode cX12_expression 151 = .ok (.ifCond .eq 8, 3) := by decide +kernel
theorem dX12_expression_154 : decode cX12_expression 154 = .ok (.bipush 6, 2) := by decide +kernel
theorem dX12_expression_156 : decode cX12_expression 156 = .ok (.goto 5, 3) := by decide +kernel
theorem dX12_expression_159 : decode cX12_expression 159 = .ok (.bipush 7, 2) := by decide +kernel
theorem dX12_expression_161 : decode cX12_expression 161 = .ok (.invokevirtual 243, 3) := by decide +kernel
theorem dX12_expression_164 : decode cX12_expression 164 = .ok (.aload_n 0, 1) := by decide +kernel
theorem dX12_expression_165 : decode cX12_expression 165 = .ok (.getfield 53, 3) := by decide +kernel
theorem dX12_expression_168 : decode cX12_expression 168 = .ok (.aload_n 0, 1) := by decide +kernel
theorem dX12_expression_169 : decode cX12_expression 169 = .ok (.getfield 237, 3) := by decide +kernel
theorem dX12_expression_172 : decode cX12_expression 172 = .ok (.iconst 1, 1) := by decide +kernel
theorem dX12_expression_173 : decode cX12_expression 173 = .ok (.bastore, 1) := by decide +kernel
theorem dX12_expression_174 : decode cX12_expression 174 = .ok (.aload_n 0, 1) := by decide +kernel
theorem dX12_expression_175 : decode cX12_expression 175 = .ok (.invokevirtual 215, 3) := by decide +kernel
theorem dX12_expression_178 : decode cX12_expression 178 = .ok (.aload_n 0, 1) := by decide +kernel
theorem dX12_expression_179 : decode cX12_expression 179 = .ok (.iconst 0, 1) := by decide +kernel
theorem dX12_expression_180 : decode cX12_expression 180 = .ok (.invokevirtual 255, 3) := by decide +kernel
theorem dX12_expression_183 : decode cX12_expression 183 = .ok (.goto 139, 3) := by decide +kernel
theorem dX12_expression_186 : decode cX12_expression 186 = .ok (.aload_n 0, 1) := by decide +kernel
theorem dX12_expression_187 : decode cX12_expression 187 = .ok (.bipush 43, 2) := by decide +kernel
theorem dX12_expression_189 : decode cX12_expression 189 = .ok (.invokevirtual 240, 3) := by decide +kernel
theorem dX12_expression_192 : decode cX12_expression 192 = .ok (.ifCond .ne 12, 3) := by decide +kernel
theorem dX12_expression_195 : decode cX12_expression 195 = .ok (.aload_n 0, 1) := by decide +kernel
theorem dX12_expression_196 : decode cX12_expression 196 = .ok (.bipush 45, 2) := by decide +kernel
theorem dX12_expression_198 : decode cX12_expression 198 = .ok (.invokevirtual 240, 3) := by decide +kernel
theorem dX12_expression_201 : decode cX12_expression 201 = .ok (.ifCond .eq 40, 3) := by decide +kernel
theorem dX12_expression_204 : decode cX12_expression 204 = .ok (.aload_n 0, 1) := by decide +kernel
theorem dX12_expression_205 : decode cX12_expression 205 = .ok (.iconst 5, 1) := by decide +kernel
theorem dX12_expression_206 : decode cX12_expression 206 = .ok (.invokevirtual 252, 3) := by decide +kernel
theorem dX12_expression_209 : decode cX12_expression 209 = .ok (.aload_n 0, 1) := by decide +kernel
theorem dX12_expression_210 : decode cX12_expression 210 = .ok (.aload_n 0, 1) := by decide +kernel
theorem dX12_expression_211 : decode cX12_expression 211 = .ok (.bipush 43, 2) := by decide +kernel
theorem dX12_expression_213 : decode cX12_expression 213 = .ok (.invokevirtual 240, 3) := by decide +kernel
theorem dX12_expression_216 : decode cX12_expression 216 = .ok (.ifCond .eq 8, 3) := by decide +kernel
theorem dX12_expression_219 : decode cX12_expression 219 = .ok (.bipush 8, 2) := by decide +kernel
theorem dX12_expression_221 : decode cX12_expression 221 = .ok (.goto 5, 3) := by decide +kernel
theorem dX12_expression_224 : decode cX12_expression 224 = .ok (.bipush 9, 2) := by decide +kernel
theorem dX12_expression_226 : decode cX12_expression 226 = .ok (.invokevirtual 243, 3) := by decide +kernel
theorem dX12_expression_229 : decode cX12_expression 229 = .ok (.aload_n 0, 1) := by decide +kernel
theorem dX12_expression_230 : decode cX12_expression 230 = .ok (.invokevirtual 215, 3) := by decide +kernel
theorem dX12_expression_233 : decode cX12_expression 233 = .ok (.aload_n 0, 1) := by decide +kernel
theorem dX12_expression_234 : decode cX12_expression 234 = .ok (.iconst 0, 1) := by decide +kernel
theorem dX12_expression_235 : decode cX12_expression 235 = .ok (.invokevirtual 255, 3) := by decide +kernel
theorem dX12_expression_238 : decode cX12_expression 238 = .ok (.goto 84, 3) := by decide +kernel
theorem dX12_expression_241 : decode cX12_expression 241 = .ok (.aload_n 0, 1) := by decide +kernel
theorem dX12_expression_242 : decode cX12_expression 242 = .ok (.bipush 42, 2) := by decide +kernel
theorem dX12_expression_244 : decode cX12_expression 244 = .ok (.invokevirtual 240, 3) := by decide +kernel
theorem dX12_expression_247 : decode cX12_expression 247 = .ok (.ifCond .ne 12, 3) := by decide +kernel
theorem dX12_expression_250 : decode cX12_expression 250 = .ok (.aload_n 0, 1) := by decide +kernel
theorem dX12_expression_251 : decode cX12_expression 251 = .ok (.bipush 47, 2) := by decide +kernel
theorem dX12_expression_253 : decode cX12_expression 253 = .ok (.invokevirtual 240, 3) := by decide +kernel
theorem dX12_expression_256 : decode cX12_expression 256 = .ok (.ifCond .eq 41, 3) := by decide +kernel
theorem dX12_expression_259 : decode cX12_expression 259 = .ok (.aload_n 0, 1) := by decide +kernel
theorem dX12_expression_260 : decode cX12_expression 260 = .ok (.bipush 6, 2) := by decide +kernel
theorem dX12_expression_262 : decode cX12_expression 262 = .ok (.invokevirtual 252, 3) := by decide +kernel
theorem dX12_expression_265 : decode cX12_expression 265 = .ok (.aload_n 0, 1) := by decide +kernel
theorem dX12_expression_266 : decode cX12_expression 266 = .ok (.aload_n 0, 1) := by decide +kernel
theorem dX12_expression_267 : decode cX12_expression 267 = .ok (.bipush 42, 2) := by decide +kernel
theorem dX12_expression_269 : decode cX12_expression 269 = .ok (.invokevirtual 240, 3) := by decide +kernel
theorem dX12_expression_272 : decode cX12_expression 272 = .ok (.ifCond .eq 8, 3) := by decide +kernel
theorem dX12_expression_275 : decode cX12_expression 275 = .ok (.bipush 10, 2) := by decide +kernel
theorem dX12_expression_277 : decode cX12_expression 277 = .ok (.goto 5, 3) := by decide +kernel
theorem dX12_expression_280 : decode cX12_expression 280 = .ok (.bipush 11, 2) := by decide +kernel
theorem dX12_expression_282 : decode cX12_expression 282 = .ok (.invokevirtual 243, 3) := by decide +kernel
theorem dX12_expression_285 : decode cX12_expression 285 = .ok (.aload_n 0, 1) := by decide +kernel
theorem dX12_expression_286 : decode cX12_expression 286 = .ok (.invokevirtual 215, 3) := by decide +kernel
theorem dX12_expression_289 : decode cX12_expression 289 = .ok (.aload_n 0, 1) := by decide +kernel
theorem dX12_expression_290 : decode cX12_expression 290 = .ok (.iconst 0, 1) := by decide +kernel
theorem dX12_expression_291 : decode cX12_expression 291 = .ok (.invokevirtual 255, 3) := by decide +kernel
theorem dX12_expression_294 : decode cX12_expression 294 = .ok (.goto 28, 3) := by decide +kernel
theorem dX12_expression_297 : decode cX12_expression 297 = .ok (.aload_n 0, 1) := by decide +kernel
theorem dX12_expression_298 : decode cX12_expression 298 = .ok (.bipush 41, 2) := by decide +kernel
theorem dX12_expression_300 : decode cX12_expression 300 = .ok (.invokevirtual 240, 3) := by decide +kernel
theorem dX12_expression_303 : decode cX12_expression 303 = .ok (.ifCond .eq 17, 3) := by decide +kernel
theorem dX12_expression_306 : decode cX12_expression 306 = .ok (.aload_n 0, 1) := by decide +kernel
theorem dX12_expression_307 : decode cX12_expression 307 = .ok (.invokevirtual 259, 3) := by decide +kernel
theorem dX12_expression_310 : decode cX12_expression 310 = .ok (.ifCond .eq 10, 3) := by decide +kernel
theorem dX12_expression_313 : decode cX12_expression 313 = .ok (.aload_n 0, 1) := by decide +kernel
theorem dX12_expression_314 : decode cX12_expression 314 = .ok (.invokevirtual 262, 3) := by decide +kernel
theorem dX12_expression_317 : decode cX12_expression 317 = .ok (.goto 5, 3) := by decide +kernel
theorem dX12_expression_320 : decode cX12_expression 320 = .ok (.iconst 0, 1) := by decide +kernel
theorem dX12_expression_321 : decode cX12_expression 321 = .ok (.istore_n 1, 1) := by decide +kernel
theorem dX12_expression_322 : decode cX12_expression 322 = .ok (.goto (-293), 3) := by decide +kernel
theorem dX12_expression_325 : decode cX12_expression 325 = .ok (.aload_n 0, 1) := by decide +kernel
theorem dX12_expression_326 : decode cX12_expression 326 = .ok (.invokevirtual 211, 3) := by decide +kernel
theorem dX12_expression_329 : decode cX12_expression 329 = .ok (.ifCond .eq 16, 3) := by decide +kernel
theorem dX12_expression_332 : decode cX12_expression 332 = .ok (.aload_n 0, 1) := by decide +kernel
theorem dX12_expression_333 : decode cX12_expression 333 = .ok (.getfield 237, 3) := by decide +kernel
theorem dX12_expression_336 : decode cX12_expression 336 = .ok (.iconst 1, 1) := by decide +kernel
theorem dX12_expression_337 : decode cX12_expression 337 = .ok (.if_icmp .le 8, 3) := by decide +kernel
theorem dX12_expression_340 : decode cX12_expression 340 = .ok (.aload_n 0, 1) := by decide +kernel
theorem dX12_expression_341 : decode cX12_expression 341 = .ok (.iconst 1, 1) := by decide +kernel
theorem dX12_expression_342 : decode cX12_expression 342 = .ok (.invokevirtual 218, 3) := by decide +kernel
theorem dX12_expression_345 : decode cX12_expression 345 = .ok (.aload_n 0, 1) := by decide +kernel
theorem dX12_expression_346 : decode cX12_expression 346 = .ok (.iconst 0, 1) := by decide +kernel
theorem dX12_expression_347 : decode cX12_expression 347 = .ok (.invokevirtual 252, 3) := by decide +kernel
theorem dX12_expression_350 : decode cX12_expression 350 = .ok (.aload_n 0, 1) := by decide +kernel
theorem dX12_expression_351 : decode cX12_expression 351 = .ok (.iconst 0, 1) := by decide +kernel
theorem dX12_expression_352 : decode cX12_expression 352 = .ok (.invokevirtual 230, 3) := by decide +kernel
theorem dX12_expression_355 : decode cX12_expression 355 = .ok (.return_, 1) := by decide +kernel
def X12_expression_b345 (e : mm_E) (a0 : Nat) (m : mm_V) : Option mm_V := (X12_drops e a0 (0 : Int32) m).bind fun r1 => (X12_puts e a0 (0 : Int32) r1).bind fun r2 => some r2
theorem X12_expression_b345_ok {K : mm_K} {nx : Option Nat} {e : mm_E} (hz : e.2.1 = K.2.2.2.2) {d : Nat} (hd : 5 ≤ d) {a0 : Nat} (h0 : e.1 a0 = some (12, 75)) {m : mm_V} {r : mm_V} (hr : X12_expression_b345 e a0 m = some r) : mm_G K MX12_expression d (mm_Fv e.1 nx r) 345 [some (.ref a0), none, none] [] (e.1, m) nx 0 0 := by
  obtain ⟨d, rfl⟩ : ∃ d', d = d' + 1 := ⟨d - 1, by omega⟩
  unfold X12_expression_b345 at hr
  refine ml_aload_n (pc := 345) dX12_expression_345 rfl mm_get_0 ?_
  refine mg_iconst (pc := 346) dX12_expression_346 kc_0 ?_
  refine mb_cVv (pc := 347) (As := [.int (0 : Int32)]) (rest := []) dX12_expression_347 cw_X12_252 h0 hr (fun v hv => X12_drops_ok hz (by omega) h0 hv) rfl (Nat.le_of_ble_eq_true rfl) (Nat.zero_le _) (Nat.zero_le _) (fun r1 hr => ?_)
  refine ml_aload_n (pc := 350) dX12_expression_350 rfl mm_get_0 ?_
  refine mg_iconst (pc := 351) dX12_expression_351 kc_0 ?_
  refine mb_cVv (pc := 352) (As := [.int (0 : Int32)]) (rest := []) dX12_expression_352 cw_X12_230 h0 hr (fun v hv => X12_puts_ok hz (by omega) h0 hv) rfl (Nat.le_of_ble_eq_true rfl) (Nat.zero_le _) (Nat.zero_le _) (fun r2 hr => ?_)
  exact mb_vret dX12_expression_355 rfl hr
def X12_expression_b325 (e : mm_E) (a0 : Nat) (m : mm_V) : Option mm_V := (X12_isGood e a0 m).bind fun r1 => if r1.1 = 0 then (X12_expression_b345 e a0  r1.2) else ((mm_gi e.1 r1.2 12 75 a0 27).bind fun x2 => if x2 ≤ (1 : Int32) then (X12_expression_b345 e a0  r1.2) else ((X12_wrong e a0 (1 : Int32) r1.2).bind fun r3 => X12_expression_b345 e a0  r3))
theorem X12_expression_b325_ok {K : mm_K} {nx : Option Nat} {e : mm_E} (hz : e.2.1 = K.2.2.2.2) {d : Nat} (hd : 5 ≤ d) {a0 : Nat} (h0 : e.1 a0 = some (12, 75)) {m : mm_V} {r : mm_V} (hr : X12_expression_b325 e a0 m = some r) : mm_G K MX12_expression d (mm_Fv e.1 nx r) 325 [some (.ref a0), none, none] [] (e.1, m) nx 0 0 := by
  obtain ⟨d, rfl⟩ : ∃ d', d = d' + 1 := ⟨d - 1, by omega⟩
  unfold X12_expression_b325 at hr
  refine ml_aload_n (pc := 325) dX12_expression_325 rfl mm_get_0 ?_
  refine mb_cVi (pc := 326) (As := []) (rest := []) dX12_expression_326 cw_X12_211 h0 hr (fun v hv => X12_isGood_ok hz (by omega) h0 hv) rfl (Nat.le_of_ble_eq_true rfl) (Nat.zero_le _) (Nat.zero_le _) (fun r1 hr => ?_)
  refine mb_if_eq (pc := 329) 345 dX12_expression_329 rfl hr (fun hr => ?_) (fun hr => ?_)
  · exact mg_weak (mm_le_s (mm_le_n (mm_le_n mm_le_0))) (X12_expression_b345_ok hz hd h0 hr)
  · refine ml_aload_n (pc := 332) dX12_expression_332 rfl mm_get_0 ?_
    refine mb_gi (pc := 333) dX12_expression_333 fl_X12_237 hr (fun x2 hr => ?_)
    refine mg_iconst (pc := 336) dX12_expression_336 kc_1 ?_
    refine mb_icmp_le (pc := 337) 345 dX12_expression_337 rfl hr (fun hr => ?_) (fun hr => ?_)
    · exact mg_weak (mm_le_s (mm_le_n (mm_le_n mm_le_0))) (X12_expression_b345_ok hz hd h0 hr)
    · refine ml_aload_n (pc := 340) dX12_expression_340 rfl mm_get_0 ?_
      refine mg_iconst (pc := 341) dX12_expression_341 kc_1 ?_
      refine mb_cVv (pc := 342) (As := [.int (1 : Int32)]) (rest := []) dX12_expression_342 cw_X12_218 h0 hr (fun v hv => X12_wrong_ok hz (by omega) h0 hv) rfl (Nat.le_of_ble_eq_true rfl) (Nat.zero_le _) (Nat.zero_le _) (fun r3 hr => ?_)
      exact mg_weak (mm_le_s (mm_le_n (mm_le_n mm_le_0))) (X12_expression_b345_ok hz hd h0 hr)
def X12_expression_b322 (e : mm_E) (k29 : Int32 → mm_V → Option mm_V) (a0 : Nat) (i1 : Int32) (m : mm_V) : Option mm_V := k29 i1 m
theorem X12_expression_b322_ok {K : mm_K} {nx : Option Nat} {e : mm_E} (hz : e.2.1 = K.2.2.2.2) {d : Nat} (hd : 5 ≤ d) {a0 : Nat} {i1 : Int32} (h0 : e.1 a0 = some (12, 75)) {k29 : Int32 → mm_V → Option mm_V} (hk29 : ∀ (w1 : Int32) (m : mm_V) (r : mm_V), k29 w1 m = some r → mm_G K MX12_expression d (mm_Fv e.1 nx r) 29 [some (.ref a0), some (.int w1), none] [] (e.1, m) nx 0 0) {m : mm_V} {r : mm_V} (hr : X12_expression_b322 e k29 a0 i1 m = some r) : mm_G K MX12_expression d (mm_Fv e.1 nx r) 322 [some (.ref a0), some (.int i1), none] [] (e.1, m) nx 0 0 := by
  obtain ⟨d, rfl⟩ : ∃ d', d = d' + 1 := ⟨d - 1, by omega⟩
  unfold X12_expression_b322 at hr
  refine mg_goto (pc := 322) 29 dX12_expression_322 rfl ?_
  exact mg_weak (mm_le_s (mm_le_s (mm_le_n mm_le_0))) (hk29 _ _ _ hr)
def X12_expression_b320 (e : mm_E) (k29 : Int32 → mm_V → Option mm_V) (a0 : Nat) (m : mm_V) : Option mm_V := X12_expression_b322 e k29 a0 (0 : Int32)  m
theorem X12_expression_b320_ok {K : mm_K} {nx : Option Nat} {e : mm_E} (hz : e.2.1 = K.2.2.2.2) {d : Nat} (hd : 5 ≤ d) {a0 : Nat} (h0 : e.1 a0 = some (12, 75)) {k29 : Int32 → mm_V → Option mm_V} (hk29 : ∀ (w1 : Int32) (m : mm_V) (r : mm_V), k29 w1 m = some r → mm_G K MX12_expression d (mm_Fv e.1 nx r) 29 [some (.ref a0), some (.int w1), none] [] (e.1, m) nx 0 0) {m : mm_V} {r : mm_V} (hr : X12_expression_b320 e k29 a0 m = some r) : mm_G K MX12_expression d (mm_Fv e.1 nx r) 320 [some (.ref a0), none, none] [] (e.1, m) nx 0 0 := by
  obtain ⟨d, rfl⟩ : ∃ d', d = d' + 1 := ⟨d - 1, by omega⟩
  unfold X12_expression_b320 at hr
  refine mg_iconst (pc := 320) dX12_expression_320 kc_0 ?_
  refine ml_istore_n (pc := 321) dX12_expression_321 rfl (Nat.le_of_ble_eq_true rfl) mm_st1_r ?_
  exact mg_weak (mm_le_s (mm_le_s (mm_le_n mm_le_0))) (X12_expression_b322_ok hz hd h0 hk29 hr)
def X12_expression_b282 (e : mm_E) (k29 : Int32 → mm_V → Option mm_V) (a0 : Nat) (i1 : Int32) (t0 : Nat) (t1 : Int32) (m : mm_V) : Option mm_V := if e.1 t0 = some (12, 75) then ((X12_waitsFor e t0 t1 m).bind fun r1 => (X12_goes e a0 r1).bind fun r3 => (X12_operand e a0 (0 : Int32) r3).bind fun r4 => X12_expression_b322 e k29 a0 i1  r4) else none
theorem X12_expression_b282_ok {K : mm_K} {nx : Option Nat} {e : mm_E} (hz : e.2.1 = K.2.2.2.2) {d : Nat} (hd : 5 ≤ d) {a0 : Nat} {i1 : Int32} {t0 : Nat} {t1 : Int32} (h0 : e.1 a0 = some (12, 75)) {k29 : Int32 → mm_V → Option mm_V} (hk29 : ∀ (w1 : Int32) (m : mm_V) (r : mm_V), k29 w1 m = some r → mm_G K MX12_expression d (mm_Fv e.1 nx r) 29 [some (.ref a0), some (.int w1), none] [] (e.1, m) nx 0 0) {m : mm_V} {r : mm_V} (hr : X12_expression_b282 e k29 a0 i1 t0 t1 m = some r) : mm_G K MX12_expression d (mm_Fv e.1 nx r) 282 [some (.ref a0), some (.int i1), none] [.int t1, .ref t0] (e.1, m) nx 0 0 := by
  obtain ⟨d, rfl⟩ : ∃ d', d = d' + 1 := ⟨d - 1, by omega⟩
  unfold X12_expression_b282 at hr
  refine mb_ck hr (fun hb2 hr => ?_)
  refine mb_cVv (pc := 282) (As := [.int t1]) (rest := []) dX12_expression_282 cw_X12_243 hb2 hr (fun v hv => X12_waitsFor_ok hz (by omega) hb2 hv) rfl (Nat.le_of_ble_eq_true rfl) (Nat.zero_le _) (Nat.zero_le _) (fun r1 hr => ?_)
  refine ml_aload_n (pc := 285) dX12_expression_285 rfl mm_get_0 ?_
  refine mb_cVv (pc := 286) (As := []) (rest := []) dX12_expression_286 cw_X12_215 h0 hr (fun v hv => X12_goes_ok hz (by omega) h0 hv) rfl (Nat.le_of_ble_eq_true rfl) (Nat.zero_le _) (Nat.zero_le _) (fun r3 hr => ?_)
  refine ml_aload_n (pc := 289) dX12_expression_289 rfl mm_get_0 ?_
  refine mg_iconst (pc := 290) dX12_expression_290 kc_0 ?_
  refine mb_cVv (pc := 291) (As := [.int (0 : Int32)]) (rest := []) dX12_expression_291 cw_X12_255 h0 hr (fun v hv => X12_operand_ok hz (by omega) h0 hv) rfl (Nat.le_of_ble_eq_true rfl) (Nat.zero_le _) (Nat.zero_le _) (fun r4 hr => ?_)
  refine mg_goto (pc := 294) 322 dX12_expression_294 rfl ?_
  exact mg_weak (mm_le_s (mm_le_s (mm_le_n mm_le_0))) (X12_expression_b322_ok hz hd h0 hk29 hr)
def X12_expression_b259 (e : mm_E) (k29 : Int32 → mm_V → Option mm_V) (a0 : Nat) (i1 : Int32) (m : mm_V) : Option mm_V := (X12_drops e a0 (6 : Int32) m).bind fun r1 => (X12_isSign e a0 (42 : Int32) r1).bind fun r2 => if r2.1 = 0 then (X12_expression_b282 e k29 a0 i1 a0 (11 : Int32) r2.2) else (X12_expression_b282 e k29 a0 i1 a0 (10 : Int32) r2.2)
theorem X12_expression_b259_ok {K : mm_K} {nx : Option Nat} {e : mm_E} (hz : e.2.1 = K.2.2.2.2) {d : Nat} (hd : 5 ≤ d) {a0 : Nat} {i1 : Int32} (h0 : e.1 a0 = some (12, 75)) {k29 : Int32 → mm_V → Option mm_V} (hk29 : ∀ (w1 : Int32) (m : mm_V) (r : mm_V), k29 w1 m = some r → mm_G K MX12_expression d (mm_Fv e.1 nx r) 29 [some (.ref a0), some (.int w1), none] [] (e.1, m) nx 0 0) {m : mm_V} {r : mm_V} (hr : X12_expression_b259 e k29 a0 i1 m = some r) : mm_G K MX12_expression d (mm_Fv e.1 nx r) 259 [some (.ref a0), some (.int i1), none] [] (e.1, m) nx 0 0 := by
  obtain ⟨d, rfl⟩ : ∃ d', d = d' + 1 := ⟨d - 1, by omega⟩
  unfold X12_expression_b259 at hr
  refine ml_aload_n (pc := 259) dX12_expression_259 rfl mm_get_0 ?_
  refine mg_bipush (pc := 260) dX12_expression_260 kb_6 ?_
  refine mb_cVv (pc := 262) (As := [.int (6 : Int32)]) (rest := []) dX12_expression_262 cw_X12_252 h0 hr (fun v hv => X12_drops_ok hz (by omega) h0 hv) rfl (Nat.le_of_ble_eq_true rfl) (Nat.zero_le _) (Nat.zero_le _) (fun r1 hr => ?_)
  refine ml_aload_n (pc := 265) dX12_expression_265 rfl mm_get_0 ?_
  refine ml_aload_n (pc := 266) dX12_expression_266 rfl mm_get_0 ?_
  refine mg_bipush (pc := 267) dX12_expression_267 kb_42 ?_
  refine mb_cVi (pc := 269) (As := [.int (42 : Int32)]) (rest := [.ref a0]) dX12_expression_269 cw_X12_240 h0 hr (fun v hv => X12_isSign_ok hz (by omega) h0 hv) rfl (Nat.le_of_ble_eq_true rfl) (Nat.zero_le _) (Nat.zero_le _) (fun r2 hr => ?_)
  refine mb_if_eq (pc := 272) 280 dX12_expression_272 rfl hr (fun hr => ?_) (fun hr => ?_)
  · refine mg_bipush (pc := 280) dX12_expression_280 kb_11 ?_
    exact mg_weak (mm_le_s (mm_le_s (mm_le_n mm_le_0))) (X12_expression_b282_ok hz hd h0 hk29 hr)
  · refine mg_bipush (pc := 275) dX12_expression_275 kb_10 ?_
    refine mg_goto (pc := 277) 282 dX12_expression_277 rfl ?_
    exact mg_weak (mm_le_s (mm_le_s (mm_le_n mm_le_0))) (X12_expression_b282_ok hz hd h0 hk29 hr)
def X12_expression_b226 (e : mm_E) (k29 : Int32 → mm_V → Option mm_V) (a0 : Nat) (i1 : Int32) (t0 : Nat) (t1 : Int32) (m : mm_V) : Option mm_V := if e.1 t0 = some (12, 75) then ((X12_waitsFor e t0 t1 m).bind fun r1 => (X12_goes e a0 r1).bind fun r3 => (X12_operand e a0 (0 : Int32) r3).bind fun r4 => X12_expression_b322 e k29 a0 i1  r4) else none
theorem X12_expression_b226_ok {K : mm_K} {nx : Option Nat} {e : mm_E} (hz : e.2.1 = K.2.2.2.2) {d : Nat} (hd : 5 ≤ d) {a0 : Nat} {i1 : Int32} {t0 : Nat} {t1 : Int32} (h0 : e.1 a0 = some (12, 75)) {k29 : Int32 → mm_V → Option mm_V} (hk29 : ∀ (w1 : Int32) (m : mm_V) (r : mm_V), k29 w1 m = some r → mm_G K MX12_expression d (mm_Fv e.1 nx r) 29 [some (.ref a0), some (.int w1), none] [] (e.1, m) nx 0 0) {m : mm_V} {r : mm_V} (hr : X12_expression_b226 e k29 a0 i1 t0 t1 m = some r) : mm_G K MX12_expression d (mm_Fv e.1 nx r) 226 [some (.ref a0), some (.int i1), none] [.int t1, .ref t0] (e.1, m) nx 0 0 := by
  obtain ⟨d, rfl⟩ : ∃ d', d = d' + 1 := ⟨d - 1, by omega⟩
  unfold X12_expression_b226 at hr
  refine mb_ck hr (fun hb2 hr => ?_)
  refine mb_cVv (pc := 226) (As := [.int t1]) (rest := []) dX12_expression_226 cw_X12_243 hb2 hr (fun v hv => X12_waitsFor_ok hz (by omega) hb2 hv) rfl (Nat.le_of_ble_eq_true rfl) (Nat.zero_le _) (Nat.zero_le _) (fun r1 hr => ?_)
  refine ml_aload_n (pc := 229) dX12_expression_229 rfl mm_get_0 ?_
  refine mb_cVv (pc := 230) (As := []) (rest := []) dX12_expression_230 cw_X12_215 h0 hr (fun v hv => X12_goes_ok hz (by omega) h0 hv) rfl (Nat.le_of_ble_eq_true rfl) (Nat.zero_le _) (Nat.zero_le _) (fun r3 hr => ?_)
  refine ml_aload_n (pc := 233) dX12_expression_233 rfl mm_get_0 ?_
  refine mg_iconst (pc := 234) dX12_expression_234 kc_0 ?_
  refine mb_cVv (pc := 235) (As := [.int (0 : Int32)]) (rest := []) dX12_expression_235 cw_X12_255 h0 hr (fun v hv => X12_operand_ok hz (by omega) h0 hv) rfl (Nat.le_of_ble_eq_true rfl) (Nat.zero_le _) (Nat.zero_le _) (fun r4 hr => ?_)
  refine mg_goto (pc := 238) 322 dX12_expression_238 rfl ?_
  exact mg_weak (mm_le_s (mm_le_s (mm_le_n mm_le_0))) (X12_expression_b322_ok hz hd h0 hk29 hr)
def X12_expression_b204 (e : mm_E) (k29 : Int32 → mm_V → Option mm_V) (a0 : Nat) (i1 : Int32) (m : mm_V) : Option mm_V := (X12_drops e a0 (5 : Int32) m).bind fun r1 => (X12_isSign e a0 (43 : Int32) r1).bind fun r2 => if r2.1 = 0 then (X12_expression_b226 e k29 a0 i1 a0 (9 : Int32) r2.2) else (X12_expression_b226 e k29 a0 i1 a0 (8 : Int32) r2.2)
theorem X12_expression_b204_ok {K : mm_K} {nx : Option Nat} {e : mm_E} (hz : e.2.1 = K.2.2.2.2) {d : Nat} (hd : 5 ≤ d) {a0 : Nat} {i1 : Int32} (h0 : e.1 a0 = some (12, 75)) {k29 : Int32 → mm_V → Option mm_V} (hk29 : ∀ (w1 : Int32) (m : mm_V) (r : mm_V), k29 w1 m = some r → mm_G K MX12_expression d (mm_Fv e.1 nx r) 29 [some (.ref a0), some (.int w1), none] [] (e.1, m) nx 0 0) {m : mm_V} {r : mm_V} (hr : X12_expression_b204 e k29 a0 i1 m = some r) : mm_G K MX12_expression d (mm_Fv e.1 nx r) 204 [some (.ref a0), some (.int i1), none] [] (e.1, m) nx 0 0 := by
  obtain ⟨d, rfl⟩ : ∃ d', d = d' + 1 := ⟨d - 1, by omega⟩
  unfold X12_expression_b204 at hr
  refine ml_aload_n (pc := 204) dX12_expression_204 rfl mm_get_0 ?_
  refine mg_iconst (pc := 205) dX12_expression_205 kc_5 ?_
  refine mb_cVv (pc := 206) (As := [.int (5 : Int32)]) (rest := []) dX12_expression_206 cw_X12_252 h0 hr (fun v hv => X12_drops_ok hz (by omega) h0 hv) rfl (Nat.le_of_ble_eq_true rfl) (Nat.zero_le _) (Nat.zero_le _) (fun r1 hr => ?_)
  refine ml_aload_n (pc := 209) dX12_expression_209 rfl mm_get_0 ?_
  refine ml_aload_n (pc := 210) dX12_expression_210 rfl mm_get_0 ?_
  refine mg_bipush (pc := 211) dX12_expression_211 kb_43 ?_
  refine mb_cVi (pc := 213) (As := [.int (43 : Int32)]) (rest := [.ref a0]) dX12_expression_213 cw_X12_240 h0 hr (fun v hv => X12_isSign_ok hz (by omega) h0 hv) rfl (Nat.le_of_ble_eq_true rfl) (Nat.zero_le _) (Nat.zero_le _) (fun r2 hr => ?_)
  refine mb_if_eq (pc := 216) 224 dX12_expression_216 rfl hr (fun hr => ?_) (fun hr => ?_)
  · refine mg_bipush (pc := 224) dX12_expression_224 kb_9 ?_
    exact mg_weak (mm_le_s (mm_le_s (mm_le_n mm_le_0))) (X12_expression_b226_ok hz hd h0 hk29 hr)
  · refine mg_bipush (pc := 219) dX12_expression_219 kb_8 ?_
    refine mg_goto (pc := 221) 226 dX12_expression_221 rfl ?_
    exact mg_weak (mm_le_s (mm_le_s (mm_le_n mm_le_0))) (X12_expression_b226_ok hz hd h0 hk29 hr)
def X12_expression_b186 (e : mm_E) (k29 : Int32 → mm_V → Option mm_V) (a0 : Nat) (i1 : Int32) (m : mm_V) : Option mm_V := (X12_isSign e a0 (43 : Int32) m).bind fun r1 => if ¬ r1.1 = 0 then (X12_expression_b204 e k29 a0 i1  r1.2) else ((X12_isSign e a0 (45 : Int32) r1.2).bind fun r2 => if r2.1 = 0 then ((X12_isSign e a0 (42 : Int32) r2.2).bind fun r3 => if ¬ r3.1 = 0 then (X12_expression_b259 e k29 a0 i1  r3.2) else ((X12_isSign e a0 (47 : Int32) r3.2).bind fun r4 => if r4.1 = 0 then ((X12_isSign e a0 (41 : Int32) r4.2).bind fun r5 => if r5.1 = 0 then (X12_expression_b320 e k29 a0  r5.2) else ((X12_isOpened e a0 r5.2).bind fun r6 => if r6.1 = 0 then (X12_expression_b320 e k29 a0  r6.2) else ((X12_closes e a0 r6.2).bind fun r7 => X12_expression_b322 e k29 a0 i1  r7))) else (X12_expression_b259 e k29 a0 i1  r4.2))) else (X12_expression_b204 e k29 a0 i1  r2.2))
theorem X12_expression_b186_ok {K : mm_K} {nx : Option Nat} {e : mm_E} (hz : e.2.1 = K.2.2.2.2) {d : Nat} (hd : 5 ≤ d) {a0 : Nat} {i1 : Int32} (h0 : e.1 a0 = some (12, 75)) {k29 : Int32 → mm_V → Option mm_V} (hk29 : ∀ (w1 : Int32) (m : mm_V) (r : mm_V), k29 w1 m = some r → mm_G K MX12_expression d (mm_Fv e.1 nx r) 29 [some (.ref a0), some (.int w1), none] [] (e.1, m) nx 0 0) {m : mm_V} {r : mm_V} (hr : X12_expression_b186 e k29 a0 i1 m = some r) : mm_G K MX12_expression d (mm_Fv e.1 nx r) 186 [some (.ref a0), some (.int i1), none] [] (e.1, m) nx 0 0 := by
  obtain ⟨d, rfl⟩ : ∃ d', d = d' + 1 := ⟨d - 1, by omega⟩
  unfold X12_expression_b186 at hr
  refine ml_aload_n (pc := 186) dX12_expression_186 rfl mm_get_0 ?_
  refine mg_bipush (pc := 187) dX12_expression_187 kb_43 ?_
  refine mb_cVi (pc := 189) (As := [.int (43 : Int32)]) (rest := []) dX12_expression_189 cw_X12_240 h0 hr (fun v hv => X12_isSign_ok hz (by omega) h0 hv) rfl (Nat.le_of_ble_eq_true rfl) (Nat.zero_le _) (Nat.zero_le _) (fun r1 hr => ?_)
  refine mb_if_ne (pc := 192) 204 dX12_expression_192 rfl hr (fun hr => ?_) (fun hr => ?_)
  · exact mg_weak (mm_le_s (mm_le_s (mm_le_n mm_le_0))) (X12_expression_b204_ok hz hd h0 hk29 hr)
  · refine ml_aload_n (pc := 195) dX12_expression_195 rfl mm_get_0 ?_
    refine mg_bipush (pc := 196) dX12_expression_196 kb_45 ?_
    refine mb_cVi (pc := 198) (As := [.int (45 : Int32)]) (rest := []) dX12_expression_198 cw_X12_240 h0 hr (fun v hv => X12_isSign_ok hz (by omega) h0 hv) rfl (Nat.le_of_ble_eq_true rfl) (Nat.zero_le _) (Nat.zero_le _) (fun r2 hr => ?_)
    refine mb_if_eq (pc := 201) 241 dX12_expression_201 rfl hr (fun hr => ?_) (fun hr => ?_)
    · refine ml_aload_n (pc := 241) dX12_expression_241 rfl mm_get_0 ?_
      refine mg_bipush (pc := 242) dX12_expression_242 kb_42 ?_
      refine mb_cVi (pc := 244) (As := [.int (42 : Int32)]) (rest := []) dX12_expression_244 cw_X12_240 h0 hr (fun v hv => X12_isSign_ok hz (by omega) h0 hv) rfl (Nat.le_of_ble_eq_true rfl) (Nat.zero_le _) (Nat.zero_le _) (fun r3 hr => ?_)
      refine mb_if_ne (pc := 247) 259 dX12_expression_247 rfl hr (fun hr => ?_) (fun hr => ?_)
      · exact mg_weak (mm_le_s (mm_le_s (mm_le_n mm_le_0))) (X12_expression_b259_ok hz hd h0 hk29 hr)
      · refine ml_aload_n (pc := 250) dX12_expression_250 rfl mm_get_0 ?_
        refine mg_bipush (pc := 251) dX12_expression_251 kb_47 ?_
        refine mb_cVi (pc := 253) (As := [.int (47 : Int32)]) (rest := []) dX12_expression_253 cw_X12_240 h0 hr (fun v hv => X12_isSign_ok hz (by omega) h0 hv) rfl (Nat.le_of_ble_eq_true rfl) (Nat.zero_le _) (Nat.zero_le _) (fun r4 hr => ?_)
        refine mb_if_eq (pc := 256) 297 dX12_expression_256 rfl hr (fun hr => ?_) (fun hr => ?_)
        · refine ml_aload_n (pc := 297) dX12_expression_297 rfl mm_get_0 ?_
          refine mg_bipush (pc := 298) dX12_expression_298 kb_41 ?_
          refine mb_cVi (pc := 300) (As := [.int (41 : Int32)]) (rest := []) dX12_expression_300 cw_X12_240 h0 hr (fun v hv => X12_isSign_ok hz (by omega) h0 hv) rfl (Nat.le_of_ble_eq_true rfl) (Nat.zero_le _) (Nat.zero_le _) (fun r5 hr => ?_)
          refine mb_if_eq (pc := 303) 320 dX12_expression_303 rfl hr (fun hr => ?_) (fun hr => ?_)
          · exact mg_weak (mm_le_s (mm_le_n (mm_le_n mm_le_0))) (X12_expression_b320_ok hz hd h0 hk29 hr)
          · refine ml_aload_n (pc := 306) dX12_expression_306 rfl mm_get_0 ?_
            refine mb_cVi (pc := 307) (As := []) (rest := []) dX12_expression_307 cw_X12_259 h0 hr (fun v hv => X12_isOpened_ok hz (by omega) h0 hv) rfl (Nat.le_of_ble_eq_true rfl) (Nat.zero_le _) (Nat.zero_le _) (fun r6 hr => ?_)
            refine mb_if_eq (pc := 310) 320 dX12_expression_310 rfl hr (fun hr => ?_) (fun hr => ?_)
            · exact mg_weak (mm_le_s (mm_le_n (mm_le_n mm_le_0))) (X12_expression_b320_ok hz hd h0 hk29 hr)
            · refine ml_aload_n (pc := 313) dX12_expression_313 rfl mm_get_0 ?_
              refine mb_cVv (pc := 314) (As := []) (rest := []) dX12_expression_314 cw_X12_262 h0 hr (fun v hv => X12_closes_ok hz (by omega) h0 hv) rfl (Nat.le_of_ble_eq_true rfl) (Nat.zero_le _) (Nat.zero_le _) (fun r7 hr => ?_)
              refine mg_goto (pc := 317) 322 dX12_expression_317 rfl ?_
              exact mg_weak (mm_le_s (mm_le_s (mm_le_n mm_le_0))) (X12_expression_b322_ok hz hd h0 hk29 hr)
        · exact mg_weak (mm_le_s (mm_le_s (mm_le_n mm_le_0))) (X12_expression_b259_ok hz hd h0 hk29 hr)
    · exact mg_weak (mm_le_s (mm_le_s (mm_le_n mm_le_0))) (X12_expression_b204_ok hz hd h0 hk29 hr)
def X12_expression_b161 (e : mm_E) (k29 : Int32 → mm_V → Option mm_V) (a0 : Nat) (i1 : Int32) (t0 : Nat) (t1 : Int32) (m : mm_V) : Option mm_V := if e.1 t0 = some (12, 75) then ((X12_waitsFor e t0 t1 m).bind fun r1 => (mm_gr e.1 r1 12 75 a0 37).bind fun c3 => (mm_gi e.1 r1 12 75 a0 27).bind fun x4 => (mm_sz e.1 r1 c3 x4 (1 : Int32)).bind fun m5 => (X12_goes e a0 m5).bind fun r6 => (X12_operand e a0 (0 : Int32) r6).bind fun r7 => X12_expression_b322 e k29 a0 i1  r7) else none
theorem X12_expression_b161_ok {K : mm_K} {nx : Option Nat} {e : mm_E} (hz : e.2.1 = K.2.2.2.2) {d : Nat} (hd : 5 ≤ d) {a0 : Nat} {i1 : Int32} {t0 : Nat} {t1 : Int32} (h0 : e.1 a0 = some (12, 75)) {k29 : Int32 → mm_V → Option mm_V} (hk29 : ∀ (w1 : Int32) (m : mm_V) (r : mm_V), k29 w1 m = some r → mm_G K MX12_expression d (mm_Fv e.1 nx r) 29 [some (.ref a0), some (.int w1), none] [] (e.1, m) nx 0 0) {m : mm_V} {r : mm_V} (hr : X12_expression_b161 e k29 a0 i1 t0 t1 m = some r) : mm_G K MX12_expression d (mm_Fv e.1 nx r) 161 [some (.ref a0), some (.int i1), none] [.int t1, .ref t0] (e.1, m) nx 0 0 := by
  obtain ⟨d, rfl⟩ : ∃ d', d = d' + 1 := ⟨d - 1, by omega⟩
  unfold X12_expression_b161 at hr
  refine mb_ck hr (fun hb2 hr => ?_)
  refine mb_cVv (pc := 161) (As := [.int t1]) (rest := []) dX12_expression_161 cw_X12_243 hb2 hr (fun v hv => X12_waitsFor_ok hz (by omega) hb2 hv) rfl (Nat.le_of_ble_eq_true rfl) (Nat.zero_le _) (Nat.zero_le _) (fun r1 hr => ?_)
  refine ml_aload_n (pc := 164) dX12_expression_164 rfl mm_get_0 ?_
  refine mb_gr (pc := 165) dX12_expression_165 fl_X12_53 hr (fun c3 hr => ?_)
  refine ml_aload_n (pc := 168) dX12_expression_168 rfl mm_get_0 ?_
  refine mb_gi (pc := 169) dX12_expression_169 fl_X12_237 hr (fun x4 hr => ?_)
  refine mg_iconst (pc := 172) dX12_expression_172 kc_1 ?_
  refine mb_sz (pc := 173) dX12_expression_173 hr (fun m5 hr => ?_)
  refine ml_aload_n (pc := 174) dX12_expression_174 rfl mm_get_0 ?_
  refine mb_cVv (pc := 175) (As := []) (rest := []) dX12_expression_175 cw_X12_215 h0 hr (fun v hv => X12_goes_ok hz (by omega) h0 hv) rfl (Nat.le_of_ble_eq_true rfl) (Nat.zero_le _) (Nat.zero_le _) (fun r6 hr => ?_)
  refine ml_aload_n (pc := 178) dX12_expression_178 rfl mm_get_0 ?_
  refine mg_iconst (pc := 179) dX12_expression_179 kc_0 ?_
  refine mb_cVv (pc := 180) (As := [.int (0 : Int32)]) (rest := []) dX12_expression_180 cw_X12_255 h0 hr (fun v hv => X12_operand_ok hz (by omega) h0 hv) rfl (Nat.le_of_ble_eq_true rfl) (Nat.zero_le _) (Nat.zero_le _) (fun r7 hr => ?_)
  refine mg_goto (pc := 183) 322 dX12_expression_183 rfl ?_
  exact mg_weak (mm_le_s (mm_le_s (mm_le_n mm_le_0))) (X12_expression_b322_ok hz hd h0 hk29 hr)
def X12_expression_b127 (e : mm_E) (k29 : Int32 → mm_V → Option mm_V) (a0 : Nat) (i1 : Int32) (m : mm_V) : Option mm_V := (mm_gr e.1 m 12 75 a0 37).bind fun c1 => (mm_gi e.1 m 12 75 a0 27).bind fun x2 => (mm_ai e.1 m 22 c1 x2).bind fun x3 => if ¬ x3 = 0 then (X12_expression_b186 e k29 a0 i1  m) else ((X12_drops e a0 (4 : Int32) m).bind fun r4 => (X12_isSign e a0 (60 : Int32) r4).bind fun r5 => if r5.1 = 0 then (X12_expression_b161 e k29 a0 i1 a0 (7 : Int32) r5.2) else (X12_expression_b161 e k29 a0 i1 a0 (6 : Int32) r5.2))
theorem X12_expression_b127_ok {K : mm_K} {nx : Option Nat} {e : mm_E} (hz : e.2.1 = K.2.2.2.2) {d : Nat} (hd : 5 ≤ d) {a0 : Nat} {i1 : Int32} (h0 : e.1 a0 = some (12, 75)) {k29 : Int32 → mm_V → Option mm_V} (hk29 : ∀ (w1 : Int32) (m : mm_V) (r : mm_V), k29 w1 m = some r → mm_G K MX12_expression d (mm_Fv e.1 nx r) 29 [some (.ref a0), some (.int w1), none] [] (e.1, m) nx 0 0) {m : mm_V} {r : mm_V} (hr : X12_expression_b127 e k29 a0 i1 m = some r) : mm_G K MX12_expression d (mm_Fv e.1 nx r) 127 [some (.ref a0), some (.int i1), none] [] (e.1, m) nx 0 0 := by
  obtain ⟨d, rfl⟩ : ∃ d', d = d' + 1 := ⟨d - 1, by omega⟩
  unfold X12_expression_b127 at hr
  refine ml_aload_n (pc := 127) dX12_expression_127 rfl mm_get_0 ?_
  refine mb_gr (pc := 128) dX12_expression_128 fl_X12_53 hr (fun c1 hr => ?_)
  refine ml_aload_n (pc := 131) dX12_expression_131 rfl mm_get_0 ?_
  refine mb_gi (pc := 132) dX12_expression_132 fl_X12_237 hr (fun x2 hr => ?_)
  refine mb_az (pc := 135) dX12_expression_135 hr (fun x3 hr => ?_)
  refine mb_if_ne (pc := 136) 186 dX12_expression_136 rfl hr (fun hr => ?_) (fun hr => ?_)
  · exact mg_weak (mm_le_s (mm_le_s (mm_le_n mm_le_0))) (X12_expression_b186_ok hz hd h0 hk29 hr)
  · refine ml_aload_n (pc := 139) dX12_expression_139 rfl mm_get_0 ?_
    refine mg_iconst (pc := 140) dX12_expression_140 kc_4 ?_
    refine mb_cVv (pc := 141) (As := [.int (4 : Int32)]) (rest := []) dX12_expression_141 cw_X12_252 h0 hr (fun v hv => X12_drops_ok hz (by omega) h0 hv) rfl (Nat.le_of_ble_eq_true rfl) (Nat.zero_le _) (Nat.zero_le _) (fun r4 hr => ?_)
    refine ml_aload_n (pc := 144) dX12_expression_144 rfl mm_get_0 ?_
    refine ml_aload_n (pc := 145) dX12_expression_145 rfl mm_get_0 ?_
    refine mg_bipush (pc := 146) dX12_expression_146 kb_60 ?_
    refine mb_cVi (pc := 148) (As := [.int (60 : Int32)]) (rest := [.ref a0]) dX12_expression_148 cw_X12_240 h0 hr (fun v hv => X12_isSign_ok hz (by omega) h0 hv) rfl (Nat.le_of_ble_eq_true rfl) (Nat.zero_le _) (Nat.zero_le _) (fun r5 hr => ?_)
    refine mb_if_eq (pc := 151) 159 dX12_expression_151 rfl hr (fun hr => ?_) (fun hr => ?_)
    · refine mg_bipush (pc := 159) dX12_expression_159 kb_7 ?_
      exact mg_weak (mm_le_s (mm_le_s (mm_le_n mm_le_0))) (X12_expression_b161_ok hz hd h0 hk29 hr)
    · refine mg_bipush (pc := 154) dX12_expression_154 kb_6 ?_
      refine mg_goto (pc := 156) 161 dX12_expression_156 rfl ?_
      exact mg_weak (mm_le_s (mm_le_s (mm_le_n mm_le_0))) (X12_expression_b161_ok hz hd h0 hk29 hr)
def X12_expression_b84 (e : mm_E) (k29 : Int32 → mm_V → Option mm_V) (a0 : Nat) (i1 : Int32) (t0 : Nat) (t1 : Int32) (m : mm_V) : Option mm_V := if e.1 t0 = some (12, 75) then ((X12_waitsFor e t0 t1 m).bind fun r1 => (mm_gr e.1 r1 12 75 a0 37).bind fun c3 => (mm_gi e.1 r1 12 75 a0 27).bind fun x4 => (mm_sz e.1 r1 c3 x4 (0 : Int32)).bind fun m5 => (X12_goes e a0 m5).bind fun r6 => (X12_operand e a0 (1 : Int32) r6).bind fun r7 => X12_expression_b322 e k29 a0 i1  r7) else none
theorem X12_expression_b84_ok {K : mm_K} {nx : Option Nat} {e : mm_E} (hz : e.2.1 = K.2.2.2.2) {d : Nat} (hd : 5 ≤ d) {a0 : Nat} {i1 : Int32} {t0 : Nat} {t1 : Int32} (h0 : e.1 a0 = some (12, 75)) {k29 : Int32 → mm_V → Option mm_V} (hk29 : ∀ (w1 : Int32) (m : mm_V) (r : mm_V), k29 w1 m = some r → mm_G K MX12_expression d (mm_Fv e.1 nx r) 29 [some (.ref a0), some (.int w1), none] [] (e.1, m) nx 0 0) {m : mm_V} {r : mm_V} (hr : X12_expression_b84 e k29 a0 i1 t0 t1 m = some r) : mm_G K MX12_expression d (mm_Fv e.1 nx r) 84 [some (.ref a0), some (.int i1), none] [.int t1, .ref t0] (e.1, m) nx 0 0 := by
  obtain ⟨d, rfl⟩ : ∃ d', d = d' + 1 := ⟨d - 1, by omega⟩
  unfold X12_expression_b84 at hr
  refine mb_ck hr (fun hb2 hr => ?_)
  refine mb_cVv (pc := 84) (As := [.int t1]) (rest := []) dX12_expression_84 cw_X12_243 hb2 hr (fun v hv => X12_waitsFor_ok hz (by omega) hb2 hv) rfl (Nat.le_of_ble_eq_true rfl) (Nat.zero_le _) (Nat.zero_le _) (fun r1 hr => ?_)
  refine ml_aload_n (pc := 87) dX12_expression_87 rfl mm_get_0 ?_
  refine mb_gr (pc := 88) dX12_expression_88 fl_X12_53 hr (fun c3 hr => ?_)
  refine ml_aload_n (pc := 91) dX12_expression_91 rfl mm_get_0 ?_
  refine mb_gi (pc := 92) dX12_expression_92 fl_X12_237 hr (fun x4 hr => ?_)
  refine mg_iconst (pc := 95) dX12_expression_95 kc_0 ?_
  refine mb_sz (pc := 96) dX12_expression_96 hr (fun m5 hr => ?_)
  refine ml_aload_n (pc := 97) dX12_expression_97 rfl mm_get_0 ?_
  refine mb_cVv (pc := 98) (As := []) (rest := []) dX12_expression_98 cw_X12_215 h0 hr (fun v hv => X12_goes_ok hz (by omega) h0 hv) rfl (Nat.le_of_ble_eq_true rfl) (Nat.zero_le _) (Nat.zero_le _) (fun r6 hr => ?_)
  refine ml_aload_n (pc := 101) dX12_expression_101 rfl mm_get_0 ?_
  refine mg_iconst (pc := 102) dX12_expression_102 kc_1 ?_
  refine mb_cVv (pc := 103) (As := [.int (1 : Int32)]) (rest := []) dX12_expression_103 cw_X12_255 h0 hr (fun v hv => X12_operand_ok hz (by omega) h0 hv) rfl (Nat.le_of_ble_eq_true rfl) (Nat.zero_le _) (Nat.zero_le _) (fun r7 hr => ?_)
  refine mg_goto (pc := 106) 322 dX12_expression_106 rfl ?_
  exact mg_weak (mm_le_s (mm_le_s (mm_le_n mm_le_0))) (X12_expression_b322_ok hz hd h0 hk29 hr)
def X12_expression_b69 (e : mm_E) (k29 : Int32 → mm_V → Option mm_V) (a0 : Nat) (i1 : Int32) (i2 : Int32) (t0 : Nat) (t1 : Int32) (m : mm_V) : Option mm_V := if e.1 t0 = some (12, 75) then ((X12_drops e t0 t1 m).bind fun r1 => if ¬ i2 = (14 : Int32) then (X12_expression_b84 e k29 a0 i1 a0 (5 : Int32) r1) else (X12_expression_b84 e k29 a0 i1 a0 (4 : Int32) r1)) else none
theorem X12_expression_b69_ok {K : mm_K} {nx : Option Nat} {e : mm_E} (hz : e.2.1 = K.2.2.2.2) {d : Nat} (hd : 5 ≤ d) {a0 : Nat} {i1 : Int32} {i2 : Int32} {t0 : Nat} {t1 : Int32} (h0 : e.1 a0 = some (12, 75)) {k29 : Int32 → mm_V → Option mm_V} (hk29 : ∀ (w1 : Int32) (m : mm_V) (r : mm_V), k29 w1 m = some r → mm_G K MX12_expression d (mm_Fv e.1 nx r) 29 [some (.ref a0), some (.int w1), none] [] (e.1, m) nx 0 0) {m : mm_V} {r : mm_V} (hr : X12_expression_b69 e k29 a0 i1 i2 t0 t1 m = some r) : mm_G K MX12_expression d (mm_Fv e.1 nx r) 69 [some (.ref a0), some (.int i1), some (.int i2)] [.int t1, .ref t0] (e.1, m) nx 0 0 := by
  obtain ⟨d, rfl⟩ : ∃ d', d = d' + 1 := ⟨d - 1, by omega⟩
  unfold X12_expression_b69 at hr
  refine mb_ck hr (fun hb2 hr => ?_)
  refine mb_cVv (pc := 69) (As := [.int t1]) (rest := []) dX12_expression_69 cw_X12_252 hb2 hr (fun v hv => X12_drops_ok hz (by omega) hb2 hv) rfl (Nat.le_of_ble_eq_true rfl) (Nat.zero_le _) (Nat.zero_le _) (fun r1 hr => ?_)
  refine ml_aload_n (pc := 72) dX12_expression_72 rfl mm_get_0 ?_
  refine ml_iload_n (pc := 73) dX12_expression_73 rfl (mm_get_s (mm_get_s mm_get_0)) ?_
  refine mg_bipush (pc := 74) dX12_expression_74 kb_14 ?_
  refine mb_icmp_ne (pc := 76) 83 dX12_expression_76 rfl hr (fun hr => ?_) (fun hr => ?_)
  · refine mg_iconst (pc := 83) dX12_expression_83 kc_5 ?_
    exact mg_weak (mm_le_s (mm_le_s (mm_le_n mm_le_0))) (X12_expression_b84_ok hz hd h0 hk29 hr)
  · refine mg_iconst (pc := 79) dX12_expression_79 kc_4 ?_
    refine mg_goto (pc := 80) 84 dX12_expression_80 rfl ?_
    exact mg_weak (mm_le_s (mm_le_s (mm_le_n mm_le_0))) (X12_expression_b84_ok hz hd h0 hk29 hr)
def X12_expression_b57 (e : mm_E) (k29 : Int32 → mm_V → Option mm_V) (a0 : Nat) (i1 : Int32) (i2 : Int32) (m : mm_V) : Option mm_V := if ¬ i2 = (14 : Int32) then (X12_expression_b69 e k29 a0 i1 i2 a0 (1 : Int32) m) else (X12_expression_b69 e k29 a0 i1 i2 a0 (2 : Int32) m)
theorem X12_expression_b57_ok {K : mm_K} {nx : Option Nat} {e : mm_E} (hz : e.2.1 = K.2.2.2.2) {d : Nat} (hd : 5 ≤ d) {a0 : Nat} {i1 : Int32} {i2 : Int32} (h0 : e.1 a0 = some (12, 75)) {k29 : Int32 → mm_V → Option mm_V} (hk29 : ∀ (w1 : Int32) (m : mm_V) (r : mm_V), k29 w1 m = some r → mm_G K MX12_expression d (mm_Fv e.1 nx r) 29 [some (.ref a0), some (.int w1), none] [] (e.1, m) nx 0 0) {m : mm_V} {r : mm_V} (hr : X12_expression_b57 e k29 a0 i1 i2 m = some r) : mm_G K MX12_expression d (mm_Fv e.1 nx r) 57 [some (.ref a0), some (.int i1), some (.int i2)] [] (e.1, m) nx 0 0 := by
  obtain ⟨d, rfl⟩ : ∃ d', d = d' + 1 := ⟨d - 1, by omega⟩
  unfold X12_expression_b57 at hr
  refine ml_aload_n (pc := 57) dX12_expression_57 rfl mm_get_0 ?_
  refine ml_iload_n (pc := 58) dX12_expression_58 rfl (mm_get_s (mm_get_s mm_get_0)) ?_
  refine mg_bipush (pc := 59) dX12_expression_59 kb_14 ?_
  refine mb_icmp_ne (pc := 61) 68 dX12_expression_61 rfl hr (fun hr => ?_) (fun hr => ?_)
  · refine mg_iconst (pc := 68) dX12_expression_68 kc_1 ?_
    exact mg_weak (mm_le_s (mm_le_s (mm_le_s mm_le_0))) (X12_expression_b69_ok hz hd h0 hk29 hr)
  · refine mg_iconst (pc := 64) dX12_expression_64 kc_2 ?_
    refine mg_goto (pc := 65) 69 dX12_expression_65 rfl ?_
    exact mg_weak (mm_le_s (mm_le_s (mm_le_s mm_le_0))) (X12_expression_b69_ok hz hd h0 hk29 hr)
def X12_expression_L29 (e : mm_E) (a0 : Nat) : Nat → Int32 → mm_V → Option mm_V
  | 0, _, _ => none
  | n + 1, i1, m => if i1 = 0 then (X12_expression_b325 e a0  m) else ((X12_isGood e a0 m).bind fun r1 => if r1.1 = 0 then (X12_expression_b325 e a0  r1.2) else ((X12_knownWord e a0 r1.2).bind fun r2 => if r2.1 = (14 : Int32) then (X12_expression_b57 e (X12_expression_L29 e a0 n) a0 i1 r2.1  r2.2) else (if ¬ r2.1 = (15 : Int32) then ((X12_isSign e a0 (60 : Int32) r2.2).bind fun r3 => if ¬ r3.1 = 0 then (X12_expression_b127 e (X12_expression_L29 e a0 n) a0 i1  r3.2) else ((X12_isSign e a0 (61 : Int32) r3.2).bind fun r4 => if r4.1 = 0 then (X12_expression_b186 e (X12_expression_L29 e a0 n) a0 i1  r4.2) else (X12_expression_b127 e (X12_expression_L29 e a0 n) a0 i1  r4.2))) else (X12_expression_b57 e (X12_expression_L29 e a0 n) a0 i1 r2.1  r2.2))))
theorem X12_expression_L29_ok {K : mm_K} {nx : Option Nat} {e : mm_E} (hz : e.2.1 = K.2.2.2.2) {d : Nat} (hd : 5 ≤ d) {a0 : Nat} (h0 : e.1 a0 = some (12, 75)) : ∀ (n : Nat) (i1 : Int32) (m : mm_V) (r : mm_V), X12_expression_L29 e a0 n i1 m = some r → mm_G K MX12_expression d (mm_Fv e.1 nx r) 29 [some (.ref a0), some (.int i1), none] [] (e.1, m) nx 0 0 := by
  obtain ⟨d, rfl⟩ : ∃ d', d = d' + 1 := ⟨d - 1, by omega⟩
  intro n
  induction n with
  | zero => intro i1 m r hr; unfold X12_expression_L29 at hr; cases hr
  | succ n ih =>
    intro i1 m r hr
    unfold X12_expression_L29 at hr
    refine ml_iload_n (pc := 29) dX12_expression_29 rfl (mm_get_s mm_get_0) ?_
    refine mb_if_eq (pc := 30) 325 dX12_expression_30 rfl hr (fun hr => ?_) (fun hr => ?_)
    · exact mg_weak (mm_le_s (mm_le_n (mm_le_n mm_le_0))) (X12_expression_b325_ok hz hd h0 hr)
    · refine ml_aload_n (pc := 33) dX12_expression_33 rfl mm_get_0 ?_
      refine mb_cVi (pc := 34) (As := []) (rest := []) dX12_expression_34 cw_X12_211 h0 hr (fun v hv => X12_isGood_ok hz (by omega) h0 hv) rfl (Nat.le_of_ble_eq_true rfl) (Nat.zero_le _) (Nat.zero_le _) (fun r1 hr => ?_)
      refine mb_if_eq (pc := 37) 325 dX12_expression_37 rfl hr (fun hr => ?_) (fun hr => ?_)
      · exact mg_weak (mm_le_s (mm_le_n (mm_le_n mm_le_0))) (X12_expression_b325_ok hz hd h0 hr)
      · refine ml_aload_n (pc := 40) dX12_expression_40 rfl mm_get_0 ?_
        refine mb_cVi (pc := 41) (As := []) (rest := []) dX12_expression_41 cw_X12_233 h0 hr (fun v hv => X12_knownWord_ok hz (by omega) h0 hv) rfl (Nat.le_of_ble_eq_true rfl) (Nat.zero_le _) (Nat.zero_le _) (fun r2 hr => ?_)
        refine ml_istore_n (pc := 44) dX12_expression_44 rfl (Nat.le_of_ble_eq_true rfl) (mm_st1_s mm_st1_i) ?_
        refine ml_iload_n (pc := 45) dX12_expression_45 rfl (mm_get_s (mm_get_s mm_get_0)) ?_
        refine mg_bipush (pc := 46) dX12_expression_46 kb_14 ?_
        refine mb_icmp_eq (pc := 48) 57 dX12_expression_48 rfl hr (fun hr => ?_) (fun hr => ?_)
        · exact mg_weak (mm_le_s (mm_le_s (mm_le_s mm_le_0))) (X12_expression_b57_ok hz hd h0 ih hr)
        · refine ml_iload_n (pc := 51) dX12_expression_51 rfl (mm_get_s (mm_get_s mm_get_0)) ?_
          refine mg_bipush (pc := 52) dX12_expression_52 kb_15 ?_
          refine mb_icmp_ne (pc := 54) 109 dX12_expression_54 rfl hr (fun hr => ?_) (fun hr => ?_)
          · refine ml_aload_n (pc := 109) dX12_expression_109 rfl mm_get_0 ?_
            refine mg_bipush (pc := 110) dX12_expression_110 kb_60 ?_
            refine mb_cVi (pc := 112) (As := [.int (60 : Int32)]) (rest := []) dX12_expression_112 cw_X12_240 h0 hr (fun v hv => X12_isSign_ok hz (by omega) h0 hv) rfl (Nat.le_of_ble_eq_true rfl) (Nat.zero_le _) (Nat.zero_le _) (fun r3 hr => ?_)
            refine mb_if_ne (pc := 115) 127 dX12_expression_115 rfl hr (fun hr => ?_) (fun hr => ?_)
            · exact mg_weak (mm_le_s (mm_le_s (mm_le_n mm_le_0))) (X12_expression_b127_ok hz hd h0 ih hr)
            · refine ml_aload_n (pc := 118) dX12_expression_118 rfl mm_get_0 ?_
              refine mg_bipush (pc := 119) dX12_expression_119 kb_61 ?_
              refine mb_cVi (pc := 121) (As := [.int (61 : Int32)]) (rest := []) dX12_expression_121 cw_X12_240 h0 hr (fun v hv => X12_isSign_ok hz (by omega) h0 hv) rfl (Nat.le_of_ble_eq_true rfl) (Nat.zero_le _) (Nat.zero_le _) (fun r4 hr => ?_)
              refine mb_if_eq (pc := 124) 186 dX12_expression_124 rfl hr (fun hr => ?_) (fun hr => ?_)
              · exact mg_weak (mm_le_s (mm_le_s (mm_le_n mm_le_0))) (X12_expression_b186_ok hz hd h0 ih hr)
              · exact mg_weak (mm_le_s (mm_le_s (mm_le_n mm_le_0))) (X12_expression_b127_ok hz hd h0 ih hr)
          · exact mg_weak (mm_le_s (mm_le_s (mm_le_s mm_le_0))) (X12_expression_b57_ok hz hd h0 ih hr)
def X12_expression (e : mm_E) (a0 : Nat) (m : mm_V) : Option mm_V := (X12_isGood e a0 m).bind fun r1 => if ¬ r1.1 = 0 then ((mm_pf e.1 r1.2 12 75 a0 26 (.int (0 : Int32))).bind fun m2 => (mm_pf e.1 m2 12 75 a0 27 (.int (0 : Int32))).bind fun m3 => (X12_deeper e a0 m3).bind fun r4 => (X12_operand e a0 (1 : Int32) r4).bind fun r5 => X12_expression_L29 e a0 e.2.2 (1 : Int32) r5) else (some r1.2)
theorem X12_expression_ok {K : mm_K} {nx : Option Nat} {e : mm_E} (hz : e.2.1 = K.2.2.2.2) {d : Nat} (hd : 5 ≤ d) {a0 : Nat} (h0 : e.1 a0 = some (12, 75)) {m : mm_V} {r : mm_V} (hr : X12_expression e a0 m = some r) : mm_Cn K MX12_expression d (mm_Fv e.1 nx r) [.ref a0] (e.1, m) nx := by
  obtain ⟨d, rfl⟩ : ∃ d', d = d' + 1 := ⟨d - 1, by omega⟩
  refine mm_entry (by decide) (Nat.le_of_ble_eq_true rfl) rfl (fun hok => ?_)
  unfold X12_expression at hr
  refine mg_weak (L' := [some (.ref a0), none, none]) (mm_le_s (mm_le_e (mm_le_e mm_le_0))) ?_
  refine ml_aload_n (pc := 0) dX12_expression_0 rfl mm_get_0 ?_
  refine mb_cVi (pc := 1) (As := []) (rest := []) dX12_expression_1 cw_X12_211 h0 hr (fun v hv => X12_isGood_ok hz (by omega) h0 hv) rfl (Nat.le_of_ble_eq_true rfl) (Nat.zero_le _) (Nat.zero_le _) (fun r1 hr => ?_)
  refine mb_if_ne (pc := 4) 8 dX12_expression_4 rfl hr (fun hr => ?_) (fun hr => ?_)
  · refine ml_aload_n (pc := 8) dX12_expression_8 rfl mm_get_0 ?_
    refine mg_iconst (pc := 9) dX12_expression_9 kc_0 ?_
    refine mb_pi (pc := 10) dX12_expression_10 fp_X12_221 hr (fun m2 hr => ?_)
    refine ml_aload_n (pc := 13) dX12_expression_13 rfl mm_get_0 ?_
    refine mg_iconst (pc := 14) dX12_expression_14 kc_0 ?_
    refine mb_pi (pc := 15) dX12_expression_15 fp_X12_237 hr (fun m3 hr => ?_)
    refine ml_aload_n (pc := 18) dX12_expression_18 rfl mm_get_0 ?_
    refine mb_cVv (pc := 19) (As := []) (rest := []) dX12_expression_19 cw_X12_246 h0 hr (fun v hv => X12_deeper_ok hz (by omega) h0 hv) rfl (Nat.le_of_ble_eq_true rfl) (Nat.zero_le _) (Nat.zero_le _) (fun r4 hr => ?_)
    refine ml_aload_n (pc := 22) dX12_expression_22 rfl mm_get_0 ?_
    refine mg_iconst (pc := 23) dX12_expression_23 kc_1 ?_
    refine mb_cVv (pc := 24) (As := [.int (1 : Int32)]) (rest := []) dX12_expression_24 cw_X12_255 h0 hr (fun v hv => X12_operand_ok hz (by omega) h0 hv) rfl (Nat.le_of_ble_eq_true rfl) (Nat.zero_le _) (Nat.zero_le _) (fun r5 hr => ?_)
    refine mg_iconst (pc := 27) dX12_expression_27 kc_1 ?_
    refine ml_istore_n (pc := 28) dX12_expression_28 rfl (Nat.le_of_ble_eq_true rfl) mm_st1_r ?_
    exact mg_weak (mm_le_s (mm_le_s (mm_le_n mm_le_0))) (X12_expression_L29_ok hz hd h0 _ _ _ _ hr)
  · exact mb_vret dX12_expression_7 rfl hr
theorem dX12_personHere_0 : decode cX12_personHere 0 = .ok (.aload_n 0, 1) := by decide +kernel
theorem dX12_personHere_1 : decode cX12_personHere 1 = .ok (.invokevirtual 215, 3) := by decide +kernel
theorem dX12_personHere_4 : decode cX12_personHere 4 = .ok (.aload_n 0, 1) := by decide +kernel
theorem dX12_personHere_5 : decode cX12_personHere 5 = .ok (.getfield 185, 3) := by decide +kernel
theorem dX12_personHere_8 : decode cX12_personHere 8 = .ok (.iconst 2, 1) := by decide +kernel
theorem dX12_personHere_9 : decode cX12_personHere 9 = .ok (.if_icmp .eq 11, 3) := by decide +kernel
theorem dX12_personHere_12 : decode cX12_personHere 12 = .ok (.aload_n 0, 1) := by decide +kernel
theorem dX12_personHere_13 : decode cX12_personHere 13 = .ok (.iconst 1, 1) := by decide +kernel
theorem dX12_personHere_14 : decode cX12_personHere 14 = .ok (.invokevirtual 218, 3) := by decide +kernel
theorem dX12_personHere_17 : decode cX12_personHere 17 = .ok (.goto 63, 3) := by decide +kernel
theorem dX12_personHere_20 : decode cX12_personHere 20 = .ok (.aload_n 0, 1) := by decide +kernel
theorem dX12_personHere_21 : decode cX12_personHere 21 = .ok (.getfield 195, 3) := by decide +kernel
theorem dX12_personHere_24 : decode cX12_personHere 24 = .ok (.iconst 4, 1) := by decide +kernel
theorem dX12_personHere_25 : decode cX12_personHere 25 = .ok (.if_icmp .le 11, 3) := by decide +kernel
theorem dX12_personHere_28 : decode cX12_personHere 28 = .ok (.aload_n 0, 1) := by decide +kernel
theorem dX12_personHere_29 : decode cX12_personHere 29 = .ok (.iconst 2, 1) := by decide +kernel
theorem dX12_personHere_30 : decode cX12_personHere 30 = .ok (.invokevirtual 218, 3) := by decide +kernel
theorem dX12_personHere_33 : decode cX12_personHere 33 = .ok (.goto 47, 3) := by decide +kernel
theorem dX12_personHere_36 : decode cX12_personHere 36 = .ok (.aload_n 0, 1) := by decide +kernel
theorem dX12_personHere_37 : decode cX12_personHere 37 = .ok (.getfield 179, 3) := by decide +kernel
theorem dX12_personHere_40 : decode cX12_personHere 40 = .ok (.aload_n 0, 1) := by decide +kernel
theorem dX12_personHere_41 : decode cX12_personHere 41 = .ok (.getfield 265, 3) := by decide +kernel
theorem dX12_personHere_44 : decode cX12_personHere 44 = .ok (.if_icmp .lt 11, 3) := by decide +kernel
theorem dX12_personHere_47 : decode cX12_personHere 47 = .ok (.aload_n 0, 1) := by decide +kernel
theorem dX12_personHere_48 : decode cX12_personHere 48 = .ok (.iconst 3, 1) := by decide +kernel
theorem dX12_personHere_49 : decode cX12_personHere 49 = .ok (.invokevirtual 218, 3) := by decide +kernel
theorem dX12_personHere_52 : decode cX12_personHere 52 = .ok (.goto 28, 3) := by decide +kernel
theorem dX12_personHere_55 : decode cX12_personHere 55 = .ok (.aload_n 0, 1) := by decide +kernel
theorem dX12_personHere_56 : decode cX12_personHere 56 = .ok (.getfield 268, 3) := by decide +kernel
theorem dX12_personHere_59 : decode cX12_personHere 59 = .ok (.bipush 6, 2) := by decide +kernel
theorem dX12_personHere_61 : decode cX12_personHere 61 = .ok (.iload_n 1, 1) := by decide +kernel
theorem dX12_personHere_62 : decode cX12_personHere 62 = .ok (.imul, 1) := by decide +kernel
theorem dX12_personHere_63 : decode cX12_personHere 63 = .ok (.aload_n 0, 1) := by decide +kernel
theorem dX12_personHere_64 : decode cX12_personHere 64 = .ok (.getfield 179, 3) := by decide +kernel
theorem dX12_personHere_67 : decode cX12_personHere 67 = .ok (.iadd, 1) := by decide +kernel
theorem dX12_personHere_68 : decode cX12_personHere 68 = .ok (.ishr, 1) := by decide +kernel
theorem dX12_personHere_69 : decode cX12_personHere 69 = .ok (.iconst 1, 1) := by decide +kernel
theorem dX12_personHere_70 : decode cX12_personHere 70 = .ok (.iand, 1) := by decide +kernel
theorem dX12_personHere_71 : decode cX12_personHere 71 = .ok (.iconst 1, 1) := by decide +kernel
theorem dX12_personHere_72 : decode cX12_personHere 72 = .ok (.if_icmp .ne 8, 3) := by decide +kernel
theorem dX12_personHere_75 : decode cX12_personHere 75 = .ok (.aload_n 0, 1) := by decide +kernel
theorem dX12_personHere_76 : decode cX12_personHere 76 = .ok (.iconst 5, 1) := by decide +kernel
theorem dX12_personHere_77 : decode cX12_personHere 77 = .ok (.invokevirtual 218, 3) := by decide +kernel
theorem dX12_personHere_80 : decode cX12_personHere 80 = .ok (.aload_n 0, 1) := by decide +kernel
theorem dX12_personHere_81 : decode cX12_personHere 81 = .ok (.invokevirtual 211, 3) := by decide +kernel
theorem dX12_personHere_84 : decode cX12_personHere 84 = .ok (.ifCond .ne 5, 3) := by decide +kernel
theorem dX12_personHere_87 : decode cX12_personHere 87 = .ok (.iconst 0, 1) := by decide +kernel
theorem dX12_personHere_88 : decode cX12_personHere 88 = .ok (.ireturn, 1) := by decide +kernel
theorem dX12_personHere_89 : decode cX12_personHere 89 = .ok (.aload_n 0, 1) := by decide +kernel
theorem dX12_personHere_90 : decode cX12_personHere 90 = .ok (.getfield 179, 3) := by decide +kernel
theorem dX12_personHere_93 : decode cX12_personHere 93 = .ok (.istore_n 2, 1) := by decide +kernel
theorem dX12_personHere_94 : decode cX12_personHere 94 = .ok (.aload_n 0, 1) := by decide +kernel
theorem dX12_personHere_95 : decode cX12_personHere 95 = .ok (.dup, 1) := by decide +kernel
theorem dX12_personHere_96 : decode cX12_personHere 96 = .ok (.getfield 268, 3) := by decide +kernel
theorem dX12_personHere_99 : decode cX12_personHere 99 = .ok (.iconst 1, 1) := by decide +kernel
theorem dX12_personHere_100 : decode cX12_personHere 100 = .ok (.bipush 6, 2) := by decide +kernel
theorem dX12_personHere_102 : decode cX12_personHere 102 = .ok (.iload_n 1, 1) := by decide +kernel
theorem dX12_personHere_103 : decode cX12_personHere 103 = .ok (.imul, 1) := by decide +kernel
theorem dX12_personHere_104 : decode cX12_personHere 104 = .ok (.iload_n 2, 1) := by decide +kernel
theorem dX12_personHere_105 : decode cX12_personHere 105 = .ok (.iadd, 1) := by decide +kernel
theorem dX12_personHere_106 : decode cX12_personHere 106 = .ok (.ishl, 1) := by decide +kernel
theorem dX12_personHere_107 : decode cX12_personHere 107 = .ok (.ior, 1) := by decide +kernel
theorem dX12_personHere_108 : decode cX12_personHere 108 = .ok (.putfield 268, 3) := by decide +kernel
theorem dX12_personHere_111 : decode cX12_personHere 111 = .ok (.aload_n 0, 1) := by decide +kernel
theorem dX12_personHere_112 : decode cX12_personHere 112 = .ok (.iconst 1, 1) := by decide +kernel
theorem dX12_personHere_113 : decode cX12_personHere 113 = .ok (.putfield 271, 3) := by decide +kernel
theorem dX12_personHere_116 : decode cX12_personHere 116 = .ok (.aload_n 0, 1) := by decide +kernel
theorem dX12_personHere_117 : decode cX12_personHere 117 = .ok (.invokevirtual 215, 3) := by decide +kernel
theorem dX12_personHere_120 : decode cX12_personHere 120 = .ok (.iload_n 2, 1) := by decide +kernel
theorem dX12_personHere_121 : decode cX12_personHere 121 = .ok (.ireturn, 1) := by decide +kernel
def X12_personHere_b80 (e : mm_E) (a0 : Nat) (i1 : Int32) (m : mm_V) : Option (Int32 × mm_V) := (X12_isGood e a0 m).bind fun r1 => if ¬ r1.1 = 0 then ((mm_gi e.1 r1.2 12 75 a0 18).bind fun x2 => (mm_gi e.1 r1.2 12 75 a0 30).bind fun x3 => (mm_pf e.1 r1.2 12 75 a0 30 (.int (x3 ||| ((1 : Int32) <<< ((((6 : Int32) * i1) + x2) &&& 31))))).bind fun m4 => (mm_pz e.1 m4 12 75 a0 28 (1 : Int32)).bind fun m5 => (X12_goes e a0 m5).bind fun r6 => some (x2, r6)) else (some ((0 : Int32), r1.2))
theorem X12_personHere_b80_ok {K : mm_K} {nx : Option Nat} {e : mm_E} (hz : e.2.1 = K.2.2.2.2) {d : Nat} (hd : 2 ≤ d) {a0 : Nat} {i1 : Int32} (h0 : e.1 a0 = some (12, 75)) {m : mm_V} {r : (Int32 × mm_V)} (hr : X12_personHere_b80 e a0 i1 m = some r) : mm_G K MX12_personHere d (mm_Fi e.1 nx r) 80 [some (.ref a0), some (.int i1), none] [] (e.1, m) nx 0 0 := by
  obtain ⟨d, rfl⟩ : ∃ d', d = d' + 1 := ⟨d - 1, by omega⟩
  unfold X12_personHere_b80 at hr
  refine ml_aload_n (pc := 80) dX12_personHere_80 rfl mm_get_0 ?_
  refine mb_cVi (pc := 81) (As := []) (rest := []) dX12_personHere_81 cw_X12_211 h0 hr (fun v hv => X12_isGood_ok hz (by omega) h0 hv) rfl (Nat.le_of_ble_eq_true rfl) (Nat.zero_le _) (Nat.zero_le _) (fun r1 hr => ?_)
  refine mb_if_ne (pc := 84) 89 dX12_personHere_84 rfl hr (fun hr => ?_) (fun hr => ?_)
  · refine ml_aload_n (pc := 89) dX12_personHere_89 rfl mm_get_0 ?_
    refine mb_gi (pc := 90) dX12_personHere_90 fl_X12_179 hr (fun x2 hr => ?_)
    refine ml_istore_n (pc := 93) dX12_personHere_93 rfl (Nat.le_of_ble_eq_true rfl) (mm_st1_s mm_st1_i) ?_
    refine ml_aload_n (pc := 94) dX12_personHere_94 rfl mm_get_0 ?_
    refine mg_dup (pc := 95) dX12_personHere_95 rfl ?_
    refine mb_gi (pc := 96) dX12_personHere_96 fl_X12_268 hr (fun x3 hr => ?_)
    refine mg_iconst (pc := 99) dX12_personHere_99 kc_1 ?_
    refine mg_bipush (pc := 100) dX12_personHere_100 kb_6 ?_
    refine ml_iload_n (pc := 102) dX12_personHere_102 rfl (mm_get_s mm_get_0) ?_
    refine mg_imul (pc := 103) dX12_personHere_103 ?_
    refine ml_iload_n (pc := 104) dX12_personHere_104 rfl (mm_get_s (mm_get_s mm_get_0)) ?_
    refine mg_iadd (pc := 105) dX12_personHere_105 ?_
    refine mg_ishl (pc := 106) dX12_personHere_106 ?_
    refine mg_ior (pc := 107) dX12_personHere_107 ?_
    refine mb_pi (pc := 108) dX12_personHere_108 fp_X12_268 hr (fun m4 hr => ?_)
    refine ml_aload_n (pc := 111) dX12_personHere_111 rfl mm_get_0 ?_
    refine mg_iconst (pc := 112) dX12_personHere_112 kc_1 ?_
    refine mb_pz (pc := 113) dX12_personHere_113 fp_X12_271 hr (fun m5 hr => ?_)
    refine ml_aload_n (pc := 116) dX12_personHere_116 rfl mm_get_0 ?_
    refine mb_cVv (pc := 117) (As := []) (rest := []) dX12_personHere_117 cw_X12_215 h0 hr (fun v hv => X12_goes_ok hz (by omega) h0 hv) rfl (Nat.le_of_ble_eq_true rfl) (Nat.zero_le _) (Nat.zero_le _) (fun r6 hr => ?_)
    refine ml_iload_n (pc := 120) dX12_personHere_120 rfl (mm_get_s (mm_get_s mm_get_0)) ?_
    exact mb_iret dX12_personHere_121 rfl hr
  · refine mg_iconst (pc := 87) dX12_personHere_87 kc_0 ?_
    exact mb_iret dX12_personHere_88 rfl hr
def X12_personHere (e : mm_E) (a0 : Nat) (i1 : Int32) (m : mm_V) : Option (Int32 × mm_V) := (X12_goes e a0 m).bind fun r1 => (mm_gi e.1 r1 12 75 a0 15).bind fun x2 => if x2 = (2 : Int32) then ((mm_gi e.1 r1 12 75 a0 17).bind fun x3 => if x3 ≤ (4 : Int32) then ((mm_gi e.1 r1 12 75 a0 18).bind fun x4 => (mm_gi e.1 r1 12 75 a0 21).bind fun x5 => if x4 < x5 then ((mm_gi e.1 r1 12 75 a0 30).bind fun x6 => (mm_gi e.1 r1 12 75 a0 18).bind fun x7 => if ¬ ((x6 >>> ((((6 : Int32) * i1) + x7) &&& 31)) &&& (1 : Int32)) = (1 : Int32) then (X12_personHere_b80 e a0 i1  r1) else ((X12_wrong e a0 (5 : Int32) r1).bind fun r8 => X12_personHere_b80 e a0 i1  r8)) else ((X12_wrong e a0 (3 : Int32) r1).bind fun r9 => X12_personHere_b80 e a0 i1  r9)) else ((X12_wrong e a0 (2 : Int32) r1).bind fun r10 => X12_personHere_b80 e a0 i1  r10)) else ((X12_wrong e a0 (1 : Int32) r1).bind fun r11 => X12_personHere_b80 e a0 i1  r11)
theorem X12_personHere_ok {K : mm_K} {nx : Option Nat} {e : mm_E} (hz : e.2.1 = K.2.2.2.2) {d : Nat} (hd : 2 ≤ d) {a0 : Nat} {i1 : Int32} (h0 : e.1 a0 = some (12, 75)) {m : mm_V} {r : (Int32 × mm_V)} (hr : X12_personHere e a0 i1 m = some r) : mm_Cn K MX12_personHere d (mm_Fi e.1 nx r) [.ref a0, .int i1] (e.1, m) nx := by
  obtain ⟨d, rfl⟩ : ∃ d', d = d' + 1 := ⟨d - 1, by omega⟩
  refine mm_entry (by decide) (Nat.le_of_ble_eq_true rfl) rfl (fun hok => ?_)
  unfold X12_personHere at hr
  refine mg_weak (L' := [some (.ref a0), some (.int i1), none]) (mm_le_s (mm_le_s (mm_le_e mm_le_0))) ?_
  refine ml_aload_n (pc := 0) dX12_personHere_0 rfl mm_get_0 ?_
  refine mb_cVv (pc := 1) (As := []) (rest := []) dX12_personHere_1 cw_X12_215 h0 hr (fun v hv => X12_goes_ok hz (by omega) h0 hv) rfl (Nat.le_of_ble_eq_true rfl) (Nat.zero_le _) (Nat.zero_le _) (fun r1 hr => ?_)
  refine ml_aload_n (pc := 4) dX12_personHere_4 rfl mm_get_0 ?_
  refine mb_gi (pc := 5) dX12_personHere_5 fl_X12_185 hr (fun x2 hr => ?_)
  refine mg_iconst (pc := 8) dX12_personHere_8 kc_2 ?_
  refine mb_icmp_eq (pc := 9) 20 dX12_personHere_9 rfl hr (fun hr => ?_) (fun hr => ?_)
  · refine ml_aload_n (pc := 20) dX12_personHere_20 rfl mm_get_0 ?_
    refine mb_gi (pc := 21) dX12_personHere_21 fl_X12_195 hr (fun x3 hr => ?_)
    refine mg_iconst (pc := 24) dX12_personHere_24 kc_4 ?_
    refine mb_icmp_le (pc := 25) 36 dX12_personHere_25 rfl hr (fun hr => ?_) (fun hr => ?_)
    · refine ml_aload_n (pc := 36) dX12_personHere_36 rfl mm_get_0 ?_
      refine mb_gi (pc := 37) dX12_personHere_37 fl_X12_179 hr (fun x4 hr => ?_)
      refine ml_aload_n (pc := 40) dX12_personHere_40 rfl mm_get_0 ?_
      refine mb_gi (pc := 41) dX12_personHere_41 fl_X12_265 hr (fun x5 hr => ?_)
      refine mb_icmp_lt (pc := 44) 55 dX12_personHere_44 rfl hr (fun hr => ?_) (fun hr => ?_)
      · refine ml_aload_n (pc := 55) dX12_personHere_55 rfl mm_get_0 ?_
        refine mb_gi (pc := 56) dX12_personHere_56 fl_X12_268 hr (fun x6 hr => ?_)
        refine mg_bipush (pc := 59) dX12_personHere_59 kb_6 ?_
        refine ml_iload_n (pc := 61) dX12_personHere_61 rfl (mm_get_s mm_get_0) ?_
        refine mg_imul (pc := 62) dX12_personHere_62 ?_
        refine ml_aload_n (pc := 63) dX12_personHere_63 rfl mm_get_0 ?_
        refine mb_gi (pc := 64) dX12_personHere_64 fl_X12_179 hr (fun x7 hr => ?_)
        refine mg_iadd (pc := 67) dX12_personHere_67 ?_
        refine mg_ishr (pc := 68) dX12_personHere_68 ?_
        refine mg_iconst (pc := 69) dX12_personHere_69 kc_1 ?_
        refine mg_iand (pc := 70) dX12_personHere_70 ?_
        refine mg_iconst (pc := 71) dX12_personHere_71 kc_1 ?_
        refine mb_icmp_ne (pc := 72) 80 dX12_personHere_72 rfl hr (fun hr => ?_) (fun hr => ?_)
        · exact mg_weak (mm_le_s (mm_le_s (mm_le_n mm_le_0))) (X12_personHere_b80_ok hz hd h0 hr)
        · refine ml_aload_n (pc := 75) dX12_personHere_75 rfl mm_get_0 ?_
          refine mg_iconst (pc := 76) dX12_personHere_76 kc_5 ?_
          refine mb_cVv (pc := 77) (As := [.int (5 : Int32)]) (rest := []) dX12_personHere_77 cw_X12_218 h0 hr (fun v hv => X12_wrong_ok hz (by omega) h0 hv) rfl (Nat.le_of_ble_eq_true rfl) (Nat.zero_le _) (Nat.zero_le _) (fun r8 hr => ?_)
          exact mg_weak (mm_le_s (mm_le_s (mm_le_n mm_le_0))) (X12_personHere_b80_ok hz hd h0 hr)
      · refine ml_aload_n (pc := 47) dX12_personHere_47 rfl mm_get_0 ?_
        refine mg_iconst (pc := 48) dX12_personHere_48 kc_3 ?_
        refine mb_cVv (pc := 49) (As := [.int (3 : Int32)]) (rest := []) dX12_personHere_49 cw_X12_218 h0 hr (fun v hv => X12_wrong_ok hz (by omega) h0 hv) rfl (Nat.le_of_ble_eq_true rfl) (Nat.zero_le _) (Nat.zero_le _) (fun r9 hr => ?_)
        refine mg_goto (pc := 52) 80 dX12_personHere_52 rfl ?_
        exact mg_weak (mm_le_s (mm_le_s (mm_le_n mm_le_0))) (X12_personHere_b80_ok hz hd h0 hr)
    · refine ml_aload_n (pc := 28) dX12_personHere_28 rfl mm_get_0 ?_
      refine mg_iconst (pc := 29) dX12_personHere_29 kc_2 ?_
      refine mb_cVv (pc := 30) (As := [.int (2 : Int32)]) (rest := []) dX12_personHere_30 cw_X12_218 h0 hr (fun v hv => X12_wrong_ok hz (by omega) h0 hv) rfl (Nat.le_of_ble_eq_true rfl) (Nat.zero_le _) (Nat.zero_le _) (fun r10 hr => ?_)
      refine mg_goto (pc := 33) 80 dX12_personHere_33 rfl ?_
      exact mg_weak (mm_le_s (mm_le_s (mm_le_n mm_le_0))) (X12_personHere_b80_ok hz hd h0 hr)
  · refine ml_aload_n (pc := 12) dX12_personHere_12 rfl mm_get_0 ?_
    refine mg_iconst (pc := 13) dX12_personHere_13 kc_1 ?_
    refine mb_cVv (pc := 14) (As := [.int (1 : Int32)]) (rest := []) dX12_personHere_14 cw_X12_218 h0 hr (fun v hv => X12_wrong_ok hz (by omega) h0 hv) rfl (Nat.le_of_ble_eq_true rfl) (Nat.zero_le _) (Nat.zero_le _) (fun r11 hr => ?_)
    refine mg_goto (pc := 17) 80 dX12_personHere_17 rfl ?_
    exact mg_weak (mm_le_s (mm_le_s (mm_le_n mm_le_0))) (X12_personHere_b80_ok hz hd h0 hr)
theorem dX12_once_0 : decode cX12_once 0 = .ok (.iload_n 1, 1) := by decide +kernel
theorem dX12_once_1 : decode cX12_once 1 = .ok (.bipush 6, 2) := by decide +kernel
theorem dX12_once_3 : decode cX12_once 3 = .ok (.if_icmp .eq 9, 3) := by decide +kernel
theorem dX12_once_6 : decode cX12_once 6 = .ok (.iload_n 1, 1) := by decide +kernel
theorem dX12_once_7 : decode cX12_once 7 = .ok (.bipush 7, 2) := by decide +kernel
theorem dX12_once_9 : decode cX12_once 9 = .ok (.if_icmp .ne 18, 3) := by decide +kernel
theorem dX12_once_12 : decode cX12_once 12 = .ok (.aload_n 0, 1) := by decide +kernel
theorem dX12_once_13 : decode cX12_once 13 = .ok (.getfield 271, 3) := by decide +kernel
theorem dX12_once_16 : decode cX12_once 16 = .ok (.ifCond .eq 11, 3) := by decide +kernel
theorem dX12_once_19 : decode cX12_once 19 = .ok (.aload_n 0, 1) := by decide +kernel
theorem dX12_once_20 : decode cX12_once 20 = .ok (.iconst 2, 1) := by decide +kernel
theorem dX12_once_21 : decode cX12_once 21 = .ok (.invokevirtual 218, 3) := by decide +kernel
theorem dX12_once_24 : decode cX12_once 24 = .ok (.goto 20, 3) := by decide +kernel
theorem dX12_once_27 : decode cX12_once 27 = .ok (.aload_n 0, 1) := by decide +kernel
theorem dX12_once_28 : decode cX12_once 28 = .ok (.getfield 275, 3) := by decide +kernel
theorem dX12_once_31 : decode cX12_once 31 = .ok (.iload_n 1, 1) := by decide +kernel
theorem dX12_once_32 : decode cX12_once 32 = .ok (.ishr, 1) := by decide +kernel
theorem dX12_once_33 : decode cX12_once 33 = .ok (.iconst 1, 1) := by decide +kernel
theorem dX12_once_34 : decode cX12_once 34 = .ok (.iand, 1) := by decide +kernel
theorem dX12_once_35 : decode cX12_once 35 = .ok (.iconst 1, 1) := by decide +kernel
theorem dX12_once_36 : decode cX12_once 36 = .ok (.if_icmp .ne 8, 3) := by decide +kernel
theorem dX12_once_39 : decode cX12_once 39 = .ok (.aload_n 0, 1) := by decide +kernel
theorem dX12_once_40 : decode cX12_once 40 = .ok (.iconst 5, 1) := by decide +kernel
theorem dX12_once_41 : decode cX12_once 41 = .ok (.invokevirtual 218, 3) := by decide +kernel
theorem dX12_once_44 : decode cX12_once 44 = .ok (.aload_n 0, 1) := by decide +kernel
theorem dX12_once_45 : decode cX12_once 45 = .ok (.invokevirtual 211, 3) := by decide +kernel
theorem dX12_once_48 : decode cX12_once 48 = .ok (.ifCond .ne 4, 3) := by decide +kernel
theorem dX12_once_51 : decode cX12_once 51 = .ok (.return_, 1) := by decide +kernel
theorem dX12_once_52 : decode cX12_once 52 = .ok (.aload_n 0, 1) := by decide +kernel
theorem dX12_once_53 : decode cX12_once 53 = .ok (.dup, 1) := by decide +kernel
theorem dX12_once_54 : decode cX12_once 54 = .ok (.getfield 275, 3) := by decide +kernel
theorem dX12_once_57 : decode cX12_once 57 = .ok (.iconst 1, 1) := by decide +kernel
theorem dX12_once_58 : decode cX12_once 58 = .ok (.iload_n 1, 1) := by decide +kernel
theorem dX12_once_59 : decode cX12_once 59 = .ok (.ishl, 1) := by decide +kernel
theorem dX12_once_60 : decode cX12_once 60 = .ok (.ior, 1) := by decide +kernel
theorem dX12_once_61 : decode cX12_once 61 = .ok (.putfield 275, 3) := by decide +kernel
theorem dX12_once_64 : decode cX12_once 64 = .ok (.aload_n 0, 1) := by decide +kernel
theorem dX12_once_65 : decode cX12_once 65 = .ok (.invokevirtual 215, 3) := by decide +kernel
theorem dX12_once_68 : decode cX12_once 68 = .ok (.iload_n 1, 1) := by decide +kernel
theorem dX12_once_69 : decode cX12_once 69 = .ok (.bipush 6, 2) := by decide +kernel
theorem dX12_once_71 : decode cX12_once 71 = .ok (.if_icmp .ne 17, 3) := by decide +kernel
theorem dX12_once_74 : decode cX12_once 74 = .ok (.aload_n 0, 1) := by decide +kernel
theorem dX12_once_75 : decode cX12_once 75 = .ok (.aload_n 0, 1) := by decide +kernel
theorem dX12_once_76 : decode cX12_once 76 = .ok (.iconst 2, 1) := by decide +kernel
theorem dX12_once_77 : decode cX12_once 77 = .ok (.bipush 6, 2) := by decide +kernel
theorem dX12_once_79 : decode cX12_once 79 = .ok (.invokevirtual 278, 3) := by decide +kernel
theorem dX12_once_82 : decode cX12_once 82 = .ok (.putfield 265, 3) := by decide +kernel
theorem dX12_once_85 : decode cX12_once 85 = .ok (.goto 35, 3) := by decide +kernel
theorem dX12_once_88 : decode cX12_once 88 = .ok (.iload_n 1, 1) := by decide +kernel
theorem dX12_once_89 : decode cX12_once 89 = .ok (.bipush 7, 2) := by decide +kernel
theorem dX12_once_91 : decode cX12_once 91 = .ok (.if_icmp .ne 17, 3) := by decide +kernel
theorem dX12_once_94 : decode cX12_once 94 = .ok (.aload_n 0, 1) := by decide +kernel
theorem dX12_once_95 : decode cX12_once 95 = .ok (.aload_n 0, 1) := by decide +kernel
theorem dX12_once_96 : decode cX12_once 96 = .ok (.iconst 1, 1) := by decide +kernel
theorem dX12_once_97 : decode cX12_once 97 = .ok (.bipush 9, 2) := by decide +kernel
theorem dX12_once_99 : decode cX12_once 99 = .ok (.invokevirtual 278, 3) := by decide +kernel
theorem dX12_once_102 : decode cX12_once 102 = .ok (.putfield 282, 3) := by decide +kernel
theorem dX12_once_105 : decode cX12_once 105 = .ok (.goto 15, 3) := by decide +kernel
theorem dX12_once_108 : decode cX12_once 108 = .ok (.aload_n 0, 1) := by decide +kernel
theorem dX12_once_109 : decode cX12_once 109 = .ok (.aload_n 0, 1) := by decide +kernel
theorem dX12_once_110 : decode cX12_once 110 = .ok (.iconst 0, 1) := by decide +kernel
theorem dX12_once_111 : decode cX12_once 111 = .ok (.sipush 9999, 3) := by decide +kernel
theorem dX12_once_114 : decode cX12_once 114 = .ok (.invokevirtual 278, 3) := by decide +kernel
theorem dX12_once_117 : decode cX12_once 117 = .ok (.putfield 285, 3) := by decide +kernel
theorem dX12_once_120 : decode cX12_once 120 = .ok (.return_, 1) := by decide +kernel
def X12_once_b120 (e : mm_E) (m : mm_V) : Option mm_V := some m
theorem X12_once_b120_ok {K : mm_K} {nx : Option Nat} {e : mm_E} (hz : e.2.1 = K.2.2.2.2) {d : Nat} (hd : 3 ≤ d) {a0 : Nat} (h0 : e.1 a0 = some (12, 75)) {m : mm_V} {r : mm_V} (hr : X12_once_b120 e m = some r) : mm_G K MX12_once d (mm_Fv e.1 nx r) 120 [none, none] [] (e.1, m) nx 0 0 := by
  obtain ⟨d, rfl⟩ : ∃ d', d = d' + 1 := ⟨d - 1, by omega⟩
  unfold X12_once_b120 at hr
  exact mb_vret dX12_once_120 rfl hr
def X12_once_b44 (e : mm_E) (a0 : Nat) (i1 : Int32) (m : mm_V) : Option mm_V := (X12_isGood e a0 m).bind fun r1 => if ¬ r1.1 = 0 then ((mm_gi e.1 r1.2 12 75 a0 24).bind fun x2 => (mm_pf e.1 r1.2 12 75 a0 24 (.int (x2 ||| ((1 : Int32) <<< (i1 &&& 31))))).bind fun m3 => (X12_goes e a0 m3).bind fun r4 => if ¬ i1 = (6 : Int32) then (if ¬ i1 = (7 : Int32) then ((X12_number e a0 (0 : Int32) (9999 : Int32) r4).bind fun r5 => (mm_pf e.1 r5.2 12 75 a0 23 (.int r5.1)).bind fun m6 => X12_once_b120 e   m6) else ((X12_number e a0 (1 : Int32) (9 : Int32) r4).bind fun r7 => (mm_pf e.1 r7.2 12 75 a0 22 (.int r7.1)).bind fun m8 => X12_once_b120 e   m8)) else ((X12_number e a0 (2 : Int32) (6 : Int32) r4).bind fun r9 => (mm_pf e.1 r9.2 12 75 a0 21 (.int r9.1)).bind fun m10 => X12_once_b120 e   m10)) else (some r1.2)
theorem X12_once_b44_ok {K : mm_K} {nx : Option Nat} {e : mm_E} (hz : e.2.1 = K.2.2.2.2) {d : Nat} (hd : 3 ≤ d) {a0 : Nat} {i1 : Int32} (h0 : e.1 a0 = some (12, 75)) {m : mm_V} {r : mm_V} (hr : X12_once_b44 e a0 i1 m = some r) : mm_G K MX12_once d (mm_Fv e.1 nx r) 44 [some (.ref a0), some (.int i1)] [] (e.1, m) nx 0 0 := by
  obtain ⟨d, rfl⟩ : ∃ d', d = d' + 1 := ⟨d - 1, by omega⟩
  unfold X12_once_b44 at hr
  refine ml_aload_n (pc := 44) dX12_once_44 rfl mm_get_0 ?_
  refine mb_cVi (pc := 45) (As := []) (rest := []) dX12_once_45 cw_X12_211 h0 hr (fun v hv => X12_isGood_ok hz (by omega) h0 hv) rfl (Nat.le_of_ble_eq_true rfl) (Nat.zero_le _) (Nat.zero_le _) (fun r1 hr => ?_)
  refine mb_if_ne (pc := 48) 52 dX12_once_48 rfl hr (fun hr => ?_) (fun hr => ?_)
  · refine ml_aload_n (pc := 52) dX12_once_52 rfl mm_get_0 ?_
    refine mg_dup (pc := 53) dX12_once_53 rfl ?_
    refine mb_gi (pc := 54) dX12_once_54 fl_X12_275 hr (fun x2 hr => ?_)
    refine mg_iconst (pc := 57) dX12_once_57 kc_1 ?_
    refine ml_iload_n (pc := 58) dX12_once_58 rfl (mm_get_s mm_get_0) ?_
    refine mg_ishl (pc := 59) dX12_once_59 ?_
    refine mg_ior (pc := 60) dX12_once_60 ?_
    refine mb_pi (pc := 61) dX12_once_61 fp_X12_275 hr (fun m3 hr => ?_)
    refine ml_aload_n (pc := 64) dX12_once_64 rfl mm_get_0 ?_
    refine mb_cVv (pc := 65) (As := []) (rest := []) dX12_once_65 cw_X12_215 h0 hr (fun v hv => X12_goes_ok hz (by omega) h0 hv) rfl (Nat.le_of_ble_eq_true rfl) (Nat.zero_le _) (Nat.zero_le _) (fun r4 hr => ?_)
    refine ml_iload_n (pc := 68) dX12_once_68 rfl (mm_get_s mm_get_0) ?_
    refine mg_bipush (pc := 69) dX12_once_69 kb_6 ?_
    refine mb_icmp_ne (pc := 71) 88 dX12_once_71 rfl hr (fun hr => ?_) (fun hr => ?_)
    · refine ml_iload_n (pc := 88) dX12_once_88 rfl (mm_get_s mm_get_0) ?_
      refine mg_bipush (pc := 89) dX12_once_89 kb_7 ?_
      refine mb_icmp_ne (pc := 91) 108 dX12_once_91 rfl hr (fun hr => ?_) (fun hr => ?_)
      · refine ml_aload_n (pc := 108) dX12_once_108 rfl mm_get_0 ?_
        refine ml_aload_n (pc := 109) dX12_once_109 rfl mm_get_0 ?_
        refine mg_iconst (pc := 110) dX12_once_110 kc_0 ?_
        refine mg_sipush (pc := 111) dX12_once_111 ks_9999 ?_
        refine mb_cVi (pc := 114) (As := [.int (0 : Int32), .int (9999 : Int32)]) (rest := [.ref a0]) dX12_once_114 cw_X12_278 h0 hr (fun v hv => X12_number_ok hz (by omega) h0 hv) rfl (Nat.le_of_ble_eq_true rfl) (Nat.zero_le _) (Nat.zero_le _) (fun r5 hr => ?_)
        refine mb_pi (pc := 117) dX12_once_117 fp_X12_285 hr (fun m6 hr => ?_)
        exact mg_weak (mm_le_n (mm_le_n mm_le_0)) (X12_once_b120_ok hz hd h0 hr)
      · refine ml_aload_n (pc := 94) dX12_once_94 rfl mm_get_0 ?_
        refine ml_aload_n (pc := 95) dX12_once_95 rfl mm_get_0 ?_
        refine mg_iconst (pc := 96) dX12_once_96 kc_1 ?_
        refine mg_bipush (pc := 97) dX12_once_97 kb_9 ?_
        refine mb_cVi (pc := 99) (As := [.int (1 : Int32), .int (9 : Int32)]) (rest := [.ref a0]) dX12_once_99 cw_X12_278 h0 hr (fun v hv => X12_number_ok hz (by omega) h0 hv) rfl (Nat.le_of_ble_eq_true rfl) (Nat.zero_le _) (Nat.zero_le _) (fun r7 hr => ?_)
        refine mb_pi (pc := 102) dX12_once_102 fp_X12_282 hr (fun m8 hr => ?_)
        refine mg_goto (pc := 105) 120 dX12_once_105 rfl ?_
        exact mg_weak (mm_le_n (mm_le_n mm_le_0)) (X12_once_b120_ok hz hd h0 hr)
    · refine ml_aload_n (pc := 74) dX12_once_74 rfl mm_get_0 ?_
      refine ml_aload_n (pc := 75) dX12_once_75 rfl mm_get_0 ?_
      refine mg_iconst (pc := 76) dX12_once_76 kc_2 ?_
      refine mg_bipush (pc := 77) dX12_once_77 kb_6 ?_
      refine mb_cVi (pc := 79) (As := [.int (2 : Int32), .int (6 : Int32)]) (rest := [.ref a0]) dX12_once_79 cw_X12_278 h0 hr (fun v hv => X12_number_ok hz (by omega) h0 hv) rfl (Nat.le_of_ble_eq_true rfl) (Nat.zero_le _) (Nat.zero_le _) (fun r9 hr => ?_)
      refine mb_pi (pc := 82) dX12_once_82 fp_X12_265 hr (fun m10 hr => ?_)
      refine mg_goto (pc := 85) 120 dX12_once_85 rfl ?_
      exact mg_weak (mm_le_n (mm_le_n mm_le_0)) (X12_once_b120_ok hz hd h0 hr)
  · exact mb_vret dX12_once_51 rfl hr
def X12_once_b27 (e : mm_E) (a0 : Nat) (i1 : Int32) (m : mm_V) : Option mm_V := (mm_gi e.1 m 12 75 a0 24).bind fun x1 => if ¬ ((x1 >>> (i1 &&& 31)) &&& (1 : Int32)) = (1 : Int32) then (X12_once_b44 e a0 i1  m) else ((X12_wrong e a0 (5 : Int32) m).bind fun r2 => X12_once_b44 e a0 i1  r2)
theorem X12_once_b27_ok {K : mm_K} {nx : Option Nat} {e : mm_E} (hz : e.2.1 = K.2.2.2.2) {d : Nat} (hd : 3 ≤ d) {a0 : Nat} {i1 : Int32} (h0 : e.1 a0 = some (12, 75)) {m : mm_V} {r : mm_V} (hr : X12_once_b27 e a0 i1 m = some r) : mm_G K MX12_once d (mm_Fv e.1 nx r) 27 [some (.ref a0), some (.int i1)] [] (e.1, m) nx 0 0 := by
  obtain ⟨d, rfl⟩ : ∃ d', d = d' + 1 := ⟨d - 1, by omega⟩
  unfold X12_once_b27 at hr
  refine ml_aload_n (pc := 27) dX12_once_27 rfl mm_get_0 ?_
  refine mb_gi (pc := 28) dX12_once_28 fl_X12_275 hr (fun x1 hr => ?_)
  refine ml_iload_n (pc := 31) dX12_once_31 rfl (mm_get_s mm_get_0) ?_
  refine mg_ishr (pc := 32) dX12_once_32 ?_
  refine mg_iconst (pc := 33) dX12_once_33 kc_1 ?_
  refine mg_iand (pc := 34) dX12_once_34 ?_
  refine mg_iconst (pc := 35) dX12_once_35 kc_1 ?_
  refine mb_icmp_ne (pc := 36) 44 dX12_once_36 rfl hr (fun hr => ?_) (fun hr => ?_)
  · exact mg_weak (mm_le_s (mm_le_s mm_le_0)) (X12_once_b44_ok hz hd h0 hr)
  · refine ml_aload_n (pc := 39) dX12_once_39 rfl mm_get_0 ?_
    refine mg_iconst (pc := 40) dX12_once_40 kc_5 ?_
    refine mb_cVv (pc := 41) (As := [.int (5 : Int32)]) (rest := []) dX12_once_41 cw_X12_218 h0 hr (fun v hv => X12_wrong_ok hz (by omega) h0 hv) rfl (Nat.le_of_ble_eq_true rfl) (Nat.zero_le _) (Nat.zero_le _) (fun r2 hr => ?_)
    exact mg_weak (mm_le_s (mm_le_s mm_le_0)) (X12_once_b44_ok hz hd h0 hr)
def X12_once_b12 (e : mm_E) (a0 : Nat) (i1 : Int32) (m : mm_V) : Option mm_V := (mm_gi e.1 m 12 75 a0 28).bind fun x1 => if x1 = 0 then (X12_once_b27 e a0 i1  m) else ((X12_wrong e a0 (2 : Int32) m).bind fun r2 => X12_once_b44 e a0 i1  r2)
theorem X12_once_b12_ok {K : mm_K} {nx : Option Nat} {e : mm_E} (hz : e.2.1 = K.2.2.2.2) {d : Nat} (hd : 3 ≤ d) {a0 : Nat} {i1 : Int32} (h0 : e.1 a0 = some (12, 75)) {m : mm_V} {r : mm_V} (hr : X12_once_b12 e a0 i1 m = some r) : mm_G K MX12_once d (mm_Fv e.1 nx r) 12 [some (.ref a0), some (.int i1)] [] (e.1, m) nx 0 0 := by
  obtain ⟨d, rfl⟩ : ∃ d', d = d' + 1 := ⟨d - 1, by omega⟩
  unfold X12_once_b12 at hr
  refine ml_aload_n (pc := 12) dX12_once_12 rfl mm_get_0 ?_
  refine mb_gi (pc := 13) dX12_once_13 fl_X12_271 hr (fun x1 hr => ?_)
  refine mb_if_eq (pc := 16) 27 dX12_once_16 rfl hr (fun hr => ?_) (fun hr => ?_)
  · exact mg_weak (mm_le_s (mm_le_s mm_le_0)) (X12_once_b27_ok hz hd h0 hr)
  · refine ml_aload_n (pc := 19) dX12_once_19 rfl mm_get_0 ?_
    refine mg_iconst (pc := 20) dX12_once_20 kc_2 ?_
    refine mb_cVv (pc := 21) (As := [.int (2 : Int32)]) (rest := []) dX12_once_21 cw_X12_218 h0 hr (fun v hv => X12_wrong_ok hz (by omega) h0 hv) rfl (Nat.le_of_ble_eq_true rfl) (Nat.zero_le _) (Nat.zero_le _) (fun r2 hr => ?_)
    refine mg_goto (pc := 24) 44 dX12_once_24 rfl ?_
    exact mg_weak (mm_le_s (mm_le_s mm_le_0)) (X12_once_b44_ok hz hd h0 hr)
def X12_once (e : mm_E) (a0 : Nat) (i1 : Int32) (m : mm_V) : Option mm_V := if i1 = (6 : Int32) then (X12_once_b12 e a0 i1  m) else (if ¬ i1 = (7 : Int32) then (X12_once_b27 e a0 i1  m) else (X12_once_b12 e a0 i1  m))
theorem X12_once_ok {K : mm_K} {nx : Option Nat} {e : mm_E} (hz : e.2.1 = K.2.2.2.2) {d : Nat} (hd : 3 ≤ d) {a0 : Nat} {i1 : Int32} (h0 : e.1 a0 = some (12, 75)) {m : mm_V} {r : mm_V} (hr : X12_once e a0 i1 m = some r) : mm_Cn K MX12_once d (mm_Fv e.1 nx r) [.ref a0, .int i1] (e.1, m) nx := by
  obtain ⟨d, rfl⟩ : ∃ d', d = d' + 1 := ⟨d - 1, by omega⟩
  refine mm_entry (by decide) (Nat.le_of_ble_eq_true rfl) rfl (fun hok => ?_)
  unfold X12_once at hr
  refine mg_weak (L' := [some (.ref a0), some (.int i1)]) (mm_le_s (mm_le_s mm_le_0)) ?_
  refine ml_iload_n (pc := 0) dX12_once_0 rfl (mm_get_s mm_get_0) ?_
  refine mg_bipush (pc := 1) dX12_once_1 kb_6 ?_
  refine mb_icmp_eq (pc := 3) 12 dX12_once_3 rfl hr (fun hr => ?_) (fun hr => ?_)
  · exact mg_weak (mm_le_s (mm_le_s mm_le_0)) (X12_once_b12_ok hz hd h0 hr)
  · refine ml_iload_n (pc := 6) dX12_once_6 rfl (mm_get_s mm_get_0) ?_
    refine mg_bipush (pc := 7) dX12_once_7 kb_7 ?_
    refine mb_icmp_ne (pc := 9) 27 dX12_once_9 rfl hr (fun hr => ?_) (fun hr => ?_)
    · exact mg_weak (mm_le_s (mm_le_s mm_le_0)) (X12_once_b27_ok hz hd h0 hr)
    · exact mg_weak (mm_le_s (mm_le_s mm_le_0)) (X12_once_b12_ok hz hd h0 hr)
theorem dX12_readsFan_0 : decode cX12_readsFan 0 = .ok (.aload_n 0, 1) := by decide +kernel
theorem dX12_readsFan_1 : decode cX12_readsFan 1 = .ok (.iconst 0, 1) := by decide +kernel
theorem dX12_readsFan_2 : decode cX12_readsFan 2 = .ok (.invokevirtual 288, 3) := by decide +kernel
theorem dX12_readsFan_5 : decode cX12_readsFan 5 = .ok (.istore_n 1, 1) := by decide +kernel
theorem dX12_readsFan_6 : decode cX12_readsFan 6 = .ok (.aload_n 0, 1) := by decide +kernel
theorem dX12_readsFan_7 : decode cX12_readsFan 7 = .ok (.invokevirtual 211, 3) := by decide +kernel
theorem dX12_readsFan_10 : decode cX12_readsFan 10 = .ok (.ifCond .ne 4, 3) := by decide +kernel
theorem dX12_readsFan_13 : decode cX12_readsFan 13 = .ok (.return_, 1) := by decide +kernel
theorem dX12_readsFan_14 : decode cX12_readsFan 14 = .ok (.aload_n 0, 1) := by decide +kernel
theorem dX12_readsFan_15 : decode cX12_readsFan 15 = .ok (.iconst 1, 1) := by decide +kernel
theorem dX12_readsFan_16 : decode cX12_readsFan 16 = .ok (.putfield 291, 3) := by decide +kernel
theorem dX12_readsFan_19 : decode cX12_readsFan 19 = .ok (.iconst 0, 1) := by decide +kernel
theorem dX12_readsFan_20 : decode cX12_readsFan 20 = .ok (.istore_n 2, 1) := by decide +kernel
theorem dX12_readsFan_21 : decode cX12_readsFan 21 = .ok (.iconst 1, 1) := by decide +kernel
theorem dX12_readsFan_22 : decode cX12_readsFan 22 = .ok (.istore_n 3, 1) := by decide +kernel
theorem dX12_readsFan_23 : decode cX12_readsFan 23 = .ok (.iload_n 3, 1) := by decide +kernel
theorem dX12_readsFan_24 : decode cX12_readsFan 24 = .ok (.ifCond .eq 247, 3) := by decide +kernel
theorem dX12_readsFan_27 : decode cX12_readsFan 27 = .ok (.aload_n 0, 1) := by decide +kernel
theorem dX12_readsFan_28 : decode cX12_readsFan 28 = .ok (.invokevirtual 211, 3) := by decide +kernel
theorem dX12_readsFan_31 : decode cX12_readsFan 31 = .ok (.ifCond .eq 240, 3) := by decide +kernel
theorem dX12_readsFan_34 : decode cX12_readsFan 34 = .ok (.aload_n 0, 1) := by decide +kernel
theorem dX12_readsFan_35 : decode cX12_readsFan 35 = .ok (.invokevirtual 233, 3) := by decide +kernel
theorem dX12_readsFan_38 : decode cX12_readsFan 38 = .ok (.bipush 13, 2) := by decide +kernel
theorem dX12_readsFan_40 : decode cX12_readsFan 40 = .ok (.if_icmp .ne 7, 3) := by decide +kernel
theorem dX12_readsFan_43 : decode cX12_readsFan 43 = .ok (.iconst 1, 1) := by decide +kernel
theorem dX12_readsFan_44 : decode cX12_readsFan 44 = .ok (.goto 4, 3) := by decide +kernel
theorem dX12_readsFan_47 : decode cX12_readsFan 47 = .ok (.iconst 0, 1) := by decide +kernel
theorem dX12_readsFan_48 : decode cX12_readsFan 48 = .ok (.istore 4, 2) := by decide +kernel
theorem dX12_readsFan_50 : decode cX12_readsFan 50 = .ok (.iload 4, 2) := by decide +kernel
theorem dX12_readsFan_52 : decode cX12_readsFan 52 = .ok (.ifCond .ne 11, 3) := by decide +kernel
theorem dX12_readsFan_55 : decode cX12_readsFan 55 = .ok (.aload_n 0, 1) := by decide +kernel
theorem dX12_readsFan_56 : decode cX12_readsFan 56 = .ok (.getfield 185, 3) := by decide +kernel
theorem dX12_readsFan_59 : decode cX12_readsFan 59 = .ok (.iconst 2, 1) := by decide +kernel
theorem dX12_readsFan_60 : decode cX12_readsFan 60 = .ok (.if_icmp .ne 7, 3) := by decide +kernel
theorem dX12_readsFan_63 : decode cX12_readsFan 63 = .ok (.iconst 1, 1) := by decide +kernel
theorem dX12_readsFan_64 : decode cX12_readsFan 64 = .ok (.goto 4, 3) := by decide +kernel
theorem dX12_readsFan_67 : decode cX12_readsFan 67 = .ok (.iconst 0, 1) := by decide +kernel
theorem dX12_readsFan_68 : decode cX12_readsFan 68 = .ok (.istore_n 3, 1) := by decide +kernel
theorem dX12_readsFan_69 : decode cX12_readsFan 69 = .ok (.iload_n 3, 1) := by decide +kernel
theorem dX12_readsFan_70 : decode cX12_readsFan 70 = .ok (.ifCond .ne 6, 3) := by decide +kernel
theorem dX12_readsFan_73 : decode cX12_readsFan 73 = .ok (.goto (-50), 3) := by decide +kernel
theorem dX12_readsFan_76 : decode cX12_readsFan 76 = .ok (.iload 4, 2) := by decide +kernel
theorem dX12_readsFan_78 : decode cX12_readsFan 78 = .ok (.ifCond .ne 35, 3) := by decide +kernel
theorem dX12_readsFan_81 : decode cX12_readsFan 81 = .ok (.aload_n 0, 1) := by decide +kernel
theorem dX12_readsFan_82 : decode cX12_readsFan 82 = .ok (.getfield 195, 3) := by decide +kernel
theorem dX12_readsFan_85 : decode cX12_readsFan 85 = .ok (.iconst 4, 1) := by decide +kernel
theorem dX12_readsFan_86 : decode cX12_readsFan 86 = .ok (.if_icmp .gt 22, 3) := by decide +kernel
theorem dX12_readsFan_89 : decode cX12_readsFan 89 = .ok (.aload_n 0, 1) := by decide +kernel
theorem dX12_readsFan_90 : decode cX12_readsFan 90 = .ok (.getfield 179, 3) := by decide +kernel
theorem dX12_readsFan_93 : decode cX12_readsFan 93 = .ok (.iconst 1, 1) := by decide +kernel
theorem dX12_readsFan_94 : decode cX12_readsFan 94 = .ok (.if_icmp .lt 14, 3) := by decide +kernel
theorem dX12_readsFan_97 : decode cX12_readsFan 97 = .ok (.aload_n 0, 1) := by decide +kernel
theorem dX12_readsFan_98 : decode cX12_readsFan 98 = .ok (.getfield 179, 3) := by decide +kernel
theorem dX12_readsFan_101 : decode cX12_readsFan 101 = .ok (.aload_n 0, 1) := by decide +kernel
theorem dX12_readsFan_102 : decode cX12_readsFan 102 = .ok (.getfield 282, 3) := by decide +kernel
theorem dX12_readsFan_105 : decode cX12_readsFan 105 = .ok (.if_icmp .le 8, 3) := by decide +kernel
theorem dX12_readsFan_108 : decode cX12_readsFan 108 = .ok (.aload_n 0, 1) := by decide +kernel
theorem dX12_readsFan_109 : decode cX12_readsFan 109 = .ok (.iconst 2, 1) := by decide +kernel
theorem dX12_readsFan_110 : decode cX12_readsFan 110 = .ok (.invokevirtual 218, 3) := by decide +kernel
theorem dX12_readsFan_113 : decode cX12_readsFan 113 = .ok (.aload_n 0, 1) := by decide +kernel
theorem dX12_readsFan_114 : decode cX12_readsFan 114 = .ok (.invokevirtual 211, 3) := by decide +kernel
theorem dX12_readsFan_117 : decode cX12_readsFan 117 = .ok (.ifCond .ne 4, 3) := by decide +kernel
theorem dX12_readsFan_120 : decode cX12_readsFan 120 = .ok (.return_, 1) := by decide +kernel
theorem dX12_readsFan_121 : decode cX12_readsFan 121 = .ok (.iload 4, 2) := by decide +kernel
theorem dX12_readsFan_123 : decode cX12_readsFan 123 = .ok (.ifCond .eq 7, 3) := by decide +kernel
theorem dX12_readsFan_126 : decode cX12_readsFan 126 = .ok (.iconst 0, 1) := by decide +kernel
theorem dX12_readsFan_127 : decode cX12_readsFan 127 = .ok (.goto 7, 3) := by decide +kernel
theorem dX12_readsFan_130 : decode cX12_readsFan 130 = .ok (.aload_n 0, 1) := by decide +kernel
theorem dX12_readsFan_131 : decode cX12_readsFan 131 = .ok (.getfield 179, 3) := by decide +kernel
theorem dX12_readsFan_134 : decode cX12_readsFan 134 = .ok (.istore 5, 2) := by decide +kernel
theorem dX12_readsFan_136 : decode cX12_readsFan 136 = .ok (.aload_n 0, 1) := by decide +kernel
theorem dX12_readsFan_137 : decode cX12_readsFan 137 = .ok (.getfield 50, 3) := by decide +kernel
theorem dX12_readsFan_140 : decode cX12_readsFan 140 = .ok (.iload 5, 2) := by decide +kernel
theorem dX12_readsFan_142 : decode cX12_readsFan 142 = .ok (.iaload, 1) := by decide +kernel
theorem dX12_readsFan_143 : decode cX12_readsFan 143 = .ok (.iload 4, 2) := by decide +kernel
theorem dX12_readsFan_145 : decode cX12_readsFan 145 = .ok (.ifCond .eq 7, 3) := by decide +kernel
theorem dX12_readsFan_148 : decode cX12_readsFan 148 = .ok (.iconst 1, 1) := by decide +kernel
theorem dX12_readsFan_149 : decode cX12_readsFan 149 = .ok (.goto 4, 3) := by decide +kernel
theorem dX12_readsFan_152 : decode cX12_readsFan 152 = .ok (.iconst 2, 1) := by decide +kernel
theorem dX12_readsFan_153 : decode cX12_readsFan 153 = .ok (.if_icmp .ne 7, 3) := by decide +kernel
theorem dX12_readsFan_156 : decode cX12_readsFan 156 = .ok (.iconst 1, 1) := by decide +kernel
theorem dX12_readsFan_157 : decode cX12_readsFan 157 = .ok (.goto 4, 3) := by decide +kernel
theorem dX12_readsFan_160 : decode cX12_readsFan 160 = .ok (.iconst 0, 1) := by decide +kernel
theorem dX12_readsFan_161 : decode cX12_readsFan 161 = .ok (.istore 6, 2) := by decide +kernel
theorem dX12_readsFan_163 : decode cX12_readsFan 163 = .ok (.iconst 0, 1) := by decide +kernel
theorem dX12_readsFan_164 : decode cX12_readsFan 164 = .ok (.istore 7, 2) := by decide +kernel
theorem dX12_readsFan_166 : decode cX12_readsFan 166 = .ok (.iload 7, 2) := by decide +kernel
theorem dX12_readsFan_168 : decode cX12_readsFan 168 = .ok (.iload_n 2, 1) := by decide +kernel
theorem dX12_readsFan_169 : decode cX12_readsFan 169 = .ok (.if_icmp .ge 40, 3) := by decide +kernel
theorem dX12_readsFan_172 : decode cX12_readsFan 172 = .ok (.iload 6, 2) := by decide +kernel
theorem dX12_readsFan_174 : decode cX12_readsFan 174 = .ok (.ifCond .ne 22, 3) := by decide +kernel
theorem dX12_readsFan_177 : decode cX12_readsFan 177 = .ok (.aload_n 0, 1) := by decide +kernel
theorem dX12_readsFan_178 : decode cX12_readsFan 178 = .ok (.getfield 41, 3) := by decide +kernel
theorem dX12_readsFan_181 : decode cX12_readsFan 181 = .ok (.bipush 20, 2) := by decide +kernel
theorem dX12_readsFan_183 : decode cX12_readsFan 183 = .ok (.iload_n 1, 1) := by decide +kernel
theorem dX12_readsFan_184 : decode cX12_readsFan 184 = .ok (.imul, 1) := by decide +kernel
theorem dX12_readsFan_185 : decode cX12_readsFan 185 = .ok (.iload 7, 2) := by decide +kernel
theorem dX12_readsFan_187 : decode cX12_readsFan 187 = .ok (.iadd, 1) := by decide +kernel
theorem dX12_readsFan_188 : decode cX12_readsFan 188 = .ok (.iconst 1, 1) := by decide +kernel
theorem dX12_readsFan_189 : decode cX12_readsFan 189 = .ok (.iadd, 1) := by decide +kernel
theorem dX12_readsFan_190 : decode cX12_readsFan 190 = .ok (.iaload, 1) := by decide +kernel
theorem dX12_readsFan_191 : decode cX12_readsFan 191 = .ok (.iload 5, 2) := by decide +kernel
theorem dX12_readsFan_193 : decode cX12_readsFan 193 = .ok (.if_icmp .ne 7, 3) := by decide +kernel
theorem dX12_readsFan_196 : decode cX12_readsFan 196 = .ok (.iconst 1, 1) := by decide +kernel
theorem dX12_readsFan_197 : decode cX12_readsFan 197 = .ok (.goto 4, 3) := by decide +kernel
theorem dX12_readsFan_200 : decode cX12_readsFan 200 = .ok (.iconst 0, 1) := by decide +kernel
theorem dX12_readsFan_201 : decode cX12_readsFan 201 = .ok (.istore 6, 2) := by decide +kernel
theorem dX12_readsFan_203 : decode cX12_readsFan 203 = .ok (.iinc 7 1, 3) := by decide +kernel
theorem dX12_readsFan_206 : decode cX12_readsFan 206 = .ok (.goto (-40), 3) := by decide +kernel
theorem dX12_readsFan_209 : decode cX12_readsFan 209 = .ok (.iload 6, 2) := by decide +kernel
theorem dX12_readsFan_211 : decode cX12_readsFan 211 = .ok (.ifCond .eq 8, 3) := by decide +kernel
theorem dX12_readsFan_214 : decode cX12_readsFan 214 = .ok (.aload_n 0, 1) := by decide +kernel
theorem dX12_readsFan_215 : decode cX12_readsFan 215 = .ok (.iconst 4, 1) := by decide +kernel
theorem dX12_readsFan_216 : decode cX12_readsFan 216 = .ok (.invokevirtual 218, 3) := by decide +kernel
theorem dX12_readsFan_219 : decode cX12_readsFan 219 = .ok (.aload_n 0, 1) := by decide +kernel
theorem dX12_readsFan_220 : decode cX12_readsFan 220 = .ok (.invokevirtual 211, 3) := by decide +kernel
theorem dX12_readsFan_223 : decode cX12_readsFan 223 = .ok (.ifCond .ne 4, 3) := by decide +kernel
theorem dX12_readsFan_226 : decode cX12_readsFan 226 = .ok (.return_, 1) := by decide +kernel
theorem dX12_readsFan_227 : decode cX12_readsFan 227 = .ok (.iinc 2 1, 3) := by decide +kernel
theorem dX12_readsFan_230 : decode cX12_readsFan 230 = .ok (.aload_n 0, 1) := by decide +kernel
theorem dX12_readsFan_231 : decode cX12_readsFan 231 = .ok (.getfield 41, 3) := by decide +kernel
theorem dX12_readsFan_234 : decode cX12_readsFan 234 = .ok (.bipush 20, 2) := by decide +kernel
theorem dX12_readsFan_236 : decode cX12_readsFan 236 = .ok (.iload_n 1, 1) := by decide +kernel
theorem dX12_readsFan_237 : decode cX12_readsFan 237 = .ok (.imul, 1) := by decide +kernel
theorem dX12_readsFan_238 : decode cX12_readsFan 238 = .ok (.iload_n 2, 1) := by decide +kernel
theorem dX12_readsFan_239 : decode cX12_readsFan 239 = .ok (.iadd, 1) := by decide +kernel
theorem dX12_readsFan_240 : decode cX12_readsFan 240 = .ok (.iload 5, 2) := by decide +kernel
theorem dX12_readsFan_242 : decode cX12_readsFan 242 = .ok (.iastore, 1) := by decide +kernel
theorem dX12_readsFan_243 : decode cX12_readsFan 243 = .ok (.aload_n 0, 1) := by decide +kernel
theorem dX12_readsFan_244 : decode cX12_readsFan 244 = .ok (.getfield 41, 3) := by decide +kernel
theorem dX12_readsFan_247 : decode cX12_readsFan 247 = .ok (.bipush 20, 2) := by decide +kernel
theorem dX12_readsFan_249 : decode cX12_readsFan 249 = .ok (.iload_n 1, 1) := by decide +kernel
theorem dX12_readsFan_250 : decode cX12_readsFan 250 = .ok (.imul, 1) := by decide +kernel
theorem dX12_readsFan_251 : decode cX12_readsFan 251 = .ok (.iload_n 2, 1) := by decide +kernel
theorem dX12_readsFan_252 : decode cX12_readsFan 252 = .ok (.iastore, 1) := by decide +kernel
theorem dX12_readsFan_253 : decode cX12_readsFan 253 = .ok (.aload_n 0, 1) := by decide +kernel
theorem dX12_readsFan_254 : decode cX12_readsFan 254 = .ok (.getfield 50, 3) := by decide +kernel
theorem dX12_readsFan_257 : decode cX12_readsFan 257 = .ok (.iload 5, 2) := by decide +kernel
theorem dX12_readsFan_259 : decode cX12_readsFan 259 = .ok (.dup2, 1) := by decide +kernel
theorem dX12_readsFan_260 : decode cX12_readsFan 260 = .ok (.iaload, 1) := by decide +kernel
theorem dX12_readsFan_261 : decode cX12_readsFan 261 = .ok (.iconst 1, 1) := by decide +kernel
theorem dX12_readsFan_262 : decode cX12_readsFan 262 = .ok (.iadd, 1) := by decide +kernel
theorem dX12_readsFan_263 : decode cX12_readsFan 263 = .ok (.iastore, 1) := by decide +kernel
theorem dX12_readsFan_264 : decode cX12_readsFan 264 = .ok (.aload_n 0, 1) := by decide +kernel
theorem dX12_readsFan_265 : decode cX12_readsFan 265 = .ok (.invokevirtual 215, 3) := by decide +kernel
theorem dX12_readsFan_268 : decode cX12_readsFan 268 = .ok (.goto (-245), 3) := by decide +kernel
theorem dX12_readsFan_271 : decode cX12_readsFan 271 = .ok (.return_, 1) := by decide +kernel
def X12_readsFan_b271 (e : mm_E) (m : mm_V) : Option mm_V := some m
theorem X12_readsFan_b271_ok {K : mm_K} {nx : Option Nat} {e : mm_E} (hz : e.2.1 = K.2.2.2.2) {d : Nat} (hd : 3 ≤ d) {a0 : Nat} (h0 : e.1 a0 = some (12, 75)) {m : mm_V} {r : mm_V} (hr : X12_readsFan_b271 e m = some r) : mm_G K MX12_readsFan d (mm_Fv e.1 nx r) 271 [none, none, none, none, none, none, none, none] [] (e.1, m) nx 0 0 := by
  obtain ⟨d, rfl⟩ : ∃ d', d = d' + 1 := ⟨d - 1, by omega⟩
  unfold X12_readsFan_b271 at hr
  exact mb_vret dX12_readsFan_271 rfl hr
def X12_readsFan_b219 (e : mm_E) (k23 : Int32 → Int32 → mm_V → Option mm_V) (a0 : Nat) (i1 : Int32) (i2 : Int32) (i3 : Int32) (i5 : Int32) (m : mm_V) : Option mm_V := (X12_isGood e a0 m).bind fun r1 => if ¬ r1.1 = 0 then ((mm_gr e.1 r1.2 12 75 a0 33).bind fun c2 => (mm_si e.1 r1.2 c2 (((20 : Int32) * i1) + (i2 + 1)) i5).bind fun m3 => (mm_gr e.1 m3 12 75 a0 33).bind fun c4 => (mm_si e.1 m3 c4 ((20 : Int32) * i1) (i2 + 1)).bind fun m5 => (mm_gr e.1 m5 12 75 a0 36).bind fun c6 => (mm_ai e.1 m5 20 c6 i5).bind fun x7 => (mm_si e.1 m5 c6 i5 (x7 + (1 : Int32))).bind fun m8 => (X12_goes e a0 m8).bind fun r9 => k23 (i2 + 1) i3 r9) else (some r1.2)
theorem X12_readsFan_b219_ok {K : mm_K} {nx : Option Nat} {e : mm_E} (hz : e.2.1 = K.2.2.2.2) {d : Nat} (hd : 3 ≤ d) {a0 : Nat} {i1 : Int32} {i2 : Int32} {i3 : Int32} {i5 : Int32} (h0 : e.1 a0 = some (12, 75)) {k23 : Int32 → Int32 → mm_V → Option mm_V} (hk23 : ∀ (w2 : Int32) (w3 : Int32) (m : mm_V) (r : mm_V), k23 w2 w3 m = some r → mm_G K MX12_readsFan d (mm_Fv e.1 nx r) 23 [some (.ref a0), some (.int i1), some (.int w2), some (.int w3), none, none, none, none] [] (e.1, m) nx 0 0) {m : mm_V} {r : mm_V} (hr : X12_readsFan_b219 e k23 a0 i1 i2 i3 i5 m = some r) : mm_G K MX12_readsFan d (mm_Fv e.1 nx r) 219 [some (.ref a0), some (.int i1), some (.int i2), some (.int i3), none, some (.int i5), none, none] [] (e.1, m) nx 0 0 := by
  obtain ⟨d, rfl⟩ : ∃ d', d = d' + 1 := ⟨d - 1, by omega⟩
  unfold X12_readsFan_b219 at hr
  refine ml_aload_n (pc := 219) dX12_readsFan_219 rfl mm_get_0 ?_
  refine mb_cVi (pc := 220) (As := []) (rest := []) dX12_readsFan_220 cw_X12_211 h0 hr (fun v hv => X12_isGood_ok hz (by omega) h0 hv) rfl (Nat.le_of_ble_eq_true rfl) (Nat.zero_le _) (Nat.zero_le _) (fun r1 hr => ?_)
  refine mb_if_ne (pc := 223) 227 dX12_readsFan_223 rfl hr (fun hr => ?_) (fun hr => ?_)
  · refine ml_iinc (pc := 227) dX12_readsFan_227 (mm_get_s (mm_get_s mm_get_0)) (congrArg (fun z => i2 + z) kc_1) (Nat.le_of_ble_eq_true rfl) (mm_st1_s mm_st1_i) ?_
    refine ml_aload_n (pc := 230) dX12_readsFan_230 rfl mm_get_0 ?_
    refine mb_gr (pc := 231) dX12_readsFan_231 fl_X12_41 hr (fun c2 hr => ?_)
    refine mg_bipush (pc := 234) dX12_readsFan_234 kb_20 ?_
    refine ml_iload_n (pc := 236) dX12_readsFan_236 rfl (mm_get_s mm_get_0) ?_
    refine mg_imul (pc := 237) dX12_readsFan_237 ?_
    refine ml_iload_n (pc := 238) dX12_readsFan_238 rfl (mm_get_s (mm_get_s mm_get_0)) ?_
    refine mg_iadd (pc := 239) dX12_readsFan_239 ?_
    refine ml_iload (pc := 240) dX12_readsFan_240 (mm_get_s (mm_get_s (mm_get_s (mm_get_s (mm_get_s mm_get_0))))) ?_
    refine mb_si (pc := 242) dX12_readsFan_242 hr (fun m3 hr => ?_)
    refine ml_aload_n (pc := 243) dX12_readsFan_243 rfl mm_get_0 ?_
    refine mb_gr (pc := 244) dX12_readsFan_244 fl_X12_41 hr (fun c4 hr => ?_)
    refine mg_bipush (pc := 247) dX12_readsFan_247 kb_20 ?_
    refine ml_iload_n (pc := 249) dX12_readsFan_249 rfl (mm_get_s mm_get_0) ?_
    refine mg_imul (pc := 250) dX12_readsFan_250 ?_
    refine ml_iload_n (pc := 251) dX12_readsFan_251 rfl (mm_get_s (mm_get_s mm_get_0)) ?_
    refine mb_si (pc := 252) dX12_readsFan_252 hr (fun m5 hr => ?_)
    refine ml_aload_n (pc := 253) dX12_readsFan_253 rfl mm_get_0 ?_
    refine mb_gr (pc := 254) dX12_readsFan_254 fl_X12_50 hr (fun c6 hr => ?_)
    refine ml_iload (pc := 257) dX12_readsFan_257 (mm_get_s (mm_get_s (mm_get_s (mm_get_s (mm_get_s mm_get_0))))) ?_
    refine mg_dup2 (pc := 259) dX12_readsFan_259 rfl rfl ?_
    refine mb_ai (pc := 260) dX12_readsFan_260 hr (fun x7 hr => ?_)
    refine mg_iconst (pc := 261) dX12_readsFan_261 kc_1 ?_
    refine mg_iadd (pc := 262) dX12_readsFan_262 ?_
    refine mb_si (pc := 263) dX12_readsFan_263 hr (fun m8 hr => ?_)
    refine ml_aload_n (pc := 264) dX12_readsFan_264 rfl mm_get_0 ?_
    refine mb_cVv (pc := 265) (As := []) (rest := []) dX12_readsFan_265 cw_X12_215 h0 hr (fun v hv => X12_goes_ok hz (by omega) h0 hv) rfl (Nat.le_of_ble_eq_true rfl) (Nat.zero_le _) (Nat.zero_le _) (fun r9 hr => ?_)
    refine mg_goto (pc := 268) 23 dX12_readsFan_268 rfl ?_
    exact mg_weak (mm_le_s (mm_le_s (mm_le_s (mm_le_s (mm_le_n (mm_le_n (mm_le_n (mm_le_n mm_le_0)))))))) (hk23 _ _ _ _ hr)
  · exact mb_vret dX12_readsFan_226 rfl hr
def X12_readsFan_b201 (e : mm_E) (k23 : Int32 → Int32 → mm_V → Option mm_V) (k166 : Int32 → Int32 → mm_V → Option mm_V) (a0 : Nat) (i1 : Int32) (i2 : Int32) (i3 : Int32) (i5 : Int32) (i7 : Int32) (t0 : Int32) (m : mm_V) : Option mm_V := k166 t0 (i7 + 1) m
theorem X12_readsFan_b201_ok {K : mm_K} {nx : Option Nat} {e : mm_E} (hz : e.2.1 = K.2.2.2.2) {d : Nat} (hd : 3 ≤ d) {a0 : Nat} {i1 : Int32} {i2 : Int32} {i3 : Int32} {i5 : Int32} {i7 : Int32} {t0 : Int32} (h0 : e.1 a0 = some (12, 75)) {k23 : Int32 → Int32 → mm_V → Option mm_V} {k166 : Int32 → Int32 → mm_V → Option mm_V} (hk23 : ∀ (w2 : Int32) (w3 : Int32) (m : mm_V) (r : mm_V), k23 w2 w3 m = some r → mm_G K MX12_readsFan d (mm_Fv e.1 nx r) 23 [some (.ref a0), some (.int i1), some (.int w2), some (.int w3), none, none, none, none] [] (e.1, m) nx 0 0) (hk166 : ∀ (w6 : Int32) (w7 : Int32) (m : mm_V) (r : mm_V), k166 w6 w7 m = some r → mm_G K MX12_readsFan d (mm_Fv e.1 nx r) 166 [some (.ref a0), some (.int i1), some (.int i2), some (.int i3), none, some (.int i5), some (.int w6), some (.int w7)] [] (e.1, m) nx 0 0) {m : mm_V} {r : mm_V} (hr : X12_readsFan_b201 e k23 k166 a0 i1 i2 i3 i5 i7 t0 m = some r) : mm_G K MX12_readsFan d (mm_Fv e.1 nx r) 201 [some (.ref a0), some (.int i1), some (.int i2), some (.int i3), none, some (.int i5), none, some (.int i7)] [.int t0] (e.1, m) nx 0 0 := by
  obtain ⟨d, rfl⟩ : ∃ d', d = d' + 1 := ⟨d - 1, by omega⟩
  unfold X12_readsFan_b201 at hr
  refine ml_istore (pc := 201) dX12_readsFan_201 (Nat.le_of_ble_eq_true rfl) (mm_st1_s (mm_st1_s (mm_st1_s (mm_st1_s (mm_st1_s mm_st1_i))))) ?_
  refine ml_iinc (pc := 203) dX12_readsFan_203 (mm_get_s (mm_get_s (mm_get_s (mm_get_s (mm_get_s (mm_get_s (mm_get_s mm_get_0))))))) (congrArg (fun z => i7 + z) kc_1) (Nat.le_of_ble_eq_true rfl) (mm_st1_s (mm_st1_s (mm_st1_s (mm_st1_s (mm_st1_s (mm_st1_s mm_st1_i)))))) ?_
  refine mg_goto (pc := 206) 166 dX12_readsFan_206 rfl ?_
  exact mg_weak (mm_le_s (mm_le_s (mm_le_s (mm_le_s (mm_le_n (mm_le_s (mm_le_s (mm_le_s mm_le_0)))))))) (hk166 _ _ _ _ hr)
def X12_readsFan_b196 (e : mm_E) (k23 : Int32 → Int32 → mm_V → Option mm_V) (k166 : Int32 → Int32 → mm_V → Option mm_V) (a0 : Nat) (i1 : Int32) (i2 : Int32) (i3 : Int32) (i5 : Int32) (i7 : Int32) (m : mm_V) : Option mm_V := X12_readsFan_b201 e k23 k166 a0 i1 i2 i3 i5 i7 (1 : Int32) m
theorem X12_readsFan_b196_ok {K : mm_K} {nx : Option Nat} {e : mm_E} (hz : e.2.1 = K.2.2.2.2) {d : Nat} (hd : 3 ≤ d) {a0 : Nat} {i1 : Int32} {i2 : Int32} {i3 : Int32} {i5 : Int32} {i7 : Int32} (h0 : e.1 a0 = some (12, 75)) {k23 : Int32 → Int32 → mm_V → Option mm_V} {k166 : Int32 → Int32 → mm_V → Option mm_V} (hk23 : ∀ (w2 : Int32) (w3 : Int32) (m : mm_V) (r : mm_V), k23 w2 w3 m = some r → mm_G K MX12_readsFan d (mm_Fv e.1 nx r) 23 [some (.ref a0), some (.int i1), some (.int w2), some (.int w3), none, none, none, none] [] (e.1, m) nx 0 0) (hk166 : ∀ (w6 : Int32) (w7 : Int32) (m : mm_V) (r : mm_V), k166 w6 w7 m = some r → mm_G K MX12_readsFan d (mm_Fv e.1 nx r) 166 [some (.ref a0), some (.int i1), some (.int i2), some (.int i3), none, some (.int i5), some (.int w6), some (.int w7)] [] (e.1, m) nx 0 0) {m : mm_V} {r : mm_V} (hr : X12_readsFan_b196 e k23 k166 a0 i1 i2 i3 i5 i7 m = some r) : mm_G K MX12_readsFan d (mm_Fv e.1 nx r) 196 [some (.ref a0), some (.int i1), some (.int i2), some (.int i3), none, some (.int i5), none, some (.int i7)] [] (e.1, m) nx 0 0 := by
  obtain ⟨d, rfl⟩ : ∃ d', d = d' + 1 := ⟨d - 1, by omega⟩
  unfold X12_readsFan_b196 at hr
  refine mg_iconst (pc := 196) dX12_readsFan_196 kc_1 ?_
  refine mg_goto (pc := 197) 201 dX12_readsFan_197 rfl ?_
  exact mg_weak (mm_le_s (mm_le_s (mm_le_s (mm_le_s (mm_le_n (mm_le_s (mm_le_n (mm_le_s mm_le_0)))))))) (X12_readsFan_b201_ok hz hd h0 hk23 hk166 hr)
def X12_readsFan_L166 (e : mm_E) (k23 : Int32 → Int32 → mm_V → Option mm_V) (a0 : Nat) (i1 : Int32) (i2 : Int32) (i3 : Int32) (i5 : Int32) : Nat → Int32 → Int32 → mm_V → Option mm_V
  | 0, _, _, _ => none
  | n + 1, i6, i7, m => if i2 ≤ i7 then (if i6 = 0 then (X12_readsFan_b219 e k23 a0 i1 i2 i3 i5  m) else ((X12_wrong e a0 (4 : Int32) m).bind fun r1 => X12_readsFan_b219 e k23 a0 i1 i2 i3 i5  r1)) else (if ¬ i6 = 0 then (X12_readsFan_b196 e k23 (X12_readsFan_L166 e k23 a0 i1 i2 i3 i5 n) a0 i1 i2 i3 i5 i7  m) else ((mm_gr e.1 m 12 75 a0 33).bind fun c2 => (mm_ai e.1 m 20 c2 ((((20 : Int32) * i1) + i7) + (1 : Int32))).bind fun x3 => if ¬ x3 = i5 then (X12_readsFan_b201 e k23 (X12_readsFan_L166 e k23 a0 i1 i2 i3 i5 n) a0 i1 i2 i3 i5 i7 (0 : Int32) m) else (X12_readsFan_b196 e k23 (X12_readsFan_L166 e k23 a0 i1 i2 i3 i5 n) a0 i1 i2 i3 i5 i7  m)))
theorem X12_readsFan_L166_ok {K : mm_K} {nx : Option Nat} {e : mm_E} (hz : e.2.1 = K.2.2.2.2) {d : Nat} (hd : 3 ≤ d) {a0 : Nat} {i1 : Int32} {i2 : Int32} {i3 : Int32} {i5 : Int32} (h0 : e.1 a0 = some (12, 75)) {k23 : Int32 → Int32 → mm_V → Option mm_V} (hk23 : ∀ (w2 : Int32) (w3 : Int32) (m : mm_V) (r : mm_V), k23 w2 w3 m = some r → mm_G K MX12_readsFan d (mm_Fv e.1 nx r) 23 [some (.ref a0), some (.int i1), some (.int w2), some (.int w3), none, none, none, none] [] (e.1, m) nx 0 0) : ∀ (n : Nat) (i6 : Int32) (i7 : Int32) (m : mm_V) (r : mm_V), X12_readsFan_L166 e k23 a0 i1 i2 i3 i5 n i6 i7 m = some r → mm_G K MX12_readsFan d (mm_Fv e.1 nx r) 166 [some (.ref a0), some (.int i1), some (.int i2), some (.int i3), none, some (.int i5), some (.int i6), some (.int i7)] [] (e.1, m) nx 0 0 := by
  obtain ⟨d, rfl⟩ : ∃ d', d = d' + 1 := ⟨d - 1, by omega⟩
  intro n
  induction n with
  | zero => intro i6 i7 m r hr; unfold X12_readsFan_L166 at hr; cases hr
  | succ n ih =>
    intro i6 i7 m r hr
    unfold X12_readsFan_L166 at hr
    refine ml_iload (pc := 166) dX12_readsFan_166 (mm_get_s (mm_get_s (mm_get_s (mm_get_s (mm_get_s (mm_get_s (mm_get_s mm_get_0))))))) ?_
    refine ml_iload_n (pc := 168) dX12_readsFan_168 rfl (mm_get_s (mm_get_s mm_get_0)) ?_
    refine mb_icmp_ge (pc := 169) 209 dX12_readsFan_169 rfl hr (fun hr => ?_) (fun hr => ?_)
    · refine ml_iload (pc := 209) dX12_readsFan_209 (mm_get_s (mm_get_s (mm_get_s (mm_get_s (mm_get_s (mm_get_s mm_get_0)))))) ?_
      refine mb_if_eq (pc := 211) 219 dX12_readsFan_211 rfl hr (fun hr => ?_) (fun hr => ?_)
      · exact mg_weak (mm_le_s (mm_le_s (mm_le_s (mm_le_s (mm_le_n (mm_le_s (mm_le_n (mm_le_n mm_le_0)))))))) (X12_readsFan_b219_ok hz hd h0 hk23 hr)
      · refine ml_aload_n (pc := 214) dX12_readsFan_214 rfl mm_get_0 ?_
        refine mg_iconst (pc := 215) dX12_readsFan_215 kc_4 ?_
        refine mb_cVv (pc := 216) (As := [.int (4 : Int32)]) (rest := []) dX12_readsFan_216 cw_X12_218 h0 hr (fun v hv => X12_wrong_ok hz (by omega) h0 hv) rfl (Nat.le_of_ble_eq_true rfl) (Nat.zero_le _) (Nat.zero_le _) (fun r1 hr => ?_)
        exact mg_weak (mm_le_s (mm_le_s (mm_le_s (mm_le_s (mm_le_n (mm_le_s (mm_le_n (mm_le_n mm_le_0)))))))) (X12_readsFan_b219_ok hz hd h0 hk23 hr)
    · refine ml_iload (pc := 172) dX12_readsFan_172 (mm_get_s (mm_get_s (mm_get_s (mm_get_s (mm_get_s (mm_get_s mm_get_0)))))) ?_
      refine mb_if_ne (pc := 174) 196 dX12_readsFan_174 rfl hr (fun hr => ?_) (fun hr => ?_)
      · exact mg_weak (mm_le_s (mm_le_s (mm_le_s (mm_le_s (mm_le_n (mm_le_s (mm_le_n (mm_le_s mm_le_0)))))))) (X12_readsFan_b196_ok hz hd h0 hk23 ih hr)
      · refine ml_aload_n (pc := 177) dX12_readsFan_177 rfl mm_get_0 ?_
        refine mb_gr (pc := 178) dX12_readsFan_178 fl_X12_41 hr (fun c2 hr => ?_)
        refine mg_bipush (pc := 181) dX12_readsFan_181 kb_20 ?_
        refine ml_iload_n (pc := 183) dX12_readsFan_183 rfl (mm_get_s mm_get_0) ?_
        refine mg_imul (pc := 184) dX12_readsFan_184 ?_
        refine ml_iload (pc := 185) dX12_readsFan_185 (mm_get_s (mm_get_s (mm_get_s (mm_get_s (mm_get_s (mm_get_s (mm_get_s mm_get_0))))))) ?_
        refine mg_iadd (pc := 187) dX12_readsFan_187 ?_
        refine mg_iconst (pc := 188) dX12_readsFan_188 kc_1 ?_
        refine mg_iadd (pc := 189) dX12_readsFan_189 ?_
        refine mb_ai (pc := 190) dX12_readsFan_190 hr (fun x3 hr => ?_)
        refine ml_iload (pc := 191) dX12_readsFan_191 (mm_get_s (mm_get_s (mm_get_s (mm_get_s (mm_get_s mm_get_0))))) ?_
        refine mb_icmp_ne (pc := 193) 200 dX12_readsFan_193 rfl hr (fun hr => ?_) (fun hr => ?_)
        · refine mg_iconst (pc := 200) dX12_readsFan_200 kc_0 ?_
          exact mg_weak (mm_le_s (mm_le_s (mm_le_s (mm_le_s (mm_le_n (mm_le_s (mm_le_n (mm_le_s mm_le_0)))))))) (X12_readsFan_b201_ok hz hd h0 hk23 ih hr)
        · exact mg_weak (mm_le_s (mm_le_s (mm_le_s (mm_le_s (mm_le_n (mm_le_s (mm_le_n (mm_le_s mm_le_0)))))))) (X12_readsFan_b196_ok hz hd h0 hk23 ih hr)
def X12_readsFan_b161 (e : mm_E) (k23 : Int32 → Int32 → mm_V → Option mm_V) (a0 : Nat) (i1 : Int32) (i2 : Int32) (i3 : Int32) (i5 : Int32) (t0 : Int32) (m : mm_V) : Option mm_V := X12_readsFan_L166 e k23 a0 i1 i2 i3 i5 e.2.2 t0 (0 : Int32) m
theorem X12_readsFan_b161_ok {K : mm_K} {nx : Option Nat} {e : mm_E} (hz : e.2.1 = K.2.2.2.2) {d : Nat} (hd : 3 ≤ d) {a0 : Nat} {i1 : Int32} {i2 : Int32} {i3 : Int32} {i5 : Int32} {t0 : Int32} (h0 : e.1 a0 = some (12, 75)) {k23 : Int32 → Int32 → mm_V → Option mm_V} (hk23 : ∀ (w2 : Int32) (w3 : Int32) (m : mm_V) (r : mm_V), k23 w2 w3 m = some r → mm_G K MX12_readsFan d (mm_Fv e.1 nx r) 23 [some (.ref a0), some (.int i1), some (.int w2), some (.int w3), none, none, none, none] [] (e.1, m) nx 0 0) {m : mm_V} {r : mm_V} (hr : X12_readsFan_b161 e k23 a0 i1 i2 i3 i5 t0 m = some r) : mm_G K MX12_readsFan d (mm_Fv e.1 nx r) 161 [some (.ref a0), some (.int i1), some (.int i2), some (.int i3), none, some (.int i5), none, none] [.int t0] (e.1, m) nx 0 0 := by
  obtain ⟨d, rfl⟩ : ∃ d', d = d' + 1 := ⟨d - 1, by omega⟩
  unfold X12_readsFan_b161 at hr
  refine ml_istore (pc := 161) dX12_readsFan_161 (Nat.le_of_ble_eq_true rfl) (mm_st1_s (mm_st1_s (mm_st1_s (mm_st1_s (mm_st1_s mm_st1_i))))) ?_
  refine mg_iconst (pc := 163) dX12_readsFan_163 kc_0 ?_
  refine ml_istore (pc := 164) dX12_readsFan_164 (Nat.le_of_ble_eq_true rfl) (mm_st1_s (mm_st1_s (mm_st1_s (mm_st1_s (mm_st1_s (mm_st1_s mm_st1_i)))))) ?_
  exact mg_weak (mm_le_s (mm_le_s (mm_le_s (mm_le_s (mm_le_n (mm_le_s (mm_le_s (mm_le_s mm_le_0)))))))) (X12_readsFan_L166_ok hz hd h0 hk23 _ _ _ _ _ hr)
def X12_readsFan_b153 (e : mm_E) (k23 : Int32 → Int32 → mm_V → Option mm_V) (a0 : Nat) (i1 : Int32) (i2 : Int32) (i3 : Int32) (i5 : Int32) (t0 : Int32) (t1 : Int32) (m : mm_V) : Option mm_V := if ¬ t0 = t1 then (X12_readsFan_b161 e k23 a0 i1 i2 i3 i5 (0 : Int32) m) else (X12_readsFan_b161 e k23 a0 i1 i2 i3 i5 (1 : Int32) m)
theorem X12_readsFan_b153_ok {K : mm_K} {nx : Option Nat} {e : mm_E} (hz : e.2.1 = K.2.2.2.2) {d : Nat} (hd : 3 ≤ d) {a0 : Nat} {i1 : Int32} {i2 : Int32} {i3 : Int32} {i5 : Int32} {t0 : Int32} {t1 : Int32} (h0 : e.1 a0 = some (12, 75)) {k23 : Int32 → Int32 → mm_V → Option mm_V} (hk23 : ∀ (w2 : Int32) (w3 : Int32) (m : mm_V) (r : mm_V), k23 w2 w3 m = some r → mm_G K MX12_readsFan d (mm_Fv e.1 nx r) 23 [some (.ref a0), some (.int i1), some (.int w2), some (.int w3), none, none, none, none] [] (e.1, m) nx 0 0) {m : mm_V} {r : mm_V} (hr : X12_readsFan_b153 e k23 a0 i1 i2 i3 i5 t0 t1 m = some r) : mm_G K MX12_readsFan d (mm_Fv e.1 nx r) 153 [some (.ref a0), some (.int i1), some (.int i2), some (.int i3), none, some (.int i5), none, none] [.int t1, .int t0] (e.1, m) nx 0 0 := by
  obtain ⟨d, rfl⟩ : ∃ d', d = d' + 1 := ⟨d - 1, by omega⟩
  unfold X12_readsFan_b153 at hr
  refine mb_icmp_ne (pc := 153) 160 dX12_readsFan_153 rfl hr (fun hr => ?_) (fun hr => ?_)
  · refine mg_iconst (pc := 160) dX12_readsFan_160 kc_0 ?_
    exact mg_weak (mm_le_s (mm_le_s (mm_le_s (mm_le_s (mm_le_n (mm_le_s (mm_le_n (mm_le_n mm_le_0)))))))) (X12_readsFan_b161_ok hz hd h0 hk23 hr)
  · refine mg_iconst (pc := 156) dX12_readsFan_156 kc_1 ?_
    refine mg_goto (pc := 157) 161 dX12_readsFan_157 rfl ?_
    exact mg_weak (mm_le_s (mm_le_s (mm_le_s (mm_le_s (mm_le_n (mm_le_s (mm_le_n (mm_le_n mm_le_0)))))))) (X12_readsFan_b161_ok hz hd h0 hk23 hr)
def X12_readsFan_b134 (e : mm_E) (k23 : Int32 → Int32 → mm_V → Option mm_V) (a0 : Nat) (i1 : Int32) (i2 : Int32) (i3 : Int32) (i4 : Int32) (t0 : Int32) (m : mm_V) : Option mm_V := (mm_gr e.1 m 12 75 a0 36).bind fun c1 => (mm_ai e.1 m 20 c1 t0).bind fun x2 => if i4 = 0 then (X12_readsFan_b153 e k23 a0 i1 i2 i3 t0 x2 (2 : Int32) m) else (X12_readsFan_b153 e k23 a0 i1 i2 i3 t0 x2 (1 : Int32) m)
theorem X12_readsFan_b134_ok {K : mm_K} {nx : Option Nat} {e : mm_E} (hz : e.2.1 = K.2.2.2.2) {d : Nat} (hd : 3 ≤ d) {a0 : Nat} {i1 : Int32} {i2 : Int32} {i3 : Int32} {i4 : Int32} {t0 : Int32} (h0 : e.1 a0 = some (12, 75)) {k23 : Int32 → Int32 → mm_V → Option mm_V} (hk23 : ∀ (w2 : Int32) (w3 : Int32) (m : mm_V) (r : mm_V), k23 w2 w3 m = some r → mm_G K MX12_readsFan d (mm_Fv e.1 nx r) 23 [some (.ref a0), some (.int i1), some (.int w2), some (.int w3), none, none, none, none] [] (e.1, m) nx 0 0) {m : mm_V} {r : mm_V} (hr : X12_readsFan_b134 e k23 a0 i1 i2 i3 i4 t0 m = some r) : mm_G K MX12_readsFan d (mm_Fv e.1 nx r) 134 [some (.ref a0), some (.int i1), some (.int i2), some (.int i3), some (.int i4), none, none, none] [.int t0] (e.1, m) nx 0 0 := by
  obtain ⟨d, rfl⟩ : ∃ d', d = d' + 1 := ⟨d - 1, by omega⟩
  unfold X12_readsFan_b134 at hr
  refine ml_istore (pc := 134) dX12_readsFan_134 (Nat.le_of_ble_eq_true rfl) (mm_st1_s (mm_st1_s (mm_st1_s (mm_st1_s mm_st1_i)))) ?_
  refine ml_aload_n (pc := 136) dX12_readsFan_136 rfl mm_get_0 ?_
  refine mb_gr (pc := 137) dX12_readsFan_137 fl_X12_50 hr (fun c1 hr => ?_)
  refine ml_iload (pc := 140) dX12_readsFan_140 (mm_get_s (mm_get_s (mm_get_s (mm_get_s (mm_get_s mm_get_0))))) ?_
  refine mb_ai (pc := 142) dX12_readsFan_142 hr (fun x2 hr => ?_)
  refine ml_iload (pc := 143) dX12_readsFan_143 (mm_get_s (mm_get_s (mm_get_s (mm_get_s mm_get_0)))) ?_
  refine mb_if_eq (pc := 145) 152 dX12_readsFan_145 rfl hr (fun hr => ?_) (fun hr => ?_)
  · refine mg_iconst (pc := 152) dX12_readsFan_152 kc_2 ?_
    exact mg_weak (mm_le_s (mm_le_s (mm_le_s (mm_le_s (mm_le_n (mm_le_s (mm_le_n (mm_le_n mm_le_0)))))))) (X12_readsFan_b153_ok hz hd h0 hk23 hr)
  · refine mg_iconst (pc := 148) dX12_readsFan_148 kc_1 ?_
    refine mg_goto (pc := 149) 153 dX12_readsFan_149 rfl ?_
    exact mg_weak (mm_le_s (mm_le_s (mm_le_s (mm_le_s (mm_le_n (mm_le_s (mm_le_n (mm_le_n mm_le_0)))))))) (X12_readsFan_b153_ok hz hd h0 hk23 hr)
def X12_readsFan_b113 (e : mm_E) (k23 : Int32 → Int32 → mm_V → Option mm_V) (a0 : Nat) (i1 : Int32) (i2 : Int32) (i3 : Int32) (i4 : Int32) (m : mm_V) : Option mm_V := (X12_isGood e a0 m).bind fun r1 => if ¬ r1.1 = 0 then (if i4 = 0 then ((mm_gi e.1 r1.2 12 75 a0 18).bind fun x2 => X12_readsFan_b134 e k23 a0 i1 i2 i3 i4 x2 r1.2) else (X12_readsFan_b134 e k23 a0 i1 i2 i3 i4 (0 : Int32) r1.2)) else (some r1.2)
theorem X12_readsFan_b113_ok {K : mm_K} {nx : Option Nat} {e : mm_E} (hz : e.2.1 = K.2.2.2.2) {d : Nat} (hd : 3 ≤ d) {a0 : Nat} {i1 : Int32} {i2 : Int32} {i3 : Int32} {i4 : Int32} (h0 : e.1 a0 = some (12, 75)) {k23 : Int32 → Int32 → mm_V → Option mm_V} (hk23 : ∀ (w2 : Int32) (w3 : Int32) (m : mm_V) (r : mm_V), k23 w2 w3 m = some r → mm_G K MX12_readsFan d (mm_Fv e.1 nx r) 23 [some (.ref a0), some (.int i1), some (.int w2), some (.int w3), none, none, none, none] [] (e.1, m) nx 0 0) {m : mm_V} {r : mm_V} (hr : X12_readsFan_b113 e k23 a0 i1 i2 i3 i4 m = some r) : mm_G K MX12_readsFan d (mm_Fv e.1 nx r) 113 [some (.ref a0), some (.int i1), some (.int i2), some (.int i3), some (.int i4), none, none, none] [] (e.1, m) nx 0 0 := by
  obtain ⟨d, rfl⟩ : ∃ d', d = d' + 1 := ⟨d - 1, by omega⟩
  unfold X12_readsFan_b113 at hr
  refine ml_aload_n (pc := 113) dX12_readsFan_113 rfl mm_get_0 ?_
  refine mb_cVi (pc := 114) (As := []) (rest := []) dX12_readsFan_114 cw_X12_211 h0 hr (fun v hv => X12_isGood_ok hz (by omega) h0 hv) rfl (Nat.le_of_ble_eq_true rfl) (Nat.zero_le _) (Nat.zero_le _) (fun r1 hr => ?_)
  refine mb_if_ne (pc := 117) 121 dX12_readsFan_117 rfl hr (fun hr => ?_) (fun hr => ?_)
  · refine ml_iload (pc := 121) dX12_readsFan_121 (mm_get_s (mm_get_s (mm_get_s (mm_get_s mm_get_0)))) ?_
    refine mb_if_eq (pc := 123) 130 dX12_readsFan_123 rfl hr (fun hr => ?_) (fun hr => ?_)
    · refine ml_aload_n (pc := 130) dX12_readsFan_130 rfl mm_get_0 ?_
      refine mb_gi (pc := 131) dX12_readsFan_131 fl_X12_179 hr (fun x2 hr => ?_)
      exact mg_weak (mm_le_s (mm_le_s (mm_le_s (mm_le_s (mm_le_s (mm_le_n (mm_le_n (mm_le_n mm_le_0)))))))) (X12_readsFan_b134_ok hz hd h0 hk23 hr)
    · refine mg_iconst (pc := 126) dX12_readsFan_126 kc_0 ?_
      refine mg_goto (pc := 127) 134 dX12_readsFan_127 rfl ?_
      exact mg_weak (mm_le_s (mm_le_s (mm_le_s (mm_le_s (mm_le_s (mm_le_n (mm_le_n (mm_le_n mm_le_0)))))))) (X12_readsFan_b134_ok hz hd h0 hk23 hr)
  · exact mb_vret dX12_readsFan_120 rfl hr
def X12_readsFan_b108 (e : mm_E) (k23 : Int32 → Int32 → mm_V → Option mm_V) (a0 : Nat) (i1 : Int32) (i2 : Int32) (i3 : Int32) (i4 : Int32) (m : mm_V) : Option mm_V := (X12_wrong e a0 (2 : Int32) m).bind fun r1 => X12_readsFan_b113 e k23 a0 i1 i2 i3 i4  r1
theorem X12_readsFan_b108_ok {K : mm_K} {nx : Option Nat} {e : mm_E} (hz : e.2.1 = K.2.2.2.2) {d : Nat} (hd : 3 ≤ d) {a0 : Nat} {i1 : Int32} {i2 : Int32} {i3 : Int32} {i4 : Int32} (h0 : e.1 a0 = some (12, 75)) {k23 : Int32 → Int32 → mm_V → Option mm_V} (hk23 : ∀ (w2 : Int32) (w3 : Int32) (m : mm_V) (r : mm_V), k23 w2 w3 m = some r → mm_G K MX12_readsFan d (mm_Fv e.1 nx r) 23 [some (.ref a0), some (.int i1), some (.int w2), some (.int w3), none, none, none, none] [] (e.1, m) nx 0 0) {m : mm_V} {r : mm_V} (hr : X12_readsFan_b108 e k23 a0 i1 i2 i3 i4 m = some r) : mm_G K MX12_readsFan d (mm_Fv e.1 nx r) 108 [some (.ref a0), some (.int i1), some (.int i2), some (.int i3), some (.int i4), none, none, none] [] (e.1, m) nx 0 0 := by
  obtain ⟨d, rfl⟩ : ∃ d', d = d' + 1 := ⟨d - 1, by omega⟩
  unfold X12_readsFan_b108 at hr
  refine ml_aload_n (pc := 108) dX12_readsFan_108 rfl mm_get_0 ?_
  refine mg_iconst (pc := 109) dX12_readsFan_109 kc_2 ?_
  refine mb_cVv (pc := 110) (As := [.int (2 : Int32)]) (rest := []) dX12_readsFan_110 cw_X12_218 h0 hr (fun v hv => X12_wrong_ok hz (by omega) h0 hv) rfl (Nat.le_of_ble_eq_true rfl) (Nat.zero_le _) (Nat.zero_le _) (fun r1 hr => ?_)
  exact mg_weak (mm_le_s (mm_le_s (mm_le_s (mm_le_s (mm_le_s (mm_le_n (mm_le_n (mm_le_n mm_le_0)))))))) (X12_readsFan_b113_ok hz hd h0 hk23 hr)
def X12_readsFan_b68 (e : mm_E) (k23 : Int32 → Int32 → mm_V → Option mm_V) (a0 : Nat) (i1 : Int32) (i2 : Int32) (i4 : Int32) (t0 : Int32) (m : mm_V) : Option mm_V := if ¬ t0 = 0 then (if ¬ i4 = 0 then (X12_readsFan_b113 e k23 a0 i1 i2 t0 i4  m) else ((mm_gi e.1 m 12 75 a0 17).bind fun x1 => if (4 : Int32) < x1 then (X12_readsFan_b108 e k23 a0 i1 i2 t0 i4  m) else ((mm_gi e.1 m 12 75 a0 18).bind fun x2 => if x2 < (1 : Int32) then (X12_readsFan_b108 e k23 a0 i1 i2 t0 i4  m) else ((mm_gi e.1 m 12 75 a0 18).bind fun x3 => (mm_gi e.1 m 12 75 a0 22).bind fun x4 => if x3 ≤ x4 then (X12_readsFan_b113 e k23 a0 i1 i2 t0 i4  m) else (X12_readsFan_b108 e k23 a0 i1 i2 t0 i4  m))))) else (k23 i2 t0 m)
theorem X12_readsFan_b68_ok {K : mm_K} {nx : Option Nat} {e : mm_E} (hz : e.2.1 = K.2.2.2.2) {d : Nat} (hd : 3 ≤ d) {a0 : Nat} {i1 : Int32} {i2 : Int32} {i4 : Int32} {t0 : Int32} (h0 : e.1 a0 = some (12, 75)) {k23 : Int32 → Int32 → mm_V → Option mm_V} (hk23 : ∀ (w2 : Int32) (w3 : Int32) (m : mm_V) (r : mm_V), k23 w2 w3 m = some r → mm_G K MX12_readsFan d (mm_Fv e.1 nx r) 23 [some (.ref a0), some (.int i1), some (.int w2), some (.int w3), none, none, none, none] [] (e.1, m) nx 0 0) {m : mm_V} {r : mm_V} (hr : X12_readsFan_b68 e k23 a0 i1 i2 i4 t0 m = some r) : mm_G K MX12_readsFan d (mm_Fv e.1 nx r) 68 [some (.ref a0), some (.int i1), some (.int i2), none, some (.int i4), none, none, none] [.int t0] (e.1, m) nx 0 0 := by
  obtain ⟨d, rfl⟩ : ∃ d', d = d' + 1 := ⟨d - 1, by omega⟩
  unfold X12_readsFan_b68 at hr
  refine ml_istore_n (pc := 68) dX12_readsFan_68 rfl (Nat.le_of_ble_eq_true rfl) (mm_st1_s (mm_st1_s mm_st1_i)) ?_
  refine ml_iload_n (pc := 69) dX12_readsFan_69 rfl (mm_get_s (mm_get_s (mm_get_s mm_get_0))) ?_
  refine mb_if_ne (pc := 70) 76 dX12_readsFan_70 rfl hr (fun hr => ?_) (fun hr => ?_)
  · refine ml_iload (pc := 76) dX12_readsFan_76 (mm_get_s (mm_get_s (mm_get_s (mm_get_s mm_get_0)))) ?_
    refine mb_if_ne (pc := 78) 113 dX12_readsFan_78 rfl hr (fun hr => ?_) (fun hr => ?_)
    · exact mg_weak (mm_le_s (mm_le_s (mm_le_s (mm_le_s (mm_le_s (mm_le_n (mm_le_n (mm_le_n mm_le_0)))))))) (X12_readsFan_b113_ok hz hd h0 hk23 hr)
    · refine ml_aload_n (pc := 81) dX12_readsFan_81 rfl mm_get_0 ?_
      refine mb_gi (pc := 82) dX12_readsFan_82 fl_X12_195 hr (fun x1 hr => ?_)
      refine mg_iconst (pc := 85) dX12_readsFan_85 kc_4 ?_
      refine mb_icmp_gt (pc := 86) 108 dX12_readsFan_86 rfl hr (fun hr => ?_) (fun hr => ?_)
      · exact mg_weak (mm_le_s (mm_le_s (mm_le_s (mm_le_s (mm_le_s (mm_le_n (mm_le_n (mm_le_n mm_le_0)))))))) (X12_readsFan_b108_ok hz hd h0 hk23 hr)
      · refine ml_aload_n (pc := 89) dX12_readsFan_89 rfl mm_get_0 ?_
        refine mb_gi (pc := 90) dX12_readsFan_90 fl_X12_179 hr (fun x2 hr => ?_)
        refine mg_iconst (pc := 93) dX12_readsFan_93 kc_1 ?_
        refine mb_icmp_lt (pc := 94) 108 dX12_readsFan_94 rfl hr (fun hr => ?_) (fun hr => ?_)
        · exact mg_weak (mm_le_s (mm_le_s (mm_le_s (mm_le_s (mm_le_s (mm_le_n (mm_le_n (mm_le_n mm_le_0)))))))) (X12_readsFan_b108_ok hz hd h0 hk23 hr)
        · refine ml_aload_n (pc := 97) dX12_readsFan_97 rfl mm_get_0 ?_
          refine mb_gi (pc := 98) dX12_readsFan_98 fl_X12_179 hr (fun x3 hr => ?_)
          refine ml_aload_n (pc := 101) dX12_readsFan_101 rfl mm_get_0 ?_
          refine mb_gi (pc := 102) dX12_readsFan_102 fl_X12_282 hr (fun x4 hr => ?_)
          refine mb_icmp_le (pc := 105) 113 dX12_readsFan_105 rfl hr (fun hr => ?_) (fun hr => ?_)
          · exact mg_weak (mm_le_s (mm_le_s (mm_le_s (mm_le_s (mm_le_s (mm_le_n (mm_le_n (mm_le_n mm_le_0)))))))) (X12_readsFan_b113_ok hz hd h0 hk23 hr)
          · exact mg_weak (mm_le_s (mm_le_s (mm_le_s (mm_le_s (mm_le_s (mm_le_n (mm_le_n (mm_le_n mm_le_0)))))))) (X12_readsFan_b108_ok hz hd h0 hk23 hr)
  · refine mg_goto (pc := 73) 23 dX12_readsFan_73 rfl ?_
    exact mg_weak (mm_le_s (mm_le_s (mm_le_s (mm_le_s (mm_le_n (mm_le_n (mm_le_n (mm_le_n mm_le_0)))))))) (hk23 _ _ _ _ hr)
def X12_readsFan_b63 (e : mm_E) (k23 : Int32 → Int32 → mm_V → Option mm_V) (a0 : Nat) (i1 : Int32) (i2 : Int32) (i4 : Int32) (m : mm_V) : Option mm_V := X12_readsFan_b68 e k23 a0 i1 i2 i4 (1 : Int32) m
theorem X12_readsFan_b63_ok {K : mm_K} {nx : Option Nat} {e : mm_E} (hz : e.2.1 = K.2.2.2.2) {d : Nat} (hd : 3 ≤ d) {a0 : Nat} {i1 : Int32} {i2 : Int32} {i4 : Int32} (h0 : e.1 a0 = some (12, 75)) {k23 : Int32 → Int32 → mm_V → Option mm_V} (hk23 : ∀ (w2 : Int32) (w3 : Int32) (m : mm_V) (r : mm_V), k23 w2 w3 m = some r → mm_G K MX12_readsFan d (mm_Fv e.1 nx r) 23 [some (.ref a0), some (.int i1), some (.int w2), some (.int w3), none, none, none, none] [] (e.1, m) nx 0 0) {m : mm_V} {r : mm_V} (hr : X12_readsFan_b63 e k23 a0 i1 i2 i4 m = some r) : mm_G K MX12_readsFan d (mm_Fv e.1 nx r) 63 [some (.ref a0), some (.int i1), some (.int i2), none, some (.int i4), none, none, none] [] (e.1, m) nx 0 0 := by
  obtain ⟨d, rfl⟩ : ∃ d', d = d' + 1 := ⟨d - 1, by omega⟩
  unfold X12_readsFan_b63 at hr
  refine mg_iconst (pc := 63) dX12_readsFan_63 kc_1 ?_
  refine mg_goto (pc := 64) 68 dX12_readsFan_64 rfl ?_
  exact mg_weak (mm_le_s (mm_le_s (mm_le_s (mm_le_n (mm_le_s (mm_le_n (mm_le_n (mm_le_n mm_le_0)))))))) (X12_readsFan_b68_ok hz hd h0 hk23 hr)
def X12_readsFan_b48 (e : mm_E) (k23 : Int32 → Int32 → mm_V → Option mm_V) (a0 : Nat) (i1 : Int32) (i2 : Int32) (t0 : Int32) (m : mm_V) : Option mm_V := if ¬ t0 = 0 then (X12_readsFan_b63 e k23 a0 i1 i2 t0  m) else ((mm_gi e.1 m 12 75 a0 15).bind fun x1 => if ¬ x1 = (2 : Int32) then (X12_readsFan_b68 e k23 a0 i1 i2 t0 (0 : Int32) m) else (X12_readsFan_b63 e k23 a0 i1 i2 t0  m))
theorem X12_readsFan_b48_ok {K : mm_K} {nx : Option Nat} {e : mm_E} (hz : e.2.1 = K.2.2.2.2) {d : Nat} (hd : 3 ≤ d) {a0 : Nat} {i1 : Int32} {i2 : Int32} {t0 : Int32} (h0 : e.1 a0 = some (12, 75)) {k23 : Int32 → Int32 → mm_V → Option mm_V} (hk23 : ∀ (w2 : Int32) (w3 : Int32) (m : mm_V) (r : mm_V), k23 w2 w3 m = some r → mm_G K MX12_readsFan d (mm_Fv e.1 nx r) 23 [some (.ref a0), some (.int i1), some (.int w2), some (.int w3), none, none, none, none] [] (e.1, m) nx 0 0) {m : mm_V} {r : mm_V} (hr : X12_readsFan_b48 e k23 a0 i1 i2 t0 m = some r) : mm_G K MX12_readsFan d (mm_Fv e.1 nx r) 48 [some (.ref a0), some (.int i1), some (.int i2), none, none, none, none, none] [.int t0] (e.1, m) nx 0 0 := by
  obtain ⟨d, rfl⟩ : ∃ d', d = d' + 1 := ⟨d - 1, by omega⟩
  unfold X12_readsFan_b48 at hr
  refine ml_istore (pc := 48) dX12_readsFan_48 (Nat.le_of_ble_eq_true rfl) (mm_st1_s (mm_st1_s (mm_st1_s mm_st1_n))) ?_
  refine ml_iload (pc := 50) dX12_readsFan_50 (mm_get_s (mm_get_s (mm_get_s (mm_get_s mm_get_0)))) ?_
  refine mb_if_ne (pc := 52) 63 dX12_readsFan_52 rfl hr (fun hr => ?_) (fun hr => ?_)
  · exact mg_weak (mm_le_s (mm_le_s (mm_le_s (mm_le_n (mm_le_s (mm_le_n (mm_le_n (mm_le_n mm_le_0)))))))) (X12_readsFan_b63_ok hz hd h0 hk23 hr)
  · refine ml_aload_n (pc := 55) dX12_readsFan_55 rfl mm_get_0 ?_
    refine mb_gi (pc := 56) dX12_readsFan_56 fl_X12_185 hr (fun x1 hr => ?_)
    refine mg_iconst (pc := 59) dX12_readsFan_59 kc_2 ?_
    refine mb_icmp_ne (pc := 60) 67 dX12_readsFan_60 rfl hr (fun hr => ?_) (fun hr => ?_)
    · refine mg_iconst (pc := 67) dX12_readsFan_67 kc_0 ?_
      exact mg_weak (mm_le_s (mm_le_s (mm_le_s (mm_le_n (mm_le_s (mm_le_n (mm_le_n (mm_le_n mm_le_0)))))))) (X12_readsFan_b68_ok hz hd h0 hk23 hr)
    · exact mg_weak (mm_le_s (mm_le_s (mm_le_s (mm_le_n (mm_le_s (mm_le_n (mm_le_n (mm_le_n mm_le_0)))))))) (X12_readsFan_b63_ok hz hd h0 hk23 hr)
def X12_readsFan_L23 (e : mm_E) (a0 : Nat) (i1 : Int32) : Nat → Int32 → Int32 → mm_V → Option mm_V
  | 0, _, _, _ => none
  | n + 1, i2, i3, m => if i3 = 0 then (X12_readsFan_b271 e   m) else ((X12_isGood e a0 m).bind fun r1 => if r1.1 = 0 then (X12_readsFan_b271 e   r1.2) else ((X12_knownWord e a0 r1.2).bind fun r2 => if ¬ r2.1 = (13 : Int32) then (X12_readsFan_b48 e (X12_readsFan_L23 e a0 i1 n) a0 i1 i2 (0 : Int32) r2.2) else (X12_readsFan_b48 e (X12_readsFan_L23 e a0 i1 n) a0 i1 i2 (1 : Int32) r2.2)))
theorem X12_readsFan_L23_ok {K : mm_K} {nx : Option Nat} {e : mm_E} (hz : e.2.1 = K.2.2.2.2) {d : Nat} (hd : 3 ≤ d) {a0 : Nat} {i1 : Int32} (h0 : e.1 a0 = some (12, 75)) : ∀ (n : Nat) (i2 : Int32) (i3 : Int32) (m : mm_V) (r : mm_V), X12_readsFan_L23 e a0 i1 n i2 i3 m = some r → mm_G K MX12_readsFan d (mm_Fv e.1 nx r) 23 [some (.ref a0), some (.int i1), some (.int i2), some (.int i3), none, none, none, none] [] (e.1, m) nx 0 0 := by
  obtain ⟨d, rfl⟩ : ∃ d', d = d' + 1 := ⟨d - 1, by omega⟩
  intro n
  induction n with
  | zero => intro i2 i3 m r hr; unfold X12_readsFan_L23 at hr; cases hr
  | succ n ih =>
    intro i2 i3 m r hr
    unfold X12_readsFan_L23 at hr
    refine ml_iload_n (pc := 23) dX12_readsFan_23 rfl (mm_get_s (mm_get_s (mm_get_s mm_get_0))) ?_
    refine mb_if_eq (pc := 24) 271 dX12_readsFan_24 rfl hr (fun hr => ?_) (fun hr => ?_)
    · exact mg_weak (mm_le_n (mm_le_n (mm_le_n (mm_le_n (mm_le_n (mm_le_n (mm_le_n (mm_le_n mm_le_0)))))))) (X12_readsFan_b271_ok hz hd h0 hr)
    · refine ml_aload_n (pc := 27) dX12_readsFan_27 rfl mm_get_0 ?_
      refine mb_cVi (pc := 28) (As := []) (rest := []) dX12_readsFan_28 cw_X12_211 h0 hr (fun v hv => X12_isGood_ok hz (by omega) h0 hv) rfl (Nat.le_of_ble_eq_true rfl) (Nat.zero_le _) (Nat.zero_le _) (fun r1 hr => ?_)
      refine mb_if_eq (pc := 31) 271 dX12_readsFan_31 rfl hr (fun hr => ?_) (fun hr => ?_)
      · exact mg_weak (mm_le_n (mm_le_n (mm_le_n (mm_le_n (mm_le_n (mm_le_n (mm_le_n (mm_le_n mm_le_0)))))))) (X12_readsFan_b271_ok hz hd h0 hr)
      · refine ml_aload_n (pc := 34) dX12_readsFan_34 rfl mm_get_0 ?_
        refine mb_cVi (pc := 35) (As := []) (rest := []) dX12_readsFan_35 cw_X12_233 h0 hr (fun v hv => X12_knownWord_ok hz (by omega) h0 hv) rfl (Nat.le_of_ble_eq_true rfl) (Nat.zero_le _) (Nat.zero_le _) (fun r2 hr => ?_)
        refine mg_bipush (pc := 38) dX12_readsFan_38 kb_13 ?_
        refine mb_icmp_ne (pc := 40) 47 dX12_readsFan_40 rfl hr (fun hr => ?_) (fun hr => ?_)
        · refine mg_iconst (pc := 47) dX12_readsFan_47 kc_0 ?_
          exact mg_weak (mm_le_s (mm_le_s (mm_le_s (mm_le_n (mm_le_n (mm_le_n (mm_le_n (mm_le_n mm_le_0)))))))) (X12_readsFan_b48_ok hz hd h0 ih hr)
        · refine mg_iconst (pc := 43) dX12_readsFan_43 kc_1 ?_
          refine mg_goto (pc := 44) 48 dX12_readsFan_44 rfl ?_
          exact mg_weak (mm_le_s (mm_le_s (mm_le_s (mm_le_n (mm_le_n (mm_le_n (mm_le_n (mm_le_n mm_le_0)))))))) (X12_readsFan_b48_ok hz hd h0 ih hr)
def X12_readsFan (e : mm_E) (a0 : Nat) (m : mm_V) : Option mm_V := (X12_personHere e a0 (0 : Int32) m).bind fun r1 => (X12_isGood e a0 r1.2).bind fun r2 => if ¬ r2.1 = 0 then ((mm_pz e.1 r2.2 12 75 a0 29 (1 : Int32)).bind fun m3 => X12_readsFan_L23 e a0 r1.1 e.2.2 (0 : Int32) (1 : Int32) m3) else (some r2.2)
theorem X12_readsFan_ok {K : mm_K} {nx : Option Nat} {e : mm_E} (hz : e.2.1 = K.2.2.2.2) {d : Nat} (hd : 3 ≤ d) {a0 : Nat} (h0 : e.1 a0 = some (12, 75)) {m : mm_V} {r : mm_V} (hr : X12_readsFan e a0 m = some r) : mm_Cn K MX12_readsFan d (mm_Fv e.1 nx r) [.ref a0] (e.1, m) nx := by
  obtain ⟨d, rfl⟩ : ∃ d', d = d' + 1 := ⟨d - 1, by omega⟩
  refine mm_entry (by decide) (Nat.le_of_ble_eq_true rfl) rfl (fun hok => ?_)
  unfold X12_readsFan at hr
  refine mg_weak (L' := [some (.ref a0), none, none, none, none, none, none, none]) (mm_le_s (mm_le_e (mm_le_e (mm_le_e (mm_le_e (mm_le_e (mm_le_e (mm_le_e mm_le_0)))))))) ?_
  refine ml_aload_n (pc := 0) dX12_readsFan_0 rfl mm_get_0 ?_
  refine mg_iconst (pc := 1) dX12_readsFan_1 kc_0 ?_
  refine mb_cVi (pc := 2) (As := [.int (0 : Int32)]) (rest := []) dX12_readsFan_2 cw_X12_288 h0 hr (fun v hv => X12_personHere_ok hz (by omega) h0 hv) rfl (Nat.le_of_ble_eq_true rfl) (Nat.zero_le _) (Nat.zero_le _) (fun r1 hr => ?_)
  refine ml_istore_n (pc := 5) dX12_readsFan_5 rfl (Nat.le_of_ble_eq_true rfl) mm_st1_r ?_
  refine ml_aload_n (pc := 6) dX12_readsFan_6 rfl mm_get_0 ?_
  refine mb_cVi (pc := 7) (As := []) (rest := []) dX12_readsFan_7 cw_X12_211 h0 hr (fun v hv => X12_isGood_ok hz (by omega) h0 hv) rfl (Nat.le_of_ble_eq_true rfl) (Nat.zero_le _) (Nat.zero_le _) (fun r2 hr => ?_)
  refine mb_if_ne (pc := 10) 14 dX12_readsFan_10 rfl hr (fun hr => ?_) (fun hr => ?_)
  · refine ml_aload_n (pc := 14) dX12_readsFan_14 rfl mm_get_0 ?_
    refine mg_iconst (pc := 15) dX12_readsFan_15 kc_1 ?_
    refine mb_pz (pc := 16) dX12_readsFan_16 fp_X12_291 hr (fun m3 hr => ?_)
    refine mg_iconst (pc := 19) dX12_readsFan_19 kc_0 ?_
    refine ml_istore_n (pc := 20) dX12_readsFan_20 rfl (Nat.le_of_ble_eq_true rfl) (mm_st1_s mm_st1_i) ?_
    refine mg_iconst (pc := 21) dX12_readsFan_21 kc_1 ?_
    refine ml_istore_n (pc := 22) dX12_readsFan_22 rfl (Nat.le_of_ble_eq_true rfl) (mm_st1_s (mm_st1_s mm_st1_i)) ?_
    exact mg_weak (mm_le_s (mm_le_s (mm_le_s (mm_le_s (mm_le_n (mm_le_n (mm_le_n (mm_le_n mm_le_0)))))))) (X12_readsFan_L23_ok hz hd h0 _ _ _ _ _ hr)
  · exact mb_vret dX12_readsFan_13 rfl hr
theorem dX12_line_0 : decode cX12_line 0 = .ok (.aload_n 0, 1) := by decide +kernel
theorem dX12_line_1 : decode cX12_line 1 = .ok (.invokevirtual 233, 3) := by decide +kernel
theorem dX12_line_4 : decode cX12_line 4 = .ok (.istore_n 1, 1) := by decide +kernel
theorem dX12_line_5 : decode cX12_line 5 = .ok (.iload_n 1, 1) := by decide +kernel
theorem dX12_line_6 : decode cX12_line 6 = .ok (.bipush 6, 2) := by decide +kernel
theorem dX12_line_8 : decode cX12_line 8 = .ok (.if_icmp .eq 15, 3) := by decide +kernel
theorem dX12_line_11 : decode cX12_line 11 = .ok (.iload_n 1, 1) := by decide +kernel
theorem dX12_line_12 : decode cX12_line 12 = .ok (.bipush 7, 2) := by decide +kernel
theorem dX12_line_14 : decode cX12_line 14 = .ok (.if_icmp .eq 9, 3) := by decide +kernel
theorem dX12_line_17 : decode cX12_line 17 = .ok (.iload_n 1, 1) := by decide +kernel
theorem dX12_line_18 : decode cX12_line 18 = .ok (.bipush 8, 2) := by decide +kernel
theorem dX12_line_20 : decode cX12_line 20 = .ok (.if_icmp .ne 11, 3) := by decide +kernel
theorem dX12_line_23 : decode cX12_line 23 = .ok (.aload_n 0, 1) := by decide +kernel
theorem dX12_line_24 : decode cX12_line 24 = .ok (.iload_n 1, 1) := by decide +kernel
theorem dX12_line_25 : decode cX12_line 25 = .ok (.invokevirtual 294, 3) := by decide +kernel
theorem dX12_line_28 : decode cX12_line 28 = .ok (.goto 135, 3) := by decide +kernel
theorem dX12_line_31 : decode cX12_line 31 = .ok (.iload_n 1, 1) := by decide +kernel
theorem dX12_line_32 : decode cX12_line 32 = .ok (.bipush 9, 2) := by decide +kernel
theorem dX12_line_34 : decode cX12_line 34 = .ok (.if_icmp .ne 10, 3) := by decide +kernel
theorem dX12_line_37 : decode cX12_line 37 = .ok (.aload_n 0, 1) := by decide +kernel
theorem dX12_line_38 : decode cX12_line 38 = .ok (.invokevirtual 297, 3) := by decide +kernel
theorem dX12_line_41 : decode cX12_line 41 = .ok (.goto 122, 3) := by decide +kernel
theorem dX12_line_44 : decode cX12_line 44 = .ok (.iload_n 1, 1) := by decide +kernel
theorem dX12_line_45 : decode cX12_line 45 = .ok (.bipush 10, 2) := by decide +kernel
theorem dX12_line_47 : decode cX12_line 47 = .ok (.if_icmp .eq 9, 3) := by decide +kernel
theorem dX12_line_50 : decode cX12_line 50 = .ok (.iload_n 1, 1) := by decide +kernel
theorem dX12_line_51 : decode cX12_line 51 = .ok (.bipush 11, 2) := by decide +kernel
theorem dX12_line_53 : decode cX12_line 53 = .ok (.if_icmp .ne 58, 3) := by decide +kernel
theorem dX12_line_56 : decode cX12_line 56 = .ok (.aload_n 0, 1) := by decide +kernel
theorem dX12_line_57 : decode cX12_line 57 = .ok (.iload_n 1, 1) := by decide +kernel
theorem dX12_line_58 : decode cX12_line 58 = .ok (.bipush 10, 2) := by decide +kernel
theorem dX12_line_60 : decode cX12_line 60 = .ok (.if_icmp .ne 7, 3) := by decide +kernel
theorem dX12_line_63 : decode cX12_line 63 = .ok (.iconst 1, 1) := by decide +kernel
theorem dX12_line_64 : decode cX12_line 64 = .ok (.goto 4, 3) := by decide +kernel
theorem dX12_line_67 : decode cX12_line 67 = .ok (.iconst 2, 1) := by decide +kernel
theorem dX12_line_68 : decode cX12_line 68 = .ok (.invokevirtual 288, 3) := by decide +kernel
theorem dX12_line_71 : decode cX12_line 71 = .ok (.istore_n 2, 1) := by decide +kernel
theorem dX12_line_72 : decode cX12_line 72 = .ok (.aload_n 0, 1) := by decide +kernel
theorem dX12_line_73 : decode cX12_line 73 = .ok (.invokevirtual 211, 3) := by decide +kernel
theorem dX12_line_76 : decode cX12_line 76 = .ok (.ifCond .ne 4, 3) := by decide +kernel
theorem dX12_line_79 : decode cX12_line 79 = .ok (.return_, 1) := by decide +kernel
theorem dX12_line_80 : decode cX12_line 80 = .ok (.aload_n 0, 1) := by decide +kernel
theorem dX12_line_81 : decode cX12_line 81 = .ok (.getfield 35, 3) := by decide +kernel
theorem dX12_line_84 : decode cX12_line 84 = .ok (.iconst 2, 1) := by decide +kernel
theorem dX12_line_85 : decode cX12_line 85 = .ok (.iload_n 2, 1) := by decide +kernel
theorem dX12_line_86 : decode cX12_line 86 = .ok (.imul, 1) := by decide +kernel
theorem dX12_line_87 : decode cX12_line 87 = .ok (.iload_n 1, 1) := by decide +kernel
theorem dX12_line_88 : decode cX12_line 88 = .ok (.bipush 11, 2) := by decide +kernel
theorem dX12_line_90 : decode cX12_line 90 = .ok (.if_icmp .ne 7, 3) := by decide +kernel
theorem dX12_line_93 : decode cX12_line 93 = .ok (.iconst 1, 1) := by decide +kernel
theorem dX12_line_94 : decode cX12_line 94 = .ok (.goto 4, 3) := by decide +kernel
theorem dX12_line_97 : decode cX12_line 97 = .ok (.iconst 0, 1) := by decide +kernel
theorem dX12_line_98 : decode cX12_line 98 = .ok (.iadd, 1) := by decide +kernel
theorem dX12_line_99 : decode cX12_line 99 = .ok (.aload_n 0, 1) := by decide +kernel
theorem dX12_line_100 : decode cX12_line 100 = .ok (.getfield 139, 3) := by decide +kernel
theorem dX12_line_103 : decode cX12_line 103 = .ok (.iastore, 1) := by decide +kernel
theorem dX12_line_104 : decode cX12_line 104 = .ok (.aload_n 0, 1) := by decide +kernel
theorem dX12_line_105 : decode cX12_line 105 = .ok (.invokevirtual 300, 3) := by decide +kernel
theorem dX12_line_108 : decode cX12_line 108 = .ok (.goto 55, 3) := by decide +kernel
theorem dX12_line_111 : decode cX12_line 111 = .ok (.iload_n 1, 1) := by decide +kernel
theorem dX12_line_112 : decode cX12_line 112 = .ok (.bipush 12, 2) := by decide +kernel
theorem dX12_line_114 : decode cX12_line 114 = .ok (.if_icmp .ne 44, 3) := by decide +kernel
theorem dX12_line_117 : decode cX12_line 117 = .ok (.aload_n 0, 1) := by decide +kernel
theorem dX12_line_118 : decode cX12_line 118 = .ok (.iconst 3, 1) := by decide +kernel
theorem dX12_line_119 : decode cX12_line 119 = .ok (.invokevirtual 288, 3) := by decide +kernel
theorem dX12_line_122 : decode cX12_line 122 = .ok (.istore_n 2, 1) := by decide +kernel
theorem dX12_line_123 : decode cX12_line 123 = .ok (.iconst 0, 1) := by decide +kernel
theorem dX12_line_124 : decode cX12_line 124 = .ok (.istore_n 3, 1) := by decide +kernel
theorem dX12_line_125 : decode cX12_line 125 = .ok (.iload_n 3, 1) := by decide +kernel
theorem dX12_line_126 : decode cX12_line 126 = .ok (.bipush 6, 2) := by decide +kernel
theorem dX12_line_128 : decode cX12_line 128 = .ok (.if_icmp .ge 27, 3) := by decide +kernel
theorem dX12_line_131 : decode cX12_line 131 = .ok (.aload_n 0, 1) := by decide +kernel
theorem dX12_line_132 : decode cX12_line 132 = .ok (.getfield 38, 3) := by decide +kernel
theorem dX12_line_135 : decode cX12_line 135 = .ok (.bipush 6, 2) := by decide +kernel
theorem dX12_line_137 : decode cX12_line 137 = .ok (.iload_n 2, 1) := by decide +kernel
theorem dX12_line_138 : decode cX12_line 138 = .ok (.imul, 1) := by decide +kernel
theorem dX12_line_139 : decode cX12_line 139 = .ok (.iload_n 3, 1) := by decide +kernel
theorem dX12_line_140 : decode cX12_line 140 = .ok (.iadd, 1) := by decide +kernel
theorem dX12_line_141 : decode cX12_line 141 = .ok (.aload_n 0, 1) := by decide +kernel
theorem dX12_line_142 : decode cX12_line 142 = .ok (.iconst 0, 1) := by decide +kernel
theorem dX12_line_143 : decode cX12_line 143 = .ok (.bipush 99, 2) := by decide +kernel
theorem dX12_line_145 : decode cX12_line 145 = .ok (.invokevirtual 278, 3) := by decide +kernel
theorem dX12_line_148 : decode cX12_line 148 = .ok (.iastore, 1) := by decide +kernel
theorem dX12_line_149 : decode cX12_line 149 = .ok (.iinc 3 1, 3) := by decide +kernel
theorem dX12_line_152 : decode cX12_line 152 = .ok (.goto (-27), 3) := by decide +kernel
theorem dX12_line_155 : decode cX12_line 155 = .ok (.goto 8, 3) := by decide +kernel
theorem dX12_line_158 : decode cX12_line 158 = .ok (.aload_n 0, 1) := by decide +kernel
theorem dX12_line_159 : decode cX12_line 159 = .ok (.iconst 1, 1) := by decide +kernel
theorem dX12_line_160 : decode cX12_line 160 = .ok (.invokevirtual 218, 3) := by decide +kernel
theorem dX12_line_163 : decode cX12_line 163 = .ok (.aload_n 0, 1) := by decide +kernel
theorem dX12_line_164 : decode cX12_line 164 = .ok (.aload_n 0, 1) := by decide +kernel
theorem dX12_line_165 : decode cX12_line 165 = .ok (.bipush 59, 2) := by decide +kernel
theorem dX12_line_167 : decode cX12_line 167 = .ok (.invokevirtual 240, 3) := by decide +kernel
theorem dX12_line_170 : decode cX12_line 170 = .ok (.invokevirtual 303, 3) := by decide +kernel
theorem dX12_line_173 : decode cX12_line 173 = .ok (.return_, 1) := by decide +kernel
def X12_line_b163 (e : mm_E) (a0 : Nat) (m : mm_V) : Option mm_V := (X12_isSign e a0 (59 : Int32) m).bind fun r1 => (X12_need e a0 r1.1 r1.2).bind fun r2 => some r2
theorem X12_line_b163_ok {K : mm_K} {nx : Option Nat} {e : mm_E} (hz : e.2.1 = K.2.2.2.2) {d : Nat} (hd : 6 ≤ d) {a0 : Nat} (h0 : e.1 a0 = some (12, 75)) {m : mm_V} {r : mm_V} (hr : X12_line_b163 e a0 m = some r) : mm_G K MX12_line d (mm_Fv e.1 nx r) 163 [some (.ref a0), none, none, none] [] (e.1, m) nx 0 0 := by
  obtain ⟨d, rfl⟩ : ∃ d', d = d' + 1 := ⟨d - 1, by omega⟩
  unfold X12_line_b163 at hr
  refine ml_aload_n (pc := 163) dX12_line_163 rfl mm_get_0 ?_
  refine ml_aload_n (pc := 164) dX12_line_164 rfl mm_get_0 ?_
  refine mg_bipush (pc := 165) dX12_line_165 kb_59 ?_
  refine mb_cVi (pc := 167) (As := [.int (59 : Int32)]) (rest := [.ref a0]) dX12_line_167 cw_X12_240 h0 hr (fun v hv => X12_isSign_ok hz (by omega) h0 hv) rfl (Nat.le_of_ble_eq_true rfl) (Nat.zero_le _) (Nat.zero_le _) (fun r1 hr => ?_)
  refine mb_cVv (pc := 170) (As := [.int r1.1]) (rest := []) dX12_line_170 cw_X12_303 h0 hr (fun v hv => X12_need_ok hz (by omega) h0 hv) rfl (Nat.le_of_ble_eq_true rfl) (Nat.zero_le _) (Nat.zero_le _) (fun r2 hr => ?_)
  exact mb_vret dX12_line_173 rfl hr
def X12_line_L125 (e : mm_E) (a0 : Nat) (i2 : Int32) : Nat → Int32 → mm_V → Option mm_V
  | 0, _, _ => none
  | n + 1, i3, m => if (6 : Int32) ≤ i3 then (X12_line_b163 e a0  m) else ((mm_gr e.1 m 12 75 a0 32).bind fun c1 => (X12_number e a0 (0 : Int32) (99 : Int32) m).bind fun r2 => (mm_si e.1 r2.2 c1 (((6 : Int32) * i2) + i3) r2.1).bind fun m3 => X12_line_L125 e a0 i2 n (i3 + 1) m3)
theorem X12_line_L125_ok {K : mm_K} {nx : Option Nat} {e : mm_E} (hz : e.2.1 = K.2.2.2.2) {d : Nat} (hd : 6 ≤ d) {a0 : Nat} {i2 : Int32} (h0 : e.1 a0 = some (12, 75)) : ∀ (n : Nat) (i3 : Int32) (m : mm_V) (r : mm_V), X12_line_L125 e a0 i2 n i3 m = some r → mm_G K MX12_line d (mm_Fv e.1 nx r) 125 [some (.ref a0), none, some (.int i2), some (.int i3)] [] (e.1, m) nx 0 0 := by
  obtain ⟨d, rfl⟩ : ∃ d', d = d' + 1 := ⟨d - 1, by omega⟩
  intro n
  induction n with
  | zero => intro i3 m r hr; unfold X12_line_L125 at hr; cases hr
  | succ n ih =>
    intro i3 m r hr
    unfold X12_line_L125 at hr
    refine ml_iload_n (pc := 125) dX12_line_125 rfl (mm_get_s (mm_get_s (mm_get_s mm_get_0))) ?_
    refine mg_bipush (pc := 126) dX12_line_126 kb_6 ?_
    refine mb_icmp_ge (pc := 128) 155 dX12_line_128 rfl hr (fun hr => ?_) (fun hr => ?_)
    · refine mg_goto (pc := 155) 163 dX12_line_155 rfl ?_
      exact mg_weak (mm_le_s (mm_le_n (mm_le_n (mm_le_n mm_le_0)))) (X12_line_b163_ok hz hd h0 hr)
    · refine ml_aload_n (pc := 131) dX12_line_131 rfl mm_get_0 ?_
      refine mb_gr (pc := 132) dX12_line_132 fl_X12_38 hr (fun c1 hr => ?_)
      refine mg_bipush (pc := 135) dX12_line_135 kb_6 ?_
      refine ml_iload_n (pc := 137) dX12_line_137 rfl (mm_get_s (mm_get_s mm_get_0)) ?_
      refine mg_imul (pc := 138) dX12_line_138 ?_
      refine ml_iload_n (pc := 139) dX12_line_139 rfl (mm_get_s (mm_get_s (mm_get_s mm_get_0))) ?_
      refine mg_iadd (pc := 140) dX12_line_140 ?_
      refine ml_aload_n (pc := 141) dX12_line_141 rfl mm_get_0 ?_
      refine mg_iconst (pc := 142) dX12_line_142 kc_0 ?_
      refine mg_bipush (pc := 143) dX12_line_143 kb_99 ?_
      refine mb_cVi (pc := 145) (As := [.int (0 : Int32), .int (99 : Int32)]) (rest := [.int (((6 : Int32) * i2) + i3), .ref c1]) dX12_line_145 cw_X12_278 h0 hr (fun v hv => X12_number_ok hz (by omega) h0 hv) rfl (Nat.le_of_ble_eq_true rfl) (Nat.zero_le _) (Nat.zero_le _) (fun r2 hr => ?_)
      refine mb_si (pc := 148) dX12_line_148 hr (fun m3 hr => ?_)
      refine ml_iinc (pc := 149) dX12_line_149 (mm_get_s (mm_get_s (mm_get_s mm_get_0))) (congrArg (fun z => i3 + z) kc_1) (Nat.le_of_ble_eq_true rfl) (mm_st1_s (mm_st1_s mm_st1_i)) ?_
      refine mg_goto (pc := 152) 125 dX12_line_152 rfl ?_
      exact mg_weak (mm_le_s (mm_le_n (mm_le_s (mm_le_s mm_le_0)))) (ih _ _ _ hr)
def X12_line_b98 (e : mm_E) (a0 : Nat) (t0 : Nat) (t1 : Int32) (t2 : Int32) (m : mm_V) : Option mm_V := (mm_gi e.1 m 12 75 a0 25).bind fun x1 => (mm_si e.1 m t0 (t1 + t2) x1).bind fun m2 => (X12_expression e a0 m2).bind fun r3 => X12_line_b163 e a0  r3
theorem X12_line_b98_ok {K : mm_K} {nx : Option Nat} {e : mm_E} (hz : e.2.1 = K.2.2.2.2) {d : Nat} (hd : 6 ≤ d) {a0 : Nat} {t0 : Nat} {t1 : Int32} {t2 : Int32} (h0 : e.1 a0 = some (12, 75)) {m : mm_V} {r : mm_V} (hr : X12_line_b98 e a0 t0 t1 t2 m = some r) : mm_G K MX12_line d (mm_Fv e.1 nx r) 98 [some (.ref a0), none, none, none] [.int t2, .int t1, .ref t0] (e.1, m) nx 0 0 := by
  obtain ⟨d, rfl⟩ : ∃ d', d = d' + 1 := ⟨d - 1, by omega⟩
  unfold X12_line_b98 at hr
  refine mg_iadd (pc := 98) dX12_line_98 ?_
  refine ml_aload_n (pc := 99) dX12_line_99 rfl mm_get_0 ?_
  refine mb_gi (pc := 100) dX12_line_100 fl_X12_139 hr (fun x1 hr => ?_)
  refine mb_si (pc := 103) dX12_line_103 hr (fun m2 hr => ?_)
  refine ml_aload_n (pc := 104) dX12_line_104 rfl mm_get_0 ?_
  refine mb_cVv (pc := 105) (As := []) (rest := []) dX12_line_105 cw_X12_300 h0 hr (fun v hv => X12_expression_ok hz (by omega) h0 hv) rfl (Nat.le_of_ble_eq_true rfl) (Nat.zero_le _) (Nat.zero_le _) (fun r3 hr => ?_)
  refine mg_goto (pc := 108) 163 dX12_line_108 rfl ?_
  exact mg_weak (mm_le_s (mm_le_n (mm_le_n (mm_le_n mm_le_0)))) (X12_line_b163_ok hz hd h0 hr)
def X12_line_b68 (e : mm_E) (a0 : Nat) (i1 : Int32) (t0 : Nat) (t1 : Int32) (m : mm_V) : Option mm_V := if e.1 t0 = some (12, 75) then ((X12_personHere e t0 t1 m).bind fun r1 => (X12_isGood e a0 r1.2).bind fun r3 => if ¬ r3.1 = 0 then ((mm_gr e.1 r3.2 12 75 a0 31).bind fun c4 => if ¬ i1 = (11 : Int32) then (X12_line_b98 e a0 c4 ((2 : Int32) * r1.1) (0 : Int32) r3.2) else (X12_line_b98 e a0 c4 ((2 : Int32) * r1.1) (1 : Int32) r3.2)) else (some r3.2)) else none
theorem X12_line_b68_ok {K : mm_K} {nx : Option Nat} {e : mm_E} (hz : e.2.1 = K.2.2.2.2) {d : Nat} (hd : 6 ≤ d) {a0 : Nat} {i1 : Int32} {t0 : Nat} {t1 : Int32} (h0 : e.1 a0 = some (12, 75)) {m : mm_V} {r : mm_V} (hr : X12_line_b68 e a0 i1 t0 t1 m = some r) : mm_G K MX12_line d (mm_Fv e.1 nx r) 68 [some (.ref a0), some (.int i1), none, none] [.int t1, .ref t0] (e.1, m) nx 0 0 := by
  obtain ⟨d, rfl⟩ : ∃ d', d = d' + 1 := ⟨d - 1, by omega⟩
  unfold X12_line_b68 at hr
  refine mb_ck hr (fun hb2 hr => ?_)
  refine mb_cVi (pc := 68) (As := [.int t1]) (rest := []) dX12_line_68 cw_X12_288 hb2 hr (fun v hv => X12_personHere_ok hz (by omega) hb2 hv) rfl (Nat.le_of_ble_eq_true rfl) (Nat.zero_le _) (Nat.zero_le _) (fun r1 hr => ?_)
  refine ml_istore_n (pc := 71) dX12_line_71 rfl (Nat.le_of_ble_eq_true rfl) (mm_st1_s mm_st1_i) ?_
  refine ml_aload_n (pc := 72) dX12_line_72 rfl mm_get_0 ?_
  refine mb_cVi (pc := 73) (As := []) (rest := []) dX12_line_73 cw_X12_211 h0 hr (fun v hv => X12_isGood_ok hz (by omega) h0 hv) rfl (Nat.le_of_ble_eq_true rfl) (Nat.zero_le _) (Nat.zero_le _) (fun r3 hr => ?_)
  refine mb_if_ne (pc := 76) 80 dX12_line_76 rfl hr (fun hr => ?_) (fun hr => ?_)
  · refine ml_aload_n (pc := 80) dX12_line_80 rfl mm_get_0 ?_
    refine mb_gr (pc := 81) dX12_line_81 fl_X12_35 hr (fun c4 hr => ?_)
    refine mg_iconst (pc := 84) dX12_line_84 kc_2 ?_
    refine ml_iload_n (pc := 85) dX12_line_85 rfl (mm_get_s (mm_get_s mm_get_0)) ?_
    refine mg_imul (pc := 86) dX12_line_86 ?_
    refine ml_iload_n (pc := 87) dX12_line_87 rfl (mm_get_s mm_get_0) ?_
    refine mg_bipush (pc := 88) dX12_line_88 kb_11 ?_
    refine mb_icmp_ne (pc := 90) 97 dX12_line_90 rfl hr (fun hr => ?_) (fun hr => ?_)
    · refine mg_iconst (pc := 97) dX12_line_97 kc_0 ?_
      exact mg_weak (mm_le_s (mm_le_n (mm_le_n (mm_le_n mm_le_0)))) (X12_line_b98_ok hz hd h0 hr)
    · refine mg_iconst (pc := 93) dX12_line_93 kc_1 ?_
      refine mg_goto (pc := 94) 98 dX12_line_94 rfl ?_
      exact mg_weak (mm_le_s (mm_le_n (mm_le_n (mm_le_n mm_le_0)))) (X12_line_b98_ok hz hd h0 hr)
  · exact mb_vret dX12_line_79 rfl hr
def X12_line_b56 (e : mm_E) (a0 : Nat) (i1 : Int32) (m : mm_V) : Option mm_V := if ¬ i1 = (10 : Int32) then (X12_line_b68 e a0 i1 a0 (2 : Int32) m) else (X12_line_b68 e a0 i1 a0 (1 : Int32) m)
theorem X12_line_b56_ok {K : mm_K} {nx : Option Nat} {e : mm_E} (hz : e.2.1 = K.2.2.2.2) {d : Nat} (hd : 6 ≤ d) {a0 : Nat} {i1 : Int32} (h0 : e.1 a0 = some (12, 75)) {m : mm_V} {r : mm_V} (hr : X12_line_b56 e a0 i1 m = some r) : mm_G K MX12_line d (mm_Fv e.1 nx r) 56 [some (.ref a0), some (.int i1), none, none] [] (e.1, m) nx 0 0 := by
  obtain ⟨d, rfl⟩ : ∃ d', d = d' + 1 := ⟨d - 1, by omega⟩
  unfold X12_line_b56 at hr
  refine ml_aload_n (pc := 56) dX12_line_56 rfl mm_get_0 ?_
  refine ml_iload_n (pc := 57) dX12_line_57 rfl (mm_get_s mm_get_0) ?_
  refine mg_bipush (pc := 58) dX12_line_58 kb_10 ?_
  refine mb_icmp_ne (pc := 60) 67 dX12_line_60 rfl hr (fun hr => ?_) (fun hr => ?_)
  · refine mg_iconst (pc := 67) dX12_line_67 kc_2 ?_
    exact mg_weak (mm_le_s (mm_le_s (mm_le_n (mm_le_n mm_le_0)))) (X12_line_b68_ok hz hd h0 hr)
  · refine mg_iconst (pc := 63) dX12_line_63 kc_1 ?_
    refine mg_goto (pc := 64) 68 dX12_line_64 rfl ?_
    exact mg_weak (mm_le_s (mm_le_s (mm_le_n (mm_le_n mm_le_0)))) (X12_line_b68_ok hz hd h0 hr)
def X12_line_b23 (e : mm_E) (a0 : Nat) (i1 : Int32) (m : mm_V) : Option mm_V := (X12_once e a0 i1 m).bind fun r1 => X12_line_b163 e a0  r1
theorem X12_line_b23_ok {K : mm_K} {nx : Option Nat} {e : mm_E} (hz : e.2.1 = K.2.2.2.2) {d : Nat} (hd : 6 ≤ d) {a0 : Nat} {i1 : Int32} (h0 : e.1 a0 = some (12, 75)) {m : mm_V} {r : mm_V} (hr : X12_line_b23 e a0 i1 m = some r) : mm_G K MX12_line d (mm_Fv e.1 nx r) 23 [some (.ref a0), some (.int i1), none, none] [] (e.1, m) nx 0 0 := by
  obtain ⟨d, rfl⟩ : ∃ d', d = d' + 1 := ⟨d - 1, by omega⟩
  unfold X12_line_b23 at hr
  refine ml_aload_n (pc := 23) dX12_line_23 rfl mm_get_0 ?_
  refine ml_iload_n (pc := 24) dX12_line_24 rfl (mm_get_s mm_get_0) ?_
  refine mb_cVv (pc := 25) (As := [.int i1]) (rest := []) dX12_line_25 cw_X12_294 h0 hr (fun v hv => X12_once_ok hz (by omega) h0 hv) rfl (Nat.le_of_ble_eq_true rfl) (Nat.zero_le _) (Nat.zero_le _) (fun r1 hr => ?_)
  refine mg_goto (pc := 28) 163 dX12_line_28 rfl ?_
  exact mg_weak (mm_le_s (mm_le_n (mm_le_n (mm_le_n mm_le_0)))) (X12_line_b163_ok hz hd h0 hr)
def X12_line (e : mm_E) (a0 : Nat) (m : mm_V) : Option mm_V := (X12_knownWord e a0 m).bind fun r1 => if r1.1 = (6 : Int32) then (X12_line_b23 e a0 r1.1  r1.2) else (if r1.1 = (7 : Int32) then (X12_line_b23 e a0 r1.1  r1.2) else (if ¬ r1.1 = (8 : Int32) then (if ¬ r1.1 = (9 : Int32) then (if r1.1 = (10 : Int32) then (X12_line_b56 e a0 r1.1  r1.2) else (if ¬ r1.1 = (11 : Int32) then (if ¬ r1.1 = (12 : Int32) then ((X12_wrong e a0 (1 : Int32) r1.2).bind fun r2 => X12_line_b163 e a0  r2) else ((X12_personHere e a0 (3 : Int32) r1.2).bind fun r3 => X12_line_L125 e a0 r3.1 e.2.2 (0 : Int32) r3.2)) else (X12_line_b56 e a0 r1.1  r1.2))) else ((X12_readsFan e a0 r1.2).bind fun r4 => X12_line_b163 e a0  r4)) else (X12_line_b23 e a0 r1.1  r1.2)))
theorem X12_line_ok {K : mm_K} {nx : Option Nat} {e : mm_E} (hz : e.2.1 = K.2.2.2.2) {d : Nat} (hd : 6 ≤ d) {a0 : Nat} (h0 : e.1 a0 = some (12, 75)) {m : mm_V} {r : mm_V} (hr : X12_line e a0 m = some r) : mm_Cn K MX12_line d (mm_Fv e.1 nx r) [.ref a0] (e.1, m) nx := by
  obtain ⟨d, rfl⟩ : ∃ d', d = d' + 1 := ⟨d - 1, by omega⟩
  refine mm_entry (by decide) (Nat.le_of_ble_eq_true rfl) rfl (fun hok => ?_)
  unfold X12_line at hr
  refine mg_weak (L' := [some (.ref a0), none, none, none]) (mm_le_s (mm_le_e (mm_le_e (mm_le_e mm_le_0)))) ?_
  refine ml_aload_n (pc := 0) dX12_line_0 rfl mm_get_0 ?_
  refine mb_cVi (pc := 1) (As := []) (rest := []) dX12_line_1 cw_X12_233 h0 hr (fun v hv => X12_knownWord_ok hz (by omega) h0 hv) rfl (Nat.le_of_ble_eq_true rfl) (Nat.zero_le _) (Nat.zero_le _) (fun r1 hr => ?_)
  refine ml_istore_n (pc := 4) dX12_line_4 rfl (Nat.le_of_ble_eq_true rfl) mm_st1_r ?_
  refine ml_iload_n (pc := 5) dX12_line_5 rfl (mm_get_s mm_get_0) ?_
  refine mg_bipush (pc := 6) dX12_line_6 kb_6 ?_
  refine mb_icmp_eq (pc := 8) 23 dX12_line_8 rfl hr (fun hr => ?_) (fun hr => ?_)
  · exact mg_weak (mm_le_s (mm_le_s (mm_le_n (mm_le_n mm_le_0)))) (X12_line_b23_ok hz hd h0 hr)
  · refine ml_iload_n (pc := 11) dX12_line_11 rfl (mm_get_s mm_get_0) ?_
    refine mg_bipush (pc := 12) dX12_line_12 kb_7 ?_
    refine mb_icmp_eq (pc := 14) 23 dX12_line_14 rfl hr (fun hr => ?_) (fun hr => ?_)
    · exact mg_weak (mm_le_s (mm_le_s (mm_le_n (mm_le_n mm_le_0)))) (X12_line_b23_ok hz hd h0 hr)
    · refine ml_iload_n (pc := 17) dX12_line_17 rfl (mm_get_s mm_get_0) ?_
      refine mg_bipush (pc := 18) dX12_line_18 kb_8 ?_
      refine mb_icmp_ne (pc := 20) 31 dX12_line_20 rfl hr (fun hr => ?_) (fun hr => ?_)
      · refine ml_iload_n (pc := 31) dX12_line_31 rfl (mm_get_s mm_get_0) ?_
        refine mg_bipush (pc := 32) dX12_line_32 kb_9 ?_
        refine mb_icmp_ne (pc := 34) 44 dX12_line_34 rfl hr (fun hr => ?_) (fun hr => ?_)
        · refine ml_iload_n (pc := 44) dX12_line_44 rfl (mm_get_s mm_get_0) ?_
          refine mg_bipush (pc := 45) dX12_line_45 kb_10 ?_
          refine mb_icmp_eq (pc := 47) 56 dX12_line_47 rfl hr (fun hr => ?_) (fun hr => ?_)
          · exact mg_weak (mm_le_s (mm_le_s (mm_le_n (mm_le_n mm_le_0)))) (X12_line_b56_ok hz hd h0 hr)
          · refine ml_iload_n (pc := 50) dX12_line_50 rfl (mm_get_s mm_get_0) ?_
            refine mg_bipush (pc := 51) dX12_line_51 kb_11 ?_
            refine mb_icmp_ne (pc := 53) 111 dX12_line_53 rfl hr (fun hr => ?_) (fun hr => ?_)
            · refine ml_iload_n (pc := 111) dX12_line_111 rfl (mm_get_s mm_get_0) ?_
              refine mg_bipush (pc := 112) dX12_line_112 kb_12 ?_
              refine mb_icmp_ne (pc := 114) 158 dX12_line_114 rfl hr (fun hr => ?_) (fun hr => ?_)
              · refine ml_aload_n (pc := 158) dX12_line_158 rfl mm_get_0 ?_
                refine mg_iconst (pc := 159) dX12_line_159 kc_1 ?_
                refine mb_cVv (pc := 160) (As := [.int (1 : Int32)]) (rest := []) dX12_line_160 cw_X12_218 h0 hr (fun v hv => X12_wrong_ok hz (by omega) h0 hv) rfl (Nat.le_of_ble_eq_true rfl) (Nat.zero_le _) (Nat.zero_le _) (fun r2 hr => ?_)
                exact mg_weak (mm_le_s (mm_le_n (mm_le_n (mm_le_n mm_le_0)))) (X12_line_b163_ok hz hd h0 hr)
              · refine ml_aload_n (pc := 117) dX12_line_117 rfl mm_get_0 ?_
                refine mg_iconst (pc := 118) dX12_line_118 kc_3 ?_
                refine mb_cVi (pc := 119) (As := [.int (3 : Int32)]) (rest := []) dX12_line_119 cw_X12_288 h0 hr (fun v hv => X12_personHere_ok hz (by omega) h0 hv) rfl (Nat.le_of_ble_eq_true rfl) (Nat.zero_le _) (Nat.zero_le _) (fun r3 hr => ?_)
                refine ml_istore_n (pc := 122) dX12_line_122 rfl (Nat.le_of_ble_eq_true rfl) (mm_st1_s mm_st1_i) ?_
                refine mg_iconst (pc := 123) dX12_line_123 kc_0 ?_
                refine ml_istore_n (pc := 124) dX12_line_124 rfl (Nat.le_of_ble_eq_true rfl) (mm_st1_s (mm_st1_s mm_st1_i)) ?_
                exact mg_weak (mm_le_s (mm_le_n (mm_le_s (mm_le_s mm_le_0)))) (X12_line_L125_ok hz hd h0 _ _ _ _ hr)
            · exact mg_weak (mm_le_s (mm_le_s (mm_le_n (mm_le_n mm_le_0)))) (X12_line_b56_ok hz hd h0 hr)
        · refine ml_aload_n (pc := 37) dX12_line_37 rfl mm_get_0 ?_
          refine mb_cVv (pc := 38) (As := []) (rest := []) dX12_line_38 cw_X12_297 h0 hr (fun v hv => X12_readsFan_ok hz (by omega) h0 hv) rfl (Nat.le_of_ble_eq_true rfl) (Nat.zero_le _) (Nat.zero_le _) (fun r4 hr => ?_)
          refine mg_goto (pc := 41) 163 dX12_line_41 rfl ?_
          exact mg_weak (mm_le_s (mm_le_n (mm_le_n (mm_le_n mm_le_0)))) (X12_line_b163_ok hz hd h0 hr)
      · exact mg_weak (mm_le_s (mm_le_s (mm_le_n (mm_le_n mm_le_0)))) (X12_line_b23_ok hz hd h0 hr)
