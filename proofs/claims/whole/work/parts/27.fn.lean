theorem tw_1446 : Cond.fieldLink "SootQueenModel" 72 "SootQueenModel" "sits" "[I" ∈ lw_tbl := List.mem_append_right _ (List.mem_of_getElem? (i := 1446) (by decide +kernel))
theorem fl_X12_72 : mm_FL RX12 72 12 44 75 := ⟨(RX12, TX12, 75), rfl, rfl, by decide, by decide, Or.inl tw_1446⟩
theorem tw_1791 : Cond.methodLink "SootQueenModel" 387 ⟨"SootQueenModel", "reckons", "(I[IIII)I"⟩ ∈ lw_tbl := List.mem_append_right _ (List.mem_of_getElem? (i := 1791) (by decide +kernel))
theorem tw_1794 : Cond.code ⟨"SootQueenModel", "reckons", "(I[IIII)I"⟩ prog_14_method_58_code 9 (some .int) ∈ lw_tbl := List.mem_append_right _ (List.mem_of_getElem? (i := 1794) (by decide +kernel))
theorem tw_1793 : Cond.instanceMethod ⟨"SootQueenModel", "reckons", "(I[IIII)I"⟩ ∈ lw_tbl := List.mem_append_right _ (List.mem_of_getElem? (i := 1793) (by decide +kernel))
theorem sw_88 : Cond.selects "SootQueenModel" ⟨"SootQueenModel", "reckons", "(I[IIII)I"⟩ ⟨"SootQueenModel", "reckons", "(I[IIII)I"⟩ ∈ lw_tbl := List.mem_append_left _ (List.mem_of_getElem? (i := 88) (by decide +kernel))
theorem cw_X12_387 : mm_CV RX12 387 MX12_reckons 12 5 := ⟨⟨Or.inl tw_1791, tw_1794, tw_14, ⟨by decide, by decide⟩, by decide +kernel, by decide⟩, tw_1793, by decide, (RX12, TX12, 75), rfl, sw_88⟩
theorem tw_1802 : Cond.methodLink "SootQueenModel" 390 ⟨"SootQueenModel", "mod", "(II)I"⟩ ∈ lw_tbl := List.mem_append_right _ (List.mem_of_getElem? (i := 1802) (by decide +kernel))
theorem tw_1804 : Cond.code ⟨"SootQueenModel", "mod", "(II)I"⟩ prog_14_method_59_code 3 (some .int) ∈ lw_tbl := List.mem_append_right _ (List.mem_of_getElem? (i := 1804) (by decide +kernel))
theorem tw_1803 : Cond.static ⟨"SootQueenModel", "mod", "(II)I"⟩ ∈ lw_tbl := List.mem_append_right _ (List.mem_of_getElem? (i := 1803) (by decide +kernel))
theorem cw_X12_390 : mm_CS RX12 390 MX12_mod 2 := ⟨⟨Or.inl tw_1802, tw_1804, tw_14, ⟨by decide, by decide⟩, by decide +kernel, by decide⟩, tw_1803⟩
theorem tw_1783 : Cond.methodLink "SootQueenModel" 393 ⟨"SootQueenModel", "isWhat", "(II)Z"⟩ ∈ lw_tbl := List.mem_append_right _ (List.mem_of_getElem? (i := 1783) (by decide +kernel))
theorem tw_1786 : Cond.code ⟨"SootQueenModel", "isWhat", "(II)Z"⟩ prog_14_method_54_code 3 (some .boolean) ∈ lw_tbl := List.mem_append_right _ (List.mem_of_getElem? (i := 1786) (by decide +kernel))
theorem tw_1785 : Cond.instanceMethod ⟨"SootQueenModel", "isWhat", "(II)Z"⟩ ∈ lw_tbl := List.mem_append_right _ (List.mem_of_getElem? (i := 1785) (by decide +kernel))
theorem sw_86 : Cond.selects "SootQueenModel" ⟨"SootQueenModel", "isWhat", "(II)Z"⟩ ⟨"SootQueenModel", "isWhat", "(II)Z"⟩ ∈ lw_tbl := List.mem_append_left _ (List.mem_of_getElem? (i := 86) (by decide +kernel))
theorem cw_X12_393 : mm_CV RX12 393 MX12_isWhat 12 2 := ⟨⟨Or.inl tw_1783, tw_1786, tw_14, ⟨by decide, by decide⟩, by decide +kernel, by decide⟩, tw_1785, by decide, (RX12, TX12, 75), rfl, sw_86⟩
theorem tw_1787 : Cond.methodLink "SootQueenModel" 397 ⟨"SootQueenModel", "drawsAt", "([III)I"⟩ ∈ lw_tbl := List.mem_append_right _ (List.mem_of_getElem? (i := 1787) (by decide +kernel))
theorem tw_1790 : Cond.code ⟨"SootQueenModel", "drawsAt", "([III)I"⟩ prog_14_method_60_code 6 (some .int) ∈ lw_tbl := List.mem_append_right _ (List.mem_of_getElem? (i := 1790) (by decide +kernel))
theorem tw_1789 : Cond.instanceMethod ⟨"SootQueenModel", "drawsAt", "([III)I"⟩ ∈ lw_tbl := List.mem_append_right _ (List.mem_of_getElem? (i := 1789) (by decide +kernel))
theorem sw_87 : Cond.selects "SootQueenModel" ⟨"SootQueenModel", "drawsAt", "([III)I"⟩ ⟨"SootQueenModel", "drawsAt", "([III)I"⟩ ∈ lw_tbl := List.mem_append_left _ (List.mem_of_getElem? (i := 87) (by decide +kernel))
theorem cw_X12_397 : mm_CV RX12 397 MX12_drawsAt 12 3 := ⟨⟨Or.inl tw_1787, tw_1790, tw_14, ⟨by decide, by decide⟩, by decide +kernel, by decide⟩, tw_1789, by decide, (RX12, TX12, 75), rfl, sw_87⟩
theorem tw_1449 : Cond.fieldLink "SootQueenModel" 403 "SootQueenModel" "isLaid" "Z" ∈ lw_tbl := List.mem_append_right _ (List.mem_of_getElem? (i := 1449) (by decide +kernel))
theorem fl_X12_403 : mm_FL RX12 403 12 47 75 := ⟨(RX12, TX12, 75), rfl, rfl, by decide, by decide, Or.inl tw_1449⟩
theorem fp_X12_403 : mm_FP RX12 403 12 47 75 .boolean := ⟨fl_X12_403, (RX12, TX12, 75), rfl, rfl, by decide +kernel⟩
theorem tw_1447 : Cond.fieldLink "SootQueenModel" 400 "SootQueenModel" "got" "I" ∈ lw_tbl := List.mem_append_right _ (List.mem_of_getElem? (i := 1447) (by decide +kernel))
theorem fl_X12_400 : mm_FL RX12 400 12 45 75 := ⟨(RX12, TX12, 75), rfl, rfl, by decide, by decide, Or.inl tw_1447⟩
theorem tw_1817 : Cond.methodLink "SootQueenModel" 409 ⟨"SootQueenModel", "holdsAt", "([III)I"⟩ ∈ lw_tbl := List.mem_append_right _ (List.mem_of_getElem? (i := 1817) (by decide +kernel))
theorem tw_1820 : Cond.code ⟨"SootQueenModel", "holdsAt", "([III)I"⟩ prog_14_method_61_code 6 (some .int) ∈ lw_tbl := List.mem_append_right _ (List.mem_of_getElem? (i := 1820) (by decide +kernel))
theorem tw_1819 : Cond.instanceMethod ⟨"SootQueenModel", "holdsAt", "([III)I"⟩ ∈ lw_tbl := List.mem_append_right _ (List.mem_of_getElem? (i := 1819) (by decide +kernel))
theorem sw_92 : Cond.selects "SootQueenModel" ⟨"SootQueenModel", "holdsAt", "([III)I"⟩ ⟨"SootQueenModel", "holdsAt", "([III)I"⟩ ∈ lw_tbl := List.mem_append_left _ (List.mem_of_getElem? (i := 92) (by decide +kernel))
theorem cw_X12_409 : mm_CV RX12 409 MX12_holdsAt 12 3 := ⟨⟨Or.inl tw_1817, tw_1820, tw_14, ⟨by decide, by decide⟩, by decide +kernel, by decide⟩, tw_1819, by decide, (RX12, TX12, 75), rfl, sw_92⟩
theorem tw_1448 : Cond.fieldLink "SootQueenModel" 406 "SootQueenModel" "gotAt" "I" ∈ lw_tbl := List.mem_append_right _ (List.mem_of_getElem? (i := 1448) (by decide +kernel))
theorem fl_X12_406 : mm_FL RX12 406 12 46 75 := ⟨(RX12, TX12, 75), rfl, rfl, by decide, by decide, Or.inl tw_1448⟩
theorem fp_X12_406 : mm_FP RX12 406 12 46 75 .int := ⟨fl_X12_406, (RX12, TX12, 75), rfl, rfl, by decide +kernel⟩
theorem fp_X12_400 : mm_FP RX12 400 12 45 75 .int := ⟨fl_X12_400, (RX12, TX12, 75), rfl, rfl, by decide +kernel⟩
theorem tw_1813 : Cond.methodLink "SootQueenModel" 412 ⟨"SootQueenModel", "drawsOf", "([IIIZ)V"⟩ ∈ lw_tbl := List.mem_append_right _ (List.mem_of_getElem? (i := 1813) (by decide +kernel))
theorem tw_1816 : Cond.code ⟨"SootQueenModel", "drawsOf", "([IIIZ)V"⟩ prog_14_method_63_code 6 none ∈ lw_tbl := List.mem_append_right _ (List.mem_of_getElem? (i := 1816) (by decide +kernel))
theorem tw_1815 : Cond.instanceMethod ⟨"SootQueenModel", "drawsOf", "([IIIZ)V"⟩ ∈ lw_tbl := List.mem_append_right _ (List.mem_of_getElem? (i := 1815) (by decide +kernel))
theorem sw_91 : Cond.selects "SootQueenModel" ⟨"SootQueenModel", "drawsOf", "([IIIZ)V"⟩ ⟨"SootQueenModel", "drawsOf", "([IIIZ)V"⟩ ∈ lw_tbl := List.mem_append_left _ (List.mem_of_getElem? (i := 91) (by decide +kernel))
theorem cw_X12_412 : mm_CV RX12 412 MX12_drawsOf 12 4 := ⟨⟨Or.inl tw_1813, tw_1816, tw_14, ⟨by decide, by decide⟩, by decide +kernel, by decide⟩, tw_1815, by decide, (RX12, TX12, 75), rfl, sw_91⟩
theorem tw_1451 : Cond.fieldLink "SootQueenModel" 75 "SootQueenModel" "draw" "[I" ∈ lw_tbl := List.mem_append_right _ (List.mem_of_getElem? (i := 1451) (by decide +kernel))
theorem fl_X12_75 : mm_FL RX12 75 12 49 75 := ⟨(RX12, TX12, 75), rfl, rfl, by decide, by decide, Or.inl tw_1451⟩
theorem ks_540 : (Int16.ofInt (540)).toInt32 = (540 : Int32) := by decide
theorem tw_1809 : Cond.methodLink "SootQueenModel" 416 ⟨"SootQueenModel", "drawsNow", "(I)V"⟩ ∈ lw_tbl := List.mem_append_right _ (List.mem_of_getElem? (i := 1809) (by decide +kernel))
theorem tw_1812 : Cond.code ⟨"SootQueenModel", "drawsNow", "(I)V"⟩ prog_14_method_66_code 5 none ∈ lw_tbl := List.mem_append_right _ (List.mem_of_getElem? (i := 1812) (by decide +kernel))
theorem tw_1811 : Cond.instanceMethod ⟨"SootQueenModel", "drawsNow", "(I)V"⟩ ∈ lw_tbl := List.mem_append_right _ (List.mem_of_getElem? (i := 1811) (by decide +kernel))
theorem sw_90 : Cond.selects "SootQueenModel" ⟨"SootQueenModel", "drawsNow", "(I)V"⟩ ⟨"SootQueenModel", "drawsNow", "(I)V"⟩ ∈ lw_tbl := List.mem_append_left _ (List.mem_of_getElem? (i := 90) (by decide +kernel))
theorem cw_X12_416 : mm_CV RX12 416 MX12_drawsNow 12 1 := ⟨⟨Or.inl tw_1809, tw_1812, tw_14, ⟨by decide, by decide⟩, by decide +kernel, by decide⟩, tw_1811, by decide, (RX12, TX12, 75), rfl, sw_90⟩
theorem tw_1829 : Cond.methodLink "SootQueenModel" 419 ⟨"SootQueenModel", "did", "(II)I"⟩ ∈ lw_tbl := List.mem_append_right _ (List.mem_of_getElem? (i := 1829) (by decide +kernel))
theorem tw_1832 : Cond.code ⟨"SootQueenModel", "did", "(II)I"⟩ prog_14_method_65_code 3 (some .int) ∈ lw_tbl := List.mem_append_right _ (List.mem_of_getElem? (i := 1832) (by decide +kernel))
theorem tw_1831 : Cond.instanceMethod ⟨"SootQueenModel", "did", "(II)I"⟩ ∈ lw_tbl := List.mem_append_right _ (List.mem_of_getElem? (i := 1831) (by decide +kernel))
theorem sw_93 : Cond.selects "SootQueenModel" ⟨"SootQueenModel", "did", "(II)I"⟩ ⟨"SootQueenModel", "did", "(II)I"⟩ ∈ lw_tbl := List.mem_append_left _ (List.mem_of_getElem? (i := 93) (by decide +kernel))
theorem cw_X12_419 : mm_CV RX12 419 MX12_did 12 2 := ⟨⟨Or.inl tw_1829, tw_1832, tw_14, ⟨by decide, by decide⟩, by decide +kernel, by decide⟩, tw_1831, by decide, (RX12, TX12, 75), rfl, sw_93⟩
theorem tw_1455 : Cond.fieldLink "SootQueenModel" 87 "SootQueenModel" "outAt" "[I" ∈ lw_tbl := List.mem_append_right _ (List.mem_of_getElem? (i := 1455) (by decide +kernel))
theorem fl_X12_87 : mm_FL RX12 87 12 53 75 := ⟨(RX12, TX12, 75), rfl, rfl, by decide, by decide, Or.inl tw_1455⟩
theorem tw_1456 : Cond.fieldLink "SootQueenModel" 422 "SootQueenModel" "many0" "I" ∈ lw_tbl := List.mem_append_right _ (List.mem_of_getElem? (i := 1456) (by decide +kernel))
theorem fl_X12_422 : mm_FL RX12 422 12 54 75 := ⟨(RX12, TX12, 75), rfl, rfl, by decide, by decide, Or.inl tw_1456⟩
theorem tw_1453 : Cond.fieldLink "SootQueenModel" 81 "SootQueenModel" "stretch" "[I" ∈ lw_tbl := List.mem_append_right _ (List.mem_of_getElem? (i := 1453) (by decide +kernel))
theorem fl_X12_81 : mm_FL RX12 81 12 51 75 := ⟨(RX12, TX12, 75), rfl, rfl, by decide, by decide, Or.inl tw_1453⟩
theorem tw_1454 : Cond.fieldLink "SootQueenModel" 84 "SootQueenModel" "going" "[I" ∈ lw_tbl := List.mem_append_right _ (List.mem_of_getElem? (i := 1454) (by decide +kernel))
theorem fl_X12_84 : mm_FL RX12 84 12 52 75 := ⟨(RX12, TX12, 75), rfl, rfl, by decide, by decide, Or.inl tw_1454⟩
theorem tw_1452 : Cond.fieldLink "SootQueenModel" 78 "SootQueenModel" "hasHer" "[I" ∈ lw_tbl := List.mem_append_right _ (List.mem_of_getElem? (i := 1452) (by decide +kernel))
theorem fl_X12_78 : mm_FL RX12 78 12 50 75 := ⟨(RX12, TX12, 75), rfl, rfl, by decide, by decide, Or.inl tw_1452⟩
theorem tw_1845 : Cond.methodLink "SootQueenModel" 425 ⟨"SootQueenModel", "drawsByRule", "([I)V"⟩ ∈ lw_tbl := List.mem_append_right _ (List.mem_of_getElem? (i := 1845) (by decide +kernel))
theorem tw_1848 : Cond.code ⟨"SootQueenModel", "drawsByRule", "([I)V"⟩ prog_14_method_64_code 3 none ∈ lw_tbl := List.mem_append_right _ (List.mem_of_getElem? (i := 1848) (by decide +kernel))
theorem tw_1847 : Cond.instanceMethod ⟨"SootQueenModel", "drawsByRule", "([I)V"⟩ ∈ lw_tbl := List.mem_append_right _ (List.mem_of_getElem? (i := 1847) (by decide +kernel))
theorem sw_96 : Cond.selects "SootQueenModel" ⟨"SootQueenModel", "drawsByRule", "([I)V"⟩ ⟨"SootQueenModel", "drawsByRule", "([I)V"⟩ ∈ lw_tbl := List.mem_append_left _ (List.mem_of_getElem? (i := 96) (by decide +kernel))
theorem cw_X12_425 : mm_CV RX12 425 MX12_drawsByRule 12 1 := ⟨⟨Or.inl tw_1845, tw_1848, tw_14, ⟨by decide, by decide⟩, by decide +kernel, by decide⟩, tw_1847, by decide, (RX12, TX12, 75), rfl, sw_96⟩
theorem fp_X12_422 : mm_FP RX12 422 12 54 75 .int := ⟨fl_X12_422, (RX12, TX12, 75), rfl, rfl, by decide +kernel⟩
theorem tw_1442 : Cond.fieldLink "SootQueenModel" 63 "SootQueenModel" "played" "[I" ∈ lw_tbl := List.mem_append_right _ (List.mem_of_getElem? (i := 1442) (by decide +kernel))
theorem fl_X12_63 : mm_FL RX12 63 12 40 75 := ⟨(RX12, TX12, 75), rfl, rfl, by decide, by decide, Or.inl tw_1442⟩
theorem tw_1841 : Cond.methodLink "SootQueenModel" 428 ⟨"SootQueenModel", "plays", "([I)V"⟩ ∈ lw_tbl := List.mem_append_right _ (List.mem_of_getElem? (i := 1841) (by decide +kernel))
theorem tw_1844 : Cond.code ⟨"SootQueenModel", "plays", "([I)V"⟩ prog_14_method_70_code 4 none ∈ lw_tbl := List.mem_append_right _ (List.mem_of_getElem? (i := 1844) (by decide +kernel))
theorem tw_1843 : Cond.instanceMethod ⟨"SootQueenModel", "plays", "([I)V"⟩ ∈ lw_tbl := List.mem_append_right _ (List.mem_of_getElem? (i := 1843) (by decide +kernel))
theorem sw_95 : Cond.selects "SootQueenModel" ⟨"SootQueenModel", "plays", "([I)V"⟩ ⟨"SootQueenModel", "plays", "([I)V"⟩ ∈ lw_tbl := List.mem_append_left _ (List.mem_of_getElem? (i := 95) (by decide +kernel))
theorem cw_X12_428 : mm_CV RX12 428 MX12_plays 12 1 := ⟨⟨Or.inl tw_1841, tw_1844, tw_14, ⟨by decide, by decide⟩, by decide +kernel, by decide⟩, tw_1843, by decide, (RX12, TX12, 75), rfl, sw_95⟩
theorem tw_1837 : Cond.methodLink "SootQueenModel" 431 ⟨"SootQueenModel", "playsOn", "()V"⟩ ∈ lw_tbl := List.mem_append_right _ (List.mem_of_getElem? (i := 1837) (by decide +kernel))
theorem tw_1840 : Cond.code ⟨"SootQueenModel", "playsOn", "()V"⟩ prog_14_method_71_code 1 none ∈ lw_tbl := List.mem_append_right _ (List.mem_of_getElem? (i := 1840) (by decide +kernel))
theorem tw_1839 : Cond.instanceMethod ⟨"SootQueenModel", "playsOn", "()V"⟩ ∈ lw_tbl := List.mem_append_right _ (List.mem_of_getElem? (i := 1839) (by decide +kernel))
theorem sw_94 : Cond.selects "SootQueenModel" ⟨"SootQueenModel", "playsOn", "()V"⟩ ⟨"SootQueenModel", "playsOn", "()V"⟩ ∈ lw_tbl := List.mem_append_left _ (List.mem_of_getElem? (i := 94) (by decide +kernel))
theorem cw_X12_431 : mm_CV RX12 431 MX12_playsOn 12 0 := ⟨⟨Or.inl tw_1837, tw_1840, tw_14, ⟨by decide, by decide⟩, by decide +kernel, by decide⟩, tw_1839, by decide, (RX12, TX12, 75), rfl, sw_94⟩
theorem tw_1849 : Cond.methodLink "SootQueenModel" 434 ⟨"SootQueenModel", "loser", "([I)I"⟩ ∈ lw_tbl := List.mem_append_right _ (List.mem_of_getElem? (i := 1849) (by decide +kernel))
theorem tw_1852 : Cond.code ⟨"SootQueenModel", "loser", "([I)I"⟩ prog_14_method_72_code 2 (some .int) ∈ lw_tbl := List.mem_append_right _ (List.mem_of_getElem? (i := 1852) (by decide +kernel))
theorem tw_1851 : Cond.instanceMethod ⟨"SootQueenModel", "loser", "([I)I"⟩ ∈ lw_tbl := List.mem_append_right _ (List.mem_of_getElem? (i := 1851) (by decide +kernel))
theorem sw_97 : Cond.selects "SootQueenModel" ⟨"SootQueenModel", "loser", "([I)I"⟩ ⟨"SootQueenModel", "loser", "([I)I"⟩ ∈ lw_tbl := List.mem_append_left _ (List.mem_of_getElem? (i := 97) (by decide +kernel))
theorem cw_X12_434 : mm_CV RX12 434 MX12_loser 12 1 := ⟨⟨Or.inl tw_1849, tw_1852, tw_14, ⟨by decide, by decide⟩, by decide +kernel, by decide⟩, tw_1851, by decide, (RX12, TX12, 75), rfl, sw_97⟩
theorem dX12_mod_0 : decode cX12_mod 0 = .ok (.iload_n 0, 1) := by decide +kernel
theorem dX12_mod_1 : decode cX12_mod 1 = .ok (.iload_n 1, 1) := by decide +kernel
theorem dX12_mod_2 : decode cX12_mod 2 = .ok (.irem, 1) := by decide +kernel
theorem dX12_mod_3 : decode cX12_mod 3 = .ok (.istore_n 2, 1) := by decide +kernel
theorem dX12_mod_4 : decode cX12_mod 4 = .ok (.iload_n 2, 1) := by decide +kernel
theorem dX12_mod_5 : decode cX12_mod 5 = .ok (.ifCond .ge 9, 3) := by decide +kernel
theorem dX12_mod_8 : decode cX12_mod 8 = .ok (.iload_n 2, 1) := by decide +kernel
theorem dX12_mod_9 : decode cX12_mod 9 = .ok (.iload_n 1, 1) := by decide +kernel
theorem dX12_mod_10 : decode cX12_mod 10 = .ok (.iadd, 1) := by decide +kernel
theorem dX12_mod_11 : decode cX12_mod 11 = .ok (.goto 4, 3) := by decide +kernel
theorem dX12_mod_14 : decode cX12_mod 14 = .ok (.iload_n 2, 1) := by decide +kernel
theorem dX12_mod_15 : decode cX12_mod 15 = .ok (.ireturn, 1) := by decide +kernel
def X12_mod_b15 (e : mm_E) (t0 : Int32) (m : mm_V) : Option (Int32 × mm_V) := some (t0, m)
theorem X12_mod_b15_ok {K : mm_K} {nx : Option Nat} {e : mm_E} (hz : e.2.1 = K.2.2.2.2) {d : Nat} (hd : 0 ≤ d) {t0 : Int32} {m : mm_V} {r : (Int32 × mm_V)} (hr : X12_mod_b15 e t0 m = some r) : mm_G K MX12_mod d (mm_Fi e.1 nx r) 15 [none, none, none] [.int t0] (e.1, m) nx 0 0 := by
  unfold X12_mod_b15 at hr
  exact mb_iret dX12_mod_15 rfl hr
def X12_mod (e : mm_E) (i0 : Int32) (i1 : Int32) (m : mm_V) : Option (Int32 × mm_V) := if i1 = 0 then none else if 0 ≤ (i0 - i0 / i1 * i1) then (X12_mod_b15 e  (i0 - i0 / i1 * i1) m) else (X12_mod_b15 e  ((i0 - i0 / i1 * i1) + i1) m)
theorem X12_mod_ok {K : mm_K} {nx : Option Nat} {e : mm_E} (hz : e.2.1 = K.2.2.2.2) {d : Nat} (hd : 0 ≤ d) {i0 : Int32} {i1 : Int32} {m : mm_V} {r : (Int32 × mm_V)} (hr : X12_mod e i0 i1 m = some r) : mm_Cn K MX12_mod d (mm_Fi e.1 nx r) [.int i0, .int i1] (e.1, m) nx := by
  refine mm_entry (by decide) (Nat.le_of_ble_eq_true rfl) rfl (fun hok => ?_)
  unfold X12_mod at hr
  refine mg_weak (L' := [some (.int i0), some (.int i1), none]) (mm_le_s (mm_le_s (mm_le_e mm_le_0))) ?_
  refine ml_iload_n (pc := 0) dX12_mod_0 rfl mm_get_0 ?_
  refine ml_iload_n (pc := 1) dX12_mod_1 rfl (mm_get_s mm_get_0) ?_
  refine mb_irem (pc := 2) dX12_mod_2 hr (fun hr => ?_)
  refine ml_istore_n (pc := 3) dX12_mod_3 rfl (Nat.le_of_ble_eq_true rfl) (mm_st1_s mm_st1_i) ?_
  refine ml_iload_n (pc := 4) dX12_mod_4 rfl (mm_get_s (mm_get_s mm_get_0)) ?_
  refine mb_if_ge (pc := 5) 14 dX12_mod_5 rfl hr (fun hr => ?_) (fun hr => ?_)
  · refine ml_iload_n (pc := 14) dX12_mod_14 rfl (mm_get_s (mm_get_s mm_get_0)) ?_
    exact mg_weak (mm_le_n (mm_le_n (mm_le_n mm_le_0))) (X12_mod_b15_ok hz hd hr)
  · refine ml_iload_n (pc := 8) dX12_mod_8 rfl (mm_get_s (mm_get_s mm_get_0)) ?_
    refine ml_iload_n (pc := 9) dX12_mod_9 rfl (mm_get_s mm_get_0) ?_
    refine mg_iadd (pc := 10) dX12_mod_10 ?_
    refine mg_goto (pc := 11) 15 dX12_mod_11 rfl ?_
    exact mg_weak (mm_le_n (mm_le_n (mm_le_n mm_le_0))) (X12_mod_b15_ok hz hd hr)
theorem dX12_drawsAt_0 : decode cX12_drawsAt 0 = .ok (.aload_n 1, 1) := by decide +kernel
theorem dX12_drawsAt_1 : decode cX12_drawsAt 1 = .ok (.iload_n 3, 1) := by decide +kernel
theorem dX12_drawsAt_2 : decode cX12_drawsAt 2 = .ok (.invokestatic 327, 3) := by decide +kernel
theorem dX12_drawsAt_5 : decode cX12_drawsAt 5 = .ok (.istore 4, 2) := by decide +kernel
theorem dX12_drawsAt_7 : decode cX12_drawsAt 7 = .ok (.aload_n 0, 1) := by decide +kernel
theorem dX12_drawsAt_8 : decode cX12_drawsAt 8 = .ok (.getfield 16, 3) := by decide +kernel
theorem dX12_drawsAt_11 : decode cX12_drawsAt 11 = .ok (.iconst 2, 1) := by decide +kernel
theorem dX12_drawsAt_12 : decode cX12_drawsAt 12 = .ok (.aload_n 0, 1) := by decide +kernel
theorem dX12_drawsAt_13 : decode cX12_drawsAt 13 = .ok (.getfield 72, 3) := by decide +kernel
theorem dX12_drawsAt_16 : decode cX12_drawsAt 16 = .ok (.iload_n 2, 1) := by decide +kernel
theorem dX12_drawsAt_17 : decode cX12_drawsAt 17 = .ok (.iaload, 1) := by decide +kernel
theorem dX12_drawsAt_18 : decode cX12_drawsAt 18 = .ok (.imul, 1) := by decide +kernel
theorem dX12_drawsAt_19 : decode cX12_drawsAt 19 = .ok (.iaload, 1) := by decide +kernel
theorem dX12_drawsAt_20 : decode cX12_drawsAt 20 = .ok (.istore 5, 2) := by decide +kernel
theorem dX12_drawsAt_22 : decode cX12_drawsAt 22 = .ok (.iload 5, 2) := by decide +kernel
theorem dX12_drawsAt_24 : decode cX12_drawsAt 24 = .ok (.ifCond .ne 10, 3) := by decide +kernel
theorem dX12_drawsAt_27 : decode cX12_drawsAt 27 = .ok (.iload 4, 2) := by decide +kernel
theorem dX12_drawsAt_29 : decode cX12_drawsAt 29 = .ok (.iconst 2, 1) := by decide +kernel
theorem dX12_drawsAt_30 : decode cX12_drawsAt 30 = .ok (.idiv, 1) := by decide +kernel
theorem dX12_drawsAt_31 : decode cX12_drawsAt 31 = .ok (.goto 19, 3) := by decide +kernel
theorem dX12_drawsAt_34 : decode cX12_drawsAt 34 = .ok (.aload_n 0, 1) := by decide +kernel
theorem dX12_drawsAt_35 : decode cX12_drawsAt 35 = .ok (.iload 5, 2) := by decide +kernel
theorem dX12_drawsAt_37 : decode cX12_drawsAt 37 = .ok (.aload_n 1, 1) := by decide +kernel
theorem dX12_drawsAt_38 : decode cX12_drawsAt 38 = .ok (.iload_n 2, 1) := by decide +kernel
theorem dX12_drawsAt_39 : decode cX12_drawsAt 39 = .ok (.iload 4, 2) := by decide +kernel
theorem dX12_drawsAt_41 : decode cX12_drawsAt 41 = .ok (.iconst 0, 1) := by decide +kernel
theorem dX12_drawsAt_42 : decode cX12_drawsAt 42 = .ok (.invokevirtual 387, 3) := by decide +kernel
theorem dX12_drawsAt_45 : decode cX12_drawsAt 45 = .ok (.iload 4, 2) := by decide +kernel
theorem dX12_drawsAt_47 : decode cX12_drawsAt 47 = .ok (.invokestatic 390, 3) := by decide +kernel
theorem dX12_drawsAt_50 : decode cX12_drawsAt 50 = .ok (.ireturn, 1) := by decide +kernel
def X12_drawsAt_b50 (e : mm_E) (t0 : Int32) (m : mm_V) : Option (Int32 × mm_V) := some (t0, m)
theorem X12_drawsAt_b50_ok {K : mm_K} {nx : Option Nat} {e : mm_E} (hz : e.2.1 = K.2.2.2.2) {d : Nat} (hd : 3 ≤ d) {t0 : Int32} {a0 : Nat} (h0 : e.1 a0 = some (12, 75)) {m : mm_V} {r : (Int32 × mm_V)} (hr : X12_drawsAt_b50 e t0 m = some r) : mm_G K MX12_drawsAt d (mm_Fi e.1 nx r) 50 [none, none, none, none, none, none] [.int t0] (e.1, m) nx 0 0 := by
  obtain ⟨d, rfl⟩ : ∃ d', d = d' + 1 := ⟨d - 1, by omega⟩
  unfold X12_drawsAt_b50 at hr
  exact mb_iret dX12_drawsAt_50 rfl hr
def X12_drawsAt (e : mm_E) (a0 : Nat) (a1 : Nat) (i2 : Int32) (i3 : Int32) (m : mm_V) : Option (Int32 × mm_V) := (X12_size e a1 i3 m).bind fun r1 => (mm_gr e.1 r1.2 12 75 a0 5).bind fun c2 => (mm_gr e.1 r1.2 12 75 a0 44).bind fun c3 => (mm_ai e.1 r1.2 20 c3 i2).bind fun x4 => (mm_ai e.1 r1.2 20 c2 ((2 : Int32) * x4)).bind fun x5 => if ¬ x5 = 0 then ((X12_reckons e a0 x5 a1 i2 r1.1 (0 : Int32) r1.2).bind fun r6 => (X12_mod e r6.1 r1.1 r6.2).bind fun r7 => X12_drawsAt_b50 e  r7.1 r7.2) else (X12_drawsAt_b50 e  (r1.1 / (2 : Int32)) r1.2)
theorem X12_drawsAt_ok {K : mm_K} {nx : Option Nat} {e : mm_E} (hz : e.2.1 = K.2.2.2.2) {d : Nat} (hd : 3 ≤ d) {a0 : Nat} {a1 : Nat} {i2 : Int32} {i3 : Int32} (h0 : e.1 a0 = some (12, 75)) {m : mm_V} {r : (Int32 × mm_V)} (hr : X12_drawsAt e a0 a1 i2 i3 m = some r) : mm_Cn K MX12_drawsAt d (mm_Fi e.1 nx r) [.ref a0, .ref a1, .int i2, .int i3] (e.1, m) nx := by
  obtain ⟨d, rfl⟩ : ∃ d', d = d' + 1 := ⟨d - 1, by omega⟩
  refine mm_entry (by decide) (Nat.le_of_ble_eq_true rfl) rfl (fun hok => ?_)
  unfold X12_drawsAt at hr
  refine mg_weak (L' := [some (.ref a0), some (.ref a1), some (.int i2), some (.int i3), none, none]) (mm_le_s (mm_le_s (mm_le_s (mm_le_s (mm_le_e (mm_le_e mm_le_0)))))) ?_
  refine ml_aload_n (pc := 0) dX12_drawsAt_0 rfl (mm_get_s mm_get_0) ?_
  refine ml_iload_n (pc := 1) dX12_drawsAt_1 rfl (mm_get_s (mm_get_s (mm_get_s mm_get_0))) ?_
  refine mb_cSi (pc := 2) (As := [.ref a1, .int i3]) (rest := []) dX12_drawsAt_2 cw_X12_327  hr (fun v hv => X12_size_ok hz (by omega)  hv) rfl (Nat.le_of_ble_eq_true rfl) (Nat.zero_le _) (Nat.zero_le _) (fun r1 hr => ?_)
  refine ml_istore (pc := 5) dX12_drawsAt_5 (Nat.le_of_ble_eq_true rfl) (mm_st1_s (mm_st1_s (mm_st1_s mm_st1_i))) ?_
  refine ml_aload_n (pc := 7) dX12_drawsAt_7 rfl mm_get_0 ?_
  refine mb_gr (pc := 8) dX12_drawsAt_8 fl_X12_16 hr (fun c2 hr => ?_)
  refine mg_iconst (pc := 11) dX12_drawsAt_11 kc_2 ?_
  refine ml_aload_n (pc := 12) dX12_drawsAt_12 rfl mm_get_0 ?_
  refine mb_gr (pc := 13) dX12_drawsAt_13 fl_X12_72 hr (fun c3 hr => ?_)
  refine ml_iload_n (pc := 16) dX12_drawsAt_16 rfl (mm_get_s (mm_get_s mm_get_0)) ?_
  refine mb_ai (pc := 17) dX12_drawsAt_17 hr (fun x4 hr => ?_)
  refine mg_imul (pc := 18) dX12_drawsAt_18 ?_
  refine mb_ai (pc := 19) dX12_drawsAt_19 hr (fun x5 hr => ?_)
  refine ml_istore (pc := 20) dX12_drawsAt_20 (Nat.le_of_ble_eq_true rfl) (mm_st1_s (mm_st1_s (mm_st1_s (mm_st1_s mm_st1_i)))) ?_
  refine ml_iload (pc := 22) dX12_drawsAt_22 (mm_get_s (mm_get_s (mm_get_s (mm_get_s (mm_get_s mm_get_0))))) ?_
  refine mb_if_ne (pc := 24) 34 dX12_drawsAt_24 rfl hr (fun hr => ?_) (fun hr => ?_)
  · refine ml_aload_n (pc := 34) dX12_drawsAt_34 rfl mm_get_0 ?_
    refine ml_iload (pc := 35) dX12_drawsAt_35 (mm_get_s (mm_get_s (mm_get_s (mm_get_s (mm_get_s mm_get_0))))) ?_
    refine ml_aload_n (pc := 37) dX12_drawsAt_37 rfl (mm_get_s mm_get_0) ?_
    refine ml_iload_n (pc := 38) dX12_drawsAt_38 rfl (mm_get_s (mm_get_s mm_get_0)) ?_
    refine ml_iload (pc := 39) dX12_drawsAt_39 (mm_get_s (mm_get_s (mm_get_s (mm_get_s mm_get_0)))) ?_
    refine mg_iconst (pc := 41) dX12_drawsAt_41 kc_0 ?_
    refine mb_cVi (pc := 42) (As := [.int x5, .ref a1, .int i2, .int r1.1, .int (0 : Int32)]) (rest := []) dX12_drawsAt_42 cw_X12_387 h0 hr (fun v hv => X12_reckons_ok hz (by omega) h0 hv) rfl (Nat.le_of_ble_eq_true rfl) (Nat.zero_le _) (Nat.zero_le _) (fun r6 hr => ?_)
    refine ml_iload (pc := 45) dX12_drawsAt_45 (mm_get_s (mm_get_s (mm_get_s (mm_get_s mm_get_0)))) ?_
    refine mb_cSi (pc := 47) (As := [.int r6.1, .int r1.1]) (rest := []) dX12_drawsAt_47 cw_X12_390  hr (fun v hv => X12_mod_ok hz (by omega)  hv) rfl (Nat.le_of_ble_eq_true rfl) (Nat.zero_le _) (Nat.zero_le _) (fun r7 hr => ?_)
    exact mg_weak (mm_le_n (mm_le_n (mm_le_n (mm_le_n (mm_le_n (mm_le_n mm_le_0)))))) (X12_drawsAt_b50_ok hz hd h0 hr)
  · refine ml_iload (pc := 27) dX12_drawsAt_27 (mm_get_s (mm_get_s (mm_get_s (mm_get_s mm_get_0)))) ?_
    refine mg_iconst (pc := 29) dX12_drawsAt_29 kc_2 ?_
    refine mg_idiv (pc := 30) dX12_drawsAt_30 (by decide) ?_
    refine mg_goto (pc := 31) 50 dX12_drawsAt_31 rfl ?_
    exact mg_weak (mm_le_n (mm_le_n (mm_le_n (mm_le_n (mm_le_n (mm_le_n mm_le_0)))))) (X12_drawsAt_b50_ok hz hd h0 hr)
theorem dX12_holdsAt_0 : decode cX12_holdsAt 0 = .ok (.aload_n 1, 1) := by decide +kernel
theorem dX12_holdsAt_1 : decode cX12_holdsAt 1 = .ok (.iload_n 2, 1) := by decide +kernel
theorem dX12_holdsAt_2 : decode cX12_holdsAt 2 = .ok (.invokestatic 327, 3) := by decide +kernel
theorem dX12_holdsAt_5 : decode cX12_holdsAt 5 = .ok (.istore 4, 2) := by decide +kernel
theorem dX12_holdsAt_7 : decode cX12_holdsAt 7 = .ok (.aload_n 0, 1) := by decide +kernel
theorem dX12_holdsAt_8 : decode cX12_holdsAt 8 = .ok (.getfield 16, 3) := by decide +kernel
theorem dX12_holdsAt_11 : decode cX12_holdsAt 11 = .ok (.iconst 2, 1) := by decide +kernel
theorem dX12_holdsAt_12 : decode cX12_holdsAt 12 = .ok (.aload_n 0, 1) := by decide +kernel
theorem dX12_holdsAt_13 : decode cX12_holdsAt 13 = .ok (.getfield 72, 3) := by decide +kernel
theorem dX12_holdsAt_16 : decode cX12_holdsAt 16 = .ok (.iload_n 2, 1) := by decide +kernel
theorem dX12_holdsAt_17 : decode cX12_holdsAt 17 = .ok (.iaload, 1) := by decide +kernel
theorem dX12_holdsAt_18 : decode cX12_holdsAt 18 = .ok (.imul, 1) := by decide +kernel
theorem dX12_holdsAt_19 : decode cX12_holdsAt 19 = .ok (.iconst 1, 1) := by decide +kernel
theorem dX12_holdsAt_20 : decode cX12_holdsAt 20 = .ok (.iadd, 1) := by decide +kernel
theorem dX12_holdsAt_21 : decode cX12_holdsAt 21 = .ok (.iaload, 1) := by decide +kernel
theorem dX12_holdsAt_22 : decode cX12_holdsAt 22 = .ok (.istore 5, 2) := by decide +kernel
theorem dX12_holdsAt_24 : decode cX12_holdsAt 24 = .ok (.iload 5, 2) := by decide +kernel
theorem dX12_holdsAt_26 : decode cX12_holdsAt 26 = .ok (.ifCond .ne 8, 3) := by decide +kernel
theorem dX12_holdsAt_29 : decode cX12_holdsAt 29 = .ok (.iload 4, 2) := by decide +kernel
theorem dX12_holdsAt_31 : decode cX12_holdsAt 31 = .ok (.goto 21, 3) := by decide +kernel
theorem dX12_holdsAt_34 : decode cX12_holdsAt 34 = .ok (.aload_n 0, 1) := by decide +kernel
theorem dX12_holdsAt_35 : decode cX12_holdsAt 35 = .ok (.iload 5, 2) := by decide +kernel
theorem dX12_holdsAt_37 : decode cX12_holdsAt 37 = .ok (.aload_n 1, 1) := by decide +kernel
theorem dX12_holdsAt_38 : decode cX12_holdsAt 38 = .ok (.iload_n 2, 1) := by decide +kernel
theorem dX12_holdsAt_39 : decode cX12_holdsAt 39 = .ok (.iload 4, 2) := by decide +kernel
theorem dX12_holdsAt_41 : decode cX12_holdsAt 41 = .ok (.iload_n 3, 1) := by decide +kernel
theorem dX12_holdsAt_42 : decode cX12_holdsAt 42 = .ok (.invokevirtual 387, 3) := by decide +kernel
theorem dX12_holdsAt_45 : decode cX12_holdsAt 45 = .ok (.iload 4, 2) := by decide +kernel
theorem dX12_holdsAt_47 : decode cX12_holdsAt 47 = .ok (.iconst 1, 1) := by decide +kernel
theorem dX12_holdsAt_48 : decode cX12_holdsAt 48 = .ok (.iadd, 1) := by decide +kernel
theorem dX12_holdsAt_49 : decode cX12_holdsAt 49 = .ok (.invokestatic 390, 3) := by decide +kernel
theorem dX12_holdsAt_52 : decode cX12_holdsAt 52 = .ok (.ireturn, 1) := by decide +kernel
def X12_holdsAt_b52 (e : mm_E) (t0 : Int32) (m : mm_V) : Option (Int32 × mm_V) := some (t0, m)
theorem X12_holdsAt_b52_ok {K : mm_K} {nx : Option Nat} {e : mm_E} (hz : e.2.1 = K.2.2.2.2) {d : Nat} (hd : 3 ≤ d) {t0 : Int32} {a0 : Nat} (h0 : e.1 a0 = some (12, 75)) {m : mm_V} {r : (Int32 × mm_V)} (hr : X12_holdsAt_b52 e t0 m = some r) : mm_G K MX12_holdsAt d (mm_Fi e.1 nx r) 52 [none, none, none, none, none, none] [.int t0] (e.1, m) nx 0 0 := by
  obtain ⟨d, rfl⟩ : ∃ d', d = d' + 1 := ⟨d - 1, by omega⟩
  unfold X12_holdsAt_b52 at hr
  exact mb_iret dX12_holdsAt_52 rfl hr
def X12_holdsAt (e : mm_E) (a0 : Nat) (a1 : Nat) (i2 : Int32) (i3 : Int32) (m : mm_V) : Option (Int32 × mm_V) := (X12_size e a1 i2 m).bind fun r1 => (mm_gr e.1 r1.2 12 75 a0 5).bind fun c2 => (mm_gr e.1 r1.2 12 75 a0 44).bind fun c3 => (mm_ai e.1 r1.2 20 c3 i2).bind fun x4 => (mm_ai e.1 r1.2 20 c2 (((2 : Int32) * x4) + (1 : Int32))).bind fun x5 => if ¬ x5 = 0 then ((X12_reckons e a0 x5 a1 i2 r1.1 i3 r1.2).bind fun r6 => (X12_mod e r6.1 (r1.1 + (1 : Int32)) r6.2).bind fun r7 => X12_holdsAt_b52 e  r7.1 r7.2) else (X12_holdsAt_b52 e  r1.1 r1.2)
theorem X12_holdsAt_ok {K : mm_K} {nx : Option Nat} {e : mm_E} (hz : e.2.1 = K.2.2.2.2) {d : Nat} (hd : 3 ≤ d) {a0 : Nat} {a1 : Nat} {i2 : Int32} {i3 : Int32} (h0 : e.1 a0 = some (12, 75)) {m : mm_V} {r : (Int32 × mm_V)} (hr : X12_holdsAt e a0 a1 i2 i3 m = some r) : mm_Cn K MX12_holdsAt d (mm_Fi e.1 nx r) [.ref a0, .ref a1, .int i2, .int i3] (e.1, m) nx := by
  obtain ⟨d, rfl⟩ : ∃ d', d = d' + 1 := ⟨d - 1, by omega⟩
  refine mm_entry (by decide) (Nat.le_of_ble_eq_true rfl) rfl (fun hok => ?_)
  unfold X12_holdsAt at hr
  refine mg_weak (L' := [some (.ref a0), some (.ref a1), some (.int i2), some (.int i3), none, none]) (mm_le_s (mm_le_s (mm_le_s (mm_le_s (mm_le_e (mm_le_e mm_le_0)))))) ?_
  refine ml_aload_n (pc := 0) dX12_holdsAt_0 rfl (mm_get_s mm_get_0) ?_
  refine ml_iload_n (pc := 1) dX12_holdsAt_1 rfl (mm_get_s (mm_get_s mm_get_0)) ?_
  refine mb_cSi (pc := 2) (As := [.ref a1, .int i2]) (rest := []) dX12_holdsAt_2 cw_X12_327  hr (fun v hv => X12_size_ok hz (by omega)  hv) rfl (Nat.le_of_ble_eq_true rfl) (Nat.zero_le _) (Nat.zero_le _) (fun r1 hr => ?_)
  refine ml_istore (pc := 5) dX12_holdsAt_5 (Nat.le_of_ble_eq_true rfl) (mm_st1_s (mm_st1_s (mm_st1_s mm_st1_i))) ?_
  refine ml_aload_n (pc := 7) dX12_holdsAt_7 rfl mm_get_0 ?_
  refine mb_gr (pc := 8) dX12_holdsAt_8 fl_X12_16 hr (fun c2 hr => ?_)
  refine mg_iconst (pc := 11) dX12_holdsAt_11 kc_2 ?_
  refine ml_aload_n (pc := 12) dX12_holdsAt_12 rfl mm_get_0 ?_
  refine mb_gr (pc := 13) dX12_holdsAt_13 fl_X12_72 hr (fun c3 hr => ?_)
  refine ml_iload_n (pc := 16) dX12_holdsAt_16 rfl (mm_get_s (mm_get_s mm_get_0)) ?_
  refine mb_ai (pc := 17) dX12_holdsAt_17 hr (fun x4 hr => ?_)
  refine mg_imul (pc := 18) dX12_holdsAt_18 ?_
  refine mg_iconst (pc := 19) dX12_holdsAt_19 kc_1 ?_
  refine mg_iadd (pc := 20) dX12_holdsAt_20 ?_
  refine mb_ai (pc := 21) dX12_holdsAt_21 hr (fun x5 hr => ?_)
  refine ml_istore (pc := 22) dX12_holdsAt_22 (Nat.le_of_ble_eq_true rfl) (mm_st1_s (mm_st1_s (mm_st1_s (mm_st1_s mm_st1_i)))) ?_
  refine ml_iload (pc := 24) dX12_holdsAt_24 (mm_get_s (mm_get_s (mm_get_s (mm_get_s (mm_get_s mm_get_0))))) ?_
  refine mb_if_ne (pc := 26) 34 dX12_holdsAt_26 rfl hr (fun hr => ?_) (fun hr => ?_)
  · refine ml_aload_n (pc := 34) dX12_holdsAt_34 rfl mm_get_0 ?_
    refine ml_iload (pc := 35) dX12_holdsAt_35 (mm_get_s (mm_get_s (mm_get_s (mm_get_s (mm_get_s mm_get_0))))) ?_
    refine ml_aload_n (pc := 37) dX12_holdsAt_37 rfl (mm_get_s mm_get_0) ?_
    refine ml_iload_n (pc := 38) dX12_holdsAt_38 rfl (mm_get_s (mm_get_s mm_get_0)) ?_
    refine ml_iload (pc := 39) dX12_holdsAt_39 (mm_get_s (mm_get_s (mm_get_s (mm_get_s mm_get_0)))) ?_
    refine ml_iload_n (pc := 41) dX12_holdsAt_41 rfl (mm_get_s (mm_get_s (mm_get_s mm_get_0))) ?_
    refine mb_cVi (pc := 42) (As := [.int x5, .ref a1, .int i2, .int r1.1, .int i3]) (rest := []) dX12_holdsAt_42 cw_X12_387 h0 hr (fun v hv => X12_reckons_ok hz (by omega) h0 hv) rfl (Nat.le_of_ble_eq_true rfl) (Nat.zero_le _) (Nat.zero_le _) (fun r6 hr => ?_)
    refine ml_iload (pc := 45) dX12_holdsAt_45 (mm_get_s (mm_get_s (mm_get_s (mm_get_s mm_get_0)))) ?_
    refine mg_iconst (pc := 47) dX12_holdsAt_47 kc_1 ?_
    refine mg_iadd (pc := 48) dX12_holdsAt_48 ?_
    refine mb_cSi (pc := 49) (As := [.int r6.1, .int (r1.1 + (1 : Int32))]) (rest := []) dX12_holdsAt_49 cw_X12_390  hr (fun v hv => X12_mod_ok hz (by omega)  hv) rfl (Nat.le_of_ble_eq_true rfl) (Nat.zero_le _) (Nat.zero_le _) (fun r7 hr => ?_)
    exact mg_weak (mm_le_n (mm_le_n (mm_le_n (mm_le_n (mm_le_n (mm_le_n mm_le_0)))))) (X12_holdsAt_b52_ok hz hd h0 hr)
  · refine ml_iload (pc := 29) dX12_holdsAt_29 (mm_get_s (mm_get_s (mm_get_s (mm_get_s mm_get_0)))) ?_
    refine mg_goto (pc := 31) 52 dX12_holdsAt_31 rfl ?_
    exact mg_weak (mm_le_n (mm_le_n (mm_le_n (mm_le_n (mm_le_n (mm_le_n mm_le_0)))))) (X12_holdsAt_b52_ok hz hd h0 hr)
theorem dX12_person_0 : decode cX12_person 0 = .ok (.aload_n 0, 1) := by decide +kernel
theorem dX12_person_1 : decode cX12_person 1 = .ok (.iconst 0, 1) := by decide +kernel
theorem dX12_person_2 : decode cX12_person 2 = .ok (.putfield 152, 3) := by decide +kernel
theorem dX12_person_5 : decode cX12_person 5 = .ok (.aload_n 0, 1) := by decide +kernel
theorem dX12_person_6 : decode cX12_person 6 = .ok (.iload_n 1, 1) := by decide +kernel
theorem dX12_person_7 : decode cX12_person 7 = .ok (.invokevirtual 376, 3) := by decide +kernel
theorem dX12_person_10 : decode cX12_person 10 = .ok (.ifCond .eq 13, 3) := by decide +kernel
theorem dX12_person_13 : decode cX12_person 13 = .ok (.aload_n 0, 1) := by decide +kernel
theorem dX12_person_14 : decode cX12_person 14 = .ok (.iload_n 2, 1) := by decide +kernel
theorem dX12_person_15 : decode cX12_person 15 = .ok (.bipush 7, 2) := by decide +kernel
theorem dX12_person_17 : decode cX12_person 17 = .ok (.invokevirtual 393, 3) := by decide +kernel
theorem dX12_person_20 : decode cX12_person 20 = .ok (.ifCond .ne 5, 3) := by decide +kernel
theorem dX12_person_23 : decode cX12_person 23 = .ok (.iconst 0, 1) := by decide +kernel
theorem dX12_person_24 : decode cX12_person 24 = .ok (.ireturn, 1) := by decide +kernel
theorem dX12_person_25 : decode cX12_person 25 = .ok (.iload_n 2, 1) := by decide +kernel
theorem dX12_person_26 : decode cX12_person 26 = .ok (.iconst 1, 1) := by decide +kernel
theorem dX12_person_27 : decode cX12_person 27 = .ok (.if_icmp .le 17, 3) := by decide +kernel
theorem dX12_person_30 : decode cX12_person 30 = .ok (.aload_n 0, 1) := by decide +kernel
theorem dX12_person_31 : decode cX12_person 31 = .ok (.getfield 20, 3) := by decide +kernel
theorem dX12_person_34 : decode cX12_person 34 = .ok (.bipush 6, 2) := by decide +kernel
theorem dX12_person_36 : decode cX12_person 36 = .ok (.iload_n 1, 1) := by decide +kernel
theorem dX12_person_37 : decode cX12_person 37 = .ok (.imul, 1) := by decide +kernel
theorem dX12_person_38 : decode cX12_person 38 = .ok (.iload_n 2, 1) := by decide +kernel
theorem dX12_person_39 : decode cX12_person 39 = .ok (.iadd, 1) := by decide +kernel
theorem dX12_person_40 : decode cX12_person 40 = .ok (.iconst 2, 1) := by decide +kernel
theorem dX12_person_41 : decode cX12_person 41 = .ok (.isub, 1) := by decide +kernel
theorem dX12_person_42 : decode cX12_person 42 = .ok (.iaload, 1) := by decide +kernel
theorem dX12_person_43 : decode cX12_person 43 = .ok (.ireturn, 1) := by decide +kernel
theorem dX12_person_44 : decode cX12_person 44 = .ok (.aload_n 0, 1) := by decide +kernel
theorem dX12_person_45 : decode cX12_person 45 = .ok (.aload_n 0, 1) := by decide +kernel
theorem dX12_person_46 : decode cX12_person 46 = .ok (.getfield 60, 3) := by decide +kernel
theorem dX12_person_49 : decode cX12_person 49 = .ok (.invokevirtual 338, 3) := by decide +kernel
theorem dX12_person_52 : decode cX12_person 52 = .ok (.ifCond .ne 14, 3) := by decide +kernel
theorem dX12_person_55 : decode cX12_person 55 = .ok (.aload_n 0, 1) := by decide +kernel
theorem dX12_person_56 : decode cX12_person 56 = .ok (.getfield 60, 3) := by decide +kernel
theorem dX12_person_59 : decode cX12_person 59 = .ok (.iload_n 1, 1) := by decide +kernel
theorem dX12_person_60 : decode cX12_person 60 = .ok (.invokestatic 327, 3) := by decide +kernel
theorem dX12_person_63 : decode cX12_person 63 = .ok (.ifCond .ne 5, 3) := by decide +kernel
theorem dX12_person_66 : decode cX12_person 66 = .ok (.iconst (-1), 1) := by decide +kernel
theorem dX12_person_67 : decode cX12_person 67 = .ok (.ireturn, 1) := by decide +kernel
theorem dX12_person_68 : decode cX12_person 68 = .ok (.aload_n 0, 1) := by decide +kernel
theorem dX12_person_69 : decode cX12_person 69 = .ok (.aload_n 0, 1) := by decide +kernel
theorem dX12_person_70 : decode cX12_person 70 = .ok (.getfield 60, 3) := by decide +kernel
theorem dX12_person_73 : decode cX12_person 73 = .ok (.iload_n 1, 1) := by decide +kernel
theorem dX12_person_74 : decode cX12_person 74 = .ok (.invokevirtual 342, 3) := by decide +kernel
theorem dX12_person_77 : decode cX12_person 77 = .ok (.istore_n 3, 1) := by decide +kernel
theorem dX12_person_78 : decode cX12_person 78 = .ok (.iload_n 2, 1) := by decide +kernel
theorem dX12_person_79 : decode cX12_person 79 = .ok (.ifCond .ne 7, 3) := by decide +kernel
theorem dX12_person_82 : decode cX12_person 82 = .ok (.iload_n 3, 1) := by decide +kernel
theorem dX12_person_83 : decode cX12_person 83 = .ok (.goto 13, 3) := by decide +kernel
theorem dX12_person_86 : decode cX12_person 86 = .ok (.aload_n 0, 1) := by decide +kernel
theorem dX12_person_87 : decode cX12_person 87 = .ok (.aload_n 0, 1) := by decide +kernel
theorem dX12_person_88 : decode cX12_person 88 = .ok (.getfield 60, 3) := by decide +kernel
theorem dX12_person_91 : decode cX12_person 91 = .ok (.iload_n 1, 1) := by decide +kernel
theorem dX12_person_92 : decode cX12_person 92 = .ok (.iload_n 3, 1) := by decide +kernel
theorem dX12_person_93 : decode cX12_person 93 = .ok (.invokevirtual 397, 3) := by decide +kernel
theorem dX12_person_96 : decode cX12_person 96 = .ok (.ireturn, 1) := by decide +kernel
def X12_person_b96 (e : mm_E) (t0 : Int32) (m : mm_V) : Option (Int32 × mm_V) := some (t0, m)
theorem X12_person_b96_ok {K : mm_K} {nx : Option Nat} {e : mm_E} (hz : e.2.1 = K.2.2.2.2) {d : Nat} (hd : 4 ≤ d) {t0 : Int32} {a0 : Nat} (h0 : e.1 a0 = some (12, 75)) {m : mm_V} {r : (Int32 × mm_V)} (hr : X12_person_b96 e t0 m = some r) : mm_G K MX12_person d (mm_Fi e.1 nx r) 96 [none, none, none, none] [.int t0] (e.1, m) nx 0 0 := by
  obtain ⟨d, rfl⟩ : ∃ d', d = d' + 1 := ⟨d - 1, by omega⟩
  unfold X12_person_b96 at hr
  exact mb_iret dX12_person_96 rfl hr
def X12_person_b66 (e : mm_E) (m : mm_V) : Option (Int32 × mm_V) := some ((-1 : Int32), m)
theorem X12_person_b66_ok {K : mm_K} {nx : Option Nat} {e : mm_E} (hz : e.2.1 = K.2.2.2.2) {d : Nat} (hd : 4 ≤ d) {a0 : Nat} (h0 : e.1 a0 = some (12, 75)) {m : mm_V} {r : (Int32 × mm_V)} (hr : X12_person_b66 e m = some r) : mm_G K MX12_person d (mm_Fi e.1 nx r) 66 [none, none, none, none] [] (e.1, m) nx 0 0 := by
  obtain ⟨d, rfl⟩ : ∃ d', d = d' + 1 := ⟨d - 1, by omega⟩
  unfold X12_person_b66 at hr
  refine mg_iconst (pc := 66) dX12_person_66 kc_m1 ?_
  exact mb_iret dX12_person_67 rfl hr
def X12_person_b23 (e : mm_E) (m : mm_V) : Option (Int32 × mm_V) := some ((0 : Int32), m)
theorem X12_person_b23_ok {K : mm_K} {nx : Option Nat} {e : mm_E} (hz : e.2.1 = K.2.2.2.2) {d : Nat} (hd : 4 ≤ d) {a0 : Nat} (h0 : e.1 a0 = some (12, 75)) {m : mm_V} {r : (Int32 × mm_V)} (hr : X12_person_b23 e m = some r) : mm_G K MX12_person d (mm_Fi e.1 nx r) 23 [none, none, none, none] [] (e.1, m) nx 0 0 := by
  obtain ⟨d, rfl⟩ : ∃ d', d = d' + 1 := ⟨d - 1, by omega⟩
  unfold X12_person_b23 at hr
  refine mg_iconst (pc := 23) dX12_person_23 kc_0 ?_
  exact mb_iret dX12_person_24 rfl hr
def X12_person (e : mm_E) (a0 : Nat) (i1 : Int32) (i2 : Int32) (m : mm_V) : Option (Int32 × mm_V) := (mm_pf e.1 m 12 75 a0 0 (.int (0 : Int32))).bind fun m1 => (X12_isPerson e a0 i1 m1).bind fun r2 => if r2.1 = 0 then (X12_person_b23 e   r2.2) else ((X12_isWhat e a0 i2 (7 : Int32) r2.2).bind fun r3 => if ¬ r3.1 = 0 then (if i2 ≤ (1 : Int32) then ((mm_gr e.1 r3.2 12 75 a0 39).bind fun c4 => (X12_isOver e a0 c4 r3.2).bind fun r5 => if ¬ r5.1 = 0 then (X12_person_b66 e   r5.2) else ((mm_gr e.1 r5.2 12 75 a0 39).bind fun c6 => (X12_size e c6 i1 r5.2).bind fun r7 => if ¬ r7.1 = 0 then ((mm_gr e.1 r7.2 12 75 a0 39).bind fun c8 => (X12_nextOf e a0 c8 i1 r7.2).bind fun r9 => if ¬ i2 = 0 then ((mm_gr e.1 r9.2 12 75 a0 39).bind fun c10 => (X12_drawsAt e a0 c10 i1 r9.1 r9.2).bind fun r11 => X12_person_b96 e  r11.1 r11.2) else (X12_person_b96 e  r9.1 r9.2)) else (X12_person_b66 e   r7.2))) else ((mm_gr e.1 r3.2 12 75 a0 6).bind fun c12 => (mm_ai e.1 r3.2 20 c12 ((((6 : Int32) * i1) + i2) - (2 : Int32))).bind fun x13 => some (x13, r3.2))) else (X12_person_b23 e   r3.2))
theorem X12_person_ok {K : mm_K} {nx : Option Nat} {e : mm_E} (hz : e.2.1 = K.2.2.2.2) {d : Nat} (hd : 4 ≤ d) {a0 : Nat} {i1 : Int32} {i2 : Int32} (h0 : e.1 a0 = some (12, 75)) {m : mm_V} {r : (Int32 × mm_V)} (hr : X12_person e a0 i1 i2 m = some r) : mm_Cn K MX12_person d (mm_Fi e.1 nx r) [.ref a0, .int i1, .int i2] (e.1, m) nx := by
  obtain ⟨d, rfl⟩ : ∃ d', d = d' + 1 := ⟨d - 1, by omega⟩
  refine mm_entry (by decide) (Nat.le_of_ble_eq_true rfl) rfl (fun hok => ?_)
  unfold X12_person at hr
  refine mg_weak (L' := [some (.ref a0), some (.int i1), some (.int i2), none]) (mm_le_s (mm_le_s (mm_le_s (mm_le_e mm_le_0)))) ?_
  refine ml_aload_n (pc := 0) dX12_person_0 rfl mm_get_0 ?_
  refine mg_iconst (pc := 1) dX12_person_1 kc_0 ?_
  refine mb_pi (pc := 2) dX12_person_2 fp_X12_152 hr (fun m1 hr => ?_)
  refine ml_aload_n (pc := 5) dX12_person_5 rfl mm_get_0 ?_
  refine ml_iload_n (pc := 6) dX12_person_6 rfl (mm_get_s mm_get_0) ?_
  refine mb_cVi (pc := 7) (As := [.int i1]) (rest := []) dX12_person_7 cw_X12_376 h0 hr (fun v hv => X12_isPerson_ok hz (by omega) h0 hv) rfl (Nat.le_of_ble_eq_true rfl) (Nat.zero_le _) (Nat.zero_le _) (fun r2 hr => ?_)
  refine mb_if_eq (pc := 10) 23 dX12_person_10 rfl hr (fun hr => ?_) (fun hr => ?_)
  · exact mg_weak (mm_le_n (mm_le_n (mm_le_n (mm_le_n mm_le_0)))) (X12_person_b23_ok hz hd h0 hr)
  · refine ml_aload_n (pc := 13) dX12_person_13 rfl mm_get_0 ?_
    refine ml_iload_n (pc := 14) dX12_person_14 rfl (mm_get_s (mm_get_s mm_get_0)) ?_
    refine mg_bipush (pc := 15) dX12_person_15 kb_7 ?_
    refine mb_cVi (pc := 17) (As := [.int i2, .int (7 : Int32)]) (rest := []) dX12_person_17 cw_X12_393 h0 hr (fun v hv => X12_isWhat_ok hz (by omega) h0 hv) rfl (Nat.le_of_ble_eq_true rfl) (Nat.zero_le _) (Nat.zero_le _) (fun r3 hr => ?_)
    refine mb_if_ne (pc := 20) 25 dX12_person_20 rfl hr (fun hr => ?_) (fun hr => ?_)
    · refine ml_iload_n (pc := 25) dX12_person_25 rfl (mm_get_s (mm_get_s mm_get_0)) ?_
      refine mg_iconst (pc := 26) dX12_person_26 kc_1 ?_
      refine mb_icmp_le (pc := 27) 44 dX12_person_27 rfl hr (fun hr => ?_) (fun hr => ?_)
      · refine ml_aload_n (pc := 44) dX12_person_44 rfl mm_get_0 ?_
        refine ml_aload_n (pc := 45) dX12_person_45 rfl mm_get_0 ?_
        refine mb_gr (pc := 46) dX12_person_46 fl_X12_60 hr (fun c4 hr => ?_)
        refine mb_cVi (pc := 49) (As := [.ref c4]) (rest := []) dX12_person_49 cw_X12_338 h0 hr (fun v hv => X12_isOver_ok hz (by omega) h0 hv) rfl (Nat.le_of_ble_eq_true rfl) (Nat.zero_le _) (Nat.zero_le _) (fun r5 hr => ?_)
        refine mb_if_ne (pc := 52) 66 dX12_person_52 rfl hr (fun hr => ?_) (fun hr => ?_)
        · exact mg_weak (mm_le_n (mm_le_n (mm_le_n (mm_le_n mm_le_0)))) (X12_person_b66_ok hz hd h0 hr)
        · refine ml_aload_n (pc := 55) dX12_person_55 rfl mm_get_0 ?_
          refine mb_gr (pc := 56) dX12_person_56 fl_X12_60 hr (fun c6 hr => ?_)
          refine ml_iload_n (pc := 59) dX12_person_59 rfl (mm_get_s mm_get_0) ?_
          refine mb_cSi (pc := 60) (As := [.ref c6, .int i1]) (rest := []) dX12_person_60 cw_X12_327  hr (fun v hv => X12_size_ok hz (by omega)  hv) rfl (Nat.le_of_ble_eq_true rfl) (Nat.zero_le _) (Nat.zero_le _) (fun r7 hr => ?_)
          refine mb_if_ne (pc := 63) 68 dX12_person_63 rfl hr (fun hr => ?_) (fun hr => ?_)
          · refine ml_aload_n (pc := 68) dX12_person_68 rfl mm_get_0 ?_
            refine ml_aload_n (pc := 69) dX12_person_69 rfl mm_get_0 ?_
            refine mb_gr (pc := 70) dX12_person_70 fl_X12_60 hr (fun c8 hr => ?_)
            refine ml_iload_n (pc := 73) dX12_person_73 rfl (mm_get_s mm_get_0) ?_
            refine mb_cVi (pc := 74) (As := [.ref c8, .int i1]) (rest := []) dX12_person_74 cw_X12_342 h0 hr (fun v hv => X12_nextOf_ok hz (by omega) h0 hv) rfl (Nat.le_of_ble_eq_true rfl) (Nat.zero_le _) (Nat.zero_le _) (fun r9 hr => ?_)
            refine ml_istore_n (pc := 77) dX12_person_77 rfl (Nat.le_of_ble_eq_true rfl) (mm_st1_s (mm_st1_s mm_st1_i)) ?_
            refine ml_iload_n (pc := 78) dX12_person_78 rfl (mm_get_s (mm_get_s mm_get_0)) ?_
            refine mb_if_ne (pc := 79) 86 dX12_person_79 rfl hr (fun hr => ?_) (fun hr => ?_)
            · refine ml_aload_n (pc := 86) dX12_person_86 rfl mm_get_0 ?_
              refine ml_aload_n (pc := 87) dX12_person_87 rfl mm_get_0 ?_
              refine mb_gr (pc := 88) dX12_person_88 fl_X12_60 hr (fun c10 hr => ?_)
              refine ml_iload_n (pc := 91) dX12_person_91 rfl (mm_get_s mm_get_0) ?_
              refine ml_iload_n (pc := 92) dX12_person_92 rfl (mm_get_s (mm_get_s (mm_get_s mm_get_0))) ?_
              refine mb_cVi (pc := 93) (As := [.ref c10, .int i1, .int r9.1]) (rest := []) dX12_person_93 cw_X12_397 h0 hr (fun v hv => X12_drawsAt_ok hz (by omega) h0 hv) rfl (Nat.le_of_ble_eq_true rfl) (Nat.zero_le _) (Nat.zero_le _) (fun r11 hr => ?_)
              exact mg_weak (mm_le_n (mm_le_n (mm_le_n (mm_le_n mm_le_0)))) (X12_person_b96_ok hz hd h0 hr)
            · refine ml_iload_n (pc := 82) dX12_person_82 rfl (mm_get_s (mm_get_s (mm_get_s mm_get_0))) ?_
              refine mg_goto (pc := 83) 96 dX12_person_83 rfl ?_
              exact mg_weak (mm_le_n (mm_le_n (mm_le_n (mm_le_n mm_le_0)))) (X12_person_b96_ok hz hd h0 hr)
          · exact mg_weak (mm_le_n (mm_le_n (mm_le_n (mm_le_n mm_le_0)))) (X12_person_b66_ok hz hd h0 hr)
      · refine ml_aload_n (pc := 30) dX12_person_30 rfl mm_get_0 ?_
        refine mb_gr (pc := 31) dX12_person_31 fl_X12_20 hr (fun c12 hr => ?_)
        refine mg_bipush (pc := 34) dX12_person_34 kb_6 ?_
        refine ml_iload_n (pc := 36) dX12_person_36 rfl (mm_get_s mm_get_0) ?_
        refine mg_imul (pc := 37) dX12_person_37 ?_
        refine ml_iload_n (pc := 38) dX12_person_38 rfl (mm_get_s (mm_get_s mm_get_0)) ?_
        refine mg_iadd (pc := 39) dX12_person_39 ?_
        refine mg_iconst (pc := 40) dX12_person_40 kc_2 ?_
        refine mg_isub (pc := 41) dX12_person_41 ?_
        refine mb_ai (pc := 42) dX12_person_42 hr (fun x13 hr => ?_)
        exact mb_iret dX12_person_43 rfl hr
    · exact mg_weak (mm_le_n (mm_le_n (mm_le_n (mm_le_n mm_le_0)))) (X12_person_b23_ok hz hd h0 hr)
theorem dX12_drawsOf_0 : decode cX12_drawsOf 0 = .ok (.aload_n 1, 1) := by decide +kernel
theorem dX12_drawsOf_1 : decode cX12_drawsOf 1 = .ok (.iconst 0, 1) := by decide +kernel
theorem dX12_drawsOf_2 : decode cX12_drawsOf 2 = .ok (.iaload, 1) := by decide +kernel
theorem dX12_drawsOf_3 : decode cX12_drawsOf 3 = .ok (.istore 5, 2) := by decide +kernel
theorem dX12_drawsOf_5 : decode cX12_drawsOf 5 = .ok (.aload_n 1, 1) := by decide +kernel
theorem dX12_drawsOf_6 : decode cX12_drawsOf 6 = .ok (.bipush 8, 2) := by decide +kernel
theorem dX12_drawsOf_8 : decode cX12_drawsOf 8 = .ok (.iload 5, 2) := by decide +kernel
theorem dX12_drawsOf_10 : decode cX12_drawsOf 10 = .ok (.iadd, 1) := by decide +kernel
theorem dX12_drawsOf_11 : decode cX12_drawsOf 11 = .ok (.iload_n 3, 1) := by decide +kernel
theorem dX12_drawsOf_12 : decode cX12_drawsOf 12 = .ok (.iastore, 1) := by decide +kernel
theorem dX12_drawsOf_13 : decode cX12_drawsOf 13 = .ok (.aload_n 0, 1) := by decide +kernel
theorem dX12_drawsOf_14 : decode cX12_drawsOf 14 = .ok (.aload_n 1, 1) := by decide +kernel
theorem dX12_drawsOf_15 : decode cX12_drawsOf 15 = .ok (.iload_n 2, 1) := by decide +kernel
theorem dX12_drawsOf_16 : decode cX12_drawsOf 16 = .ok (.iload_n 3, 1) := by decide +kernel
theorem dX12_drawsOf_17 : decode cX12_drawsOf 17 = .ok (.invokestatic 331, 3) := by decide +kernel
theorem dX12_drawsOf_20 : decode cX12_drawsOf 20 = .ok (.putfield 400, 3) := by decide +kernel
theorem dX12_drawsOf_23 : decode cX12_drawsOf 23 = .ok (.aload_n 0, 1) := by decide +kernel
theorem dX12_drawsOf_24 : decode cX12_drawsOf 24 = .ok (.iconst 0, 1) := by decide +kernel
theorem dX12_drawsOf_25 : decode cX12_drawsOf 25 = .ok (.putfield 403, 3) := by decide +kernel
theorem dX12_drawsOf_28 : decode cX12_drawsOf 28 = .ok (.aload_n 0, 1) := by decide +kernel
theorem dX12_drawsOf_29 : decode cX12_drawsOf 29 = .ok (.iconst (-1), 1) := by decide +kernel
theorem dX12_drawsOf_30 : decode cX12_drawsOf 30 = .ok (.putfield 406, 3) := by decide +kernel
theorem dX12_drawsOf_33 : decode cX12_drawsOf 33 = .ok (.aload_n 0, 1) := by decide +kernel
theorem dX12_drawsOf_34 : decode cX12_drawsOf 34 = .ok (.getfield 400, 3) := by decide +kernel
theorem dX12_drawsOf_37 : decode cX12_drawsOf 37 = .ok (.ifCond .gt 8, 3) := by decide +kernel
theorem dX12_drawsOf_40 : decode cX12_drawsOf 40 = .ok (.iload 4, 2) := by decide +kernel
theorem dX12_drawsOf_42 : decode cX12_drawsOf 42 = .ok (.ifCond .ne 102, 3) := by decide +kernel
theorem dX12_drawsOf_45 : decode cX12_drawsOf 45 = .ok (.aload_n 1, 1) := by decide +kernel
theorem dX12_drawsOf_46 : decode cX12_drawsOf 46 = .ok (.iload_n 2, 1) := by decide +kernel
theorem dX12_drawsOf_47 : decode cX12_drawsOf 47 = .ok (.iload_n 3, 1) := by decide +kernel
theorem dX12_drawsOf_48 : decode cX12_drawsOf 48 = .ok (.invokestatic 362, 3) := by decide +kernel
theorem dX12_drawsOf_51 : decode cX12_drawsOf 51 = .ok (.pop, 1) := by decide +kernel
theorem dX12_drawsOf_52 : decode cX12_drawsOf 52 = .ok (.aload_n 0, 1) := by decide +kernel
theorem dX12_drawsOf_53 : decode cX12_drawsOf 53 = .ok (.aload_n 0, 1) := by decide +kernel
theorem dX12_drawsOf_54 : decode cX12_drawsOf 54 = .ok (.getfield 400, 3) := by decide +kernel
theorem dX12_drawsOf_57 : decode cX12_drawsOf 57 = .ok (.ifCond .le 16, 3) := by decide +kernel
theorem dX12_drawsOf_60 : decode cX12_drawsOf 60 = .ok (.aload_n 1, 1) := by decide +kernel
theorem dX12_drawsOf_61 : decode cX12_drawsOf 61 = .ok (.iload 5, 2) := by decide +kernel
theorem dX12_drawsOf_63 : decode cX12_drawsOf 63 = .ok (.aload_n 0, 1) := by decide +kernel
theorem dX12_drawsOf_64 : decode cX12_drawsOf 64 = .ok (.getfield 400, 3) := by decide +kernel
theorem dX12_drawsOf_67 : decode cX12_drawsOf 67 = .ok (.invokestatic 335, 3) := by decide +kernel
theorem dX12_drawsOf_70 : decode cX12_drawsOf 70 = .ok (.goto 4, 3) := by decide +kernel
theorem dX12_drawsOf_73 : decode cX12_drawsOf 73 = .ok (.iconst (-1), 1) := by decide +kernel
theorem dX12_drawsOf_74 : decode cX12_drawsOf 74 = .ok (.putfield 406, 3) := by decide +kernel
theorem dX12_drawsOf_77 : decode cX12_drawsOf 77 = .ok (.aload_n 0, 1) := by decide +kernel
theorem dX12_drawsOf_78 : decode cX12_drawsOf 78 = .ok (.aload_n 0, 1) := by decide +kernel
theorem dX12_drawsOf_79 : decode cX12_drawsOf 79 = .ok (.getfield 406, 3) := by decide +kernel
theorem dX12_drawsOf_82 : decode cX12_drawsOf 82 = .ok (.iconst (-1), 1) := by decide +kernel
theorem dX12_drawsOf_83 : decode cX12_drawsOf 83 = .ok (.if_icmp .eq 7, 3) := by decide +kernel
theorem dX12_drawsOf_86 : decode cX12_drawsOf 86 = .ok (.iconst 1, 1) := by decide +kernel
theorem dX12_drawsOf_87 : decode cX12_drawsOf 87 = .ok (.goto 4, 3) := by decide +kernel
theorem dX12_drawsOf_90 : decode cX12_drawsOf 90 = .ok (.iconst 0, 1) := by decide +kernel
theorem dX12_drawsOf_91 : decode cX12_drawsOf 91 = .ok (.putfield 403, 3) := by decide +kernel
theorem dX12_drawsOf_94 : decode cX12_drawsOf 94 = .ok (.aload_n 0, 1) := by decide +kernel
theorem dX12_drawsOf_95 : decode cX12_drawsOf 95 = .ok (.getfield 403, 3) := by decide +kernel
theorem dX12_drawsOf_98 : decode cX12_drawsOf 98 = .ok (.ifCond .eq 17, 3) := by decide +kernel
theorem dX12_drawsOf_101 : decode cX12_drawsOf 101 = .ok (.aload_n 1, 1) := by decide +kernel
theorem dX12_drawsOf_102 : decode cX12_drawsOf 102 = .ok (.iload 5, 2) := by decide +kernel
theorem dX12_drawsOf_104 : decode cX12_drawsOf 104 = .ok (.aload_n 0, 1) := by decide +kernel
theorem dX12_drawsOf_105 : decode cX12_drawsOf 105 = .ok (.getfield 406, 3) := by decide +kernel
theorem dX12_drawsOf_108 : decode cX12_drawsOf 108 = .ok (.invokestatic 362, 3) := by decide +kernel
theorem dX12_drawsOf_111 : decode cX12_drawsOf 111 = .ok (.pop, 1) := by decide +kernel
theorem dX12_drawsOf_112 : decode cX12_drawsOf 112 = .ok (.goto 32, 3) := by decide +kernel
theorem dX12_drawsOf_115 : decode cX12_drawsOf 115 = .ok (.aload_n 0, 1) := by decide +kernel
theorem dX12_drawsOf_116 : decode cX12_drawsOf 116 = .ok (.aload_n 0, 1) := by decide +kernel
theorem dX12_drawsOf_117 : decode cX12_drawsOf 117 = .ok (.aload_n 1, 1) := by decide +kernel
theorem dX12_drawsOf_118 : decode cX12_drawsOf 118 = .ok (.iload 5, 2) := by decide +kernel
theorem dX12_drawsOf_120 : decode cX12_drawsOf 120 = .ok (.aload_n 0, 1) := by decide +kernel
theorem dX12_drawsOf_121 : decode cX12_drawsOf 121 = .ok (.getfield 400, 3) := by decide +kernel
theorem dX12_drawsOf_124 : decode cX12_drawsOf 124 = .ok (.invokevirtual 409, 3) := by decide +kernel
theorem dX12_drawsOf_127 : decode cX12_drawsOf 127 = .ok (.putfield 406, 3) := by decide +kernel
theorem dX12_drawsOf_130 : decode cX12_drawsOf 130 = .ok (.aload_n 1, 1) := by decide +kernel
theorem dX12_drawsOf_131 : decode cX12_drawsOf 131 = .ok (.iload 5, 2) := by decide +kernel
theorem dX12_drawsOf_133 : decode cX12_drawsOf 133 = .ok (.aload_n 0, 1) := by decide +kernel
theorem dX12_drawsOf_134 : decode cX12_drawsOf 134 = .ok (.getfield 406, 3) := by decide +kernel
theorem dX12_drawsOf_137 : decode cX12_drawsOf 137 = .ok (.aload_n 0, 1) := by decide +kernel
theorem dX12_drawsOf_138 : decode cX12_drawsOf 138 = .ok (.getfield 400, 3) := by decide +kernel
theorem dX12_drawsOf_141 : decode cX12_drawsOf 141 = .ok (.invokestatic 348, 3) := by decide +kernel
theorem dX12_drawsOf_144 : decode cX12_drawsOf 144 = .ok (.aload_n 1, 1) := by decide +kernel
theorem dX12_drawsOf_145 : decode cX12_drawsOf 145 = .ok (.iconst 1, 1) := by decide +kernel
theorem dX12_drawsOf_146 : decode cX12_drawsOf 146 = .ok (.dup2, 1) := by decide +kernel
theorem dX12_drawsOf_147 : decode cX12_drawsOf 147 = .ok (.iaload, 1) := by decide +kernel
theorem dX12_drawsOf_148 : decode cX12_drawsOf 148 = .ok (.iconst 1, 1) := by decide +kernel
theorem dX12_drawsOf_149 : decode cX12_drawsOf 149 = .ok (.iadd, 1) := by decide +kernel
theorem dX12_drawsOf_150 : decode cX12_drawsOf 150 = .ok (.iastore, 1) := by decide +kernel
theorem dX12_drawsOf_151 : decode cX12_drawsOf 151 = .ok (.aload_n 1, 1) := by decide +kernel
theorem dX12_drawsOf_152 : decode cX12_drawsOf 152 = .ok (.iconst 0, 1) := by decide +kernel
theorem dX12_drawsOf_153 : decode cX12_drawsOf 153 = .ok (.aload_n 0, 1) := by decide +kernel
theorem dX12_drawsOf_154 : decode cX12_drawsOf 154 = .ok (.aload_n 1, 1) := by decide +kernel
theorem dX12_drawsOf_155 : decode cX12_drawsOf 155 = .ok (.invokevirtual 338, 3) := by decide +kernel
theorem dX12_drawsOf_158 : decode cX12_drawsOf 158 = .ok (.ifCond .eq 7, 3) := by decide +kernel
theorem dX12_drawsOf_161 : decode cX12_drawsOf 161 = .ok (.iconst (-1), 1) := by decide +kernel
theorem dX12_drawsOf_162 : decode cX12_drawsOf 162 = .ok (.goto 10, 3) := by decide +kernel
theorem dX12_drawsOf_165 : decode cX12_drawsOf 165 = .ok (.aload_n 0, 1) := by decide +kernel
theorem dX12_drawsOf_166 : decode cX12_drawsOf 166 = .ok (.aload_n 1, 1) := by decide +kernel
theorem dX12_drawsOf_167 : decode cX12_drawsOf 167 = .ok (.iload 5, 2) := by decide +kernel
theorem dX12_drawsOf_169 : decode cX12_drawsOf 169 = .ok (.invokevirtual 342, 3) := by decide +kernel
theorem dX12_drawsOf_172 : decode cX12_drawsOf 172 = .ok (.iastore, 1) := by decide +kernel
theorem dX12_drawsOf_173 : decode cX12_drawsOf 173 = .ok (.return_, 1) := by decide +kernel
def X12_drawsOf_b172 (e : mm_E) (t0 : Nat) (t1 : Int32) (t2 : Int32) (m : mm_V) : Option mm_V := (mm_si e.1 m t0 t1 t2).bind fun m1 => some m1
theorem X12_drawsOf_b172_ok {K : mm_K} {nx : Option Nat} {e : mm_E} (hz : e.2.1 = K.2.2.2.2) {d : Nat} (hd : 4 ≤ d) {t0 : Nat} {t1 : Int32} {t2 : Int32} {a0 : Nat} (h0 : e.1 a0 = some (12, 75)) {m : mm_V} {r : mm_V} (hr : X12_drawsOf_b172 e t0 t1 t2 m = some r) : mm_G K MX12_drawsOf d (mm_Fv e.1 nx r) 172 [none, none, none, none, none, none] [.int t2, .int t1, .ref t0] (e.1, m) nx 0 0 := by
  obtain ⟨d, rfl⟩ : ∃ d', d = d' + 1 := ⟨d - 1, by omega⟩
  unfold X12_drawsOf_b172 at hr
  refine mb_si (pc := 172) dX12_drawsOf_172 hr (fun m1 hr => ?_)
  exact mb_vret dX12_drawsOf_173 rfl hr
def X12_drawsOf_b144 (e : mm_E) (a0 : Nat) (a1 : Nat) (i5 : Int32) (m : mm_V) : Option mm_V := (mm_ai e.1 m 20 a1 (1 : Int32)).bind fun x1 => (mm_si e.1 m a1 (1 : Int32) (x1 + (1 : Int32))).bind fun m2 => (X12_isOver e a0 a1 m2).bind fun r3 => if r3.1 = 0 then ((X12_nextOf e a0 a1 i5 r3.2).bind fun r4 => X12_drawsOf_b172 e  a1 (0 : Int32) r4.1 r4.2) else (X12_drawsOf_b172 e  a1 (0 : Int32) (-1 : Int32) r3.2)
theorem X12_drawsOf_b144_ok {K : mm_K} {nx : Option Nat} {e : mm_E} (hz : e.2.1 = K.2.2.2.2) {d : Nat} (hd : 4 ≤ d) {a0 : Nat} {a1 : Nat} {i5 : Int32} (h0 : e.1 a0 = some (12, 75)) {m : mm_V} {r : mm_V} (hr : X12_drawsOf_b144 e a0 a1 i5 m = some r) : mm_G K MX12_drawsOf d (mm_Fv e.1 nx r) 144 [some (.ref a0), some (.ref a1), none, none, none, some (.int i5)] [] (e.1, m) nx 0 0 := by
  obtain ⟨d, rfl⟩ : ∃ d', d = d' + 1 := ⟨d - 1, by omega⟩
  unfold X12_drawsOf_b144 at hr
  refine ml_aload_n (pc := 144) dX12_drawsOf_144 rfl (mm_get_s mm_get_0) ?_
  refine mg_iconst (pc := 145) dX12_drawsOf_145 kc_1 ?_
  refine mg_dup2 (pc := 146) dX12_drawsOf_146 rfl rfl ?_
  refine mb_ai (pc := 147) dX12_drawsOf_147 hr (fun x1 hr => ?_)
  refine mg_iconst (pc := 148) dX12_drawsOf_148 kc_1 ?_
  refine mg_iadd (pc := 149) dX12_drawsOf_149 ?_
  refine mb_si (pc := 150) dX12_drawsOf_150 hr (fun m2 hr => ?_)
  refine ml_aload_n (pc := 151) dX12_drawsOf_151 rfl (mm_get_s mm_get_0) ?_
  refine mg_iconst (pc := 152) dX12_drawsOf_152 kc_0 ?_
  refine ml_aload_n (pc := 153) dX12_drawsOf_153 rfl mm_get_0 ?_
  refine ml_aload_n (pc := 154) dX12_drawsOf_154 rfl (mm_get_s mm_get_0) ?_
  refine mb_cVi (pc := 155) (As := [.ref a1]) (rest := [.int (0 : Int32), .ref a1]) dX12_drawsOf_155 cw_X12_338 h0 hr (fun v hv => X12_isOver_ok hz (by omega) h0 hv) rfl (Nat.le_of_ble_eq_true rfl) (Nat.zero_le _) (Nat.zero_le _) (fun r3 hr => ?_)
  refine mb_if_eq (pc := 158) 165 dX12_drawsOf_158 rfl hr (fun hr => ?_) (fun hr => ?_)
  · refine ml_aload_n (pc := 165) dX12_drawsOf_165 rfl mm_get_0 ?_
    refine ml_aload_n (pc := 166) dX12_drawsOf_166 rfl (mm_get_s mm_get_0) ?_
    refine ml_iload (pc := 167) dX12_drawsOf_167 (mm_get_s (mm_get_s (mm_get_s (mm_get_s (mm_get_s mm_get_0))))) ?_
    refine mb_cVi (pc := 169) (As := [.ref a1, .int i5]) (rest := [.int (0 : Int32), .ref a1]) dX12_drawsOf_169 cw_X12_342 h0 hr (fun v hv => X12_nextOf_ok hz (by omega) h0 hv) rfl (Nat.le_of_ble_eq_true rfl) (Nat.zero_le _) (Nat.zero_le _) (fun r4 hr => ?_)
    exact mg_weak (mm_le_n (mm_le_n (mm_le_n (mm_le_n (mm_le_n (mm_le_n mm_le_0)))))) (X12_drawsOf_b172_ok hz hd h0 hr)
  · refine mg_iconst (pc := 161) dX12_drawsOf_161 kc_m1 ?_
    refine mg_goto (pc := 162) 172 dX12_drawsOf_162 rfl ?_
    exact mg_weak (mm_le_n (mm_le_n (mm_le_n (mm_le_n (mm_le_n (mm_le_n mm_le_0)))))) (X12_drawsOf_b172_ok hz hd h0 hr)
def X12_drawsOf_b91 (e : mm_E) (a0 : Nat) (a1 : Nat) (i5 : Int32) (t0 : Nat) (t1 : Int32) (m : mm_V) : Option mm_V := (mm_pz e.1 m 12 75 t0 47 t1).bind fun m1 => (mm_gi e.1 m1 12 75 a0 47).bind fun x2 => if x2 = 0 then ((mm_gi e.1 m1 12 75 a0 45).bind fun x3 => (X12_holdsAt e a0 a1 i5 x3 m1).bind fun r4 => (mm_pf e.1 r4.2 12 75 a0 46 (.int r4.1)).bind fun m5 => (mm_gi e.1 m5 12 75 a0 46).bind fun x6 => (mm_gi e.1 m5 12 75 a0 45).bind fun x7 => (X12_inserts e a1 i5 x6 x7 m5).bind fun r8 => X12_drawsOf_b144 e a0 a1 i5  r8) else ((mm_gi e.1 m1 12 75 a0 46).bind fun x9 => (X12_takes e a1 i5 x9 m1).bind fun r10 => X12_drawsOf_b144 e a0 a1 i5  r10.2)
theorem X12_drawsOf_b91_ok {K : mm_K} {nx : Option Nat} {e : mm_E} (hz : e.2.1 = K.2.2.2.2) {d : Nat} (hd : 4 ≤ d) {a0 : Nat} {a1 : Nat} {i5 : Int32} {t0 : Nat} {t1 : Int32} (h0 : e.1 a0 = some (12, 75)) {m : mm_V} {r : mm_V} (hr : X12_drawsOf_b91 e a0 a1 i5 t0 t1 m = some r) : mm_G K MX12_drawsOf d (mm_Fv e.1 nx r) 91 [some (.ref a0), some (.ref a1), none, none, none, some (.int i5)] [.int t1, .ref t0] (e.1, m) nx 0 0 := by
  obtain ⟨d, rfl⟩ : ∃ d', d = d' + 1 := ⟨d - 1, by omega⟩
  unfold X12_drawsOf_b91 at hr
  refine mb_pz (pc := 91) dX12_drawsOf_91 fp_X12_403 hr (fun m1 hr => ?_)
  refine ml_aload_n (pc := 94) dX12_drawsOf_94 rfl mm_get_0 ?_
  refine mb_gi (pc := 95) dX12_drawsOf_95 fl_X12_403 hr (fun x2 hr => ?_)
  refine mb_if_eq (pc := 98) 115 dX12_drawsOf_98 rfl hr (fun hr => ?_) (fun hr => ?_)
  · refine ml_aload_n (pc := 115) dX12_drawsOf_115 rfl mm_get_0 ?_
    refine ml_aload_n (pc := 116) dX12_drawsOf_116 rfl mm_get_0 ?_
    refine ml_aload_n (pc := 117) dX12_drawsOf_117 rfl (mm_get_s mm_get_0) ?_
    refine ml_iload (pc := 118) dX12_drawsOf_118 (mm_get_s (mm_get_s (mm_get_s (mm_get_s (mm_get_s mm_get_0))))) ?_
    refine ml_aload_n (pc := 120) dX12_drawsOf_120 rfl mm_get_0 ?_
    refine mb_gi (pc := 121) dX12_drawsOf_121 fl_X12_400 hr (fun x3 hr => ?_)
    refine mb_cVi (pc := 124) (As := [.ref a1, .int i5, .int x3]) (rest := [.ref a0]) dX12_drawsOf_124 cw_X12_409 h0 hr (fun v hv => X12_holdsAt_ok hz (by omega) h0 hv) rfl (Nat.le_of_ble_eq_true rfl) (Nat.zero_le _) (Nat.zero_le _) (fun r4 hr => ?_)
    refine mb_pi (pc := 127) dX12_drawsOf_127 fp_X12_406 hr (fun m5 hr => ?_)
    refine ml_aload_n (pc := 130) dX12_drawsOf_130 rfl (mm_get_s mm_get_0) ?_
    refine ml_iload (pc := 131) dX12_drawsOf_131 (mm_get_s (mm_get_s (mm_get_s (mm_get_s (mm_get_s mm_get_0))))) ?_
    refine ml_aload_n (pc := 133) dX12_drawsOf_133 rfl mm_get_0 ?_
    refine mb_gi (pc := 134) dX12_drawsOf_134 fl_X12_406 hr (fun x6 hr => ?_)
    refine ml_aload_n (pc := 137) dX12_drawsOf_137 rfl mm_get_0 ?_
    refine mb_gi (pc := 138) dX12_drawsOf_138 fl_X12_400 hr (fun x7 hr => ?_)
    refine mb_cSv (pc := 141) (As := [.ref a1, .int i5, .int x6, .int x7]) (rest := []) dX12_drawsOf_141 cw_X12_348  hr (fun v hv => X12_inserts_ok hz (by omega)  hv) rfl (Nat.le_of_ble_eq_true rfl) (Nat.zero_le _) (Nat.zero_le _) (fun r8 hr => ?_)
    exact mg_weak (mm_le_s (mm_le_s (mm_le_n (mm_le_n (mm_le_n (mm_le_s mm_le_0)))))) (X12_drawsOf_b144_ok hz hd h0 hr)
  · refine ml_aload_n (pc := 101) dX12_drawsOf_101 rfl (mm_get_s mm_get_0) ?_
    refine ml_iload (pc := 102) dX12_drawsOf_102 (mm_get_s (mm_get_s (mm_get_s (mm_get_s (mm_get_s mm_get_0))))) ?_
    refine ml_aload_n (pc := 104) dX12_drawsOf_104 rfl mm_get_0 ?_
    refine mb_gi (pc := 105) dX12_drawsOf_105 fl_X12_406 hr (fun x9 hr => ?_)
    refine mb_cSi (pc := 108) (As := [.ref a1, .int i5, .int x9]) (rest := []) dX12_drawsOf_108 cw_X12_362  hr (fun v hv => X12_takes_ok hz (by omega)  hv) rfl (Nat.le_of_ble_eq_true rfl) (Nat.zero_le _) (Nat.zero_le _) (fun r10 hr => ?_)
    refine mg_pop (pc := 111) dX12_drawsOf_111 rfl ?_
    refine mg_goto (pc := 112) 144 dX12_drawsOf_112 rfl ?_
    exact mg_weak (mm_le_s (mm_le_s (mm_le_n (mm_le_n (mm_le_n (mm_le_s mm_le_0)))))) (X12_drawsOf_b144_ok hz hd h0 hr)
def X12_drawsOf_b74 (e : mm_E) (a0 : Nat) (a1 : Nat) (i5 : Int32) (t0 : Nat) (t1 : Int32) (m : mm_V) : Option mm_V := (mm_pf e.1 m 12 75 t0 46 (.int t1)).bind fun m1 => (mm_gi e.1 m1 12 75 a0 46).bind fun x2 => if x2 = (-1 : Int32) then (X12_drawsOf_b91 e a0 a1 i5 a0 (0 : Int32) m1) else (X12_drawsOf_b91 e a0 a1 i5 a0 (1 : Int32) m1)
theorem X12_drawsOf_b74_ok {K : mm_K} {nx : Option Nat} {e : mm_E} (hz : e.2.1 = K.2.2.2.2) {d : Nat} (hd : 4 ≤ d) {a0 : Nat} {a1 : Nat} {i5 : Int32} {t0 : Nat} {t1 : Int32} (h0 : e.1 a0 = some (12, 75)) {m : mm_V} {r : mm_V} (hr : X12_drawsOf_b74 e a0 a1 i5 t0 t1 m = some r) : mm_G K MX12_drawsOf d (mm_Fv e.1 nx r) 74 [some (.ref a0), some (.ref a1), none, none, none, some (.int i5)] [.int t1, .ref t0] (e.1, m) nx 0 0 := by
  obtain ⟨d, rfl⟩ : ∃ d', d = d' + 1 := ⟨d - 1, by omega⟩
  unfold X12_drawsOf_b74 at hr
  refine mb_pi (pc := 74) dX12_drawsOf_74 fp_X12_406 hr (fun m1 hr => ?_)
  refine ml_aload_n (pc := 77) dX12_drawsOf_77 rfl mm_get_0 ?_
  refine ml_aload_n (pc := 78) dX12_drawsOf_78 rfl mm_get_0 ?_
  refine mb_gi (pc := 79) dX12_drawsOf_79 fl_X12_406 hr (fun x2 hr => ?_)
  refine mg_iconst (pc := 82) dX12_drawsOf_82 kc_m1 ?_
  refine mb_icmp_eq (pc := 83) 90 dX12_drawsOf_83 rfl hr (fun hr => ?_) (fun hr => ?_)
  · refine mg_iconst (pc := 90) dX12_drawsOf_90 kc_0 ?_
    exact mg_weak (mm_le_s (mm_le_s (mm_le_n (mm_le_n (mm_le_n (mm_le_s mm_le_0)))))) (X12_drawsOf_b91_ok hz hd h0 hr)
  · refine mg_iconst (pc := 86) dX12_drawsOf_86 kc_1 ?_
    refine mg_goto (pc := 87) 91 dX12_drawsOf_87 rfl ?_
    exact mg_weak (mm_le_s (mm_le_s (mm_le_n (mm_le_n (mm_le_n (mm_le_s mm_le_0)))))) (X12_drawsOf_b91_ok hz hd h0 hr)
def X12_drawsOf_b45 (e : mm_E) (a0 : Nat) (a1 : Nat) (i2 : Int32) (i3 : Int32) (i5 : Int32) (m : mm_V) : Option mm_V := (X12_takes e a1 i2 i3 m).bind fun r1 => (mm_gi e.1 r1.2 12 75 a0 45).bind fun x2 => if x2 ≤ 0 then (X12_drawsOf_b74 e a0 a1 i5 a0 (-1 : Int32) r1.2) else ((mm_gi e.1 r1.2 12 75 a0 45).bind fun x3 => (X12_placeOf e a1 i5 x3 r1.2).bind fun r4 => X12_drawsOf_b74 e a0 a1 i5 a0 r4.1 r4.2)
theorem X12_drawsOf_b45_ok {K : mm_K} {nx : Option Nat} {e : mm_E} (hz : e.2.1 = K.2.2.2.2) {d : Nat} (hd : 4 ≤ d) {a0 : Nat} {a1 : Nat} {i2 : Int32} {i3 : Int32} {i5 : Int32} (h0 : e.1 a0 = some (12, 75)) {m : mm_V} {r : mm_V} (hr : X12_drawsOf_b45 e a0 a1 i2 i3 i5 m = some r) : mm_G K MX12_drawsOf d (mm_Fv e.1 nx r) 45 [some (.ref a0), some (.ref a1), some (.int i2), some (.int i3), none, some (.int i5)] [] (e.1, m) nx 0 0 := by
  obtain ⟨d, rfl⟩ : ∃ d', d = d' + 1 := ⟨d - 1, by omega⟩
  unfold X12_drawsOf_b45 at hr
  refine ml_aload_n (pc := 45) dX12_drawsOf_45 rfl (mm_get_s mm_get_0) ?_
  refine ml_iload_n (pc := 46) dX12_drawsOf_46 rfl (mm_get_s (mm_get_s mm_get_0)) ?_
  refine ml_iload_n (pc := 47) dX12_drawsOf_47 rfl (mm_get_s (mm_get_s (mm_get_s mm_get_0))) ?_
  refine mb_cSi (pc := 48) (As := [.ref a1, .int i2, .int i3]) (rest := []) dX12_drawsOf_48 cw_X12_362  hr (fun v hv => X12_takes_ok hz (by omega)  hv) rfl (Nat.le_of_ble_eq_true rfl) (Nat.zero_le _) (Nat.zero_le _) (fun r1 hr => ?_)
  refine mg_pop (pc := 51) dX12_drawsOf_51 rfl ?_
  refine ml_aload_n (pc := 52) dX12_drawsOf_52 rfl mm_get_0 ?_
  refine ml_aload_n (pc := 53) dX12_drawsOf_53 rfl mm_get_0 ?_
  refine mb_gi (pc := 54) dX12_drawsOf_54 fl_X12_400 hr (fun x2 hr => ?_)
  refine mb_if_le (pc := 57) 73 dX12_drawsOf_57 rfl hr (fun hr => ?_) (fun hr => ?_)
  · refine mg_iconst (pc := 73) dX12_drawsOf_73 kc_m1 ?_
    exact mg_weak (mm_le_s (mm_le_s (mm_le_n (mm_le_n (mm_le_n (mm_le_s mm_le_0)))))) (X12_drawsOf_b74_ok hz hd h0 hr)
  · refine ml_aload_n (pc := 60) dX12_drawsOf_60 rfl (mm_get_s mm_get_0) ?_
    refine ml_iload (pc := 61) dX12_drawsOf_61 (mm_get_s (mm_get_s (mm_get_s (mm_get_s (mm_get_s mm_get_0))))) ?_
    refine ml_aload_n (pc := 63) dX12_drawsOf_63 rfl mm_get_0 ?_
    refine mb_gi (pc := 64) dX12_drawsOf_64 fl_X12_400 hr (fun x3 hr => ?_)
    refine mb_cSi (pc := 67) (As := [.ref a1, .int i5, .int x3]) (rest := [.ref a0]) dX12_drawsOf_67 cw_X12_335  hr (fun v hv => X12_placeOf_ok hz (by omega)  hv) rfl (Nat.le_of_ble_eq_true rfl) (Nat.zero_le _) (Nat.zero_le _) (fun r4 hr => ?_)
    refine mg_goto (pc := 70) 74 dX12_drawsOf_70 rfl ?_
    exact mg_weak (mm_le_s (mm_le_s (mm_le_n (mm_le_n (mm_le_n (mm_le_s mm_le_0)))))) (X12_drawsOf_b74_ok hz hd h0 hr)
def X12_drawsOf (e : mm_E) (a0 : Nat) (a1 : Nat) (i2 : Int32) (i3 : Int32) (i4 : Int32) (m : mm_V) : Option mm_V := (mm_ai e.1 m 20 a1 (0 : Int32)).bind fun x1 => (mm_si e.1 m a1 ((8 : Int32) + x1) i3).bind fun m2 => (X12_card e a1 i2 i3 m2).bind fun r3 => (mm_pf e.1 r3.2 12 75 a0 45 (.int r3.1)).bind fun m4 => (mm_pz e.1 m4 12 75 a0 47 (0 : Int32)).bind fun m5 => (mm_pf e.1 m5 12 75 a0 46 (.int (-1 : Int32))).bind fun m6 => (mm_gi e.1 m6 12 75 a0 45).bind fun x7 => if 0 < x7 then (X12_drawsOf_b45 e a0 a1 i2 i3 x1  m6) else (if ¬ i4 = 0 then (X12_drawsOf_b144 e a0 a1 x1  m6) else (X12_drawsOf_b45 e a0 a1 i2 i3 x1  m6))
theorem X12_drawsOf_ok {K : mm_K} {nx : Option Nat} {e : mm_E} (hz : e.2.1 = K.2.2.2.2) {d : Nat} (hd : 4 ≤ d) {a0 : Nat} {a1 : Nat} {i2 : Int32} {i3 : Int32} {i4 : Int32} (h0 : e.1 a0 = some (12, 75)) {m : mm_V} {r : mm_V} (hr : X12_drawsOf e a0 a1 i2 i3 i4 m = some r) : mm_Cn K MX12_drawsOf d (mm_Fv e.1 nx r) [.ref a0, .ref a1, .int i2, .int i3, .int i4] (e.1, m) nx := by
  obtain ⟨d, rfl⟩ : ∃ d', d = d' + 1 := ⟨d - 1, by omega⟩
  refine mm_entry (by decide) (Nat.le_of_ble_eq_true rfl) rfl (fun hok => ?_)
  unfold X12_drawsOf at hr
  refine mg_weak (L' := [some (.ref a0), some (.ref a1), some (.int i2), some (.int i3), some (.int i4), none]) (mm_le_s (mm_le_s (mm_le_s (mm_le_s (mm_le_s (mm_le_e mm_le_0)))))) ?_
  refine ml_aload_n (pc := 0) dX12_drawsOf_0 rfl (mm_get_s mm_get_0) ?_
  refine mg_iconst (pc := 1) dX12_drawsOf_1 kc_0 ?_
  refine mb_ai (pc := 2) dX12_drawsOf_2 hr (fun x1 hr => ?_)
  refine ml_istore (pc := 3) dX12_drawsOf_3 (Nat.le_of_ble_eq_true rfl) (mm_st1_s (mm_st1_s (mm_st1_s (mm_st1_s mm_st1_i)))) ?_
  refine ml_aload_n (pc := 5) dX12_drawsOf_5 rfl (mm_get_s mm_get_0) ?_
  refine mg_bipush (pc := 6) dX12_drawsOf_6 kb_8 ?_
  refine ml_iload (pc := 8) dX12_drawsOf_8 (mm_get_s (mm_get_s (mm_get_s (mm_get_s (mm_get_s mm_get_0))))) ?_
  refine mg_iadd (pc := 10) dX12_drawsOf_10 ?_
  refine ml_iload_n (pc := 11) dX12_drawsOf_11 rfl (mm_get_s (mm_get_s (mm_get_s mm_get_0))) ?_
  refine mb_si (pc := 12) dX12_drawsOf_12 hr (fun m2 hr => ?_)
  refine ml_aload_n (pc := 13) dX12_drawsOf_13 rfl mm_get_0 ?_
  refine ml_aload_n (pc := 14) dX12_drawsOf_14 rfl (mm_get_s mm_get_0) ?_
  refine ml_iload_n (pc := 15) dX12_drawsOf_15 rfl (mm_get_s (mm_get_s mm_get_0)) ?_
  refine ml_iload_n (pc := 16) dX12_drawsOf_16 rfl (mm_get_s (mm_get_s (mm_get_s mm_get_0))) ?_
  refine mb_cSi (pc := 17) (As := [.ref a1, .int i2, .int i3]) (rest := [.ref a0]) dX12_drawsOf_17 cw_X12_331  hr (fun v hv => X12_card_ok hz (by omega)  hv) rfl (Nat.le_of_ble_eq_true rfl) (Nat.zero_le _) (Nat.zero_le _) (fun r3 hr => ?_)
  refine mb_pi (pc := 20) dX12_drawsOf_20 fp_X12_400 hr (fun m4 hr => ?_)
  refine ml_aload_n (pc := 23) dX12_drawsOf_23 rfl mm_get_0 ?_
  refine mg_iconst (pc := 24) dX12_drawsOf_24 kc_0 ?_
  refine mb_pz (pc := 25) dX12_drawsOf_25 fp_X12_403 hr (fun m5 hr => ?_)
  refine ml_aload_n (pc := 28) dX12_drawsOf_28 rfl mm_get_0 ?_
  refine mg_iconst (pc := 29) dX12_drawsOf_29 kc_m1 ?_
  refine mb_pi (pc := 30) dX12_drawsOf_30 fp_X12_406 hr (fun m6 hr => ?_)
  refine ml_aload_n (pc := 33) dX12_drawsOf_33 rfl mm_get_0 ?_
  refine mb_gi (pc := 34) dX12_drawsOf_34 fl_X12_400 hr (fun x7 hr => ?_)
  refine mb_if_gt (pc := 37) 45 dX12_drawsOf_37 rfl hr (fun hr => ?_) (fun hr => ?_)
  · exact mg_weak (mm_le_s (mm_le_s (mm_le_s (mm_le_s (mm_le_n (mm_le_s mm_le_0)))))) (X12_drawsOf_b45_ok hz hd h0 hr)
  · refine ml_iload (pc := 40) dX12_drawsOf_40 (mm_get_s (mm_get_s (mm_get_s (mm_get_s mm_get_0)))) ?_
    refine mb_if_ne (pc := 42) 144 dX12_drawsOf_42 rfl hr (fun hr => ?_) (fun hr => ?_)
    · exact mg_weak (mm_le_s (mm_le_s (mm_le_n (mm_le_n (mm_le_n (mm_le_s mm_le_0)))))) (X12_drawsOf_b144_ok hz hd h0 hr)
    · exact mg_weak (mm_le_s (mm_le_s (mm_le_s (mm_le_s (mm_le_n (mm_le_s mm_le_0)))))) (X12_drawsOf_b45_ok hz hd h0 hr)
theorem dX12_drawsByRule_0 : decode cX12_drawsByRule 0 = .ok (.aload_n 0, 1) := by decide +kernel
theorem dX12_drawsByRule_1 : decode cX12_drawsByRule 1 = .ok (.aload_n 1, 1) := by decide +kernel
theorem dX12_drawsByRule_2 : decode cX12_drawsByRule 2 = .ok (.aload_n 1, 1) := by decide +kernel
theorem dX12_drawsByRule_3 : decode cX12_drawsByRule 3 = .ok (.iconst 0, 1) := by decide +kernel
theorem dX12_drawsByRule_4 : decode cX12_drawsByRule 4 = .ok (.iaload, 1) := by decide +kernel
theorem dX12_drawsByRule_5 : decode cX12_drawsByRule 5 = .ok (.invokevirtual 342, 3) := by decide +kernel
theorem dX12_drawsByRule_8 : decode cX12_drawsByRule 8 = .ok (.istore_n 2, 1) := by decide +kernel
theorem dX12_drawsByRule_9 : decode cX12_drawsByRule 9 = .ok (.aload_n 0, 1) := by decide +kernel
theorem dX12_drawsByRule_10 : decode cX12_drawsByRule 10 = .ok (.aload_n 1, 1) := by decide +kernel
theorem dX12_drawsByRule_11 : decode cX12_drawsByRule 11 = .ok (.iload_n 2, 1) := by decide +kernel
theorem dX12_drawsByRule_12 : decode cX12_drawsByRule 12 = .ok (.aload_n 0, 1) := by decide +kernel
theorem dX12_drawsByRule_13 : decode cX12_drawsByRule 13 = .ok (.aload_n 1, 1) := by decide +kernel
theorem dX12_drawsByRule_14 : decode cX12_drawsByRule 14 = .ok (.aload_n 1, 1) := by decide +kernel
theorem dX12_drawsByRule_15 : decode cX12_drawsByRule 15 = .ok (.iconst 0, 1) := by decide +kernel
theorem dX12_drawsByRule_16 : decode cX12_drawsByRule 16 = .ok (.iaload, 1) := by decide +kernel
theorem dX12_drawsByRule_17 : decode cX12_drawsByRule 17 = .ok (.iload_n 2, 1) := by decide +kernel
theorem dX12_drawsByRule_18 : decode cX12_drawsByRule 18 = .ok (.invokevirtual 397, 3) := by decide +kernel
theorem dX12_drawsByRule_21 : decode cX12_drawsByRule 21 = .ok (.iconst 0, 1) := by decide +kernel
theorem dX12_drawsByRule_22 : decode cX12_drawsByRule 22 = .ok (.invokevirtual 412, 3) := by decide +kernel
theorem dX12_drawsByRule_25 : decode cX12_drawsByRule 25 = .ok (.return_, 1) := by decide +kernel
def X12_drawsByRule (e : mm_E) (a0 : Nat) (a1 : Nat) (m : mm_V) : Option mm_V := (mm_ai e.1 m 20 a1 (0 : Int32)).bind fun x1 => (X12_nextOf e a0 a1 x1 m).bind fun r2 => (mm_ai e.1 r2.2 20 a1 (0 : Int32)).bind fun x3 => (X12_drawsAt e a0 a1 x3 r2.1 r2.2).bind fun r4 => (X12_drawsOf e a0 a1 r2.1 r4.1 (0 : Int32) r4.2).bind fun r5 => some r5
theorem X12_drawsByRule_ok {K : mm_K} {nx : Option Nat} {e : mm_E} (hz : e.2.1 = K.2.2.2.2) {d : Nat} (hd : 5 ≤ d) {a0 : Nat} {a1 : Nat} (h0 : e.1 a0 = some (12, 75)) {m : mm_V} {r : mm_V} (hr : X12_drawsByRule e a0 a1 m = some r) : mm_Cn K MX12_drawsByRule d (mm_Fv e.1 nx r) [.ref a0, .ref a1] (e.1, m) nx := by
  obtain ⟨d, rfl⟩ : ∃ d', d = d' + 1 := ⟨d - 1, by omega⟩
  refine mm_entry (by decide) (Nat.le_of_ble_eq_true rfl) rfl (fun hok => ?_)
  unfold X12_drawsByRule at hr
  refine mg_weak (L' := [some (.ref a0), some (.ref a1), none]) (mm_le_s (mm_le_s (mm_le_e mm_le_0))) ?_
  refine ml_aload_n (pc := 0) dX12_drawsByRule_0 rfl mm_get_0 ?_
  refine ml_aload_n (pc := 1) dX12_drawsByRule_1 rfl (mm_get_s mm_get_0) ?_
  refine ml_aload_n (pc := 2) dX12_drawsByRule_2 rfl (mm_get_s mm_get_0) ?_
  refine mg_iconst (pc := 3) dX12_drawsByRule_3 kc_0 ?_
  refine mb_ai (pc := 4) dX12_drawsByRule_4 hr (fun x1 hr => ?_)
  refine mb_cVi (pc := 5) (As := [.ref a1, .int x1]) (rest := []) dX12_drawsByRule_5 cw_X12_342 h0 hr (fun v hv => X12_nextOf_ok hz (by omega) h0 hv) rfl (Nat.le_of_ble_eq_true rfl) (Nat.zero_le _) (Nat.zero_le _) (fun r2 hr => ?_)
  refine ml_istore_n (pc := 8) dX12_drawsByRule_8 rfl (Nat.le_of_ble_eq_true rfl) (mm_st1_s mm_st1_r) ?_
  refine ml_aload_n (pc := 9) dX12_drawsByRule_9 rfl mm_get_0 ?_
  refine ml_aload_n (pc := 10) dX12_drawsByRule_10 rfl (mm_get_s mm_get_0) ?_
  refine ml_iload_n (pc := 11) dX12_drawsByRule_11 rfl (mm_get_s (mm_get_s mm_get_0)) ?_
  refine ml_aload_n (pc := 12) dX12_drawsByRule_12 rfl mm_get_0 ?_
  refine ml_aload_n (pc := 13) dX12_drawsByRule_13 rfl (mm_get_s mm_get_0) ?_
  refine ml_aload_n (pc := 14) dX12_drawsByRule_14 rfl (mm_get_s mm_get_0) ?_
  refine mg_iconst (pc := 15) dX12_drawsByRule_15 kc_0 ?_
  refine mb_ai (pc := 16) dX12_drawsByRule_16 hr (fun x3 hr => ?_)
  refine ml_iload_n (pc := 17) dX12_drawsByRule_17 rfl (mm_get_s (mm_get_s mm_get_0)) ?_
  refine mb_cVi (pc := 18) (As := [.ref a1, .int x3, .int r2.1]) (rest := [.int r2.1, .ref a1, .ref a0]) dX12_drawsByRule_18 cw_X12_397 h0 hr (fun v hv => X12_drawsAt_ok hz (by omega) h0 hv) rfl (Nat.le_of_ble_eq_true rfl) (Nat.zero_le _) (Nat.zero_le _) (fun r4 hr => ?_)
  refine mg_iconst (pc := 21) dX12_drawsByRule_21 kc_0 ?_
  refine mb_cVv (pc := 22) (As := [.ref a1, .int r2.1, .int r4.1, .int (0 : Int32)]) (rest := []) dX12_drawsByRule_22 cw_X12_412 h0 hr (fun v hv => X12_drawsOf_ok hz (by omega) h0 hv) rfl (Nat.le_of_ble_eq_true rfl) (Nat.zero_le _) (Nat.zero_le _) (fun r5 hr => ?_)
  exact mb_vret dX12_drawsByRule_25 rfl hr
theorem dX12_did_0 : decode cX12_did 0 = .ok (.aload_n 0, 1) := by decide +kernel
theorem dX12_did_1 : decode cX12_did 1 = .ok (.getfield 75, 3) := by decide +kernel
theorem dX12_did_4 : decode cX12_did 4 = .ok (.bipush 9, 2) := by decide +kernel
theorem dX12_did_6 : decode cX12_did 6 = .ok (.iload_n 1, 1) := by decide +kernel
theorem dX12_did_7 : decode cX12_did 7 = .ok (.imul, 1) := by decide +kernel
theorem dX12_did_8 : decode cX12_did 8 = .ok (.iload_n 2, 1) := by decide +kernel
theorem dX12_did_9 : decode cX12_did 9 = .ok (.iadd, 1) := by decide +kernel
theorem dX12_did_10 : decode cX12_did 10 = .ok (.iaload, 1) := by decide +kernel
theorem dX12_did_11 : decode cX12_did 11 = .ok (.ireturn, 1) := by decide +kernel
def X12_did (e : mm_E) (a0 : Nat) (i1 : Int32) (i2 : Int32) (m : mm_V) : Option (Int32 × mm_V) := (mm_gr e.1 m 12 75 a0 49).bind fun c1 => (mm_ai e.1 m 20 c1 (((9 : Int32) * i1) + i2)).bind fun x2 => some (x2, m)
theorem X12_did_ok {K : mm_K} {nx : Option Nat} {e : mm_E} (hz : e.2.1 = K.2.2.2.2) {d : Nat} (hd : 0 ≤ d) {a0 : Nat} {i1 : Int32} {i2 : Int32} (h0 : e.1 a0 = some (12, 75)) {m : mm_V} {r : (Int32 × mm_V)} (hr : X12_did e a0 i1 i2 m = some r) : mm_Cn K MX12_did d (mm_Fi e.1 nx r) [.ref a0, .int i1, .int i2] (e.1, m) nx := by
  refine mm_entry (by decide) (Nat.le_of_ble_eq_true rfl) rfl (fun hok => ?_)
  unfold X12_did at hr
  refine mg_weak (L' := [some (.ref a0), some (.int i1), some (.int i2)]) (mm_le_s (mm_le_s (mm_le_s mm_le_0))) ?_
  refine ml_aload_n (pc := 0) dX12_did_0 rfl mm_get_0 ?_
  refine mb_gr (pc := 1) dX12_did_1 fl_X12_75 hr (fun c1 hr => ?_)
  refine mg_bipush (pc := 4) dX12_did_4 kb_9 ?_
  refine ml_iload_n (pc := 6) dX12_did_6 rfl (mm_get_s mm_get_0) ?_
  refine mg_imul (pc := 7) dX12_did_7 ?_
  refine ml_iload_n (pc := 8) dX12_did_8 rfl (mm_get_s (mm_get_s mm_get_0)) ?_
  refine mg_iadd (pc := 9) dX12_did_9 ?_
  refine mb_ai (pc := 10) dX12_did_10 hr (fun x2 hr => ?_)
  exact mb_iret dX12_did_11 rfl hr
theorem dX12_drawsNow_0 : decode cX12_drawsNow 0 = .ok (.aload_n 0, 1) := by decide +kernel
theorem dX12_drawsNow_1 : decode cX12_drawsNow 1 = .ok (.getfield 365, 3) := by decide +kernel
theorem dX12_drawsNow_4 : decode cX12_drawsNow 4 = .ok (.bipush 60, 2) := by decide +kernel
theorem dX12_drawsNow_6 : decode cX12_drawsNow 6 = .ok (.if_icmp .ne 44, 3) := by decide +kernel
theorem dX12_drawsNow_9 : decode cX12_drawsNow 9 = .ok (.bipush 9, 2) := by decide +kernel
theorem dX12_drawsNow_11 : decode cX12_drawsNow 11 = .ok (.istore_n 2, 1) := by decide +kernel
theorem dX12_drawsNow_12 : decode cX12_drawsNow 12 = .ok (.iload_n 2, 1) := by decide +kernel
theorem dX12_drawsNow_13 : decode cX12_drawsNow 13 = .ok (.sipush 540, 3) := by decide +kernel
theorem dX12_drawsNow_16 : decode cX12_drawsNow 16 = .ok (.if_icmp .ge 24, 3) := by decide +kernel
theorem dX12_drawsNow_19 : decode cX12_drawsNow 19 = .ok (.aload_n 0, 1) := by decide +kernel
theorem dX12_drawsNow_20 : decode cX12_drawsNow 20 = .ok (.getfield 75, 3) := by decide +kernel
theorem dX12_drawsNow_23 : decode cX12_drawsNow 23 = .ok (.iload_n 2, 1) := by decide +kernel
theorem dX12_drawsNow_24 : decode cX12_drawsNow 24 = .ok (.bipush 9, 2) := by decide +kernel
theorem dX12_drawsNow_26 : decode cX12_drawsNow 26 = .ok (.isub, 1) := by decide +kernel
theorem dX12_drawsNow_27 : decode cX12_drawsNow 27 = .ok (.aload_n 0, 1) := by decide +kernel
theorem dX12_drawsNow_28 : decode cX12_drawsNow 28 = .ok (.getfield 75, 3) := by decide +kernel
theorem dX12_drawsNow_31 : decode cX12_drawsNow 31 = .ok (.iload_n 2, 1) := by decide +kernel
theorem dX12_drawsNow_32 : decode cX12_drawsNow 32 = .ok (.iaload, 1) := by decide +kernel
theorem dX12_drawsNow_33 : decode cX12_drawsNow 33 = .ok (.iastore, 1) := by decide +kernel
theorem dX12_drawsNow_34 : decode cX12_drawsNow 34 = .ok (.iinc 2 1, 3) := by decide +kernel
theorem dX12_drawsNow_37 : decode cX12_drawsNow 37 = .ok (.goto (-25), 3) := by decide +kernel
theorem dX12_drawsNow_40 : decode cX12_drawsNow 40 = .ok (.aload_n 0, 1) := by decide +kernel
theorem dX12_drawsNow_41 : decode cX12_drawsNow 41 = .ok (.dup, 1) := by decide +kernel
theorem dX12_drawsNow_42 : decode cX12_drawsNow 42 = .ok (.getfield 365, 3) := by decide +kernel
theorem dX12_drawsNow_45 : decode cX12_drawsNow 45 = .ok (.iconst 1, 1) := by decide +kernel
theorem dX12_drawsNow_46 : decode cX12_drawsNow 46 = .ok (.isub, 1) := by decide +kernel
theorem dX12_drawsNow_47 : decode cX12_drawsNow 47 = .ok (.putfield 365, 3) := by decide +kernel
theorem dX12_drawsNow_50 : decode cX12_drawsNow 50 = .ok (.bipush 9, 2) := by decide +kernel
theorem dX12_drawsNow_52 : decode cX12_drawsNow 52 = .ok (.aload_n 0, 1) := by decide +kernel
theorem dX12_drawsNow_53 : decode cX12_drawsNow 53 = .ok (.getfield 365, 3) := by decide +kernel
theorem dX12_drawsNow_56 : decode cX12_drawsNow 56 = .ok (.imul, 1) := by decide +kernel
theorem dX12_drawsNow_57 : decode cX12_drawsNow 57 = .ok (.istore_n 2, 1) := by decide +kernel
theorem dX12_drawsNow_58 : decode cX12_drawsNow 58 = .ok (.aload_n 0, 1) := by decide +kernel
theorem dX12_drawsNow_59 : decode cX12_drawsNow 59 = .ok (.getfield 60, 3) := by decide +kernel
theorem dX12_drawsNow_62 : decode cX12_drawsNow 62 = .ok (.iconst 0, 1) := by decide +kernel
theorem dX12_drawsNow_63 : decode cX12_drawsNow 63 = .ok (.iaload, 1) := by decide +kernel
theorem dX12_drawsNow_64 : decode cX12_drawsNow 64 = .ok (.istore_n 3, 1) := by decide +kernel
theorem dX12_drawsNow_65 : decode cX12_drawsNow 65 = .ok (.aload_n 0, 1) := by decide +kernel
theorem dX12_drawsNow_66 : decode cX12_drawsNow 66 = .ok (.aload_n 0, 1) := by decide +kernel
theorem dX12_drawsNow_67 : decode cX12_drawsNow 67 = .ok (.getfield 60, 3) := by decide +kernel
theorem dX12_drawsNow_70 : decode cX12_drawsNow 70 = .ok (.iload_n 3, 1) := by decide +kernel
theorem dX12_drawsNow_71 : decode cX12_drawsNow 71 = .ok (.invokevirtual 342, 3) := by decide +kernel
theorem dX12_drawsNow_74 : decode cX12_drawsNow 74 = .ok (.istore 4, 2) := by decide +kernel
theorem dX12_drawsNow_76 : decode cX12_drawsNow 76 = .ok (.aload_n 0, 1) := by decide +kernel
theorem dX12_drawsNow_77 : decode cX12_drawsNow 77 = .ok (.getfield 75, 3) := by decide +kernel
theorem dX12_drawsNow_80 : decode cX12_drawsNow 80 = .ok (.iload_n 2, 1) := by decide +kernel
theorem dX12_drawsNow_81 : decode cX12_drawsNow 81 = .ok (.iload_n 3, 1) := by decide +kernel
theorem dX12_drawsNow_82 : decode cX12_drawsNow 82 = .ok (.iastore, 1) := by decide +kernel
theorem dX12_drawsNow_83 : decode cX12_drawsNow 83 = .ok (.aload_n 0, 1) := by decide +kernel
theorem dX12_drawsNow_84 : decode cX12_drawsNow 84 = .ok (.getfield 75, 3) := by decide +kernel
theorem dX12_drawsNow_87 : decode cX12_drawsNow 87 = .ok (.iload_n 2, 1) := by decide +kernel
theorem dX12_drawsNow_88 : decode cX12_drawsNow 88 = .ok (.iconst 1, 1) := by decide +kernel
theorem dX12_drawsNow_89 : decode cX12_drawsNow 89 = .ok (.iadd, 1) := by decide +kernel
theorem dX12_drawsNow_90 : decode cX12_drawsNow 90 = .ok (.iload 4, 2) := by decide +kernel
theorem dX12_drawsNow_92 : decode cX12_drawsNow 92 = .ok (.iastore, 1) := by decide +kernel
theorem dX12_drawsNow_93 : decode cX12_drawsNow 93 = .ok (.aload_n 0, 1) := by decide +kernel
theorem dX12_drawsNow_94 : decode cX12_drawsNow 94 = .ok (.getfield 75, 3) := by decide +kernel
theorem dX12_drawsNow_97 : decode cX12_drawsNow 97 = .ok (.iload_n 2, 1) := by decide +kernel
theorem dX12_drawsNow_98 : decode cX12_drawsNow 98 = .ok (.iconst 2, 1) := by decide +kernel
theorem dX12_drawsNow_99 : decode cX12_drawsNow 99 = .ok (.iadd, 1) := by decide +kernel
theorem dX12_drawsNow_100 : decode cX12_drawsNow 100 = .ok (.iload_n 1, 1) := by decide +kernel
theorem dX12_drawsNow_101 : decode cX12_drawsNow 101 = .ok (.iastore, 1) := by decide +kernel
theorem dX12_drawsNow_102 : decode cX12_drawsNow 102 = .ok (.aload_n 0, 1) := by decide +kernel
theorem dX12_drawsNow_103 : decode cX12_drawsNow 103 = .ok (.getfield 75, 3) := by decide +kernel
theorem dX12_drawsNow_106 : decode cX12_drawsNow 106 = .ok (.iload_n 2, 1) := by decide +kernel
theorem dX12_drawsNow_107 : decode cX12_drawsNow 107 = .ok (.bipush 6, 2) := by decide +kernel
theorem dX12_drawsNow_109 : decode cX12_drawsNow 109 = .ok (.iadd, 1) := by decide +kernel
theorem dX12_drawsNow_110 : decode cX12_drawsNow 110 = .ok (.aload_n 0, 1) := by decide +kernel
theorem dX12_drawsNow_111 : decode cX12_drawsNow 111 = .ok (.getfield 60, 3) := by decide +kernel
theorem dX12_drawsNow_114 : decode cX12_drawsNow 114 = .ok (.bipush 8, 2) := by decide +kernel
theorem dX12_drawsNow_116 : decode cX12_drawsNow 116 = .ok (.iload_n 3, 1) := by decide +kernel
theorem dX12_drawsNow_117 : decode cX12_drawsNow 117 = .ok (.iadd, 1) := by decide +kernel
theorem dX12_drawsNow_118 : decode cX12_drawsNow 118 = .ok (.iaload, 1) := by decide +kernel
theorem dX12_drawsNow_119 : decode cX12_drawsNow 119 = .ok (.iastore, 1) := by decide +kernel
theorem dX12_drawsNow_120 : decode cX12_drawsNow 120 = .ok (.aload_n 0, 1) := by decide +kernel
theorem dX12_drawsNow_121 : decode cX12_drawsNow 121 = .ok (.getfield 75, 3) := by decide +kernel
theorem dX12_drawsNow_124 : decode cX12_drawsNow 124 = .ok (.iload_n 2, 1) := by decide +kernel
theorem dX12_drawsNow_125 : decode cX12_drawsNow 125 = .ok (.bipush 7, 2) := by decide +kernel
theorem dX12_drawsNow_127 : decode cX12_drawsNow 127 = .ok (.iadd, 1) := by decide +kernel
theorem dX12_drawsNow_128 : decode cX12_drawsNow 128 = .ok (.aload_n 0, 1) := by decide +kernel
theorem dX12_drawsNow_129 : decode cX12_drawsNow 129 = .ok (.getfield 60, 3) := by decide +kernel
theorem dX12_drawsNow_132 : decode cX12_drawsNow 132 = .ok (.iload 4, 2) := by decide +kernel
theorem dX12_drawsNow_134 : decode cX12_drawsNow 134 = .ok (.invokestatic 327, 3) := by decide +kernel
theorem dX12_drawsNow_137 : decode cX12_drawsNow 137 = .ok (.iastore, 1) := by decide +kernel
theorem dX12_drawsNow_138 : decode cX12_drawsNow 138 = .ok (.aload_n 0, 1) := by decide +kernel
theorem dX12_drawsNow_139 : decode cX12_drawsNow 139 = .ok (.getfield 75, 3) := by decide +kernel
theorem dX12_drawsNow_142 : decode cX12_drawsNow 142 = .ok (.iload_n 2, 1) := by decide +kernel
theorem dX12_drawsNow_143 : decode cX12_drawsNow 143 = .ok (.bipush 8, 2) := by decide +kernel
theorem dX12_drawsNow_145 : decode cX12_drawsNow 145 = .ok (.iadd, 1) := by decide +kernel
theorem dX12_drawsNow_146 : decode cX12_drawsNow 146 = .ok (.aload_n 0, 1) := by decide +kernel
theorem dX12_drawsNow_147 : decode cX12_drawsNow 147 = .ok (.getfield 60, 3) := by decide +kernel
theorem dX12_drawsNow_150 : decode cX12_drawsNow 150 = .ok (.iload 4, 2) := by decide +kernel
theorem dX12_drawsNow_152 : decode cX12_drawsNow 152 = .ok (.iconst 0, 1) := by decide +kernel
theorem dX12_drawsNow_153 : decode cX12_drawsNow 153 = .ok (.invokestatic 335, 3) := by decide +kernel
theorem dX12_drawsNow_156 : decode cX12_drawsNow 156 = .ok (.iconst (-1), 1) := by decide +kernel
theorem dX12_drawsNow_157 : decode cX12_drawsNow 157 = .ok (.if_icmp .eq 7, 3) := by decide +kernel
theorem dX12_drawsNow_160 : decode cX12_drawsNow 160 = .ok (.iconst 1, 1) := by decide +kernel
theorem dX12_drawsNow_161 : decode cX12_drawsNow 161 = .ok (.goto 4, 3) := by decide +kernel
theorem dX12_drawsNow_164 : decode cX12_drawsNow 164 = .ok (.iconst 0, 1) := by decide +kernel
theorem dX12_drawsNow_165 : decode cX12_drawsNow 165 = .ok (.iastore, 1) := by decide +kernel
theorem dX12_drawsNow_166 : decode cX12_drawsNow 166 = .ok (.aload_n 0, 1) := by decide +kernel
theorem dX12_drawsNow_167 : decode cX12_drawsNow 167 = .ok (.aload_n 0, 1) := by decide +kernel
theorem dX12_drawsNow_168 : decode cX12_drawsNow 168 = .ok (.getfield 60, 3) := by decide +kernel
theorem dX12_drawsNow_171 : decode cX12_drawsNow 171 = .ok (.iload 4, 2) := by decide +kernel
theorem dX12_drawsNow_173 : decode cX12_drawsNow 173 = .ok (.iload_n 1, 1) := by decide +kernel
theorem dX12_drawsNow_174 : decode cX12_drawsNow 174 = .ok (.iconst 0, 1) := by decide +kernel
theorem dX12_drawsNow_175 : decode cX12_drawsNow 175 = .ok (.invokevirtual 412, 3) := by decide +kernel
theorem dX12_drawsNow_178 : decode cX12_drawsNow 178 = .ok (.aload_n 0, 1) := by decide +kernel
theorem dX12_drawsNow_179 : decode cX12_drawsNow 179 = .ok (.getfield 75, 3) := by decide +kernel
theorem dX12_drawsNow_182 : decode cX12_drawsNow 182 = .ok (.iload_n 2, 1) := by decide +kernel
theorem dX12_drawsNow_183 : decode cX12_drawsNow 183 = .ok (.iconst 3, 1) := by decide +kernel
theorem dX12_drawsNow_184 : decode cX12_drawsNow 184 = .ok (.iadd, 1) := by decide +kernel
theorem dX12_drawsNow_185 : decode cX12_drawsNow 185 = .ok (.aload_n 0, 1) := by decide +kernel
theorem dX12_drawsNow_186 : decode cX12_drawsNow 186 = .ok (.getfield 400, 3) := by decide +kernel
theorem dX12_drawsNow_189 : decode cX12_drawsNow 189 = .ok (.iastore, 1) := by decide +kernel
theorem dX12_drawsNow_190 : decode cX12_drawsNow 190 = .ok (.aload_n 0, 1) := by decide +kernel
theorem dX12_drawsNow_191 : decode cX12_drawsNow 191 = .ok (.getfield 75, 3) := by decide +kernel
theorem dX12_drawsNow_194 : decode cX12_drawsNow 194 = .ok (.iload_n 2, 1) := by decide +kernel
theorem dX12_drawsNow_195 : decode cX12_drawsNow 195 = .ok (.iconst 4, 1) := by decide +kernel
theorem dX12_drawsNow_196 : decode cX12_drawsNow 196 = .ok (.iadd, 1) := by decide +kernel
theorem dX12_drawsNow_197 : decode cX12_drawsNow 197 = .ok (.aload_n 0, 1) := by decide +kernel
theorem dX12_drawsNow_198 : decode cX12_drawsNow 198 = .ok (.getfield 403, 3) := by decide +kernel
theorem dX12_drawsNow_201 : decode cX12_drawsNow 201 = .ok (.ifCond .eq 7, 3) := by decide +kernel
theorem dX12_drawsNow_204 : decode cX12_drawsNow 204 = .ok (.iconst 1, 1) := by decide +kernel
theorem dX12_drawsNow_205 : decode cX12_drawsNow 205 = .ok (.goto 4, 3) := by decide +kernel
theorem dX12_drawsNow_208 : decode cX12_drawsNow 208 = .ok (.iconst 0, 1) := by decide +kernel
theorem dX12_drawsNow_209 : decode cX12_drawsNow 209 = .ok (.iastore, 1) := by decide +kernel
theorem dX12_drawsNow_210 : decode cX12_drawsNow 210 = .ok (.aload_n 0, 1) := by decide +kernel
theorem dX12_drawsNow_211 : decode cX12_drawsNow 211 = .ok (.getfield 75, 3) := by decide +kernel
theorem dX12_drawsNow_214 : decode cX12_drawsNow 214 = .ok (.iload_n 2, 1) := by decide +kernel
theorem dX12_drawsNow_215 : decode cX12_drawsNow 215 = .ok (.iconst 5, 1) := by decide +kernel
theorem dX12_drawsNow_216 : decode cX12_drawsNow 216 = .ok (.iadd, 1) := by decide +kernel
theorem dX12_drawsNow_217 : decode cX12_drawsNow 217 = .ok (.aload_n 0, 1) := by decide +kernel
theorem dX12_drawsNow_218 : decode cX12_drawsNow 218 = .ok (.getfield 406, 3) := by decide +kernel
theorem dX12_drawsNow_221 : decode cX12_drawsNow 221 = .ok (.iastore, 1) := by decide +kernel
theorem dX12_drawsNow_222 : decode cX12_drawsNow 222 = .ok (.aload_n 0, 1) := by decide +kernel
theorem dX12_drawsNow_223 : decode cX12_drawsNow 223 = .ok (.dup, 1) := by decide +kernel
theorem dX12_drawsNow_224 : decode cX12_drawsNow 224 = .ok (.getfield 365, 3) := by decide +kernel
theorem dX12_drawsNow_227 : decode cX12_drawsNow 227 = .ok (.iconst 1, 1) := by decide +kernel
theorem dX12_drawsNow_228 : decode cX12_drawsNow 228 = .ok (.iadd, 1) := by decide +kernel
theorem dX12_drawsNow_229 : decode cX12_drawsNow 229 = .ok (.putfield 365, 3) := by decide +kernel
theorem dX12_drawsNow_232 : decode cX12_drawsNow 232 = .ok (.return_, 1) := by decide +kernel
def X12_drawsNow_b209 (e : mm_E) (a0 : Nat) (i2 : Int32) (t0 : Nat) (t1 : Int32) (t2 : Int32) (m : mm_V) : Option mm_V := (mm_si e.1 m t0 t1 t2).bind fun m1 => (mm_gr e.1 m1 12 75 a0 49).bind fun c2 => (mm_gi e.1 m1 12 75 a0 46).bind fun x3 => (mm_si e.1 m1 c2 (i2 + (5 : Int32)) x3).bind fun m4 => (mm_gi e.1 m4 12 75 a0 48).bind fun x5 => (mm_pf e.1 m4 12 75 a0 48 (.int (x5 + (1 : Int32)))).bind fun m6 => some m6
theorem X12_drawsNow_b209_ok {K : mm_K} {nx : Option Nat} {e : mm_E} (hz : e.2.1 = K.2.2.2.2) {d : Nat} (hd : 5 ≤ d) {a0 : Nat} {i2 : Int32} {t0 : Nat} {t1 : Int32} {t2 : Int32} (h0 : e.1 a0 = some (12, 75)) {m : mm_V} {r : mm_V} (hr : X12_drawsNow_b209 e a0 i2 t0 t1 t2 m = some r) : mm_G K MX12_drawsNow d (mm_Fv e.1 nx r) 209 [some (.ref a0), none, some (.int i2), none, none] [.int t2, .int t1, .ref t0] (e.1, m) nx 0 0 := by
  obtain ⟨d, rfl⟩ : ∃ d', d = d' + 1 := ⟨d - 1, by omega⟩
  unfold X12_drawsNow_b209 at hr
  refine mb_si (pc := 209) dX12_drawsNow_209 hr (fun m1 hr => ?_)
  refine ml_aload_n (pc := 210) dX12_drawsNow_210 rfl mm_get_0 ?_
  refine mb_gr (pc := 211) dX12_drawsNow_211 fl_X12_75 hr (fun c2 hr => ?_)
  refine ml_iload_n (pc := 214) dX12_drawsNow_214 rfl (mm_get_s (mm_get_s mm_get_0)) ?_
  refine mg_iconst (pc := 215) dX12_drawsNow_215 kc_5 ?_
  refine mg_iadd (pc := 216) dX12_drawsNow_216 ?_
  refine ml_aload_n (pc := 217) dX12_drawsNow_217 rfl mm_get_0 ?_
  refine mb_gi (pc := 218) dX12_drawsNow_218 fl_X12_406 hr (fun x3 hr => ?_)
  refine mb_si (pc := 221) dX12_drawsNow_221 hr (fun m4 hr => ?_)
  refine ml_aload_n (pc := 222) dX12_drawsNow_222 rfl mm_get_0 ?_
  refine mg_dup (pc := 223) dX12_drawsNow_223 rfl ?_
  refine mb_gi (pc := 224) dX12_drawsNow_224 fl_X12_365 hr (fun x5 hr => ?_)
  refine mg_iconst (pc := 227) dX12_drawsNow_227 kc_1 ?_
  refine mg_iadd (pc := 228) dX12_drawsNow_228 ?_
  refine mb_pi (pc := 229) dX12_drawsNow_229 fp_X12_365 hr (fun m6 hr => ?_)
  exact mb_vret dX12_drawsNow_232 rfl hr
def X12_drawsNow_b165 (e : mm_E) (a0 : Nat) (i1 : Int32) (i2 : Int32) (i4 : Int32) (t0 : Nat) (t1 : Int32) (t2 : Int32) (m : mm_V) : Option mm_V := (mm_si e.1 m t0 t1 t2).bind fun m1 => (mm_gr e.1 m1 12 75 a0 39).bind fun c2 => (X12_drawsOf e a0 c2 i4 i1 (0 : Int32) m1).bind fun r3 => (mm_gr e.1 r3 12 75 a0 49).bind fun c4 => (mm_gi e.1 r3 12 75 a0 45).bind fun x5 => (mm_si e.1 r3 c4 (i2 + (3 : Int32)) x5).bind fun m6 => (mm_gr e.1 m6 12 75 a0 49).bind fun c7 => (mm_gi e.1 m6 12 75 a0 47).bind fun x8 => if x8 = 0 then (X12_drawsNow_b209 e a0 i2 c7 (i2 + (4 : Int32)) (0 : Int32) m6) else (X12_drawsNow_b209 e a0 i2 c7 (i2 + (4 : Int32)) (1 : Int32) m6)
theorem X12_drawsNow_b165_ok {K : mm_K} {nx : Option Nat} {e : mm_E} (hz : e.2.1 = K.2.2.2.2) {d : Nat} (hd : 5 ≤ d) {a0 : Nat} {i1 : Int32} {i2 : Int32} {i4 : Int32} {t0 : Nat} {t1 : Int32} {t2 : Int32} (h0 : e.1 a0 = some (12, 75)) {m : mm_V} {r : mm_V} (hr : X12_drawsNow_b165 e a0 i1 i2 i4 t0 t1 t2 m = some r) : mm_G K MX12_drawsNow d (mm_Fv e.1 nx r) 165 [some (.ref a0), some (.int i1), some (.int i2), none, some (.int i4)] [.int t2, .int t1, .ref t0] (e.1, m) nx 0 0 := by
  obtain ⟨d, rfl⟩ : ∃ d', d = d' + 1 := ⟨d - 1, by omega⟩
  unfold X12_drawsNow_b165 at hr
  refine mb_si (pc := 165) dX12_drawsNow_165 hr (fun m1 hr => ?_)
  refine ml_aload_n (pc := 166) dX12_drawsNow_166 rfl mm_get_0 ?_
  refine ml_aload_n (pc := 167) dX12_drawsNow_167 rfl mm_get_0 ?_
  refine mb_gr (pc := 168) dX12_drawsNow_168 fl_X12_60 hr (fun c2 hr => ?_)
  refine ml_iload (pc := 171) dX12_drawsNow_171 (mm_get_s (mm_get_s (mm_get_s (mm_get_s mm_get_0)))) ?_
  refine ml_iload_n (pc := 173) dX12_drawsNow_173 rfl (mm_get_s mm_get_0) ?_
  refine mg_iconst (pc := 174) dX12_drawsNow_174 kc_0 ?_
  refine mb_cVv (pc := 175) (As := [.ref c2, .int i4, .int i1, .int (0 : Int32)]) (rest := []) dX12_drawsNow_175 cw_X12_412 h0 hr (fun v hv => X12_drawsOf_ok hz (by omega) h0 hv) rfl (Nat.le_of_ble_eq_true rfl) (Nat.zero_le _) (Nat.zero_le _) (fun r3 hr => ?_)
  refine ml_aload_n (pc := 178) dX12_drawsNow_178 rfl mm_get_0 ?_
  refine mb_gr (pc := 179) dX12_drawsNow_179 fl_X12_75 hr (fun c4 hr => ?_)
  refine ml_iload_n (pc := 182) dX12_drawsNow_182 rfl (mm_get_s (mm_get_s mm_get_0)) ?_
  refine mg_iconst (pc := 183) dX12_drawsNow_183 kc_3 ?_
  refine mg_iadd (pc := 184) dX12_drawsNow_184 ?_
  refine ml_aload_n (pc := 185) dX12_drawsNow_185 rfl mm_get_0 ?_
  refine mb_gi (pc := 186) dX12_drawsNow_186 fl_X12_400 hr (fun x5 hr => ?_)
  refine mb_si (pc := 189) dX12_drawsNow_189 hr (fun m6 hr => ?_)
  refine ml_aload_n (pc := 190) dX12_drawsNow_190 rfl mm_get_0 ?_
  refine mb_gr (pc := 191) dX12_drawsNow_191 fl_X12_75 hr (fun c7 hr => ?_)
  refine ml_iload_n (pc := 194) dX12_drawsNow_194 rfl (mm_get_s (mm_get_s mm_get_0)) ?_
  refine mg_iconst (pc := 195) dX12_drawsNow_195 kc_4 ?_
  refine mg_iadd (pc := 196) dX12_drawsNow_196 ?_
  refine ml_aload_n (pc := 197) dX12_drawsNow_197 rfl mm_get_0 ?_
  refine mb_gi (pc := 198) dX12_drawsNow_198 fl_X12_403 hr (fun x8 hr => ?_)
  refine mb_if_eq (pc := 201) 208 dX12_drawsNow_201 rfl hr (fun hr => ?_) (fun hr => ?_)
  · refine mg_iconst (pc := 208) dX12_drawsNow_208 kc_0 ?_
    exact mg_weak (mm_le_s (mm_le_n (mm_le_s (mm_le_n (mm_le_n mm_le_0))))) (X12_drawsNow_b209_ok hz hd h0 hr)
  · refine mg_iconst (pc := 204) dX12_drawsNow_204 kc_1 ?_
    refine mg_goto (pc := 205) 209 dX12_drawsNow_205 rfl ?_
    exact mg_weak (mm_le_s (mm_le_n (mm_le_s (mm_le_n (mm_le_n mm_le_0))))) (X12_drawsNow_b209_ok hz hd h0 hr)
def X12_drawsNow_b50 (e : mm_E) (a0 : Nat) (i1 : Int32) (m : mm_V) : Option mm_V := (mm_gi e.1 m 12 75 a0 48).bind fun x1 => (mm_gr e.1 m 12 75 a0 39).bind fun c2 => (mm_ai e.1 m 20 c2 (0 : Int32)).bind fun x3 => (mm_gr e.1 m 12 75 a0 39).bind fun c4 => (X12_nextOf e a0 c4 x3 m).bind fun r5 => (mm_gr e.1 r5.2 12 75 a0 49).bind fun c6 => (mm_si e.1 r5.2 c6 ((9 : Int32) * x1) x3).bind fun m7 => (mm_gr e.1 m7 12 75 a0 49).bind fun c8 => (mm_si e.1 m7 c8 (((9 : Int32) * x1) + (1 : Int32)) r5.1).bind fun m9 => (mm_gr e.1 m9 12 75 a0 49).bind fun c10 => (mm_si e.1 m9 c10 (((9 : Int32) * x1) + (2 : Int32)) i1).bind fun m11 => (mm_gr e.1 m11 12 75 a0 49).bind fun c12 => (mm_gr e.1 m11 12 75 a0 39).bind fun c13 => (mm_ai e.1 m11 20 c13 ((8 : Int32) + x3)).bind fun x14 => (mm_si e.1 m11 c12 (((9 : Int32) * x1) + (6 : Int32)) x14).bind fun m15 => (mm_gr e.1 m15 12 75 a0 49).bind fun c16 => (mm_gr e.1 m15 12 75 a0 39).bind fun c17 => (X12_size e c17 r5.1 m15).bind fun r18 => (mm_si e.1 r18.2 c16 (((9 : Int32) * x1) + (7 : Int32)) r18.1).bind fun m19 => (mm_gr e.1 m19 12 75 a0 49).bind fun c20 => (mm_gr e.1 m19 12 75 a0 39).bind fun c21 => (X12_placeOf e c21 r5.1 (0 : Int32) m19).bind fun r22 => if r22.1 = (-1 : Int32) then (X12_drawsNow_b165 e a0 i1 ((9 : Int32) * x1) r5.1 c20 (((9 : Int32) * x1) + (8 : Int32)) (0 : Int32) r22.2) else (X12_drawsNow_b165 e a0 i1 ((9 : Int32) * x1) r5.1 c20 (((9 : Int32) * x1) + (8 : Int32)) (1 : Int32) r22.2)
theorem X12_drawsNow_b50_ok {K : mm_K} {nx : Option Nat} {e : mm_E} (hz : e.2.1 = K.2.2.2.2) {d : Nat} (hd : 5 ≤ d) {a0 : Nat} {i1 : Int32} (h0 : e.1 a0 = some (12, 75)) {m : mm_V} {r : mm_V} (hr : X12_drawsNow_b50 e a0 i1 m = some r) : mm_G K MX12_drawsNow d (mm_Fv e.1 nx r) 50 [some (.ref a0), some (.int i1), none, none, none] [] (e.1, m) nx 0 0 := by
  obtain ⟨d, rfl⟩ : ∃ d', d = d' + 1 := ⟨d - 1, by omega⟩
  unfold X12_drawsNow_b50 at hr
  refine mg_bipush (pc := 50) dX12_drawsNow_50 kb_9 ?_
  refine ml_aload_n (pc := 52) dX12_drawsNow_52 rfl mm_get_0 ?_
  refine mb_gi (pc := 53) dX12_drawsNow_53 fl_X12_365 hr (fun x1 hr => ?_)
  refine mg_imul (pc := 56) dX12_drawsNow_56 ?_
  refine ml_istore_n (pc := 57) dX12_drawsNow_57 rfl (Nat.le_of_ble_eq_true rfl) (mm_st1_s mm_st1_i) ?_
  refine ml_aload_n (pc := 58) dX12_drawsNow_58 rfl mm_get_0 ?_
  refine mb_gr (pc := 59) dX12_drawsNow_59 fl_X12_60 hr (fun c2 hr => ?_)
  refine mg_iconst (pc := 62) dX12_drawsNow_62 kc_0 ?_
  refine mb_ai (pc := 63) dX12_drawsNow_63 hr (fun x3 hr => ?_)
  refine ml_istore_n (pc := 64) dX12_drawsNow_64 rfl (Nat.le_of_ble_eq_true rfl) (mm_st1_s (mm_st1_s mm_st1_i)) ?_
  refine ml_aload_n (pc := 65) dX12_drawsNow_65 rfl mm_get_0 ?_
  refine ml_aload_n (pc := 66) dX12_drawsNow_66 rfl mm_get_0 ?_
  refine mb_gr (pc := 67) dX12_drawsNow_67 fl_X12_60 hr (fun c4 hr => ?_)
  refine ml_iload_n (pc := 70) dX12_drawsNow_70 rfl (mm_get_s (mm_get_s (mm_get_s mm_get_0))) ?_
  refine mb_cVi (pc := 71) (As := [.ref c4, .int x3]) (rest := []) dX12_drawsNow_71 cw_X12_342 h0 hr (fun v hv => X12_nextOf_ok hz (by omega) h0 hv) rfl (Nat.le_of_ble_eq_true rfl) (Nat.zero_le _) (Nat.zero_le _) (fun r5 hr => ?_)
  refine ml_istore (pc := 74) dX12_drawsNow_74 (Nat.le_of_ble_eq_true rfl) (mm_st1_s (mm_st1_s (mm_st1_s mm_st1_i))) ?_
  refine ml_aload_n (pc := 76) dX12_drawsNow_76 rfl mm_get_0 ?_
  refine mb_gr (pc := 77) dX12_drawsNow_77 fl_X12_75 hr (fun c6 hr => ?_)
  refine ml_iload_n (pc := 80) dX12_drawsNow_80 rfl (mm_get_s (mm_get_s mm_get_0)) ?_
  refine ml_iload_n (pc := 81) dX12_drawsNow_81 rfl (mm_get_s (mm_get_s (mm_get_s mm_get_0))) ?_
  refine mb_si (pc := 82) dX12_drawsNow_82 hr (fun m7 hr => ?_)
  refine ml_aload_n (pc := 83) dX12_drawsNow_83 rfl mm_get_0 ?_
  refine mb_gr (pc := 84) dX12_drawsNow_84 fl_X12_75 hr (fun c8 hr => ?_)
  refine ml_iload_n (pc := 87) dX12_drawsNow_87 rfl (mm_get_s (mm_get_s mm_get_0)) ?_
  refine mg_iconst (pc := 88) dX12_drawsNow_88 kc_1 ?_
  refine mg_iadd (pc := 89) dX12_drawsNow_89 ?_
  refine ml_iload (pc := 90) dX12_drawsNow_90 (mm_get_s (mm_get_s (mm_get_s (mm_get_s mm_get_0)))) ?_
  refine mb_si (pc := 92) dX12_drawsNow_92 hr (fun m9 hr => ?_)
  refine ml_aload_n (pc := 93) dX12_drawsNow_93 rfl mm_get_0 ?_
  refine mb_gr (pc := 94) dX12_drawsNow_94 fl_X12_75 hr (fun c10 hr => ?_)
  refine ml_iload_n (pc := 97) dX12_drawsNow_97 rfl (mm_get_s (mm_get_s mm_get_0)) ?_
  refine mg_iconst (pc := 98) dX12_drawsNow_98 kc_2 ?_
  refine mg_iadd (pc := 99) dX12_drawsNow_99 ?_
  refine ml_iload_n (pc := 100) dX12_drawsNow_100 rfl (mm_get_s mm_get_0) ?_
  refine mb_si (pc := 101) dX12_drawsNow_101 hr (fun m11 hr => ?_)
  refine ml_aload_n (pc := 102) dX12_drawsNow_102 rfl mm_get_0 ?_
  refine mb_gr (pc := 103) dX12_drawsNow_103 fl_X12_75 hr (fun c12 hr => ?_)
  refine ml_iload_n (pc := 106) dX12_drawsNow_106 rfl (mm_get_s (mm_get_s mm_get_0)) ?_
  refine mg_bipush (pc := 107) dX12_drawsNow_107 kb_6 ?_
  refine mg_iadd (pc := 109) dX12_drawsNow_109 ?_
  refine ml_aload_n (pc := 110) dX12_drawsNow_110 rfl mm_get_0 ?_
  refine mb_gr (pc := 111) dX12_drawsNow_111 fl_X12_60 hr (fun c13 hr => ?_)
  refine mg_bipush (pc := 114) dX12_drawsNow_114 kb_8 ?_
  refine ml_iload_n (pc := 116) dX12_drawsNow_116 rfl (mm_get_s (mm_get_s (mm_get_s mm_get_0))) ?_
  refine mg_iadd (pc := 117) dX12_drawsNow_117 ?_
  refine mb_ai (pc := 118) dX12_drawsNow_118 hr (fun x14 hr => ?_)
  refine mb_si (pc := 119) dX12_drawsNow_119 hr (fun m15 hr => ?_)
  refine ml_aload_n (pc := 120) dX12_drawsNow_120 rfl mm_get_0 ?_
  refine mb_gr (pc := 121) dX12_drawsNow_121 fl_X12_75 hr (fun c16 hr => ?_)
  refine ml_iload_n (pc := 124) dX12_drawsNow_124 rfl (mm_get_s (mm_get_s mm_get_0)) ?_
  refine mg_bipush (pc := 125) dX12_drawsNow_125 kb_7 ?_
  refine mg_iadd (pc := 127) dX12_drawsNow_127 ?_
  refine ml_aload_n (pc := 128) dX12_drawsNow_128 rfl mm_get_0 ?_
  refine mb_gr (pc := 129) dX12_drawsNow_129 fl_X12_60 hr (fun c17 hr => ?_)
  refine ml_iload (pc := 132) dX12_drawsNow_132 (mm_get_s (mm_get_s (mm_get_s (mm_get_s mm_get_0)))) ?_
  refine mb_cSi (pc := 134) (As := [.ref c17, .int r5.1]) (rest := [.int (((9 : Int32) * x1) + (7 : Int32)), .ref c16]) dX12_drawsNow_134 cw_X12_327  hr (fun v hv => X12_size_ok hz (by omega)  hv) rfl (Nat.le_of_ble_eq_true rfl) (Nat.zero_le _) (Nat.zero_le _) (fun r18 hr => ?_)
  refine mb_si (pc := 137) dX12_drawsNow_137 hr (fun m19 hr => ?_)
  refine ml_aload_n (pc := 138) dX12_drawsNow_138 rfl mm_get_0 ?_
  refine mb_gr (pc := 139) dX12_drawsNow_139 fl_X12_75 hr (fun c20 hr => ?_)
  refine ml_iload_n (pc := 142) dX12_drawsNow_142 rfl (mm_get_s (mm_get_s mm_get_0)) ?_
  refine mg_bipush (pc := 143) dX12_drawsNow_143 kb_8 ?_
  refine mg_iadd (pc := 145) dX12_drawsNow_145 ?_
  refine ml_aload_n (pc := 146) dX12_drawsNow_146 rfl mm_get_0 ?_
  refine mb_gr (pc := 147) dX12_drawsNow_147 fl_X12_60 hr (fun c21 hr => ?_)
  refine ml_iload (pc := 150) dX12_drawsNow_150 (mm_get_s (mm_get_s (mm_get_s (mm_get_s mm_get_0)))) ?_
  refine mg_iconst (pc := 152) dX12_drawsNow_152 kc_0 ?_
  refine mb_cSi (pc := 153) (As := [.ref c21, .int r5.1, .int (0 : Int32)]) (rest := [.int (((9 : Int32) * x1) + (8 : Int32)), .ref c20]) dX12_drawsNow_153 cw_X12_335  hr (fun v hv => X12_placeOf_ok hz (by omega)  hv) rfl (Nat.le_of_ble_eq_true rfl) (Nat.zero_le _) (Nat.zero_le _) (fun r22 hr => ?_)
  refine mg_iconst (pc := 156) dX12_drawsNow_156 kc_m1 ?_
  refine mb_icmp_eq (pc := 157) 164 dX12_drawsNow_157 rfl hr (fun hr => ?_) (fun hr => ?_)
  · refine mg_iconst (pc := 164) dX12_drawsNow_164 kc_0 ?_
    exact mg_weak (mm_le_s (mm_le_s (mm_le_s (mm_le_n (mm_le_s mm_le_0))))) (X12_drawsNow_b165_ok hz hd h0 hr)
  · refine mg_iconst (pc := 160) dX12_drawsNow_160 kc_1 ?_
    refine mg_goto (pc := 161) 165 dX12_drawsNow_161 rfl ?_
    exact mg_weak (mm_le_s (mm_le_s (mm_le_s (mm_le_n (mm_le_s mm_le_0))))) (X12_drawsNow_b165_ok hz hd h0 hr)
def X12_drawsNow_L12 (e : mm_E) (a0 : Nat) (i1 : Int32) : Nat → Int32 → mm_V → Option mm_V
  | 0, _, _ => none
  | n + 1, i2, m => if (540 : Int32) ≤ i2 then ((mm_gi e.1 m 12 75 a0 48).bind fun x1 => (mm_pf e.1 m 12 75 a0 48 (.int (x1 - (1 : Int32)))).bind fun m2 => X12_drawsNow_b50 e a0 i1  m2) else ((mm_gr e.1 m 12 75 a0 49).bind fun c3 => (mm_gr e.1 m 12 75 a0 49).bind fun c4 => (mm_ai e.1 m 20 c4 i2).bind fun x5 => (mm_si e.1 m c3 (i2 - (9 : Int32)) x5).bind fun m6 => X12_drawsNow_L12 e a0 i1 n (i2 + 1) m6)
theorem X12_drawsNow_L12_ok {K : mm_K} {nx : Option Nat} {e : mm_E} (hz : e.2.1 = K.2.2.2.2) {d : Nat} (hd : 5 ≤ d) {a0 : Nat} {i1 : Int32} (h0 : e.1 a0 = some (12, 75)) : ∀ (n : Nat) (i2 : Int32) (m : mm_V) (r : mm_V), X12_drawsNow_L12 e a0 i1 n i2 m = some r → mm_G K MX12_drawsNow d (mm_Fv e.1 nx r) 12 [some (.ref a0), some (.int i1), some (.int i2), none, none] [] (e.1, m) nx 0 0 := by
  obtain ⟨d, rfl⟩ : ∃ d', d = d' + 1 := ⟨d - 1, by omega⟩
  intro n
  induction n with
  | zero => intro i2 m r hr; unfold X12_drawsNow_L12 at hr; cases hr
  | succ n ih =>
    intro i2 m r hr
    unfold X12_drawsNow_L12 at hr
    refine ml_iload_n (pc := 12) dX12_drawsNow_12 rfl (mm_get_s (mm_get_s mm_get_0)) ?_
    refine mg_sipush (pc := 13) dX12_drawsNow_13 ks_540 ?_
    refine mb_icmp_ge (pc := 16) 40 dX12_drawsNow_16 rfl hr (fun hr => ?_) (fun hr => ?_)
    · refine ml_aload_n (pc := 40) dX12_drawsNow_40 rfl mm_get_0 ?_
      refine mg_dup (pc := 41) dX12_drawsNow_41 rfl ?_
      refine mb_gi (pc := 42) dX12_drawsNow_42 fl_X12_365 hr (fun x1 hr => ?_)
      refine mg_iconst (pc := 45) dX12_drawsNow_45 kc_1 ?_
      refine mg_isub (pc := 46) dX12_drawsNow_46 ?_
      refine mb_pi (pc := 47) dX12_drawsNow_47 fp_X12_365 hr (fun m2 hr => ?_)
      exact mg_weak (mm_le_s (mm_le_s (mm_le_n (mm_le_n (mm_le_n mm_le_0))))) (X12_drawsNow_b50_ok hz hd h0 hr)
    · refine ml_aload_n (pc := 19) dX12_drawsNow_19 rfl mm_get_0 ?_
      refine mb_gr (pc := 20) dX12_drawsNow_20 fl_X12_75 hr (fun c3 hr => ?_)
      refine ml_iload_n (pc := 23) dX12_drawsNow_23 rfl (mm_get_s (mm_get_s mm_get_0)) ?_
      refine mg_bipush (pc := 24) dX12_drawsNow_24 kb_9 ?_
      refine mg_isub (pc := 26) dX12_drawsNow_26 ?_
      refine ml_aload_n (pc := 27) dX12_drawsNow_27 rfl mm_get_0 ?_
      refine mb_gr (pc := 28) dX12_drawsNow_28 fl_X12_75 hr (fun c4 hr => ?_)
      refine ml_iload_n (pc := 31) dX12_drawsNow_31 rfl (mm_get_s (mm_get_s mm_get_0)) ?_
      refine mb_ai (pc := 32) dX12_drawsNow_32 hr (fun x5 hr => ?_)
      refine mb_si (pc := 33) dX12_drawsNow_33 hr (fun m6 hr => ?_)
      refine ml_iinc (pc := 34) dX12_drawsNow_34 (mm_get_s (mm_get_s mm_get_0)) (congrArg (fun z => i2 + z) kc_1) (Nat.le_of_ble_eq_true rfl) (mm_st1_s mm_st1_i) ?_
      refine mg_goto (pc := 37) 12 dX12_drawsNow_37 rfl ?_
      exact mg_weak (mm_le_s (mm_le_s (mm_le_s (mm_le_n (mm_le_n mm_le_0))))) (ih _ _ _ hr)
def X12_drawsNow (e : mm_E) (a0 : Nat) (i1 : Int32) (m : mm_V) : Option mm_V := (mm_gi e.1 m 12 75 a0 48).bind fun x1 => if ¬ x1 = (60 : Int32) then (X12_drawsNow_b50 e a0 i1  m) else (X12_drawsNow_L12 e a0 i1 e.2.2 (9 : Int32) m)
theorem X12_drawsNow_ok {K : mm_K} {nx : Option Nat} {e : mm_E} (hz : e.2.1 = K.2.2.2.2) {d : Nat} (hd : 5 ≤ d) {a0 : Nat} {i1 : Int32} (h0 : e.1 a0 = some (12, 75)) {m : mm_V} {r : mm_V} (hr : X12_drawsNow e a0 i1 m = some r) : mm_Cn K MX12_drawsNow d (mm_Fv e.1 nx r) [.ref a0, .int i1] (e.1, m) nx := by
  obtain ⟨d, rfl⟩ : ∃ d', d = d' + 1 := ⟨d - 1, by omega⟩
  refine mm_entry (by decide) (Nat.le_of_ble_eq_true rfl) rfl (fun hok => ?_)
  unfold X12_drawsNow at hr
  refine mg_weak (L' := [some (.ref a0), some (.int i1), none, none, none]) (mm_le_s (mm_le_s (mm_le_e (mm_le_e (mm_le_e mm_le_0))))) ?_
  refine ml_aload_n (pc := 0) dX12_drawsNow_0 rfl mm_get_0 ?_
  refine mb_gi (pc := 1) dX12_drawsNow_1 fl_X12_365 hr (fun x1 hr => ?_)
  refine mg_bipush (pc := 4) dX12_drawsNow_4 kb_60 ?_
  refine mb_icmp_ne (pc := 6) 50 dX12_drawsNow_6 rfl hr (fun hr => ?_) (fun hr => ?_)
  · exact mg_weak (mm_le_s (mm_le_s (mm_le_n (mm_le_n (mm_le_n mm_le_0))))) (X12_drawsNow_b50_ok hz hd h0 hr)
  · refine mg_bipush (pc := 9) dX12_drawsNow_9 kb_9 ?_
    refine ml_istore_n (pc := 11) dX12_drawsNow_11 rfl (Nat.le_of_ble_eq_true rfl) (mm_st1_s mm_st1_i) ?_
    exact mg_weak (mm_le_s (mm_le_s (mm_le_s (mm_le_n (mm_le_n mm_le_0))))) (X12_drawsNow_L12_ok hz hd h0 _ _ _ _ hr)
theorem dX12_draw_0 : decode cX12_draw 0 = .ok (.aload_n 0, 1) := by decide +kernel
theorem dX12_draw_1 : decode cX12_draw 1 = .ok (.iconst 0, 1) := by decide +kernel
theorem dX12_draw_2 : decode cX12_draw 2 = .ok (.putfield 152, 3) := by decide +kernel
theorem dX12_draw_5 : decode cX12_draw 5 = .ok (.aload_n 0, 1) := by decide +kernel
theorem dX12_draw_6 : decode cX12_draw 6 = .ok (.aload_n 0, 1) := by decide +kernel
theorem dX12_draw_7 : decode cX12_draw 7 = .ok (.getfield 60, 3) := by decide +kernel
theorem dX12_draw_10 : decode cX12_draw 10 = .ok (.invokevirtual 338, 3) := by decide +kernel
theorem dX12_draw_13 : decode cX12_draw 13 = .ok (.ifCond .ne 32, 3) := by decide +kernel
theorem dX12_draw_16 : decode cX12_draw 16 = .ok (.iload_n 1, 1) := by decide +kernel
theorem dX12_draw_17 : decode cX12_draw 17 = .ok (.ifCond .lt 28, 3) := by decide +kernel
theorem dX12_draw_20 : decode cX12_draw 20 = .ok (.iload_n 1, 1) := by decide +kernel
theorem dX12_draw_21 : decode cX12_draw 21 = .ok (.aload_n 0, 1) := by decide +kernel
theorem dX12_draw_22 : decode cX12_draw 22 = .ok (.getfield 60, 3) := by decide +kernel
theorem dX12_draw_25 : decode cX12_draw 25 = .ok (.aload_n 0, 1) := by decide +kernel
theorem dX12_draw_26 : decode cX12_draw 26 = .ok (.aload_n 0, 1) := by decide +kernel
theorem dX12_draw_27 : decode cX12_draw 27 = .ok (.getfield 60, 3) := by decide +kernel
theorem dX12_draw_30 : decode cX12_draw 30 = .ok (.aload_n 0, 1) := by decide +kernel
theorem dX12_draw_31 : decode cX12_draw 31 = .ok (.getfield 60, 3) := by decide +kernel
theorem dX12_draw_34 : decode cX12_draw 34 = .ok (.iconst 0, 1) := by decide +kernel
theorem dX12_draw_35 : decode cX12_draw 35 = .ok (.iaload, 1) := by decide +kernel
theorem dX12_draw_36 : decode cX12_draw 36 = .ok (.invokevirtual 342, 3) := by decide +kernel
theorem dX12_draw_39 : decode cX12_draw 39 = .ok (.invokestatic 327, 3) := by decide +kernel
theorem dX12_draw_42 : decode cX12_draw 42 = .ok (.if_icmp .lt 15, 3) := by decide +kernel
theorem dX12_draw_45 : decode cX12_draw 45 = .ok (.aload_n 0, 1) := by decide +kernel
theorem dX12_draw_46 : decode cX12_draw 46 = .ok (.getfield 32, 3) := by decide +kernel
theorem dX12_draw_49 : decode cX12_draw 49 = .ok (.iconst 1, 1) := by decide +kernel
theorem dX12_draw_50 : decode cX12_draw 50 = .ok (.dup2, 1) := by decide +kernel
theorem dX12_draw_51 : decode cX12_draw 51 = .ok (.iaload, 1) := by decide +kernel
theorem dX12_draw_52 : decode cX12_draw 52 = .ok (.iconst 1, 1) := by decide +kernel
theorem dX12_draw_53 : decode cX12_draw 53 = .ok (.iadd, 1) := by decide +kernel
theorem dX12_draw_54 : decode cX12_draw 54 = .ok (.iastore, 1) := by decide +kernel
theorem dX12_draw_55 : decode cX12_draw 55 = .ok (.iconst (-1), 1) := by decide +kernel
theorem dX12_draw_56 : decode cX12_draw 56 = .ok (.ireturn, 1) := by decide +kernel
theorem dX12_draw_57 : decode cX12_draw 57 = .ok (.aload_n 0, 1) := by decide +kernel
theorem dX12_draw_58 : decode cX12_draw 58 = .ok (.iload_n 1, 1) := by decide +kernel
theorem dX12_draw_59 : decode cX12_draw 59 = .ok (.invokevirtual 416, 3) := by decide +kernel
theorem dX12_draw_62 : decode cX12_draw 62 = .ok (.aload_n 0, 1) := by decide +kernel
theorem dX12_draw_63 : decode cX12_draw 63 = .ok (.getfield 403, 3) := by decide +kernel
theorem dX12_draw_66 : decode cX12_draw 66 = .ok (.ifCond .eq 13, 3) := by decide +kernel
theorem dX12_draw_69 : decode cX12_draw 69 = .ok (.bipush 100, 2) := by decide +kernel
theorem dX12_draw_71 : decode cX12_draw 71 = .ok (.aload_n 0, 1) := by decide +kernel
theorem dX12_draw_72 : decode cX12_draw 72 = .ok (.getfield 400, 3) := by decide +kernel
theorem dX12_draw_75 : decode cX12_draw 75 = .ok (.iadd, 1) := by decide +kernel
theorem dX12_draw_76 : decode cX12_draw 76 = .ok (.goto 7, 3) := by decide +kernel
theorem dX12_draw_79 : decode cX12_draw 79 = .ok (.aload_n 0, 1) := by decide +kernel
theorem dX12_draw_80 : decode cX12_draw 80 = .ok (.getfield 400, 3) := by decide +kernel
theorem dX12_draw_83 : decode cX12_draw 83 = .ok (.ireturn, 1) := by decide +kernel
def X12_draw_b83 (e : mm_E) (t0 : Int32) (m : mm_V) : Option (Int32 × mm_V) := some (t0, m)
theorem X12_draw_b83_ok {K : mm_K} {nx : Option Nat} {e : mm_E} (hz : e.2.1 = K.2.2.2.2) {d : Nat} (hd : 6 ≤ d) {t0 : Int32} {a0 : Nat} (h0 : e.1 a0 = some (12, 75)) {m : mm_V} {r : (Int32 × mm_V)} (hr : X12_draw_b83 e t0 m = some r) : mm_G K MX12_draw d (mm_Fi e.1 nx r) 83 [none, none] [.int t0] (e.1, m) nx 0 0 := by
  obtain ⟨d, rfl⟩ : ∃ d', d = d' + 1 := ⟨d - 1, by omega⟩
  unfold X12_draw_b83 at hr
  exact mb_iret dX12_draw_83 rfl hr
def X12_draw_b45 (e : mm_E) (a0 : Nat) (m : mm_V) : Option (Int32 × mm_V) := (mm_gr e.1 m 12 75 a0 12).bind fun c1 => (mm_ai e.1 m 20 c1 (1 : Int32)).bind fun x2 => (mm_si e.1 m c1 (1 : Int32) (x2 + (1 : Int32))).bind fun m3 => some ((-1 : Int32), m3)
theorem X12_draw_b45_ok {K : mm_K} {nx : Option Nat} {e : mm_E} (hz : e.2.1 = K.2.2.2.2) {d : Nat} (hd : 6 ≤ d) {a0 : Nat} (h0 : e.1 a0 = some (12, 75)) {m : mm_V} {r : (Int32 × mm_V)} (hr : X12_draw_b45 e a0 m = some r) : mm_G K MX12_draw d (mm_Fi e.1 nx r) 45 [some (.ref a0), none] [] (e.1, m) nx 0 0 := by
  obtain ⟨d, rfl⟩ : ∃ d', d = d' + 1 := ⟨d - 1, by omega⟩
  unfold X12_draw_b45 at hr
  refine ml_aload_n (pc := 45) dX12_draw_45 rfl mm_get_0 ?_
  refine mb_gr (pc := 46) dX12_draw_46 fl_X12_32 hr (fun c1 hr => ?_)
  refine mg_iconst (pc := 49) dX12_draw_49 kc_1 ?_
  refine mg_dup2 (pc := 50) dX12_draw_50 rfl rfl ?_
  refine mb_ai (pc := 51) dX12_draw_51 hr (fun x2 hr => ?_)
  refine mg_iconst (pc := 52) dX12_draw_52 kc_1 ?_
  refine mg_iadd (pc := 53) dX12_draw_53 ?_
  refine mb_si (pc := 54) dX12_draw_54 hr (fun m3 hr => ?_)
  refine mg_iconst (pc := 55) dX12_draw_55 kc_m1 ?_
  exact mb_iret dX12_draw_56 rfl hr
def X12_draw (e : mm_E) (a0 : Nat) (i1 : Int32) (m : mm_V) : Option (Int32 × mm_V) := (mm_pf e.1 m 12 75 a0 0 (.int (0 : Int32))).bind fun m1 => (mm_gr e.1 m1 12 75 a0 39).bind fun c2 => (X12_isOver e a0 c2 m1).bind fun r3 => if ¬ r3.1 = 0 then (X12_draw_b45 e a0  r3.2) else (if i1 < 0 then (X12_draw_b45 e a0  r3.2) else ((mm_gr e.1 r3.2 12 75 a0 39).bind fun c4 => (mm_gr e.1 r3.2 12 75 a0 39).bind fun c5 => (mm_gr e.1 r3.2 12 75 a0 39).bind fun c6 => (mm_ai e.1 r3.2 20 c6 (0 : Int32)).bind fun x7 => (X12_nextOf e a0 c5 x7 r3.2).bind fun r8 => (X12_size e c4 r8.1 r8.2).bind fun r9 => if i1 < r9.1 then ((X12_drawsNow e a0 i1 r9.2).bind fun r10 => (mm_gi e.1 r10 12 75 a0 47).bind fun x11 => if x11 = 0 then ((mm_gi e.1 r10 12 75 a0 45).bind fun x12 => X12_draw_b83 e  x12 r10) else ((mm_gi e.1 r10 12 75 a0 45).bind fun x13 => X12_draw_b83 e  ((100 : Int32) + x13) r10)) else (X12_draw_b45 e a0  r9.2)))
theorem X12_draw_ok {K : mm_K} {nx : Option Nat} {e : mm_E} (hz : e.2.1 = K.2.2.2.2) {d : Nat} (hd : 6 ≤ d) {a0 : Nat} {i1 : Int32} (h0 : e.1 a0 = some (12, 75)) {m : mm_V} {r : (Int32 × mm_V)} (hr : X12_draw e a0 i1 m = some r) : mm_Cn K MX12_draw d (mm_Fi e.1 nx r) [.ref a0, .int i1] (e.1, m) nx := by
  obtain ⟨d, rfl⟩ : ∃ d', d = d' + 1 := ⟨d - 1, by omega⟩
  refine mm_entry (by decide) (Nat.le_of_ble_eq_true rfl) rfl (fun hok => ?_)
  unfold X12_draw at hr
  refine mg_weak (L' := [some (.ref a0), some (.int i1)]) (mm_le_s (mm_le_s mm_le_0)) ?_
  refine ml_aload_n (pc := 0) dX12_draw_0 rfl mm_get_0 ?_
  refine mg_iconst (pc := 1) dX12_draw_1 kc_0 ?_
  refine mb_pi (pc := 2) dX12_draw_2 fp_X12_152 hr (fun m1 hr => ?_)
  refine ml_aload_n (pc := 5) dX12_draw_5 rfl mm_get_0 ?_
  refine ml_aload_n (pc := 6) dX12_draw_6 rfl mm_get_0 ?_
  refine mb_gr (pc := 7) dX12_draw_7 fl_X12_60 hr (fun c2 hr => ?_)
  refine mb_cVi (pc := 10) (As := [.ref c2]) (rest := []) dX12_draw_10 cw_X12_338 h0 hr (fun v hv => X12_isOver_ok hz (by omega) h0 hv) rfl (Nat.le_of_ble_eq_true rfl) (Nat.zero_le _) (Nat.zero_le _) (fun r3 hr => ?_)
  refine mb_if_ne (pc := 13) 45 dX12_draw_13 rfl hr (fun hr => ?_) (fun hr => ?_)
  · exact mg_weak (mm_le_s (mm_le_n mm_le_0)) (X12_draw_b45_ok hz hd h0 hr)
  · refine ml_iload_n (pc := 16) dX12_draw_16 rfl (mm_get_s mm_get_0) ?_
    refine mb_if_lt (pc := 17) 45 dX12_draw_17 rfl hr (fun hr => ?_) (fun hr => ?_)
    · exact mg_weak (mm_le_s (mm_le_n mm_le_0)) (X12_draw_b45_ok hz hd h0 hr)
    · refine ml_iload_n (pc := 20) dX12_draw_20 rfl (mm_get_s mm_get_0) ?_
      refine ml_aload_n (pc := 21) dX12_draw_21 rfl mm_get_0 ?_
      refine mb_gr (pc := 22) dX12_draw_22 fl_X12_60 hr (fun c4 hr => ?_)
      refine ml_aload_n (pc := 25) dX12_draw_25 rfl mm_get_0 ?_
      refine ml_aload_n (pc := 26) dX12_draw_26 rfl mm_get_0 ?_
      refine mb_gr (pc := 27) dX12_draw_27 fl_X12_60 hr (fun c5 hr => ?_)
      refine ml_aload_n (pc := 30) dX12_draw_30 rfl mm_get_0 ?_
      refine mb_gr (pc := 31) dX12_draw_31 fl_X12_60 hr (fun c6 hr => ?_)
      refine mg_iconst (pc := 34) dX12_draw_34 kc_0 ?_
      refine mb_ai (pc := 35) dX12_draw_35 hr (fun x7 hr => ?_)
      refine mb_cVi (pc := 36) (As := [.ref c5, .int x7]) (rest := [.ref c4, .int i1]) dX12_draw_36 cw_X12_342 h0 hr (fun v hv => X12_nextOf_ok hz (by omega) h0 hv) rfl (Nat.le_of_ble_eq_true rfl) (Nat.zero_le _) (Nat.zero_le _) (fun r8 hr => ?_)
      refine mb_cSi (pc := 39) (As := [.ref c4, .int r8.1]) (rest := [.int i1]) dX12_draw_39 cw_X12_327  hr (fun v hv => X12_size_ok hz (by omega)  hv) rfl (Nat.le_of_ble_eq_true rfl) (Nat.zero_le _) (Nat.zero_le _) (fun r9 hr => ?_)
      refine mb_icmp_lt (pc := 42) 57 dX12_draw_42 rfl hr (fun hr => ?_) (fun hr => ?_)
      · refine ml_aload_n (pc := 57) dX12_draw_57 rfl mm_get_0 ?_
        refine ml_iload_n (pc := 58) dX12_draw_58 rfl (mm_get_s mm_get_0) ?_
        refine mb_cVv (pc := 59) (As := [.int i1]) (rest := []) dX12_draw_59 cw_X12_416 h0 hr (fun v hv => X12_drawsNow_ok hz (by omega) h0 hv) rfl (Nat.le_of_ble_eq_true rfl) (Nat.zero_le _) (Nat.zero_le _) (fun r10 hr => ?_)
        refine ml_aload_n (pc := 62) dX12_draw_62 rfl mm_get_0 ?_
        refine mb_gi (pc := 63) dX12_draw_63 fl_X12_403 hr (fun x11 hr => ?_)
        refine mb_if_eq (pc := 66) 79 dX12_draw_66 rfl hr (fun hr => ?_) (fun hr => ?_)
        · refine ml_aload_n (pc := 79) dX12_draw_79 rfl mm_get_0 ?_
          refine mb_gi (pc := 80) dX12_draw_80 fl_X12_400 hr (fun x12 hr => ?_)
          exact mg_weak (mm_le_n (mm_le_n mm_le_0)) (X12_draw_b83_ok hz hd h0 hr)
        · refine mg_bipush (pc := 69) dX12_draw_69 kb_100 ?_
          refine ml_aload_n (pc := 71) dX12_draw_71 rfl mm_get_0 ?_
          refine mb_gi (pc := 72) dX12_draw_72 fl_X12_400 hr (fun x13 hr => ?_)
          refine mg_iadd (pc := 75) dX12_draw_75 ?_
          refine mg_goto (pc := 76) 83 dX12_draw_76 rfl ?_
          exact mg_weak (mm_le_n (mm_le_n mm_le_0)) (X12_draw_b83_ok hz hd h0 hr)
      · exact mg_weak (mm_le_s (mm_le_n mm_le_0)) (X12_draw_b45_ok hz hd h0 hr)
theorem dX12_play_0 : decode cX12_play 0 = .ok (.aload_n 0, 1) := by decide +kernel
theorem dX12_play_1 : decode cX12_play 1 = .ok (.iconst 0, 1) := by decide +kernel
theorem dX12_play_2 : decode cX12_play 2 = .ok (.putfield 152, 3) := by decide +kernel
theorem dX12_play_5 : decode cX12_play 5 = .ok (.aload_n 0, 1) := by decide +kernel
theorem dX12_play_6 : decode cX12_play 6 = .ok (.iload_n 1, 1) := by decide +kernel
theorem dX12_play_7 : decode cX12_play 7 = .ok (.iconst 0, 1) := by decide +kernel
theorem dX12_play_8 : decode cX12_play 8 = .ok (.sipush 200, 3) := by decide +kernel
theorem dX12_play_11 : decode cX12_play 11 = .ok (.invokestatic 368, 3) := by decide +kernel
theorem dX12_play_14 : decode cX12_play 14 = .ok (.iconst 1, 1) := by decide +kernel
theorem dX12_play_15 : decode cX12_play 15 = .ok (.invokevirtual 306, 3) := by decide +kernel
theorem dX12_play_18 : decode cX12_play 18 = .ok (.ifCond .ne 5, 3) := by decide +kernel
theorem dX12_play_21 : decode cX12_play 21 = .ok (.iconst 0, 1) := by decide +kernel
theorem dX12_play_22 : decode cX12_play 22 = .ok (.ireturn, 1) := by decide +kernel
theorem dX12_play_23 : decode cX12_play 23 = .ok (.iconst 0, 1) := by decide +kernel
theorem dX12_play_24 : decode cX12_play 24 = .ok (.istore_n 2, 1) := by decide +kernel
theorem dX12_play_25 : decode cX12_play 25 = .ok (.iload_n 2, 1) := by decide +kernel
theorem dX12_play_26 : decode cX12_play 26 = .ok (.iload_n 1, 1) := by decide +kernel
theorem dX12_play_27 : decode cX12_play 27 = .ok (.if_icmp .ge 52, 3) := by decide +kernel
theorem dX12_play_30 : decode cX12_play 30 = .ok (.aload_n 0, 1) := by decide +kernel
theorem dX12_play_31 : decode cX12_play 31 = .ok (.aload_n 0, 1) := by decide +kernel
theorem dX12_play_32 : decode cX12_play 32 = .ok (.getfield 60, 3) := by decide +kernel
theorem dX12_play_35 : decode cX12_play 35 = .ok (.invokevirtual 338, 3) := by decide +kernel
theorem dX12_play_38 : decode cX12_play 38 = .ok (.ifCond .ne 41, 3) := by decide +kernel
theorem dX12_play_41 : decode cX12_play 41 = .ok (.aload_n 0, 1) := by decide +kernel
theorem dX12_play_42 : decode cX12_play 42 = .ok (.aload_n 0, 1) := by decide +kernel
theorem dX12_play_43 : decode cX12_play 43 = .ok (.aload_n 0, 1) := by decide +kernel
theorem dX12_play_44 : decode cX12_play 44 = .ok (.getfield 60, 3) := by decide +kernel
theorem dX12_play_47 : decode cX12_play 47 = .ok (.aload_n 0, 1) := by decide +kernel
theorem dX12_play_48 : decode cX12_play 48 = .ok (.getfield 60, 3) := by decide +kernel
theorem dX12_play_51 : decode cX12_play 51 = .ok (.iconst 0, 1) := by decide +kernel
theorem dX12_play_52 : decode cX12_play 52 = .ok (.iaload, 1) := by decide +kernel
theorem dX12_play_53 : decode cX12_play 53 = .ok (.aload_n 0, 1) := by decide +kernel
theorem dX12_play_54 : decode cX12_play 54 = .ok (.aload_n 0, 1) := by decide +kernel
theorem dX12_play_55 : decode cX12_play 55 = .ok (.getfield 60, 3) := by decide +kernel
theorem dX12_play_58 : decode cX12_play 58 = .ok (.aload_n 0, 1) := by decide +kernel
theorem dX12_play_59 : decode cX12_play 59 = .ok (.getfield 60, 3) := by decide +kernel
theorem dX12_play_62 : decode cX12_play 62 = .ok (.iconst 0, 1) := by decide +kernel
theorem dX12_play_63 : decode cX12_play 63 = .ok (.iaload, 1) := by decide +kernel
theorem dX12_play_64 : decode cX12_play 64 = .ok (.invokevirtual 342, 3) := by decide +kernel
theorem dX12_play_67 : decode cX12_play 67 = .ok (.invokevirtual 397, 3) := by decide +kernel
theorem dX12_play_70 : decode cX12_play 70 = .ok (.invokevirtual 416, 3) := by decide +kernel
theorem dX12_play_73 : decode cX12_play 73 = .ok (.iinc 2 1, 3) := by decide +kernel
theorem dX12_play_76 : decode cX12_play 76 = .ok (.goto (-51), 3) := by decide +kernel
theorem dX12_play_79 : decode cX12_play 79 = .ok (.iload_n 2, 1) := by decide +kernel
theorem dX12_play_80 : decode cX12_play 80 = .ok (.ireturn, 1) := by decide +kernel
def X12_play_b79 (e : mm_E) (i2 : Int32) (m : mm_V) : Option (Int32 × mm_V) := some (i2, m)
theorem X12_play_b79_ok {K : mm_K} {nx : Option Nat} {e : mm_E} (hz : e.2.1 = K.2.2.2.2) {d : Nat} (hd : 6 ≤ d) {i2 : Int32} {a0 : Nat} (h0 : e.1 a0 = some (12, 75)) {m : mm_V} {r : (Int32 × mm_V)} (hr : X12_play_b79 e i2 m = some r) : mm_G K MX12_play d (mm_Fi e.1 nx r) 79 [none, none, some (.int i2)] [] (e.1, m) nx 0 0 := by
  obtain ⟨d, rfl⟩ : ∃ d', d = d' + 1 := ⟨d - 1, by omega⟩
  unfold X12_play_b79 at hr
  refine ml_iload_n (pc := 79) dX12_play_79 rfl (mm_get_s (mm_get_s mm_get_0)) ?_
  exact mb_iret dX12_play_80 rfl hr
def X12_play_L25 (e : mm_E) (a0 : Nat) (i1 : Int32) : Nat → Int32 → mm_V → Option (Int32 × mm_V)
  | 0, _, _ => none
  | n + 1, i2, m => if i1 ≤ i2 then (X12_play_b79 e i2  m) else ((mm_gr e.1 m 12 75 a0 39).bind fun c1 => (X12_isOver e a0 c1 m).bind fun r2 => if ¬ r2.1 = 0 then (X12_play_b79 e i2  r2.2) else ((mm_gr e.1 r2.2 12 75 a0 39).bind fun c3 => (mm_gr e.1 r2.2 12 75 a0 39).bind fun c4 => (mm_ai e.1 r2.2 20 c4 (0 : Int32)).bind fun x5 => (mm_gr e.1 r2.2 12 75 a0 39).bind fun c6 => (mm_gr e.1 r2.2 12 75 a0 39).bind fun c7 => (mm_ai e.1 r2.2 20 c7 (0 : Int32)).bind fun x8 => (X12_nextOf e a0 c6 x8 r2.2).bind fun r9 => (X12_drawsAt e a0 c3 x5 r9.1 r9.2).bind fun r10 => (X12_drawsNow e a0 r10.1 r10.2).bind fun r11 => X12_play_L25 e a0 i1 n (i2 + 1) r11))
theorem X12_play_L25_ok {K : mm_K} {nx : Option Nat} {e : mm_E} (hz : e.2.1 = K.2.2.2.2) {d : Nat} (hd : 6 ≤ d) {a0 : Nat} {i1 : Int32} (h0 : e.1 a0 = some (12, 75)) : ∀ (n : Nat) (i2 : Int32) (m : mm_V) (r : (Int32 × mm_V)), X12_play_L25 e a0 i1 n i2 m = some r → mm_G K MX12_play d (mm_Fi e.1 nx r) 25 [some (.ref a0), some (.int i1), some (.int i2)] [] (e.1, m) nx 0 0 := by
  obtain ⟨d, rfl⟩ : ∃ d', d = d' + 1 := ⟨d - 1, by omega⟩
  intro n
  induction n with
  | zero => intro i2 m r hr; unfold X12_play_L25 at hr; cases hr
  | succ n ih =>
    intro i2 m r hr
    unfold X12_play_L25 at hr
    refine ml_iload_n (pc := 25) dX12_play_25 rfl (mm_get_s (mm_get_s mm_get_0)) ?_
    refine ml_iload_n (pc := 26) dX12_play_26 rfl (mm_get_s mm_get_0) ?_
    refine mb_icmp_ge (pc := 27) 79 dX12_play_27 rfl hr (fun hr => ?_) (fun hr => ?_)
    · exact mg_weak (mm_le_n (mm_le_n (mm_le_s mm_le_0))) (X12_play_b79_ok hz hd h0 hr)
    · refine ml_aload_n (pc := 30) dX12_play_30 rfl mm_get_0 ?_
      refine ml_aload_n (pc := 31) dX12_play_31 rfl mm_get_0 ?_
      refine mb_gr (pc := 32) dX12_play_32 fl_X12_60 hr (fun c1 hr => ?_)
      refine mb_cVi (pc := 35) (As := [.ref c1]) (rest := []) dX12_play_35 cw_X12_338 h0 hr (fun v hv => X12_isOver_ok hz (by omega) h0 hv) rfl (Nat.le_of_ble_eq_true rfl) (Nat.zero_le _) (Nat.zero_le _) (fun r2 hr => ?_)
      refine mb_if_ne (pc := 38) 79 dX12_play_38 rfl hr (fun hr => ?_) (fun hr => ?_)
      · exact mg_weak (mm_le_n (mm_le_n (mm_le_s mm_le_0))) (X12_play_b79_ok hz hd h0 hr)
      · refine ml_aload_n (pc := 41) dX12_play_41 rfl mm_get_0 ?_
        refine ml_aload_n (pc := 42) dX12_play_42 rfl mm_get_0 ?_
        refine ml_aload_n (pc := 43) dX12_play_43 rfl mm_get_0 ?_
        refine mb_gr (pc := 44) dX12_play_44 fl_X12_60 hr (fun c3 hr => ?_)
        refine ml_aload_n (pc := 47) dX12_play_47 rfl mm_get_0 ?_
        refine mb_gr (pc := 48) dX12_play_48 fl_X12_60 hr (fun c4 hr => ?_)
        refine mg_iconst (pc := 51) dX12_play_51 kc_0 ?_
        refine mb_ai (pc := 52) dX12_play_52 hr (fun x5 hr => ?_)
        refine ml_aload_n (pc := 53) dX12_play_53 rfl mm_get_0 ?_
        refine ml_aload_n (pc := 54) dX12_play_54 rfl mm_get_0 ?_
        refine mb_gr (pc := 55) dX12_play_55 fl_X12_60 hr (fun c6 hr => ?_)
        refine ml_aload_n (pc := 58) dX12_play_58 rfl mm_get_0 ?_
        refine mb_gr (pc := 59) dX12_play_59 fl_X12_60 hr (fun c7 hr => ?_)
        refine mg_iconst (pc := 62) dX12_play_62 kc_0 ?_
        refine mb_ai (pc := 63) dX12_play_63 hr (fun x8 hr => ?_)
        refine mb_cVi (pc := 64) (As := [.ref c6, .int x8]) (rest := [.int x5, .ref c3, .ref a0, .ref a0]) dX12_play_64 cw_X12_342 h0 hr (fun v hv => X12_nextOf_ok hz (by omega) h0 hv) rfl (Nat.le_of_ble_eq_true rfl) (Nat.zero_le _) (Nat.zero_le _) (fun r9 hr => ?_)
        refine mb_cVi (pc := 67) (As := [.ref c3, .int x5, .int r9.1]) (rest := [.ref a0]) dX12_play_67 cw_X12_397 h0 hr (fun v hv => X12_drawsAt_ok hz (by omega) h0 hv) rfl (Nat.le_of_ble_eq_true rfl) (Nat.zero_le _) (Nat.zero_le _) (fun r10 hr => ?_)
        refine mb_cVv (pc := 70) (As := [.int r10.1]) (rest := []) dX12_play_70 cw_X12_416 h0 hr (fun v hv => X12_drawsNow_ok hz (by omega) h0 hv) rfl (Nat.le_of_ble_eq_true rfl) (Nat.zero_le _) (Nat.zero_le _) (fun r11 hr => ?_)
        refine ml_iinc (pc := 73) dX12_play_73 (mm_get_s (mm_get_s mm_get_0)) (congrArg (fun z => i2 + z) kc_1) (Nat.le_of_ble_eq_true rfl) (mm_st1_s mm_st1_i) ?_
        refine mg_goto (pc := 76) 25 dX12_play_76 rfl ?_
        exact mg_weak (mm_le_s (mm_le_s (mm_le_s mm_le_0))) (ih _ _ _ hr)
def X12_play (e : mm_E) (a0 : Nat) (i1 : Int32) (m : mm_V) : Option (Int32 × mm_V) := (mm_pf e.1 m 12 75 a0 0 (.int (0 : Int32))).bind fun m1 => (X12_within e i1 (0 : Int32) (200 : Int32) m1).bind fun r2 => (X12_right e a0 r2.1 (1 : Int32) r2.2).bind fun r3 => if ¬ r3.1 = 0 then (X12_play_L25 e a0 i1 e.2.2 (0 : Int32) r3.2) else (some ((0 : Int32), r3.2))
theorem X12_play_ok {K : mm_K} {nx : Option Nat} {e : mm_E} (hz : e.2.1 = K.2.2.2.2) {d : Nat} (hd : 6 ≤ d) {a0 : Nat} {i1 : Int32} (h0 : e.1 a0 = some (12, 75)) {m : mm_V} {r : (Int32 × mm_V)} (hr : X12_play e a0 i1 m = some r) : mm_Cn K MX12_play d (mm_Fi e.1 nx r) [.ref a0, .int i1] (e.1, m) nx := by
  obtain ⟨d, rfl⟩ : ∃ d', d = d' + 1 := ⟨d - 1, by omega⟩
  refine mm_entry (by decide) (Nat.le_of_ble_eq_true rfl) rfl (fun hok => ?_)
  unfold X12_play at hr
  refine mg_weak (L' := [some (.ref a0), some (.int i1), none]) (mm_le_s (mm_le_s (mm_le_e mm_le_0))) ?_
  refine ml_aload_n (pc := 0) dX12_play_0 rfl mm_get_0 ?_
  refine mg_iconst (pc := 1) dX12_play_1 kc_0 ?_
  refine mb_pi (pc := 2) dX12_play_2 fp_X12_152 hr (fun m1 hr => ?_)
  refine ml_aload_n (pc := 5) dX12_play_5 rfl mm_get_0 ?_
  refine ml_iload_n (pc := 6) dX12_play_6 rfl (mm_get_s mm_get_0) ?_
  refine mg_iconst (pc := 7) dX12_play_7 kc_0 ?_
  refine mg_sipush (pc := 8) dX12_play_8 ks_200 ?_
  refine mb_cSi (pc := 11) (As := [.int i1, .int (0 : Int32), .int (200 : Int32)]) (rest := [.ref a0]) dX12_play_11 cw_X12_368  hr (fun v hv => X12_within_ok hz (by omega)  hv) rfl (Nat.le_of_ble_eq_true rfl) (Nat.zero_le _) (Nat.zero_le _) (fun r2 hr => ?_)
  refine mg_iconst (pc := 14) dX12_play_14 kc_1 ?_
  refine mb_cVi (pc := 15) (As := [.int r2.1, .int (1 : Int32)]) (rest := []) dX12_play_15 cw_X12_306 h0 hr (fun v hv => X12_right_ok hz (by omega) h0 hv) rfl (Nat.le_of_ble_eq_true rfl) (Nat.zero_le _) (Nat.zero_le _) (fun r3 hr => ?_)
  refine mb_if_ne (pc := 18) 23 dX12_play_18 rfl hr (fun hr => ?_) (fun hr => ?_)
  · refine mg_iconst (pc := 23) dX12_play_23 kc_0 ?_
    refine ml_istore_n (pc := 24) dX12_play_24 rfl (Nat.le_of_ble_eq_true rfl) (mm_st1_s mm_st1_i) ?_
    exact mg_weak (mm_le_s (mm_le_s (mm_le_s mm_le_0))) (X12_play_L25_ok hz hd h0 _ _ _ _ hr)
  · refine mg_iconst (pc := 21) dX12_play_21 kc_0 ?_
    exact mb_iret dX12_play_22 rfl hr
theorem dX12_undo_0 : decode cX12_undo 0 = .ok (.aload_n 0, 1) := by decide +kernel
theorem dX12_undo_1 : decode cX12_undo 1 = .ok (.iconst 0, 1) := by decide +kernel
theorem dX12_undo_2 : decode cX12_undo 2 = .ok (.putfield 152, 3) := by decide +kernel
theorem dX12_undo_5 : decode cX12_undo 5 = .ok (.aload_n 0, 1) := by decide +kernel
theorem dX12_undo_6 : decode cX12_undo 6 = .ok (.getfield 365, 3) := by decide +kernel
theorem dX12_undo_9 : decode cX12_undo 9 = .ok (.ifCond .ne 5, 3) := by decide +kernel
theorem dX12_undo_12 : decode cX12_undo 12 = .ok (.iconst (-1), 1) := by decide +kernel
theorem dX12_undo_13 : decode cX12_undo 13 = .ok (.ireturn, 1) := by decide +kernel
theorem dX12_undo_14 : decode cX12_undo 14 = .ok (.aload_n 0, 1) := by decide +kernel
theorem dX12_undo_15 : decode cX12_undo 15 = .ok (.dup, 1) := by decide +kernel
theorem dX12_undo_16 : decode cX12_undo 16 = .ok (.getfield 365, 3) := by decide +kernel
theorem dX12_undo_19 : decode cX12_undo 19 = .ok (.iconst 1, 1) := by decide +kernel
theorem dX12_undo_20 : decode cX12_undo 20 = .ok (.isub, 1) := by decide +kernel
theorem dX12_undo_21 : decode cX12_undo 21 = .ok (.putfield 365, 3) := by decide +kernel
theorem dX12_undo_24 : decode cX12_undo 24 = .ok (.aload_n 0, 1) := by decide +kernel
theorem dX12_undo_25 : decode cX12_undo 25 = .ok (.aload_n 0, 1) := by decide +kernel
theorem dX12_undo_26 : decode cX12_undo 26 = .ok (.getfield 365, 3) := by decide +kernel
theorem dX12_undo_29 : decode cX12_undo 29 = .ok (.iconst 0, 1) := by decide +kernel
theorem dX12_undo_30 : decode cX12_undo 30 = .ok (.invokevirtual 419, 3) := by decide +kernel
theorem dX12_undo_33 : decode cX12_undo 33 = .ok (.istore_n 1, 1) := by decide +kernel
theorem dX12_undo_34 : decode cX12_undo 34 = .ok (.aload_n 0, 1) := by decide +kernel
theorem dX12_undo_35 : decode cX12_undo 35 = .ok (.aload_n 0, 1) := by decide +kernel
theorem dX12_undo_36 : decode cX12_undo 36 = .ok (.getfield 365, 3) := by decide +kernel
theorem dX12_undo_39 : decode cX12_undo 39 = .ok (.iconst 4, 1) := by decide +kernel
theorem dX12_undo_40 : decode cX12_undo 40 = .ok (.invokevirtual 419, 3) := by decide +kernel
theorem dX12_undo_43 : decode cX12_undo 43 = .ok (.iconst 1, 1) := by decide +kernel
theorem dX12_undo_44 : decode cX12_undo 44 = .ok (.if_icmp .ne 32, 3) := by decide +kernel
theorem dX12_undo_47 : decode cX12_undo 47 = .ok (.aload_n 0, 1) := by decide +kernel
theorem dX12_undo_48 : decode cX12_undo 48 = .ok (.getfield 60, 3) := by decide +kernel
theorem dX12_undo_51 : decode cX12_undo 51 = .ok (.iload_n 1, 1) := by decide +kernel
theorem dX12_undo_52 : decode cX12_undo 52 = .ok (.aload_n 0, 1) := by decide +kernel
theorem dX12_undo_53 : decode cX12_undo 53 = .ok (.aload_n 0, 1) := by decide +kernel
theorem dX12_undo_54 : decode cX12_undo 54 = .ok (.getfield 365, 3) := by decide +kernel
theorem dX12_undo_57 : decode cX12_undo 57 = .ok (.iconst 5, 1) := by decide +kernel
theorem dX12_undo_58 : decode cX12_undo 58 = .ok (.invokevirtual 419, 3) := by decide +kernel
theorem dX12_undo_61 : decode cX12_undo 61 = .ok (.aload_n 0, 1) := by decide +kernel
theorem dX12_undo_62 : decode cX12_undo 62 = .ok (.aload_n 0, 1) := by decide +kernel
theorem dX12_undo_63 : decode cX12_undo 63 = .ok (.getfield 365, 3) := by decide +kernel
theorem dX12_undo_66 : decode cX12_undo 66 = .ok (.iconst 3, 1) := by decide +kernel
theorem dX12_undo_67 : decode cX12_undo 67 = .ok (.invokevirtual 419, 3) := by decide +kernel
theorem dX12_undo_70 : decode cX12_undo 70 = .ok (.invokestatic 348, 3) := by decide +kernel
theorem dX12_undo_73 : decode cX12_undo 73 = .ok (.goto 21, 3) := by decide +kernel
theorem dX12_undo_76 : decode cX12_undo 76 = .ok (.aload_n 0, 1) := by decide +kernel
theorem dX12_undo_77 : decode cX12_undo 77 = .ok (.getfield 60, 3) := by decide +kernel
theorem dX12_undo_80 : decode cX12_undo 80 = .ok (.iload_n 1, 1) := by decide +kernel
theorem dX12_undo_81 : decode cX12_undo 81 = .ok (.aload_n 0, 1) := by decide +kernel
theorem dX12_undo_82 : decode cX12_undo 82 = .ok (.aload_n 0, 1) := by decide +kernel
theorem dX12_undo_83 : decode cX12_undo 83 = .ok (.getfield 365, 3) := by decide +kernel
theorem dX12_undo_86 : decode cX12_undo 86 = .ok (.iconst 5, 1) := by decide +kernel
theorem dX12_undo_87 : decode cX12_undo 87 = .ok (.invokevirtual 419, 3) := by decide +kernel
theorem dX12_undo_90 : decode cX12_undo 90 = .ok (.invokestatic 362, 3) := by decide +kernel
theorem dX12_undo_93 : decode cX12_undo 93 = .ok (.pop, 1) := by decide +kernel
theorem dX12_undo_94 : decode cX12_undo 94 = .ok (.aload_n 0, 1) := by decide +kernel
theorem dX12_undo_95 : decode cX12_undo 95 = .ok (.getfield 60, 3) := by decide +kernel
theorem dX12_undo_98 : decode cX12_undo 98 = .ok (.aload_n 0, 1) := by decide +kernel
theorem dX12_undo_99 : decode cX12_undo 99 = .ok (.aload_n 0, 1) := by decide +kernel
theorem dX12_undo_100 : decode cX12_undo 100 = .ok (.getfield 365, 3) := by decide +kernel
theorem dX12_undo_103 : decode cX12_undo 103 = .ok (.iconst 1, 1) := by decide +kernel
theorem dX12_undo_104 : decode cX12_undo 104 = .ok (.invokevirtual 419, 3) := by decide +kernel
theorem dX12_undo_107 : decode cX12_undo 107 = .ok (.aload_n 0, 1) := by decide +kernel
theorem dX12_undo_108 : decode cX12_undo 108 = .ok (.aload_n 0, 1) := by decide +kernel
theorem dX12_undo_109 : decode cX12_undo 109 = .ok (.getfield 365, 3) := by decide +kernel
theorem dX12_undo_112 : decode cX12_undo 112 = .ok (.iconst 2, 1) := by decide +kernel
theorem dX12_undo_113 : decode cX12_undo 113 = .ok (.invokevirtual 419, 3) := by decide +kernel
theorem dX12_undo_116 : decode cX12_undo 116 = .ok (.aload_n 0, 1) := by decide +kernel
theorem dX12_undo_117 : decode cX12_undo 117 = .ok (.aload_n 0, 1) := by decide +kernel
theorem dX12_undo_118 : decode cX12_undo 118 = .ok (.getfield 365, 3) := by decide +kernel
theorem dX12_undo_121 : decode cX12_undo 121 = .ok (.iconst 3, 1) := by decide +kernel
theorem dX12_undo_122 : decode cX12_undo 122 = .ok (.invokevirtual 419, 3) := by decide +kernel
theorem dX12_undo_125 : decode cX12_undo 125 = .ok (.invokestatic 348, 3) := by decide +kernel
theorem dX12_undo_128 : decode cX12_undo 128 = .ok (.aload_n 0, 1) := by decide +kernel
theorem dX12_undo_129 : decode cX12_undo 129 = .ok (.getfield 60, 3) := by decide +kernel
theorem dX12_undo_132 : decode cX12_undo 132 = .ok (.bipush 8, 2) := by decide +kernel
theorem dX12_undo_134 : decode cX12_undo 134 = .ok (.iload_n 1, 1) := by decide +kernel
theorem dX12_undo_135 : decode cX12_undo 135 = .ok (.iadd, 1) := by decide +kernel
theorem dX12_undo_136 : decode cX12_undo 136 = .ok (.aload_n 0, 1) := by decide +kernel
theorem dX12_undo_137 : decode cX12_undo 137 = .ok (.aload_n 0, 1) := by decide +kernel
theorem dX12_undo_138 : decode cX12_undo 138 = .ok (.getfield 365, 3) := by decide +kernel
theorem dX12_undo_141 : decode cX12_undo 141 = .ok (.bipush 6, 2) := by decide +kernel
theorem dX12_undo_143 : decode cX12_undo 143 = .ok (.invokevirtual 419, 3) := by decide +kernel
theorem dX12_undo_146 : decode cX12_undo 146 = .ok (.iastore, 1) := by decide +kernel
theorem dX12_undo_147 : decode cX12_undo 147 = .ok (.aload_n 0, 1) := by decide +kernel
theorem dX12_undo_148 : decode cX12_undo 148 = .ok (.getfield 60, 3) := by decide +kernel
theorem dX12_undo_151 : decode cX12_undo 151 = .ok (.iconst 1, 1) := by decide +kernel
theorem dX12_undo_152 : decode cX12_undo 152 = .ok (.dup2, 1) := by decide +kernel
theorem dX12_undo_153 : decode cX12_undo 153 = .ok (.iaload, 1) := by decide +kernel
theorem dX12_undo_154 : decode cX12_undo 154 = .ok (.iconst 1, 1) := by decide +kernel
theorem dX12_undo_155 : decode cX12_undo 155 = .ok (.isub, 1) := by decide +kernel
theorem dX12_undo_156 : decode cX12_undo 156 = .ok (.iastore, 1) := by decide +kernel
theorem dX12_undo_157 : decode cX12_undo 157 = .ok (.aload_n 0, 1) := by decide +kernel
theorem dX12_undo_158 : decode cX12_undo 158 = .ok (.getfield 60, 3) := by decide +kernel
theorem dX12_undo_161 : decode cX12_undo 161 = .ok (.iconst 0, 1) := by decide +kernel
theorem dX12_undo_162 : decode cX12_undo 162 = .ok (.iload_n 1, 1) := by decide +kernel
theorem dX12_undo_163 : decode cX12_undo 163 = .ok (.iastore, 1) := by decide +kernel
theorem dX12_undo_164 : decode cX12_undo 164 = .ok (.aload_n 0, 1) := by decide +kernel
theorem dX12_undo_165 : decode cX12_undo 165 = .ok (.getfield 365, 3) := by decide +kernel
theorem dX12_undo_168 : decode cX12_undo 168 = .ok (.ireturn, 1) := by decide +kernel
def X12_undo_b94 (e : mm_E) (a0 : Nat) (i1 : Int32) (m : mm_V) : Option (Int32 × mm_V) := (mm_gr e.1 m 12 75 a0 39).bind fun c1 => (mm_gi e.1 m 12 75 a0 48).bind fun x2 => (X12_did e a0 x2 (1 : Int32) m).bind fun r3 => (mm_gi e.1 r3.2 12 75 a0 48).bind fun x4 => (X12_did e a0 x4 (2 : Int32) r3.2).bind fun r5 => (mm_gi e.1 r5.2 12 75 a0 48).bind fun x6 => (X12_did e a0 x6 (3 : Int32) r5.2).bind fun r7 => (X12_inserts e c1 r3.1 r5.1 r7.1 r7.2).bind fun r8 => (mm_gr e.1 r8 12 75 a0 39).bind fun c9 => (mm_gi e.1 r8 12 75 a0 48).bind fun x10 => (X12_did e a0 x10 (6 : Int32) r8).bind fun r11 => (mm_si e.1 r11.2 c9 ((8 : Int32) + i1) r11.1).bind fun m12 => (mm_gr e.1 m12 12 75 a0 39).bind fun c13 => (mm_ai e.1 m12 20 c13 (1 : Int32)).bind fun x14 => (mm_si e.1 m12 c13 (1 : Int32) (x14 - (1 : Int32))).bind fun m15 => (mm_gr e.1 m15 12 75 a0 39).bind fun c16 => (mm_si e.1 m15 c16 (0 : Int32) i1).bind fun m17 => (mm_gi e.1 m17 12 75 a0 48).bind fun x18 => some (x18, m17)
theorem X12_undo_b94_ok {K : mm_K} {nx : Option Nat} {e : mm_E} (hz : e.2.1 = K.2.2.2.2) {d : Nat} (hd : 2 ≤ d) {a0 : Nat} {i1 : Int32} (h0 : e.1 a0 = some (12, 75)) {m : mm_V} {r : (Int32 × mm_V)} (hr : X12_undo_b94 e a0 i1 m = some r) : mm_G K MX12_undo d (mm_Fi e.1 nx r) 94 [some (.ref a0), some (.int i1)] [] (e.1, m) nx 0 0 := by
  obtain ⟨d, rfl⟩ : ∃ d', d = d' + 1 := ⟨d - 1, by omega⟩
  unfold X12_undo_b94 at hr
  refine ml_aload_n (pc := 94) dX12_undo_94 rfl mm_get_0 ?_
  refine mb_gr (pc := 95) dX12_undo_95 fl_X12_60 hr (fun c1 hr => ?_)
  refine ml_aload_n (pc := 98) dX12_undo_98 rfl mm_get_0 ?_
  refine ml_aload_n (pc := 99) dX12_undo_99 rfl mm_get_0 ?_
  refine mb_gi (pc := 100) dX12_undo_100 fl_X12_365 hr (fun x2 hr => ?_)
  refine mg_iconst (pc := 103) dX12_undo_103 kc_1 ?_
  refine mb_cVi (pc := 104) (As := [.int x2, .int (1 : Int32)]) (rest := [.ref c1]) dX12_undo_104 cw_X12_419 h0 hr (fun v hv => X12_did_ok hz (by omega) h0 hv) rfl (Nat.le_of_ble_eq_true rfl) (Nat.zero_le _) (Nat.zero_le _) (fun r3 hr => ?_)
  refine ml_aload_n (pc := 107) dX12_undo_107 rfl mm_get_0 ?_
  refine ml_aload_n (pc := 108) dX12_undo_108 rfl mm_get_0 ?_
  refine mb_gi (pc := 109) dX12_undo_109 fl_X12_365 hr (fun x4 hr => ?_)
  refine mg_iconst (pc := 112) dX12_undo_112 kc_2 ?_
  refine mb_cVi (pc := 113) (As := [.int x4, .int (2 : Int32)]) (rest := [.int r3.1, .ref c1]) dX12_undo_113 cw_X12_419 h0 hr (fun v hv => X12_did_ok hz (by omega) h0 hv) rfl (Nat.le_of_ble_eq_true rfl) (Nat.zero_le _) (Nat.zero_le _) (fun r5 hr => ?_)
  refine ml_aload_n (pc := 116) dX12_undo_116 rfl mm_get_0 ?_
  refine ml_aload_n (pc := 117) dX12_undo_117 rfl mm_get_0 ?_
  refine mb_gi (pc := 118) dX12_undo_118 fl_X12_365 hr (fun x6 hr => ?_)
  refine mg_iconst (pc := 121) dX12_undo_121 kc_3 ?_
  refine mb_cVi (pc := 122) (As := [.int x6, .int (3 : Int32)]) (rest := [.int r5.1, .int r3.1, .ref c1]) dX12_undo_122 cw_X12_419 h0 hr (fun v hv => X12_did_ok hz (by omega) h0 hv) rfl (Nat.le_of_ble_eq_true rfl) (Nat.zero_le _) (Nat.zero_le _) (fun r7 hr => ?_)
  refine mb_cSv (pc := 125) (As := [.ref c1, .int r3.1, .int r5.1, .int r7.1]) (rest := []) dX12_undo_125 cw_X12_348  hr (fun v hv => X12_inserts_ok hz (by omega)  hv) rfl (Nat.le_of_ble_eq_true rfl) (Nat.zero_le _) (Nat.zero_le _) (fun r8 hr => ?_)
  refine ml_aload_n (pc := 128) dX12_undo_128 rfl mm_get_0 ?_
  refine mb_gr (pc := 129) dX12_undo_129 fl_X12_60 hr (fun c9 hr => ?_)
  refine mg_bipush (pc := 132) dX12_undo_132 kb_8 ?_
  refine ml_iload_n (pc := 134) dX12_undo_134 rfl (mm_get_s mm_get_0) ?_
  refine mg_iadd (pc := 135) dX12_undo_135 ?_
  refine ml_aload_n (pc := 136) dX12_undo_136 rfl mm_get_0 ?_
  refine ml_aload_n (pc := 137) dX12_undo_137 rfl mm_get_0 ?_
  refine mb_gi (pc := 138) dX12_undo_138 fl_X12_365 hr (fun x10 hr => ?_)
  refine mg_bipush (pc := 141) dX12_undo_141 kb_6 ?_
  refine mb_cVi (pc := 143) (As := [.int x10, .int (6 : Int32)]) (rest := [.int ((8 : Int32) + i1), .ref c9]) dX12_undo_143 cw_X12_419 h0 hr (fun v hv => X12_did_ok hz (by omega) h0 hv) rfl (Nat.le_of_ble_eq_true rfl) (Nat.zero_le _) (Nat.zero_le _) (fun r11 hr => ?_)
  refine mb_si (pc := 146) dX12_undo_146 hr (fun m12 hr => ?_)
  refine ml_aload_n (pc := 147) dX12_undo_147 rfl mm_get_0 ?_
  refine mb_gr (pc := 148) dX12_undo_148 fl_X12_60 hr (fun c13 hr => ?_)
  refine mg_iconst (pc := 151) dX12_undo_151 kc_1 ?_
  refine mg_dup2 (pc := 152) dX12_undo_152 rfl rfl ?_
  refine mb_ai (pc := 153) dX12_undo_153 hr (fun x14 hr => ?_)
  refine mg_iconst (pc := 154) dX12_undo_154 kc_1 ?_
  refine mg_isub (pc := 155) dX12_undo_155 ?_
  refine mb_si (pc := 156) dX12_undo_156 hr (fun m15 hr => ?_)
  refine ml_aload_n (pc := 157) dX12_undo_157 rfl mm_get_0 ?_
  refine mb_gr (pc := 158) dX12_undo_158 fl_X12_60 hr (fun c16 hr => ?_)
  refine mg_iconst (pc := 161) dX12_undo_161 kc_0 ?_
  refine ml_iload_n (pc := 162) dX12_undo_162 rfl (mm_get_s mm_get_0) ?_
  refine mb_si (pc := 163) dX12_undo_163 hr (fun m17 hr => ?_)
  refine ml_aload_n (pc := 164) dX12_undo_164 rfl mm_get_0 ?_
  refine mb_gi (pc := 165) dX12_undo_165 fl_X12_365 hr (fun x18 hr => ?_)
  exact mb_iret dX12_undo_168 rfl hr
def X12_undo (e : mm_E) (a0 : Nat) (m : mm_V) : Option (Int32 × mm_V) := (mm_pf e.1 m 12 75 a0 0 (.int (0 : Int32))).bind fun m1 => (mm_gi e.1 m1 12 75 a0 48).bind fun x2 => if ¬ x2 = 0 then ((mm_gi e.1 m1 12 75 a0 48).bind fun x3 => (mm_pf e.1 m1 12 75 a0 48 (.int (x3 - (1 : Int32)))).bind fun m4 => (mm_gi e.1 m4 12 75 a0 48).bind fun x5 => (X12_did e a0 x5 (0 : Int32) m4).bind fun r6 => (mm_gi e.1 r6.2 12 75 a0 48).bind fun x7 => (X12_did e a0 x7 (4 : Int32) r6.2).bind fun r8 => if ¬ r8.1 = (1 : Int32) then ((mm_gr e.1 r8.2 12 75 a0 39).bind fun c9 => (mm_gi e.1 r8.2 12 75 a0 48).bind fun x10 => (X12_did e a0 x10 (5 : Int32) r8.2).bind fun r11 => (X12_takes e c9 r6.1 r11.1 r11.2).bind fun r12 => X12_undo_b94 e a0 r6.1  r12.2) else ((mm_gr e.1 r8.2 12 75 a0 39).bind fun c13 => (mm_gi e.1 r8.2 12 75 a0 48).bind fun x14 => (X12_did e a0 x14 (5 : Int32) r8.2).bind fun r15 => (mm_gi e.1 r15.2 12 75 a0 48).bind fun x16 => (X12_did e a0 x16 (3 : Int32) r15.2).bind fun r17 => (X12_inserts e c13 r6.1 r15.1 r17.1 r17.2).bind fun r18 => X12_undo_b94 e a0 r6.1  r18)) else (some ((-1 : Int32), m1))
theorem X12_undo_ok {K : mm_K} {nx : Option Nat} {e : mm_E} (hz : e.2.1 = K.2.2.2.2) {d : Nat} (hd : 2 ≤ d) {a0 : Nat} (h0 : e.1 a0 = some (12, 75)) {m : mm_V} {r : (Int32 × mm_V)} (hr : X12_undo e a0 m = some r) : mm_Cn K MX12_undo d (mm_Fi e.1 nx r) [.ref a0] (e.1, m) nx := by
  obtain ⟨d, rfl⟩ : ∃ d', d = d' + 1 := ⟨d - 1, by omega⟩
  refine mm_entry (by decide) (Nat.le_of_ble_eq_true rfl) rfl (fun hok => ?_)
  unfold X12_undo at hr
  refine mg_weak (L' := [some (.ref a0), none]) (mm_le_s (mm_le_e mm_le_0)) ?_
  refine ml_aload_n (pc := 0) dX12_undo_0 rfl mm_get_0 ?_
  refine mg_iconst (pc := 1) dX12_undo_1 kc_0 ?_
  refine mb_pi (pc := 2) dX12_undo_2 fp_X12_152 hr (fun m1 hr => ?_)
  refine ml_aload_n (pc := 5) dX12_undo_5 rfl mm_get_0 ?_
  refine mb_gi (pc := 6) dX12_undo_6 fl_X12_365 hr (fun x2 hr => ?_)
  refine mb_if_ne (pc := 9) 14 dX12_undo_9 rfl hr (fun hr => ?_) (fun hr => ?_)
  · refine ml_aload_n (pc := 14) dX12_undo_14 rfl mm_get_0 ?_
    refine mg_dup (pc := 15) dX12_undo_15 rfl ?_
    refine mb_gi (pc := 16) dX12_undo_16 fl_X12_365 hr (fun x3 hr => ?_)
    refine mg_iconst (pc := 19) dX12_undo_19 kc_1 ?_
    refine mg_isub (pc := 20) dX12_undo_20 ?_
    refine mb_pi (pc := 21) dX12_undo_21 fp_X12_365 hr (fun m4 hr => ?_)
    refine ml_aload_n (pc := 24) dX12_undo_24 rfl mm_get_0 ?_
    refine ml_aload_n (pc := 25) dX12_undo_25 rfl mm_get_0 ?_
    refine mb_gi (pc := 26) dX12_undo_26 fl_X12_365 hr (fun x5 hr => ?_)
    refine mg_iconst (pc := 29) dX12_undo_29 kc_0 ?_
    refine mb_cVi (pc := 30) (As := [.int x5, .int (0 : Int32)]) (rest := []) dX12_undo_30 cw_X12_419 h0 hr (fun v hv => X12_did_ok hz (by omega) h0 hv) rfl (Nat.le_of_ble_eq_true rfl) (Nat.zero_le _) (Nat.zero_le _) (fun r6 hr => ?_)
    refine ml_istore_n (pc := 33) dX12_undo_33 rfl (Nat.le_of_ble_eq_true rfl) mm_st1_r ?_
    refine ml_aload_n (pc := 34) dX12_undo_34 rfl mm_get_0 ?_
    refine ml_aload_n (pc := 35) dX12_undo_35 rfl mm_get_0 ?_
    refine mb_gi (pc := 36) dX12_undo_36 fl_X12_365 hr (fun x7 hr => ?_)
    refine mg_iconst (pc := 39) dX12_undo_39 kc_4 ?_
    refine mb_cVi (pc := 40) (As := [.int x7, .int (4 : Int32)]) (rest := []) dX12_undo_40 cw_X12_419 h0 hr (fun v hv => X12_did_ok hz (by omega) h0 hv) rfl (Nat.le_of_ble_eq_true rfl) (Nat.zero_le _) (Nat.zero_le _) (fun r8 hr => ?_)
    refine mg_iconst (pc := 43) dX12_undo_43 kc_1 ?_
    refine mb_icmp_ne (pc := 44) 76 dX12_undo_44 rfl hr (fun hr => ?_) (fun hr => ?_)
    · refine ml_aload_n (pc := 76) dX12_undo_76 rfl mm_get_0 ?_
      refine mb_gr (pc := 77) dX12_undo_77 fl_X12_60 hr (fun c9 hr => ?_)
      refine ml_iload_n (pc := 80) dX12_undo_80 rfl (mm_get_s mm_get_0) ?_
      refine ml_aload_n (pc := 81) dX12_undo_81 rfl mm_get_0 ?_
      refine ml_aload_n (pc := 82) dX12_undo_82 rfl mm_get_0 ?_
      refine mb_gi (pc := 83) dX12_undo_83 fl_X12_365 hr (fun x10 hr => ?_)
      refine mg_iconst (pc := 86) dX12_undo_86 kc_5 ?_
      refine mb_cVi (pc := 87) (As := [.int x10, .int (5 : Int32)]) (rest := [.int r6.1, .ref c9]) dX12_undo_87 cw_X12_419 h0 hr (fun v hv => X12_did_ok hz (by omega) h0 hv) rfl (Nat.le_of_ble_eq_true rfl) (Nat.zero_le _) (Nat.zero_le _) (fun r11 hr => ?_)
      refine mb_cSi (pc := 90) (As := [.ref c9, .int r6.1, .int r11.1]) (rest := []) dX12_undo_90 cw_X12_362  hr (fun v hv => X12_takes_ok hz (by omega)  hv) rfl (Nat.le_of_ble_eq_true rfl) (Nat.zero_le _) (Nat.zero_le _) (fun r12 hr => ?_)
      refine mg_pop (pc := 93) dX12_undo_93 rfl ?_
      exact mg_weak (mm_le_s (mm_le_s mm_le_0)) (X12_undo_b94_ok hz hd h0 hr)
    · refine ml_aload_n (pc := 47) dX12_undo_47 rfl mm_get_0 ?_
      refine mb_gr (pc := 48) dX12_undo_48 fl_X12_60 hr (fun c13 hr => ?_)
      refine ml_iload_n (pc := 51) dX12_undo_51 rfl (mm_get_s mm_get_0) ?_
      refine ml_aload_n (pc := 52) dX12_undo_52 rfl mm_get_0 ?_
      refine ml_aload_n (pc := 53) dX12_undo_53 rfl mm_get_0 ?_
      refine mb_gi (pc := 54) dX12_undo_54 fl_X12_365 hr (fun x14 hr => ?_)
      refine mg_iconst (pc := 57) dX12_undo_57 kc_5 ?_
      refine mb_cVi (pc := 58) (As := [.int x14, .int (5 : Int32)]) (rest := [.int r6.1, .ref c13]) dX12_undo_58 cw_X12_419 h0 hr (fun v hv => X12_did_ok hz (by omega) h0 hv) rfl (Nat.le_of_ble_eq_true rfl) (Nat.zero_le _) (Nat.zero_le _) (fun r15 hr => ?_)
      refine ml_aload_n (pc := 61) dX12_undo_61 rfl mm_get_0 ?_
      refine ml_aload_n (pc := 62) dX12_undo_62 rfl mm_get_0 ?_
      refine mb_gi (pc := 63) dX12_undo_63 fl_X12_365 hr (fun x16 hr => ?_)
      refine mg_iconst (pc := 66) dX12_undo_66 kc_3 ?_
      refine mb_cVi (pc := 67) (As := [.int x16, .int (3 : Int32)]) (rest := [.int r15.1, .int r6.1, .ref c13]) dX12_undo_67 cw_X12_419 h0 hr (fun v hv => X12_did_ok hz (by omega) h0 hv) rfl (Nat.le_of_ble_eq_true rfl) (Nat.zero_le _) (Nat.zero_le _) (fun r17 hr => ?_)
      refine mb_cSv (pc := 70) (As := [.ref c13, .int r6.1, .int r15.1, .int r17.1]) (rest := []) dX12_undo_70 cw_X12_348  hr (fun v hv => X12_inserts_ok hz (by omega)  hv) rfl (Nat.le_of_ble_eq_true rfl) (Nat.zero_le _) (Nat.zero_le _) (fun r18 hr => ?_)
      refine mg_goto (pc := 73) 94 dX12_undo_73 rfl ?_
      exact mg_weak (mm_le_s (mm_le_s mm_le_0)) (X12_undo_b94_ok hz hd h0 hr)
  · refine mg_iconst (pc := 12) dX12_undo_12 kc_m1 ?_
    exact mb_iret dX12_undo_13 rfl hr
theorem dX12_plays_0 : decode cX12_plays 0 = .ok (.aload_n 0, 1) := by decide +kernel
theorem dX12_plays_1 : decode cX12_plays 1 = .ok (.iconst 0, 1) := by decide +kernel
theorem dX12_plays_2 : decode cX12_plays 2 = .ok (.putfield 422, 3) := by decide +kernel
theorem dX12_plays_5 : decode cX12_plays 5 = .ok (.iconst 0, 1) := by decide +kernel
theorem dX12_plays_6 : decode cX12_plays 6 = .ok (.istore_n 2, 1) := by decide +kernel
theorem dX12_plays_7 : decode cX12_plays 7 = .ok (.iload_n 2, 1) := by decide +kernel
theorem dX12_plays_8 : decode cX12_plays 8 = .ok (.bipush 6, 2) := by decide +kernel
theorem dX12_plays_10 : decode cX12_plays 10 = .ok (.if_icmp .ge 57, 3) := by decide +kernel
theorem dX12_plays_13 : decode cX12_plays 13 = .ok (.aload_n 0, 1) := by decide +kernel
theorem dX12_plays_14 : decode cX12_plays 14 = .ok (.getfield 78, 3) := by decide +kernel
theorem dX12_plays_17 : decode cX12_plays 17 = .ok (.iload_n 2, 1) := by decide +kernel
theorem dX12_plays_18 : decode cX12_plays 18 = .ok (.iconst 0, 1) := by decide +kernel
theorem dX12_plays_19 : decode cX12_plays 19 = .ok (.iastore, 1) := by decide +kernel
theorem dX12_plays_20 : decode cX12_plays 20 = .ok (.aload_n 0, 1) := by decide +kernel
theorem dX12_plays_21 : decode cX12_plays 21 = .ok (.getfield 81, 3) := by decide +kernel
theorem dX12_plays_24 : decode cX12_plays 24 = .ok (.iload_n 2, 1) := by decide +kernel
theorem dX12_plays_25 : decode cX12_plays 25 = .ok (.iconst 0, 1) := by decide +kernel
theorem dX12_plays_26 : decode cX12_plays 26 = .ok (.iastore, 1) := by decide +kernel
theorem dX12_plays_27 : decode cX12_plays 27 = .ok (.aload_n 0, 1) := by decide +kernel
theorem dX12_plays_28 : decode cX12_plays 28 = .ok (.getfield 84, 3) := by decide +kernel
theorem dX12_plays_31 : decode cX12_plays 31 = .ok (.iload_n 2, 1) := by decide +kernel
theorem dX12_plays_32 : decode cX12_plays 32 = .ok (.iconst 0, 1) := by decide +kernel
theorem dX12_plays_33 : decode cX12_plays 33 = .ok (.iastore, 1) := by decide +kernel
theorem dX12_plays_34 : decode cX12_plays 34 = .ok (.aload_n 0, 1) := by decide +kernel
theorem dX12_plays_35 : decode cX12_plays 35 = .ok (.getfield 87, 3) := by decide +kernel
theorem dX12_plays_38 : decode cX12_plays 38 = .ok (.iload_n 2, 1) := by decide +kernel
theorem dX12_plays_39 : decode cX12_plays 39 = .ok (.iload_n 2, 1) := by decide +kernel
theorem dX12_plays_40 : decode cX12_plays 40 = .ok (.aload_n 0, 1) := by decide +kernel
theorem dX12_plays_41 : decode cX12_plays 41 = .ok (.getfield 7, 3) := by decide +kernel
theorem dX12_plays_44 : decode cX12_plays 44 = .ok (.if_icmp .ge 15, 3) := by decide +kernel
theorem dX12_plays_47 : decode cX12_plays 47 = .ok (.aload_n 1, 1) := by decide +kernel
theorem dX12_plays_48 : decode cX12_plays 48 = .ok (.iload_n 2, 1) := by decide +kernel
theorem dX12_plays_49 : decode cX12_plays 49 = .ok (.invokestatic 327, 3) := by decide +kernel
theorem dX12_plays_52 : decode cX12_plays 52 = .ok (.ifCond .ne 7, 3) := by decide +kernel
theorem dX12_plays_55 : decode cX12_plays 55 = .ok (.iconst 0, 1) := by decide +kernel
theorem dX12_plays_56 : decode cX12_plays 56 = .ok (.goto 4, 3) := by decide +kernel
theorem dX12_plays_59 : decode cX12_plays 59 = .ok (.iconst (-1), 1) := by decide +kernel
theorem dX12_plays_60 : decode cX12_plays 60 = .ok (.iastore, 1) := by decide +kernel
theorem dX12_plays_61 : decode cX12_plays 61 = .ok (.iinc 2 1, 3) := by decide +kernel
theorem dX12_plays_64 : decode cX12_plays 64 = .ok (.goto (-57), 3) := by decide +kernel
theorem dX12_plays_67 : decode cX12_plays 67 = .ok (.aload_n 0, 1) := by decide +kernel
theorem dX12_plays_68 : decode cX12_plays 68 = .ok (.getfield 422, 3) := by decide +kernel
theorem dX12_plays_71 : decode cX12_plays 71 = .ok (.sipush 200, 3) := by decide +kernel
theorem dX12_plays_74 : decode cX12_plays 74 = .ok (.if_icmp .ge 165, 3) := by decide +kernel
theorem dX12_plays_77 : decode cX12_plays 77 = .ok (.aload_n 0, 1) := by decide +kernel
theorem dX12_plays_78 : decode cX12_plays 78 = .ok (.aload_n 1, 1) := by decide +kernel
theorem dX12_plays_79 : decode cX12_plays 79 = .ok (.invokevirtual 338, 3) := by decide +kernel
theorem dX12_plays_82 : decode cX12_plays 82 = .ok (.ifCond .ne 157, 3) := by decide +kernel
theorem dX12_plays_85 : decode cX12_plays 85 = .ok (.aload_n 0, 1) := by decide +kernel
theorem dX12_plays_86 : decode cX12_plays 86 = .ok (.aload_n 1, 1) := by decide +kernel
theorem dX12_plays_87 : decode cX12_plays 87 = .ok (.invokevirtual 425, 3) := by decide +kernel
theorem dX12_plays_90 : decode cX12_plays 90 = .ok (.aload_n 0, 1) := by decide +kernel
theorem dX12_plays_91 : decode cX12_plays 91 = .ok (.dup, 1) := by decide +kernel
theorem dX12_plays_92 : decode cX12_plays 92 = .ok (.getfield 422, 3) := by decide +kernel
theorem dX12_plays_95 : decode cX12_plays 95 = .ok (.iconst 1, 1) := by decide +kernel
theorem dX12_plays_96 : decode cX12_plays 96 = .ok (.iadd, 1) := by decide +kernel
theorem dX12_plays_97 : decode cX12_plays 97 = .ok (.putfield 422, 3) := by decide +kernel
theorem dX12_plays_100 : decode cX12_plays 100 = .ok (.iconst 0, 1) := by decide +kernel
theorem dX12_plays_101 : decode cX12_plays 101 = .ok (.istore_n 2, 1) := by decide +kernel
theorem dX12_plays_102 : decode cX12_plays 102 = .ok (.iload_n 2, 1) := by decide +kernel
theorem dX12_plays_103 : decode cX12_plays 103 = .ok (.aload_n 0, 1) := by decide +kernel
theorem dX12_plays_104 : decode cX12_plays 104 = .ok (.getfield 7, 3) := by decide +kernel
theorem dX12_plays_107 : decode cX12_plays 107 = .ok (.if_icmp .ge 129, 3) := by decide +kernel
theorem dX12_plays_110 : decode cX12_plays 110 = .ok (.aload_n 1, 1) := by decide +kernel
theorem dX12_plays_111 : decode cX12_plays 111 = .ok (.iload_n 2, 1) := by decide +kernel
theorem dX12_plays_112 : decode cX12_plays 112 = .ok (.iconst 0, 1) := by decide +kernel
theorem dX12_plays_113 : decode cX12_plays 113 = .ok (.invokestatic 335, 3) := by decide +kernel
theorem dX12_plays_116 : decode cX12_plays 116 = .ok (.iconst (-1), 1) := by decide +kernel
theorem dX12_plays_117 : decode cX12_plays 117 = .ok (.if_icmp .eq 7, 3) := by decide +kernel
theorem dX12_plays_120 : decode cX12_plays 120 = .ok (.iconst 1, 1) := by decide +kernel
theorem dX12_plays_121 : decode cX12_plays 121 = .ok (.goto 4, 3) := by decide +kernel
theorem dX12_plays_124 : decode cX12_plays 124 = .ok (.iconst 0, 1) := by decide +kernel
theorem dX12_plays_125 : decode cX12_plays 125 = .ok (.istore_n 3, 1) := by decide +kernel
theorem dX12_plays_126 : decode cX12_plays 126 = .ok (.aload_n 0, 1) := by decide +kernel
theorem dX12_plays_127 : decode cX12_plays 127 = .ok (.getfield 78, 3) := by decide +kernel
theorem dX12_plays_130 : decode cX12_plays 130 = .ok (.iload_n 2, 1) := by decide +kernel
theorem dX12_plays_131 : decode cX12_plays 131 = .ok (.dup2, 1) := by decide +kernel
theorem dX12_plays_132 : decode cX12_plays 132 = .ok (.iaload, 1) := by decide +kernel
theorem dX12_plays_133 : decode cX12_plays 133 = .ok (.iload_n 3, 1) := by decide +kernel
theorem dX12_plays_134 : decode cX12_plays 134 = .ok (.ifCond .eq 7, 3) := by decide +kernel
theorem dX12_plays_137 : decode cX12_plays 137 = .ok (.iconst 1, 1) := by decide +kernel
theorem dX12_plays_138 : decode cX12_plays 138 = .ok (.goto 4, 3) := by decide +kernel
theorem dX12_plays_141 : decode cX12_plays 141 = .ok (.iconst 0, 1) := by decide +kernel
theorem dX12_plays_142 : decode cX12_plays 142 = .ok (.iadd, 1) := by decide +kernel
theorem dX12_plays_143 : decode cX12_plays 143 = .ok (.iastore, 1) := by decide +kernel
theorem dX12_plays_144 : decode cX12_plays 144 = .ok (.aload_n 0, 1) := by decide +kernel
theorem dX12_plays_145 : decode cX12_plays 145 = .ok (.getfield 84, 3) := by decide +kernel
theorem dX12_plays_148 : decode cX12_plays 148 = .ok (.iload_n 2, 1) := by decide +kernel
theorem dX12_plays_149 : decode cX12_plays 149 = .ok (.iload_n 3, 1) := by decide +kernel
theorem dX12_plays_150 : decode cX12_plays 150 = .ok (.ifCond .eq 14, 3) := by decide +kernel
theorem dX12_plays_153 : decode cX12_plays 153 = .ok (.aload_n 0, 1) := by decide +kernel
theorem dX12_plays_154 : decode cX12_plays 154 = .ok (.getfield 84, 3) := by decide +kernel
theorem dX12_plays_157 : decode cX12_plays 157 = .ok (.iload_n 2, 1) := by decide +kernel
theorem dX12_plays_158 : decode cX12_plays 158 = .ok (.iaload, 1) := by decide +kernel
theorem dX12_plays_159 : decode cX12_plays 159 = .ok (.iconst 1, 1) := by decide +kernel
theorem dX12_plays_160 : decode cX12_plays 160 = .ok (.iadd, 1) := by decide +kernel
theorem dX12_plays_161 : decode cX12_plays 161 = .ok (.goto 4, 3) := by decide +kernel
theorem dX12_plays_164 : decode cX12_plays 164 = .ok (.iconst 0, 1) := by decide +kernel
theorem dX12_plays_165 : decode cX12_plays 165 = .ok (.iastore, 1) := by decide +kernel
theorem dX12_plays_166 : decode cX12_plays 166 = .ok (.aload_n 0, 1) := by decide +kernel
theorem dX12_plays_167 : decode cX12_plays 167 = .ok (.getfield 81, 3) := by decide +kernel
theorem dX12_plays_170 : decode cX12_plays 170 = .ok (.iload_n 2, 1) := by decide +kernel
theorem dX12_plays_171 : decode cX12_plays 171 = .ok (.aload_n 0, 1) := by decide +kernel
theorem dX12_plays_172 : decode cX12_plays 172 = .ok (.getfield 84, 3) := by decide +kernel
theorem dX12_plays_175 : decode cX12_plays 175 = .ok (.iload_n 2, 1) := by decide +kernel
theorem dX12_plays_176 : decode cX12_plays 176 = .ok (.iaload, 1) := by decide +kernel
theorem dX12_plays_177 : decode cX12_plays 177 = .ok (.aload_n 0, 1) := by decide +kernel
theorem dX12_plays_178 : decode cX12_plays 178 = .ok (.getfield 81, 3) := by decide +kernel
theorem dX12_plays_181 : decode cX12_plays 181 = .ok (.iload_n 2, 1) := by decide +kernel
theorem dX12_plays_182 : decode cX12_plays 182 = .ok (.iaload, 1) := by decide +kernel
theorem dX12_plays_183 : decode cX12_plays 183 = .ok (.if_icmp .le 12, 3) := by decide +kernel
theorem dX12_plays_186 : decode cX12_plays 186 = .ok (.aload_n 0, 1) := by decide +kernel
theorem dX12_plays_187 : decode cX12_plays 187 = .ok (.getfield 84, 3) := by decide +kernel
theorem dX12_plays_190 : decode cX12_plays 190 = .ok (.iload_n 2, 1) := by decide +kernel
theorem dX12_plays_191 : decode cX12_plays 191 = .ok (.iaload, 1) := by decide +kernel
theorem dX12_plays_192 : decode cX12_plays 192 = .ok (.goto 9, 3) := by decide +kernel
theorem dX12_plays_195 : decode cX12_plays 195 = .ok (.aload_n 0, 1) := by decide +kernel
theorem dX12_plays_196 : decode cX12_plays 196 = .ok (.getfield 81, 3) := by decide +kernel
theorem dX12_plays_199 : decode cX12_plays 199 = .ok (.iload_n 2, 1) := by decide +kernel
theorem dX12_plays_200 : decode cX12_plays 200 = .ok (.iaload, 1) := by decide +kernel
theorem dX12_plays_201 : decode cX12_plays 201 = .ok (.iastore, 1) := by decide +kernel
theorem dX12_plays_202 : decode cX12_plays 202 = .ok (.aload_n 0, 1) := by decide +kernel
theorem dX12_plays_203 : decode cX12_plays 203 = .ok (.getfield 87, 3) := by decide +kernel
theorem dX12_plays_206 : decode cX12_plays 206 = .ok (.iload_n 2, 1) := by decide +kernel
theorem dX12_plays_207 : decode cX12_plays 207 = .ok (.iaload, 1) := by decide +kernel
theorem dX12_plays_208 : decode cX12_plays 208 = .ok (.iconst (-1), 1) := by decide +kernel
theorem dX12_plays_209 : decode cX12_plays 209 = .ok (.if_icmp .ne 21, 3) := by decide +kernel
theorem dX12_plays_212 : decode cX12_plays 212 = .ok (.aload_n 1, 1) := by decide +kernel
theorem dX12_plays_213 : decode cX12_plays 213 = .ok (.iload_n 2, 1) := by decide +kernel
theorem dX12_plays_214 : decode cX12_plays 214 = .ok (.invokestatic 327, 3) := by decide +kernel
theorem dX12_plays_217 : decode cX12_plays 217 = .ok (.ifCond .ne 13, 3) := by decide +kernel
theorem dX12_plays_220 : decode cX12_plays 220 = .ok (.aload_n 0, 1) := by decide +kernel
theorem dX12_plays_221 : decode cX12_plays 221 = .ok (.getfield 87, 3) := by decide +kernel
theorem dX12_plays_224 : decode cX12_plays 224 = .ok (.iload_n 2, 1) := by decide +kernel
theorem dX12_plays_225 : decode cX12_plays 225 = .ok (.aload_n 0, 1) := by decide +kernel
theorem dX12_plays_226 : decode cX12_plays 226 = .ok (.getfield 422, 3) := by decide +kernel
theorem dX12_plays_229 : decode cX12_plays 229 = .ok (.iastore, 1) := by decide +kernel
theorem dX12_plays_230 : decode cX12_plays 230 = .ok (.iinc 2 1, 3) := by decide +kernel
theorem dX12_plays_233 : decode cX12_plays 233 = .ok (.goto (-131), 3) := by decide +kernel
theorem dX12_plays_236 : decode cX12_plays 236 = .ok (.goto (-169), 3) := by decide +kernel
theorem dX12_plays_239 : decode cX12_plays 239 = .ok (.return_, 1) := by decide +kernel
def X12_plays_b239 (e : mm_E) (m : mm_V) : Option mm_V := some m
theorem X12_plays_b239_ok {K : mm_K} {nx : Option Nat} {e : mm_E} (hz : e.2.1 = K.2.2.2.2) {d : Nat} (hd : 6 ≤ d) {a0 : Nat} (h0 : e.1 a0 = some (12, 75)) {m : mm_V} {r : mm_V} (hr : X12_plays_b239 e m = some r) : mm_G K MX12_plays d (mm_Fv e.1 nx r) 239 [none, none, none, none] [] (e.1, m) nx 0 0 := by
  obtain ⟨d, rfl⟩ : ∃ d', d = d' + 1 := ⟨d - 1, by omega⟩
  unfold X12_plays_b239 at hr
  exact mb_vret dX12_plays_239 rfl hr
def X12_plays_b230 (e : mm_E) (k67 : mm_V → Option mm_V) (k102 : Int32 → mm_V → Option mm_V) (a0 : Nat) (a1 : Nat) (i2 : Int32) (m : mm_V) : Option mm_V := k102 (i2 + 1) m
theorem X12_plays_b230_ok {K : mm_K} {nx : Option Nat} {e : mm_E} (hz : e.2.1 = K.2.2.2.2) {d : Nat} (hd : 6 ≤ d) {a0 : Nat} {a1 : Nat} {i2 : Int32} (h0 : e.1 a0 = some (12, 75)) {k67 : mm_V → Option mm_V} {k102 : Int32 → mm_V → Option mm_V} (hk67 : ∀ (m : mm_V) (r : mm_V), k67  m = some r → mm_G K MX12_plays d (mm_Fv e.1 nx r) 67 [some (.ref a0), some (.ref a1), none, none] [] (e.1, m) nx 0 0) (hk102 : ∀ (w2 : Int32) (m : mm_V) (r : mm_V), k102 w2 m = some r → mm_G K MX12_plays d (mm_Fv e.1 nx r) 102 [some (.ref a0), some (.ref a1), some (.int w2), none] [] (e.1, m) nx 0 0) {m : mm_V} {r : mm_V} (hr : X12_plays_b230 e k67 k102 a0 a1 i2 m = some r) : mm_G K MX12_plays d (mm_Fv e.1 nx r) 230 [some (.ref a0), some (.ref a1), some (.int i2), none] [] (e.1, m) nx 0 0 := by
  obtain ⟨d, rfl⟩ : ∃ d', d = d' + 1 := ⟨d - 1, by omega⟩
  unfold X12_plays_b230 at hr
  refine ml_iinc (pc := 230) dX12_plays_230 (mm_get_s (mm_get_s mm_get_0)) (congrArg (fun z => i2 + z) kc_1) (Nat.le_of_ble_eq_true rfl) (mm_st1_s mm_st1_r) ?_
  refine mg_goto (pc := 233) 102 dX12_plays_233 rfl ?_
  exact mg_weak (mm_le_s (mm_le_s (mm_le_s (mm_le_n mm_le_0)))) (hk102 _ _ _ hr)
def X12_plays_b201 (e : mm_E) (k67 : mm_V → Option mm_V) (k102 : Int32 → mm_V → Option mm_V) (a0 : Nat) (a1 : Nat) (i2 : Int32) (t0 : Nat) (t1 : Int32) (t2 : Int32) (m : mm_V) : Option mm_V := (mm_si e.1 m t0 t1 t2).bind fun m1 => (mm_gr e.1 m1 12 75 a0 53).bind fun c2 => (mm_ai e.1 m1 20 c2 i2).bind fun x3 => if ¬ x3 = (-1 : Int32) then (X12_plays_b230 e k67 k102 a0 a1 i2  m1) else ((X12_size e a1 i2 m1).bind fun r4 => if ¬ r4.1 = 0 then (X12_plays_b230 e k67 k102 a0 a1 i2  r4.2) else ((mm_gr e.1 r4.2 12 75 a0 53).bind fun c5 => (mm_gi e.1 r4.2 12 75 a0 54).bind fun x6 => (mm_si e.1 r4.2 c5 i2 x6).bind fun m7 => X12_plays_b230 e k67 k102 a0 a1 i2  m7))
theorem X12_plays_b201_ok {K : mm_K} {nx : Option Nat} {e : mm_E} (hz : e.2.1 = K.2.2.2.2) {d : Nat} (hd : 6 ≤ d) {a0 : Nat} {a1 : Nat} {i2 : Int32} {t0 : Nat} {t1 : Int32} {t2 : Int32} (h0 : e.1 a0 = some (12, 75)) {k67 : mm_V → Option mm_V} {k102 : Int32 → mm_V → Option mm_V} (hk67 : ∀ (m : mm_V) (r : mm_V), k67  m = some r → mm_G K MX12_plays d (mm_Fv e.1 nx r) 67 [some (.ref a0), some (.ref a1), none, none] [] (e.1, m) nx 0 0) (hk102 : ∀ (w2 : Int32) (m : mm_V) (r : mm_V), k102 w2 m = some r → mm_G K MX12_plays d (mm_Fv e.1 nx r) 102 [some (.ref a0), some (.ref a1), some (.int w2), none] [] (e.1, m) nx 0 0) {m : mm_V} {r : mm_V} (hr : X12_plays_b201 e k67 k102 a0 a1 i2 t0 t1 t2 m = some r) : mm_G K MX12_plays d (mm_Fv e.1 nx r) 201 [some (.ref a0), some (.ref a1), some (.int i2), none] [.int t2, .int t1, .ref t0] (e.1, m) nx 0 0 := by
  obtain ⟨d, rfl⟩ : ∃ d', d = d' + 1 := ⟨d - 1, by omega⟩
  unfold X12_plays_b201 at hr
  refine mb_si (pc := 201) dX12_plays_201 hr (fun m1 hr => ?_)
  refine ml_aload_n (pc := 202) dX12_plays_202 rfl mm_get_0 ?_
  refine mb_gr (pc := 203) dX12_plays_203 fl_X12_87 hr (fun c2 hr => ?_)
  refine ml_iload_n (pc := 206) dX12_plays_206 rfl (mm_get_s (mm_get_s mm_get_0)) ?_
  refine mb_ai (pc := 207) dX12_plays_207 hr (fun x3 hr => ?_)
  refine mg_iconst (pc := 208) dX12_plays_208 kc_m1 ?_
  refine mb_icmp_ne (pc := 209) 230 dX12_plays_209 rfl hr (fun hr => ?_) (fun hr => ?_)
  · exact mg_weak (mm_le_s (mm_le_s (mm_le_s (mm_le_n mm_le_0)))) (X12_plays_b230_ok hz hd h0 hk67 hk102 hr)
  · refine ml_aload_n (pc := 212) dX12_plays_212 rfl (mm_get_s mm_get_0) ?_
    refine ml_iload_n (pc := 213) dX12_plays_213 rfl (mm_get_s (mm_get_s mm_get_0)) ?_
    refine mb_cSi (pc := 214) (As := [.ref a1, .int i2]) (rest := []) dX12_plays_214 cw_X12_327  hr (fun v hv => X12_size_ok hz (by omega)  hv) rfl (Nat.le_of_ble_eq_true rfl) (Nat.zero_le _) (Nat.zero_le _) (fun r4 hr => ?_)
    refine mb_if_ne (pc := 217) 230 dX12_plays_217 rfl hr (fun hr => ?_) (fun hr => ?_)
    · exact mg_weak (mm_le_s (mm_le_s (mm_le_s (mm_le_n mm_le_0)))) (X12_plays_b230_ok hz hd h0 hk67 hk102 hr)
    · refine ml_aload_n (pc := 220) dX12_plays_220 rfl mm_get_0 ?_
      refine mb_gr (pc := 221) dX12_plays_221 fl_X12_87 hr (fun c5 hr => ?_)
      refine ml_iload_n (pc := 224) dX12_plays_224 rfl (mm_get_s (mm_get_s mm_get_0)) ?_
      refine ml_aload_n (pc := 225) dX12_plays_225 rfl mm_get_0 ?_
      refine mb_gi (pc := 226) dX12_plays_226 fl_X12_422 hr (fun x6 hr => ?_)
      refine mb_si (pc := 229) dX12_plays_229 hr (fun m7 hr => ?_)
      exact mg_weak (mm_le_s (mm_le_s (mm_le_s (mm_le_n mm_le_0)))) (X12_plays_b230_ok hz hd h0 hk67 hk102 hr)
def X12_plays_b165 (e : mm_E) (k67 : mm_V → Option mm_V) (k102 : Int32 → mm_V → Option mm_V) (a0 : Nat) (a1 : Nat) (i2 : Int32) (t0 : Nat) (t1 : Int32) (t2 : Int32) (m : mm_V) : Option mm_V := (mm_si e.1 m t0 t1 t2).bind fun m1 => (mm_gr e.1 m1 12 75 a0 51).bind fun c2 => (mm_gr e.1 m1 12 75 a0 52).bind fun c3 => (mm_ai e.1 m1 20 c3 i2).bind fun x4 => (mm_gr e.1 m1 12 75 a0 51).bind fun c5 => (mm_ai e.1 m1 20 c5 i2).bind fun x6 => if x4 ≤ x6 then ((mm_gr e.1 m1 12 75 a0 51).bind fun c7 => (mm_ai e.1 m1 20 c7 i2).bind fun x8 => X12_plays_b201 e k67 k102 a0 a1 i2 c2 i2 x8 m1) else ((mm_gr e.1 m1 12 75 a0 52).bind fun c9 => (mm_ai e.1 m1 20 c9 i2).bind fun x10 => X12_plays_b201 e k67 k102 a0 a1 i2 c2 i2 x10 m1)
theorem X12_plays_b165_ok {K : mm_K} {nx : Option Nat} {e : mm_E} (hz : e.2.1 = K.2.2.2.2) {d : Nat} (hd : 6 ≤ d) {a0 : Nat} {a1 : Nat} {i2 : Int32} {t0 : Nat} {t1 : Int32} {t2 : Int32} (h0 : e.1 a0 = some (12, 75)) {k67 : mm_V → Option mm_V} {k102 : Int32 → mm_V → Option mm_V} (hk67 : ∀ (m : mm_V) (r : mm_V), k67  m = some r → mm_G K MX12_plays d (mm_Fv e.1 nx r) 67 [some (.ref a0), some (.ref a1), none, none] [] (e.1, m) nx 0 0) (hk102 : ∀ (w2 : Int32) (m : mm_V) (r : mm_V), k102 w2 m = some r → mm_G K MX12_plays d (mm_Fv e.1 nx r) 102 [some (.ref a0), some (.ref a1), some (.int w2), none] [] (e.1, m) nx 0 0) {m : mm_V} {r : mm_V} (hr : X12_plays_b165 e k67 k102 a0 a1 i2 t0 t1 t2 m = some r) : mm_G K MX12_plays d (mm_Fv e.1 nx r) 165 [some (.ref a0), some (.ref a1), some (.int i2), none] [.int t2, .int t1, .ref t0] (e.1, m) nx 0 0 := by
  obtain ⟨d, rfl⟩ : ∃ d', d = d' + 1 := ⟨d - 1, by omega⟩
  unfold X12_plays_b165 at hr
  refine mb_si (pc := 165) dX12_plays_165 hr (fun m1 hr => ?_)
  refine ml_aload_n (pc := 166) dX12_plays_166 rfl mm_get_0 ?_
  refine mb_gr (pc := 167) dX12_plays_167 fl_X12_81 hr (fun c2 hr => ?_)
  refine ml_iload_n (pc := 170) dX12_plays_170 rfl (mm_get_s (mm_get_s mm_get_0)) ?_
  refine ml_aload_n (pc := 171) dX12_plays_171 rfl mm_get_0 ?_
  refine mb_gr (pc := 172) dX12_plays_172 fl_X12_84 hr (fun c3 hr => ?_)
  refine ml_iload_n (pc := 175) dX12_plays_175 rfl (mm_get_s (mm_get_s mm_get_0)) ?_
  refine mb_ai (pc := 176) dX12_plays_176 hr (fun x4 hr => ?_)
  refine ml_aload_n (pc := 177) dX12_plays_177 rfl mm_get_0 ?_
  refine mb_gr (pc := 178) dX12_plays_178 fl_X12_81 hr (fun c5 hr => ?_)
  refine ml_iload_n (pc := 181) dX12_plays_181 rfl (mm_get_s (mm_get_s mm_get_0)) ?_
  refine mb_ai (pc := 182) dX12_plays_182 hr (fun x6 hr => ?_)
  refine mb_icmp_le (pc := 183) 195 dX12_plays_183 rfl hr (fun hr => ?_) (fun hr => ?_)
  · refine ml_aload_n (pc := 195) dX12_plays_195 rfl mm_get_0 ?_
    refine mb_gr (pc := 196) dX12_plays_196 fl_X12_81 hr (fun c7 hr => ?_)
    refine ml_iload_n (pc := 199) dX12_plays_199 rfl (mm_get_s (mm_get_s mm_get_0)) ?_
    refine mb_ai (pc := 200) dX12_plays_200 hr (fun x8 hr => ?_)
    exact mg_weak (mm_le_s (mm_le_s (mm_le_s (mm_le_n mm_le_0)))) (X12_plays_b201_ok hz hd h0 hk67 hk102 hr)
  · refine ml_aload_n (pc := 186) dX12_plays_186 rfl mm_get_0 ?_
    refine mb_gr (pc := 187) dX12_plays_187 fl_X12_84 hr (fun c9 hr => ?_)
    refine ml_iload_n (pc := 190) dX12_plays_190 rfl (mm_get_s (mm_get_s mm_get_0)) ?_
    refine mb_ai (pc := 191) dX12_plays_191 hr (fun x10 hr => ?_)
    refine mg_goto (pc := 192) 201 dX12_plays_192 rfl ?_
    exact mg_weak (mm_le_s (mm_le_s (mm_le_s (mm_le_n mm_le_0)))) (X12_plays_b201_ok hz hd h0 hk67 hk102 hr)
def X12_plays_b142 (e : mm_E) (k67 : mm_V → Option mm_V) (k102 : Int32 → mm_V → Option mm_V) (a0 : Nat) (a1 : Nat) (i2 : Int32) (i3 : Int32) (t0 : Nat) (t1 : Int32) (t2 : Int32) (t3 : Int32) (m : mm_V) : Option mm_V := (mm_si e.1 m t0 t1 (t2 + t3)).bind fun m1 => (mm_gr e.1 m1 12 75 a0 52).bind fun c2 => if i3 = 0 then (X12_plays_b165 e k67 k102 a0 a1 i2 c2 i2 (0 : Int32) m1) else ((mm_gr e.1 m1 12 75 a0 52).bind fun c3 => (mm_ai e.1 m1 20 c3 i2).bind fun x4 => X12_plays_b165 e k67 k102 a0 a1 i2 c2 i2 (x4 + (1 : Int32)) m1)
theorem X12_plays_b142_ok {K : mm_K} {nx : Option Nat} {e : mm_E} (hz : e.2.1 = K.2.2.2.2) {d : Nat} (hd : 6 ≤ d) {a0 : Nat} {a1 : Nat} {i2 : Int32} {i3 : Int32} {t0 : Nat} {t1 : Int32} {t2 : Int32} {t3 : Int32} (h0 : e.1 a0 = some (12, 75)) {k67 : mm_V → Option mm_V} {k102 : Int32 → mm_V → Option mm_V} (hk67 : ∀ (m : mm_V) (r : mm_V), k67  m = some r → mm_G K MX12_plays d (mm_Fv e.1 nx r) 67 [some (.ref a0), some (.ref a1), none, none] [] (e.1, m) nx 0 0) (hk102 : ∀ (w2 : Int32) (m : mm_V) (r : mm_V), k102 w2 m = some r → mm_G K MX12_plays d (mm_Fv e.1 nx r) 102 [some (.ref a0), some (.ref a1), some (.int w2), none] [] (e.1, m) nx 0 0) {m : mm_V} {r : mm_V} (hr : X12_plays_b142 e k67 k102 a0 a1 i2 i3 t0 t1 t2 t3 m = some r) : mm_G K MX12_plays d (mm_Fv e.1 nx r) 142 [some (.ref a0), some (.ref a1), some (.int i2), some (.int i3)] [.int t3, .int t2, .int t1, .ref t0] (e.1, m) nx 0 0 := by
  obtain ⟨d, rfl⟩ : ∃ d', d = d' + 1 := ⟨d - 1, by omega⟩
  unfold X12_plays_b142 at hr
  refine mg_iadd (pc := 142) dX12_plays_142 ?_
  refine mb_si (pc := 143) dX12_plays_143 hr (fun m1 hr => ?_)
  refine ml_aload_n (pc := 144) dX12_plays_144 rfl mm_get_0 ?_
  refine mb_gr (pc := 145) dX12_plays_145 fl_X12_84 hr (fun c2 hr => ?_)
  refine ml_iload_n (pc := 148) dX12_plays_148 rfl (mm_get_s (mm_get_s mm_get_0)) ?_
  refine ml_iload_n (pc := 149) dX12_plays_149 rfl (mm_get_s (mm_get_s (mm_get_s mm_get_0))) ?_
  refine mb_if_eq (pc := 150) 164 dX12_plays_150 rfl hr (fun hr => ?_) (fun hr => ?_)
  · refine mg_iconst (pc := 164) dX12_plays_164 kc_0 ?_
    exact mg_weak (mm_le_s (mm_le_s (mm_le_s (mm_le_n mm_le_0)))) (X12_plays_b165_ok hz hd h0 hk67 hk102 hr)
  · refine ml_aload_n (pc := 153) dX12_plays_153 rfl mm_get_0 ?_
    refine mb_gr (pc := 154) dX12_plays_154 fl_X12_84 hr (fun c3 hr => ?_)
    refine ml_iload_n (pc := 157) dX12_plays_157 rfl (mm_get_s (mm_get_s mm_get_0)) ?_
    refine mb_ai (pc := 158) dX12_plays_158 hr (fun x4 hr => ?_)
    refine mg_iconst (pc := 159) dX12_plays_159 kc_1 ?_
    refine mg_iadd (pc := 160) dX12_plays_160 ?_
    refine mg_goto (pc := 161) 165 dX12_plays_161 rfl ?_
    exact mg_weak (mm_le_s (mm_le_s (mm_le_s (mm_le_n mm_le_0)))) (X12_plays_b165_ok hz hd h0 hk67 hk102 hr)
def X12_plays_b125 (e : mm_E) (k67 : mm_V → Option mm_V) (k102 : Int32 → mm_V → Option mm_V) (a0 : Nat) (a1 : Nat) (i2 : Int32) (t0 : Int32) (m : mm_V) : Option mm_V := (mm_gr e.1 m 12 75 a0 50).bind fun c1 => (mm_ai e.1 m 20 c1 i2).bind fun x2 => if t0 = 0 then (X12_plays_b142 e k67 k102 a0 a1 i2 t0 c1 i2 x2 (0 : Int32) m) else (X12_plays_b142 e k67 k102 a0 a1 i2 t0 c1 i2 x2 (1 : Int32) m)
theorem X12_plays_b125_ok {K : mm_K} {nx : Option Nat} {e : mm_E} (hz : e.2.1 = K.2.2.2.2) {d : Nat} (hd : 6 ≤ d) {a0 : Nat} {a1 : Nat} {i2 : Int32} {t0 : Int32} (h0 : e.1 a0 = some (12, 75)) {k67 : mm_V → Option mm_V} {k102 : Int32 → mm_V → Option mm_V} (hk67 : ∀ (m : mm_V) (r : mm_V), k67  m = some r → mm_G K MX12_plays d (mm_Fv e.1 nx r) 67 [some (.ref a0), some (.ref a1), none, none] [] (e.1, m) nx 0 0) (hk102 : ∀ (w2 : Int32) (m : mm_V) (r : mm_V), k102 w2 m = some r → mm_G K MX12_plays d (mm_Fv e.1 nx r) 102 [some (.ref a0), some (.ref a1), some (.int w2), none] [] (e.1, m) nx 0 0) {m : mm_V} {r : mm_V} (hr : X12_plays_b125 e k67 k102 a0 a1 i2 t0 m = some r) : mm_G K MX12_plays d (mm_Fv e.1 nx r) 125 [some (.ref a0), some (.ref a1), some (.int i2), none] [.int t0] (e.1, m) nx 0 0 := by
  obtain ⟨d, rfl⟩ : ∃ d', d = d' + 1 := ⟨d - 1, by omega⟩
  unfold X12_plays_b125 at hr
  refine ml_istore_n (pc := 125) dX12_plays_125 rfl (Nat.le_of_ble_eq_true rfl) (mm_st1_s (mm_st1_s mm_st1_i)) ?_
  refine ml_aload_n (pc := 126) dX12_plays_126 rfl mm_get_0 ?_
  refine mb_gr (pc := 127) dX12_plays_127 fl_X12_78 hr (fun c1 hr => ?_)
  refine ml_iload_n (pc := 130) dX12_plays_130 rfl (mm_get_s (mm_get_s mm_get_0)) ?_
  refine mg_dup2 (pc := 131) dX12_plays_131 rfl rfl ?_
  refine mb_ai (pc := 132) dX12_plays_132 hr (fun x2 hr => ?_)
  refine ml_iload_n (pc := 133) dX12_plays_133 rfl (mm_get_s (mm_get_s (mm_get_s mm_get_0))) ?_
  refine mb_if_eq (pc := 134) 141 dX12_plays_134 rfl hr (fun hr => ?_) (fun hr => ?_)
  · refine mg_iconst (pc := 141) dX12_plays_141 kc_0 ?_
    exact mg_weak (mm_le_s (mm_le_s (mm_le_s (mm_le_s mm_le_0)))) (X12_plays_b142_ok hz hd h0 hk67 hk102 hr)
  · refine mg_iconst (pc := 137) dX12_plays_137 kc_1 ?_
    refine mg_goto (pc := 138) 142 dX12_plays_138 rfl ?_
    exact mg_weak (mm_le_s (mm_le_s (mm_le_s (mm_le_s mm_le_0)))) (X12_plays_b142_ok hz hd h0 hk67 hk102 hr)
def X12_plays_L102 (e : mm_E) (k67 : mm_V → Option mm_V) (a0 : Nat) (a1 : Nat) : Nat → Int32 → mm_V → Option mm_V
  | 0, _, _ => none
  | n + 1, i2, m => (mm_gi e.1 m 12 75 a0 1).bind fun x1 => if x1 ≤ i2 then (k67  m) else ((X12_placeOf e a1 i2 (0 : Int32) m).bind fun r2 => if r2.1 = (-1 : Int32) then (X12_plays_b125 e k67 (X12_plays_L102 e k67 a0 a1 n) a0 a1 i2 (0 : Int32) r2.2) else (X12_plays_b125 e k67 (X12_plays_L102 e k67 a0 a1 n) a0 a1 i2 (1 : Int32) r2.2))
theorem X12_plays_L102_ok {K : mm_K} {nx : Option Nat} {e : mm_E} (hz : e.2.1 = K.2.2.2.2) {d : Nat} (hd : 6 ≤ d) {a0 : Nat} {a1 : Nat} (h0 : e.1 a0 = some (12, 75)) {k67 : mm_V → Option mm_V} (hk67 : ∀ (m : mm_V) (r : mm_V), k67  m = some r → mm_G K MX12_plays d (mm_Fv e.1 nx r) 67 [some (.ref a0), some (.ref a1), none, none] [] (e.1, m) nx 0 0) : ∀ (n : Nat) (i2 : Int32) (m : mm_V) (r : mm_V), X12_plays_L102 e k67 a0 a1 n i2 m = some r → mm_G K MX12_plays d (mm_Fv e.1 nx r) 102 [some (.ref a0), some (.ref a1), some (.int i2), none] [] (e.1, m) nx 0 0 := by
  obtain ⟨d, rfl⟩ : ∃ d', d = d' + 1 := ⟨d - 1, by omega⟩
  intro n
  induction n with
  | zero => intro i2 m r hr; unfold X12_plays_L102 at hr; cases hr
  | succ n ih =>
    intro i2 m r hr
    unfold X12_plays_L102 at hr
    refine ml_iload_n (pc := 102) dX12_plays_102 rfl (mm_get_s (mm_get_s mm_get_0)) ?_
    refine ml_aload_n (pc := 103) dX12_plays_103 rfl mm_get_0 ?_
    refine mb_gi (pc := 104) dX12_plays_104 fl_X12_7 hr (fun x1 hr => ?_)
    refine mb_icmp_ge (pc := 107) 236 dX12_plays_107 rfl hr (fun hr => ?_) (fun hr => ?_)
    · refine mg_goto (pc := 236) 67 dX12_plays_236 rfl ?_
      exact mg_weak (mm_le_s (mm_le_s (mm_le_n (mm_le_n mm_le_0)))) (hk67  _ _ hr)
    · refine ml_aload_n (pc := 110) dX12_plays_110 rfl (mm_get_s mm_get_0) ?_
      refine ml_iload_n (pc := 111) dX12_plays_111 rfl (mm_get_s (mm_get_s mm_get_0)) ?_
      refine mg_iconst (pc := 112) dX12_plays_112 kc_0 ?_
      refine mb_cSi (pc := 113) (As := [.ref a1, .int i2, .int (0 : Int32)]) (rest := []) dX12_plays_113 cw_X12_335  hr (fun v hv => X12_placeOf_ok hz (by omega)  hv) rfl (Nat.le_of_ble_eq_true rfl) (Nat.zero_le _) (Nat.zero_le _) (fun r2 hr => ?_)
      refine mg_iconst (pc := 116) dX12_plays_116 kc_m1 ?_
      refine mb_icmp_eq (pc := 117) 124 dX12_plays_117 rfl hr (fun hr => ?_) (fun hr => ?_)
      · refine mg_iconst (pc := 124) dX12_plays_124 kc_0 ?_
        exact mg_weak (mm_le_s (mm_le_s (mm_le_s (mm_le_n mm_le_0)))) (X12_plays_b125_ok hz hd h0 hk67 ih hr)
      · refine mg_iconst (pc := 120) dX12_plays_120 kc_1 ?_
        refine mg_goto (pc := 121) 125 dX12_plays_121 rfl ?_
        exact mg_weak (mm_le_s (mm_le_s (mm_le_s (mm_le_n mm_le_0)))) (X12_plays_b125_ok hz hd h0 hk67 ih hr)
def X12_plays_L67 (e : mm_E) (a0 : Nat) (a1 : Nat) : Nat → mm_V → Option mm_V
  | 0, _ => none
  | n + 1, m => (mm_gi e.1 m 12 75 a0 54).bind fun x1 => if (200 : Int32) ≤ x1 then (X12_plays_b239 e   m) else ((X12_isOver e a0 a1 m).bind fun r2 => if ¬ r2.1 = 0 then (X12_plays_b239 e   r2.2) else ((X12_drawsByRule e a0 a1 r2.2).bind fun r3 => (mm_gi e.1 r3 12 75 a0 54).bind fun x4 => (mm_pf e.1 r3 12 75 a0 54 (.int (x4 + (1 : Int32)))).bind fun m5 => X12_plays_L102 e (X12_plays_L67 e a0 a1 n) a0 a1 e.2.2 (0 : Int32) m5))
theorem X12_plays_L67_ok {K : mm_K} {nx : Option Nat} {e : mm_E} (hz : e.2.1 = K.2.2.2.2) {d : Nat} (hd : 6 ≤ d) {a0 : Nat} {a1 : Nat} (h0 : e.1 a0 = some (12, 75)) : ∀ (n : Nat) (m : mm_V) (r : mm_V), X12_plays_L67 e a0 a1 n  m = some r → mm_G K MX12_plays d (mm_Fv e.1 nx r) 67 [some (.ref a0), some (.ref a1), none, none] [] (e.1, m) nx 0 0 := by
  obtain ⟨d, rfl⟩ : ∃ d', d = d' + 1 := ⟨d - 1, by omega⟩
  intro n
  induction n with
  | zero => intro m r hr; unfold X12_plays_L67 at hr; cases hr
  | succ n ih =>
    intro m r hr
    unfold X12_plays_L67 at hr
    refine ml_aload_n (pc := 67) dX12_plays_67 rfl mm_get_0 ?_
    refine mb_gi (pc := 68) dX12_plays_68 fl_X12_422 hr (fun x1 hr => ?_)
    refine mg_sipush (pc := 71) dX12_plays_71 ks_200 ?_
    refine mb_icmp_ge (pc := 74) 239 dX12_plays_74 rfl hr (fun hr => ?_) (fun hr => ?_)
    · exact mg_weak (mm_le_n (mm_le_n (mm_le_n (mm_le_n mm_le_0)))) (X12_plays_b239_ok hz hd h0 hr)
    · refine ml_aload_n (pc := 77) dX12_plays_77 rfl mm_get_0 ?_
      refine ml_aload_n (pc := 78) dX12_plays_78 rfl (mm_get_s mm_get_0) ?_
      refine mb_cVi (pc := 79) (As := [.ref a1]) (rest := []) dX12_plays_79 cw_X12_338 h0 hr (fun v hv => X12_isOver_ok hz (by omega) h0 hv) rfl (Nat.le_of_ble_eq_true rfl) (Nat.zero_le _) (Nat.zero_le _) (fun r2 hr => ?_)
      refine mb_if_ne (pc := 82) 239 dX12_plays_82 rfl hr (fun hr => ?_) (fun hr => ?_)
      · exact mg_weak (mm_le_n (mm_le_n (mm_le_n (mm_le_n mm_le_0)))) (X12_plays_b239_ok hz hd h0 hr)
      · refine ml_aload_n (pc := 85) dX12_plays_85 rfl mm_get_0 ?_
        refine ml_aload_n (pc := 86) dX12_plays_86 rfl (mm_get_s mm_get_0) ?_
        refine mb_cVv (pc := 87) (As := [.ref a1]) (rest := []) dX12_plays_87 cw_X12_425 h0 hr (fun v hv => X12_drawsByRule_ok hz (by omega) h0 hv) rfl (Nat.le_of_ble_eq_true rfl) (Nat.zero_le _) (Nat.zero_le _) (fun r3 hr => ?_)
        refine ml_aload_n (pc := 90) dX12_plays_90 rfl mm_get_0 ?_
        refine mg_dup (pc := 91) dX12_plays_91 rfl ?_
        refine mb_gi (pc := 92) dX12_plays_92 fl_X12_422 hr (fun x4 hr => ?_)
        refine mg_iconst (pc := 95) dX12_plays_95 kc_1 ?_
        refine mg_iadd (pc := 96) dX12_plays_96 ?_
        refine mb_pi (pc := 97) dX12_plays_97 fp_X12_422 hr (fun m5 hr => ?_)
        refine mg_iconst (pc := 100) dX12_plays_100 kc_0 ?_
        refine ml_istore_n (pc := 101) dX12_plays_101 rfl (Nat.le_of_ble_eq_true rfl) (mm_st1_s mm_st1_r) ?_
        exact mg_weak (mm_le_s (mm_le_s (mm_le_s (mm_le_n mm_le_0)))) (X12_plays_L102_ok hz hd h0 ih _ _ _ _ hr)
def X12_plays_b60 (e : mm_E) (k7 : Int32 → mm_V → Option mm_V) (a0 : Nat) (a1 : Nat) (i2 : Int32) (t0 : Nat) (t1 : Int32) (t2 : Int32) (m : mm_V) : Option mm_V := (mm_si e.1 m t0 t1 t2).bind fun m1 => k7 (i2 + 1) m1
theorem X12_plays_b60_ok {K : mm_K} {nx : Option Nat} {e : mm_E} (hz : e.2.1 = K.2.2.2.2) {d : Nat} (hd : 6 ≤ d) {a0 : Nat} {a1 : Nat} {i2 : Int32} {t0 : Nat} {t1 : Int32} {t2 : Int32} (h0 : e.1 a0 = some (12, 75)) {k7 : Int32 → mm_V → Option mm_V} (hk7 : ∀ (w2 : Int32) (m : mm_V) (r : mm_V), k7 w2 m = some r → mm_G K MX12_plays d (mm_Fv e.1 nx r) 7 [some (.ref a0), some (.ref a1), some (.int w2), none] [] (e.1, m) nx 0 0) {m : mm_V} {r : mm_V} (hr : X12_plays_b60 e k7 a0 a1 i2 t0 t1 t2 m = some r) : mm_G K MX12_plays d (mm_Fv e.1 nx r) 60 [some (.ref a0), some (.ref a1), some (.int i2), none] [.int t2, .int t1, .ref t0] (e.1, m) nx 0 0 := by
  obtain ⟨d, rfl⟩ : ∃ d', d = d' + 1 := ⟨d - 1, by omega⟩
  unfold X12_plays_b60 at hr
  refine mb_si (pc := 60) dX12_plays_60 hr (fun m1 hr => ?_)
  refine ml_iinc (pc := 61) dX12_plays_61 (mm_get_s (mm_get_s mm_get_0)) (congrArg (fun z => i2 + z) kc_1) (Nat.le_of_ble_eq_true rfl) (mm_st1_s mm_st1_r) ?_
  refine mg_goto (pc := 64) 7 dX12_plays_64 rfl ?_
  exact mg_weak (mm_le_s (mm_le_s (mm_le_s (mm_le_n mm_le_0)))) (hk7 _ _ _ hr)
def X12_plays_b59 (e : mm_E) (k7 : Int32 → mm_V → Option mm_V) (a0 : Nat) (a1 : Nat) (i2 : Int32) (t0 : Nat) (t1 : Int32) (m : mm_V) : Option mm_V := X12_plays_b60 e k7 a0 a1 i2 t0 t1 (-1 : Int32) m
theorem X12_plays_b59_ok {K : mm_K} {nx : Option Nat} {e : mm_E} (hz : e.2.1 = K.2.2.2.2) {d : Nat} (hd : 6 ≤ d) {a0 : Nat} {a1 : Nat} {i2 : Int32} {t0 : Nat} {t1 : Int32} (h0 : e.1 a0 = some (12, 75)) {k7 : Int32 → mm_V → Option mm_V} (hk7 : ∀ (w2 : Int32) (m : mm_V) (r : mm_V), k7 w2 m = some r → mm_G K MX12_plays d (mm_Fv e.1 nx r) 7 [some (.ref a0), some (.ref a1), some (.int w2), none] [] (e.1, m) nx 0 0) {m : mm_V} {r : mm_V} (hr : X12_plays_b59 e k7 a0 a1 i2 t0 t1 m = some r) : mm_G K MX12_plays d (mm_Fv e.1 nx r) 59 [some (.ref a0), some (.ref a1), some (.int i2), none] [.int t1, .ref t0] (e.1, m) nx 0 0 := by
  obtain ⟨d, rfl⟩ : ∃ d', d = d' + 1 := ⟨d - 1, by omega⟩
  unfold X12_plays_b59 at hr
  refine mg_iconst (pc := 59) dX12_plays_59 kc_m1 ?_
  exact mg_weak (mm_le_s (mm_le_s (mm_le_s (mm_le_n mm_le_0)))) (X12_plays_b60_ok hz hd h0 hk7 hr)
def X12_plays_L7 (e : mm_E) (a0 : Nat) (a1 : Nat) : Nat → Int32 → mm_V → Option mm_V
  | 0, _, _ => none
  | n + 1, i2, m => if (6 : Int32) ≤ i2 then (X12_plays_L67 e a0 a1 e.2.2  m) else ((mm_gr e.1 m 12 75 a0 50).bind fun c1 => (mm_si e.1 m c1 i2 (0 : Int32)).bind fun m2 => (mm_gr e.1 m2 12 75 a0 51).bind fun c3 => (mm_si e.1 m2 c3 i2 (0 : Int32)).bind fun m4 => (mm_gr e.1 m4 12 75 a0 52).bind fun c5 => (mm_si e.1 m4 c5 i2 (0 : Int32)).bind fun m6 => (mm_gr e.1 m6 12 75 a0 53).bind fun c7 => (mm_gi e.1 m6 12 75 a0 1).bind fun x8 => if x8 ≤ i2 then (X12_plays_b59 e (X12_plays_L7 e a0 a1 n) a0 a1 i2 c7 i2 m6) else ((X12_size e a1 i2 m6).bind fun r9 => if ¬ r9.1 = 0 then (X12_plays_b59 e (X12_plays_L7 e a0 a1 n) a0 a1 i2 c7 i2 r9.2) else (X12_plays_b60 e (X12_plays_L7 e a0 a1 n) a0 a1 i2 c7 i2 (0 : Int32) r9.2)))
theorem X12_plays_L7_ok {K : mm_K} {nx : Option Nat} {e : mm_E} (hz : e.2.1 = K.2.2.2.2) {d : Nat} (hd : 6 ≤ d) {a0 : Nat} {a1 : Nat} (h0 : e.1 a0 = some (12, 75)) : ∀ (n : Nat) (i2 : Int32) (m : mm_V) (r : mm_V), X12_plays_L7 e a0 a1 n i2 m = some r → mm_G K MX12_plays d (mm_Fv e.1 nx r) 7 [some (.ref a0), some (.ref a1), some (.int i2), none] [] (e.1, m) nx 0 0 := by
  obtain ⟨d, rfl⟩ : ∃ d', d = d' + 1 := ⟨d - 1, by omega⟩
  intro n
  induction n with
  | zero => intro i2 m r hr; unfold X12_plays_L7 at hr; cases hr
  | succ n ih =>
    intro i2 m r hr
    unfold X12_plays_L7 at hr
    refine ml_iload_n (pc := 7) dX12_plays_7 rfl (mm_get_s (mm_get_s mm_get_0)) ?_
    refine mg_bipush (pc := 8) dX12_plays_8 kb_6 ?_
    refine mb_icmp_ge (pc := 10) 67 dX12_plays_10 rfl hr (fun hr => ?_) (fun hr => ?_)
    · exact mg_weak (mm_le_s (mm_le_s (mm_le_n (mm_le_n mm_le_0)))) (X12_plays_L67_ok hz hd h0 _  _ _ hr)
    · refine ml_aload_n (pc := 13) dX12_plays_13 rfl mm_get_0 ?_
      refine mb_gr (pc := 14) dX12_plays_14 fl_X12_78 hr (fun c1 hr => ?_)
      refine ml_iload_n (pc := 17) dX12_plays_17 rfl (mm_get_s (mm_get_s mm_get_0)) ?_
      refine mg_iconst (pc := 18) dX12_plays_18 kc_0 ?_
      refine mb_si (pc := 19) dX12_plays_19 hr (fun m2 hr => ?_)
      refine ml_aload_n (pc := 20) dX12_plays_20 rfl mm_get_0 ?_
      refine mb_gr (pc := 21) dX12_plays_21 fl_X12_81 hr (fun c3 hr => ?_)
      refine ml_iload_n (pc := 24) dX12_plays_24 rfl (mm_get_s (mm_get_s mm_get_0)) ?_
      refine mg_iconst (pc := 25) dX12_plays_25 kc_0 ?_
      refine mb_si (pc := 26) dX12_plays_26 hr (fun m4 hr => ?_)
      refine ml_aload_n (pc := 27) dX12_plays_27 rfl mm_get_0 ?_
      refine mb_gr (pc := 28) dX12_plays_28 fl_X12_84 hr (fun c5 hr => ?_)
      refine ml_iload_n (pc := 31) dX12_plays_31 rfl (mm_get_s (mm_get_s mm_get_0)) ?_
      refine mg_iconst (pc := 32) dX12_plays_32 kc_0 ?_
      refine mb_si (pc := 33) dX12_plays_33 hr (fun m6 hr => ?_)
      refine ml_aload_n (pc := 34) dX12_plays_34 rfl mm_get_0 ?_
      refine mb_gr (pc := 35) dX12_plays_35 fl_X12_87 hr (fun c7 hr => ?_)
      refine ml_iload_n (pc := 38) dX12_plays_38 rfl (mm_get_s (mm_get_s mm_get_0)) ?_
      refine ml_iload_n (pc := 39) dX12_plays_39 rfl (mm_get_s (mm_get_s mm_get_0)) ?_
      refine ml_aload_n (pc := 40) dX12_plays_40 rfl mm_get_0 ?_
      refine mb_gi (pc := 41) dX12_plays_41 fl_X12_7 hr (fun x8 hr => ?_)
      refine mb_icmp_ge (pc := 44) 59 dX12_plays_44 rfl hr (fun hr => ?_) (fun hr => ?_)
      · exact mg_weak (mm_le_s (mm_le_s (mm_le_s (mm_le_n mm_le_0)))) (X12_plays_b59_ok hz hd h0 ih hr)
      · refine ml_aload_n (pc := 47) dX12_plays_47 rfl (mm_get_s mm_get_0) ?_
        refine ml_iload_n (pc := 48) dX12_plays_48 rfl (mm_get_s (mm_get_s mm_get_0)) ?_
        refine mb_cSi (pc := 49) (As := [.ref a1, .int i2]) (rest := [.int i2, .ref c7]) dX12_plays_49 cw_X12_327  hr (fun v hv => X12_size_ok hz (by omega)  hv) rfl (Nat.le_of_ble_eq_true rfl) (Nat.zero_le _) (Nat.zero_le _) (fun r9 hr => ?_)
        refine mb_if_ne (pc := 52) 59 dX12_plays_52 rfl hr (fun hr => ?_) (fun hr => ?_)
        · exact mg_weak (mm_le_s (mm_le_s (mm_le_s (mm_le_n mm_le_0)))) (X12_plays_b59_ok hz hd h0 ih hr)
        · refine mg_iconst (pc := 55) dX12_plays_55 kc_0 ?_
          refine mg_goto (pc := 56) 60 dX12_plays_56 rfl ?_
          exact mg_weak (mm_le_s (mm_le_s (mm_le_s (mm_le_n mm_le_0)))) (X12_plays_b60_ok hz hd h0 ih hr)
def X12_plays (e : mm_E) (a0 : Nat) (a1 : Nat) (m : mm_V) : Option mm_V := (mm_pf e.1 m 12 75 a0 54 (.int (0 : Int32))).bind fun m1 => X12_plays_L7 e a0 a1 e.2.2 (0 : Int32) m1
theorem X12_plays_ok {K : mm_K} {nx : Option Nat} {e : mm_E} (hz : e.2.1 = K.2.2.2.2) {d : Nat} (hd : 6 ≤ d) {a0 : Nat} {a1 : Nat} (h0 : e.1 a0 = some (12, 75)) {m : mm_V} {r : mm_V} (hr : X12_plays e a0 a1 m = some r) : mm_Cn K MX12_plays d (mm_Fv e.1 nx r) [.ref a0, .ref a1] (e.1, m) nx := by
  obtain ⟨d, rfl⟩ : ∃ d', d = d' + 1 := ⟨d - 1, by omega⟩
  refine mm_entry (by decide) (Nat.le_of_ble_eq_true rfl) rfl (fun hok => ?_)
  unfold X12_plays at hr
  refine mg_weak (L' := [some (.ref a0), some (.ref a1), none, none]) (mm_le_s (mm_le_s (mm_le_e (mm_le_e mm_le_0)))) ?_
  refine ml_aload_n (pc := 0) dX12_plays_0 rfl mm_get_0 ?_
  refine mg_iconst (pc := 1) dX12_plays_1 kc_0 ?_
  refine mb_pi (pc := 2) dX12_plays_2 fp_X12_422 hr (fun m1 hr => ?_)
  refine mg_iconst (pc := 5) dX12_plays_5 kc_0 ?_
  refine ml_istore_n (pc := 6) dX12_plays_6 rfl (Nat.le_of_ble_eq_true rfl) (mm_st1_s mm_st1_r) ?_
  exact mg_weak (mm_le_s (mm_le_s (mm_le_s (mm_le_n mm_le_0)))) (X12_plays_L7_ok hz hd h0 _ _ _ _ hr)
theorem dX12_playsOn_0 : decode cX12_playsOn 0 = .ok (.aload_n 0, 1) := by decide +kernel
theorem dX12_playsOn_1 : decode cX12_playsOn 1 = .ok (.aload_n 0, 1) := by decide +kernel
theorem dX12_playsOn_2 : decode cX12_playsOn 2 = .ok (.getfield 60, 3) := by decide +kernel
theorem dX12_playsOn_5 : decode cX12_playsOn 5 = .ok (.aload_n 0, 1) := by decide +kernel
theorem dX12_playsOn_6 : decode cX12_playsOn 6 = .ok (.getfield 63, 3) := by decide +kernel
theorem dX12_playsOn_9 : decode cX12_playsOn 9 = .ok (.invokevirtual 316, 3) := by decide +kernel
theorem dX12_playsOn_12 : decode cX12_playsOn 12 = .ok (.aload_n 0, 1) := by decide +kernel
theorem dX12_playsOn_13 : decode cX12_playsOn 13 = .ok (.aload_n 0, 1) := by decide +kernel
theorem dX12_playsOn_14 : decode cX12_playsOn 14 = .ok (.getfield 63, 3) := by decide +kernel
theorem dX12_playsOn_17 : decode cX12_playsOn 17 = .ok (.invokevirtual 428, 3) := by decide +kernel
theorem dX12_playsOn_20 : decode cX12_playsOn 20 = .ok (.return_, 1) := by decide +kernel
def X12_playsOn (e : mm_E) (a0 : Nat) (m : mm_V) : Option mm_V := (mm_gr e.1 m 12 75 a0 39).bind fun c1 => (mm_gr e.1 m 12 75 a0 40).bind fun c2 => (X12_copies e a0 c1 c2 m).bind fun r3 => (mm_gr e.1 r3 12 75 a0 40).bind fun c4 => (X12_plays e a0 c4 r3).bind fun r5 => some r5
theorem X12_playsOn_ok {K : mm_K} {nx : Option Nat} {e : mm_E} (hz : e.2.1 = K.2.2.2.2) {d : Nat} (hd : 7 ≤ d) {a0 : Nat} (h0 : e.1 a0 = some (12, 75)) {m : mm_V} {r : mm_V} (hr : X12_playsOn e a0 m = some r) : mm_Cn K MX12_playsOn d (mm_Fv e.1 nx r) [.ref a0] (e.1, m) nx := by
  obtain ⟨d, rfl⟩ : ∃ d', d = d' + 1 := ⟨d - 1, by omega⟩
  refine mm_entry (by decide) (Nat.le_of_ble_eq_true rfl) rfl (fun hok => ?_)
  unfold X12_playsOn at hr
  refine mg_weak (L' := [some (.ref a0)]) (mm_le_s mm_le_0) ?_
  refine ml_aload_n (pc := 0) dX12_playsOn_0 rfl mm_get_0 ?_
  refine ml_aload_n (pc := 1) dX12_playsOn_1 rfl mm_get_0 ?_
  refine mb_gr (pc := 2) dX12_playsOn_2 fl_X12_60 hr (fun c1 hr => ?_)
  refine ml_aload_n (pc := 5) dX12_playsOn_5 rfl mm_get_0 ?_
  refine mb_gr (pc := 6) dX12_playsOn_6 fl_X12_63 hr (fun c2 hr => ?_)
  refine mb_cVv (pc := 9) (As := [.ref c1, .ref c2]) (rest := []) dX12_playsOn_9 cw_X12_316 h0 hr (fun v hv => X12_copies_ok hz (by omega) h0 hv) rfl (Nat.le_of_ble_eq_true rfl) (Nat.zero_le _) (Nat.zero_le _) (fun r3 hr => ?_)
  refine ml_aload_n (pc := 12) dX12_playsOn_12 rfl mm_get_0 ?_
  refine ml_aload_n (pc := 13) dX12_playsOn_13 rfl mm_get_0 ?_
  refine mb_gr (pc := 14) dX12_playsOn_14 fl_X12_63 hr (fun c4 hr => ?_)
  refine mb_cVv (pc := 17) (As := [.ref c4]) (rest := []) dX12_playsOn_17 cw_X12_428 h0 hr (fun v hv => X12_plays_ok hz (by omega) h0 hv) rfl (Nat.le_of_ble_eq_true rfl) (Nat.zero_le _) (Nat.zero_le _) (fun r5 hr => ?_)
  exact mb_vret dX12_playsOn_20 rfl hr
theorem dX12_loser_0 : decode cX12_loser 0 = .ok (.aload_n 0, 1) := by decide +kernel
theorem dX12_loser_1 : decode cX12_loser 1 = .ok (.aload_n 1, 1) := by decide +kernel
theorem dX12_loser_2 : decode cX12_loser 2 = .ok (.invokevirtual 338, 3) := by decide +kernel
theorem dX12_loser_5 : decode cX12_loser 5 = .ok (.ifCond .eq 11, 3) := by decide +kernel
theorem dX12_loser_8 : decode cX12_loser 8 = .ok (.aload_n 0, 1) := by decide +kernel
theorem dX12_loser_9 : decode cX12_loser 9 = .ok (.aload_n 1, 1) := by decide +kernel
theorem dX12_loser_10 : decode cX12_loser 10 = .ok (.invokevirtual 372, 3) := by decide +kernel
theorem dX12_loser_13 : decode cX12_loser 13 = .ok (.goto 4, 3) := by decide +kernel
theorem dX12_loser_16 : decode cX12_loser 16 = .ok (.iconst (-1), 1) := by decide +kernel
theorem dX12_loser_17 : decode cX12_loser 17 = .ok (.ireturn, 1) := by decide +kernel
def X12_loser_b17 (e : mm_E) (t0 : Int32) (m : mm_V) : Option (Int32 × mm_V) := some (t0, m)
theorem X12_loser_b17_ok {K : mm_K} {nx : Option Nat} {e : mm_E} (hz : e.2.1 = K.2.2.2.2) {d : Nat} (hd : 3 ≤ d) {t0 : Int32} {a0 : Nat} (h0 : e.1 a0 = some (12, 75)) {m : mm_V} {r : (Int32 × mm_V)} (hr : X12_loser_b17 e t0 m = some r) : mm_G K MX12_loser d (mm_Fi e.1 nx r) 17 [none, none] [.int t0] (e.1, m) nx 0 0 := by
  obtain ⟨d, rfl⟩ : ∃ d', d = d' + 1 := ⟨d - 1, by omega⟩
  unfold X12_loser_b17 at hr
  exact mb_iret dX12_loser_17 rfl hr
def X12_loser (e : mm_E) (a0 : Nat) (a1 : Nat) (m : mm_V) : Option (Int32 × mm_V) := (X12_isOver e a0 a1 m).bind fun r1 => if r1.1 = 0 then (X12_loser_b17 e  (-1 : Int32) r1.2) else ((X12_queen e a0 a1 r1.2).bind fun r2 => X12_loser_b17 e  r2.1 r2.2)
theorem X12_loser_ok {K : mm_K} {nx : Option Nat} {e : mm_E} (hz : e.2.1 = K.2.2.2.2) {d : Nat} (hd : 3 ≤ d) {a0 : Nat} {a1 : Nat} (h0 : e.1 a0 = some (12, 75)) {m : mm_V} {r : (Int32 × mm_V)} (hr : X12_loser e a0 a1 m = some r) : mm_Cn K MX12_loser d (mm_Fi e.1 nx r) [.ref a0, .ref a1] (e.1, m) nx := by
  obtain ⟨d, rfl⟩ : ∃ d', d = d' + 1 := ⟨d - 1, by omega⟩
  refine mm_entry (by decide) (Nat.le_of_ble_eq_true rfl) rfl (fun hok => ?_)
  unfold X12_loser at hr
  refine mg_weak (L' := [some (.ref a0), some (.ref a1)]) (mm_le_s (mm_le_s mm_le_0)) ?_
  refine ml_aload_n (pc := 0) dX12_loser_0 rfl mm_get_0 ?_
  refine ml_aload_n (pc := 1) dX12_loser_1 rfl (mm_get_s mm_get_0) ?_
  refine mb_cVi (pc := 2) (As := [.ref a1]) (rest := []) dX12_loser_2 cw_X12_338 h0 hr (fun v hv => X12_isOver_ok hz (by omega) h0 hv) rfl (Nat.le_of_ble_eq_true rfl) (Nat.zero_le _) (Nat.zero_le _) (fun r1 hr => ?_)
  refine mb_if_eq (pc := 5) 16 dX12_loser_5 rfl hr (fun hr => ?_) (fun hr => ?_)
  · refine mg_iconst (pc := 16) dX12_loser_16 kc_m1 ?_
    exact mg_weak (mm_le_n (mm_le_n mm_le_0)) (X12_loser_b17_ok hz hd h0 hr)
  · refine ml_aload_n (pc := 8) dX12_loser_8 rfl mm_get_0 ?_
    refine ml_aload_n (pc := 9) dX12_loser_9 rfl (mm_get_s mm_get_0) ?_
    refine mb_cVi (pc := 10) (As := [.ref a1]) (rest := []) dX12_loser_10 cw_X12_372 h0 hr (fun v hv => X12_queen_ok hz (by omega) h0 hv) rfl (Nat.le_of_ble_eq_true rfl) (Nat.zero_le _) (Nat.zero_le _) (fun r2 hr => ?_)
    refine mg_goto (pc := 13) 17 dX12_loser_13 rfl ?_
    exact mg_weak (mm_le_n (mm_le_n mm_le_0)) (X12_loser_b17_ok hz hd h0 hr)
theorem dX12_ends_0 : decode cX12_ends 0 = .ok (.aload_n 0, 1) := by decide +kernel
theorem dX12_ends_1 : decode cX12_ends 1 = .ok (.iconst 0, 1) := by decide +kernel
theorem dX12_ends_2 : decode cX12_ends 2 = .ok (.putfield 152, 3) := by decide +kernel
theorem dX12_ends_5 : decode cX12_ends 5 = .ok (.aload_n 0, 1) := by decide +kernel
theorem dX12_ends_6 : decode cX12_ends 6 = .ok (.iload_n 1, 1) := by decide +kernel
theorem dX12_ends_7 : decode cX12_ends 7 = .ok (.iconst 1, 1) := by decide +kernel
theorem dX12_ends_8 : decode cX12_ends 8 = .ok (.invokevirtual 393, 3) := by decide +kernel
theorem dX12_ends_11 : decode cX12_ends 11 = .ok (.ifCond .ne 5, 3) := by decide +kernel
theorem dX12_ends_14 : decode cX12_ends 14 = .ok (.iconst 0, 1) := by decide +kernel
theorem dX12_ends_15 : decode cX12_ends 15 = .ok (.ireturn, 1) := by decide +kernel
theorem dX12_ends_16 : decode cX12_ends 16 = .ok (.aload_n 0, 1) := by decide +kernel
theorem dX12_ends_17 : decode cX12_ends 17 = .ok (.invokevirtual 431, 3) := by decide +kernel
theorem dX12_ends_20 : decode cX12_ends 20 = .ok (.iload_n 1, 1) := by decide +kernel
theorem dX12_ends_21 : decode cX12_ends 21 = .ok (.ifCond .ne 14, 3) := by decide +kernel
theorem dX12_ends_24 : decode cX12_ends 24 = .ok (.aload_n 0, 1) := by decide +kernel
theorem dX12_ends_25 : decode cX12_ends 25 = .ok (.aload_n 0, 1) := by decide +kernel
theorem dX12_ends_26 : decode cX12_ends 26 = .ok (.getfield 63, 3) := by decide +kernel
theorem dX12_ends_29 : decode cX12_ends 29 = .ok (.invokevirtual 434, 3) := by decide +kernel
theorem dX12_ends_32 : decode cX12_ends 32 = .ok (.goto 7, 3) := by decide +kernel
theorem dX12_ends_35 : decode cX12_ends 35 = .ok (.aload_n 0, 1) := by decide +kernel
theorem dX12_ends_36 : decode cX12_ends 36 = .ok (.getfield 422, 3) := by decide +kernel
theorem dX12_ends_39 : decode cX12_ends 39 = .ok (.ireturn, 1) := by decide +kernel
def X12_ends_b39 (e : mm_E) (t0 : Int32) (m : mm_V) : Option (Int32 × mm_V) := some (t0, m)
theorem X12_ends_b39_ok {K : mm_K} {nx : Option Nat} {e : mm_E} (hz : e.2.1 = K.2.2.2.2) {d : Nat} (hd : 8 ≤ d) {t0 : Int32} {a0 : Nat} (h0 : e.1 a0 = some (12, 75)) {m : mm_V} {r : (Int32 × mm_V)} (hr : X12_ends_b39 e t0 m = some r) : mm_G K MX12_ends d (mm_Fi e.1 nx r) 39 [none, none] [.int t0] (e.1, m) nx 0 0 := by
  obtain ⟨d, rfl⟩ : ∃ d', d = d' + 1 := ⟨d - 1, by omega⟩
  unfold X12_ends_b39 at hr
  exact mb_iret dX12_ends_39 rfl hr
def X12_ends (e : mm_E) (a0 : Nat) (i1 : Int32) (m : mm_V) : Option (Int32 × mm_V) := (mm_pf e.1 m 12 75 a0 0 (.int (0 : Int32))).bind fun m1 => (X12_isWhat e a0 i1 (1 : Int32) m1).bind fun r2 => if ¬ r2.1 = 0 then ((X12_playsOn e a0 r2.2).bind fun r3 => if ¬ i1 = 0 then ((mm_gi e.1 r3 12 75 a0 54).bind fun x4 => X12_ends_b39 e  x4 r3) else ((mm_gr e.1 r3 12 75 a0 40).bind fun c5 => (X12_loser e a0 c5 r3).bind fun r6 => X12_ends_b39 e  r6.1 r6.2)) else (some ((0 : Int32), r2.2))
theorem X12_ends_ok {K : mm_K} {nx : Option Nat} {e : mm_E} (hz : e.2.1 = K.2.2.2.2) {d : Nat} (hd : 8 ≤ d) {a0 : Nat} {i1 : Int32} (h0 : e.1 a0 = some (12, 75)) {m : mm_V} {r : (Int32 × mm_V)} (hr : X12_ends e a0 i1 m = some r) : mm_Cn K MX12_ends d (mm_Fi e.1 nx r) [.ref a0, .int i1] (e.1, m) nx := by
  obtain ⟨d, rfl⟩ : ∃ d', d = d' + 1 := ⟨d - 1, by omega⟩
  refine mm_entry (by decide) (Nat.le_of_ble_eq_true rfl) rfl (fun hok => ?_)
  unfold X12_ends at hr
  refine mg_weak (L' := [some (.ref a0), some (.int i1)]) (mm_le_s (mm_le_s mm_le_0)) ?_
  refine ml_aload_n (pc := 0) dX12_ends_0 rfl mm_get_0 ?_
  refine mg_iconst (pc := 1) dX12_ends_1 kc_0 ?_
  refine mb_pi (pc := 2) dX12_ends_2 fp_X12_152 hr (fun m1 hr => ?_)
  refine ml_aload_n (pc := 5) dX12_ends_5 rfl mm_get_0 ?_
  refine ml_iload_n (pc := 6) dX12_ends_6 rfl (mm_get_s mm_get_0) ?_
  refine mg_iconst (pc := 7) dX12_ends_7 kc_1 ?_
  refine mb_cVi (pc := 8) (As := [.int i1, .int (1 : Int32)]) (rest := []) dX12_ends_8 cw_X12_393 h0 hr (fun v hv => X12_isWhat_ok hz (by omega) h0 hv) rfl (Nat.le_of_ble_eq_true rfl) (Nat.zero_le _) (Nat.zero_le _) (fun r2 hr => ?_)
  refine mb_if_ne (pc := 11) 16 dX12_ends_11 rfl hr (fun hr => ?_) (fun hr => ?_)
  · refine ml_aload_n (pc := 16) dX12_ends_16 rfl mm_get_0 ?_
    refine mb_cVv (pc := 17) (As := []) (rest := []) dX12_ends_17 cw_X12_431 h0 hr (fun v hv => X12_playsOn_ok hz (by omega) h0 hv) rfl (Nat.le_of_ble_eq_true rfl) (Nat.zero_le _) (Nat.zero_le _) (fun r3 hr => ?_)
    refine ml_iload_n (pc := 20) dX12_ends_20 rfl (mm_get_s mm_get_0) ?_
    refine mb_if_ne (pc := 21) 35 dX12_ends_21 rfl hr (fun hr => ?_) (fun hr => ?_)
    · refine ml_aload_n (pc := 35) dX12_ends_35 rfl mm_get_0 ?_
      refine mb_gi (pc := 36) dX12_ends_36 fl_X12_422 hr (fun x4 hr => ?_)
      exact mg_weak (mm_le_n (mm_le_n mm_le_0)) (X12_ends_b39_ok hz hd h0 hr)
    · refine ml_aload_n (pc := 24) dX12_ends_24 rfl mm_get_0 ?_
      refine ml_aload_n (pc := 25) dX12_ends_25 rfl mm_get_0 ?_
      refine mb_gr (pc := 26) dX12_ends_26 fl_X12_63 hr (fun c5 hr => ?_)
      refine mb_cVi (pc := 29) (As := [.ref c5]) (rest := []) dX12_ends_29 cw_X12_434 h0 hr (fun v hv => X12_loser_ok hz (by omega) h0 hv) rfl (Nat.le_of_ble_eq_true rfl) (Nat.zero_le _) (Nat.zero_le _) (fun r6 hr => ?_)
      refine mg_goto (pc := 32) 39 dX12_ends_32 rfl ?_
      exact mg_weak (mm_le_n (mm_le_n mm_le_0)) (X12_ends_b39_ok hz hd h0 hr)
  · refine mg_iconst (pc := 14) dX12_ends_14 kc_0 ?_
    exact mb_iret dX12_ends_15 rfl hr
theorem dX12_has_0 : decode cX12_has 0 = .ok (.aload_n 0, 1) := by decide +kernel
theorem dX12_has_1 : decode cX12_has 1 = .ok (.iconst 0, 1) := by decide +kernel
theorem dX12_has_2 : decode cX12_has 2 = .ok (.putfield 152, 3) := by decide +kernel
theorem dX12_has_5 : decode cX12_has 5 = .ok (.aload_n 0, 1) := by decide +kernel
theorem dX12_has_6 : decode cX12_has 6 = .ok (.iload_n 1, 1) := by decide +kernel
theorem dX12_has_7 : decode cX12_has 7 = .ok (.invokevirtual 376, 3) := by decide +kernel
theorem dX12_has_10 : decode cX12_has 10 = .ok (.ifCond .ne 5, 3) := by decide +kernel
theorem dX12_has_13 : decode cX12_has 13 = .ok (.iconst 0, 1) := by decide +kernel
theorem dX12_has_14 : decode cX12_has 14 = .ok (.ireturn, 1) := by decide +kernel
theorem dX12_has_15 : decode cX12_has 15 = .ok (.aload_n 0, 1) := by decide +kernel
theorem dX12_has_16 : decode cX12_has 16 = .ok (.invokevirtual 431, 3) := by decide +kernel
theorem dX12_has_19 : decode cX12_has 19 = .ok (.iload_n 2, 1) := by decide +kernel
theorem dX12_has_20 : decode cX12_has 20 = .ok (.ifCond .eq 12, 3) := by decide +kernel
theorem dX12_has_23 : decode cX12_has 23 = .ok (.aload_n 0, 1) := by decide +kernel
theorem dX12_has_24 : decode cX12_has 24 = .ok (.getfield 81, 3) := by decide +kernel
theorem dX12_has_27 : decode cX12_has 27 = .ok (.iload_n 1, 1) := by decide +kernel
theorem dX12_has_28 : decode cX12_has 28 = .ok (.iaload, 1) := by decide +kernel
theorem dX12_has_29 : decode cX12_has 29 = .ok (.goto 9, 3) := by decide +kernel
theorem dX12_has_32 : decode cX12_has 32 = .ok (.aload_n 0, 1) := by decide +kernel
theorem dX12_has_33 : decode cX12_has 33 = .ok (.getfield 78, 3) := by decide +kernel
theorem dX12_has_36 : decode cX12_has 36 = .ok (.iload_n 1, 1) := by decide +kernel
theorem dX12_has_37 : decode cX12_has 37 = .ok (.iaload, 1) := by decide +kernel
theorem dX12_has_38 : decode cX12_has 38 = .ok (.ireturn, 1) := by decide +kernel
def X12_has_b38 (e : mm_E) (t0 : Int32) (m : mm_V) : Option (Int32 × mm_V) := some (t0, m)
theorem X12_has_b38_ok {K : mm_K} {nx : Option Nat} {e : mm_E} (hz : e.2.1 = K.2.2.2.2) {d : Nat} (hd : 8 ≤ d) {t0 : Int32} {a0 : Nat} (h0 : e.1 a0 = some (12, 75)) {m : mm_V} {r : (Int32 × mm_V)} (hr : X12_has_b38 e t0 m = some r) : mm_G K MX12_has d (mm_Fi e.1 nx r) 38 [none, none, none] [.int t0] (e.1, m) nx 0 0 := by
  obtain ⟨d, rfl⟩ : ∃ d', d = d' + 1 := ⟨d - 1, by omega⟩
  unfold X12_has_b38 at hr
  exact mb_iret dX12_has_38 rfl hr
def X12_has (e : mm_E) (a0 : Nat) (i1 : Int32) (i2 : Int32) (m : mm_V) : Option (Int32 × mm_V) := (mm_pf e.1 m 12 75 a0 0 (.int (0 : Int32))).bind fun m1 => (X12_isPerson e a0 i1 m1).bind fun r2 => if ¬ r2.1 = 0 then ((X12_playsOn e a0 r2.2).bind fun r3 => if i2 = 0 then ((mm_gr e.1 r3 12 75 a0 50).bind fun c4 => (mm_ai e.1 r3 20 c4 i1).bind fun x5 => X12_has_b38 e  x5 r3) else ((mm_gr e.1 r3 12 75 a0 51).bind fun c6 => (mm_ai e.1 r3 20 c6 i1).bind fun x7 => X12_has_b38 e  x7 r3)) else (some ((0 : Int32), r2.2))
theorem X12_has_ok {K : mm_K} {nx : Option Nat} {e : mm_E} (hz : e.2.1 = K.2.2.2.2) {d : Nat} (hd : 8 ≤ d) {a0 : Nat} {i1 : Int32} {i2 : Int32} (h0 : e.1 a0 = some (12, 75)) {m : mm_V} {r : (Int32 × mm_V)} (hr : X12_has e a0 i1 i2 m = some r) : mm_Cn K MX12_has d (mm_Fi e.1 nx r) [.ref a0, .int i1, .int i2] (e.1, m) nx := by
  obtain ⟨d, rfl⟩ : ∃ d', d = d' + 1 := ⟨d - 1, by omega⟩
  refine mm_entry (by decide) (Nat.le_of_ble_eq_true rfl) rfl (fun hok => ?_)
  unfold X12_has at hr
  refine mg_weak (L' := [some (.ref a0), some (.int i1), some (.int i2)]) (mm_le_s (mm_le_s (mm_le_s mm_le_0))) ?_
  refine ml_aload_n (pc := 0) dX12_has_0 rfl mm_get_0 ?_
  refine mg_iconst (pc := 1) dX12_has_1 kc_0 ?_
  refine mb_pi (pc := 2) dX12_has_2 fp_X12_152 hr (fun m1 hr => ?_)
  refine ml_aload_n (pc := 5) dX12_has_5 rfl mm_get_0 ?_
  refine ml_iload_n (pc := 6) dX12_has_6 rfl (mm_get_s mm_get_0) ?_
  refine mb_cVi (pc := 7) (As := [.int i1]) (rest := []) dX12_has_7 cw_X12_376 h0 hr (fun v hv => X12_isPerson_ok hz (by omega) h0 hv) rfl (Nat.le_of_ble_eq_true rfl) (Nat.zero_le _) (Nat.zero_le _) (fun r2 hr => ?_)
  refine mb_if_ne (pc := 10) 15 dX12_has_10 rfl hr (fun hr => ?_) (fun hr => ?_)
  · refine ml_aload_n (pc := 15) dX12_has_15 rfl mm_get_0 ?_
    refine mb_cVv (pc := 16) (As := []) (rest := []) dX12_has_16 cw_X12_431 h0 hr (fun v hv => X12_playsOn_ok hz (by omega) h0 hv) rfl (Nat.le_of_ble_eq_true rfl) (Nat.zero_le _) (Nat.zero_le _) (fun r3 hr => ?_)
    refine ml_iload_n (pc := 19) dX12_has_19 rfl (mm_get_s (mm_get_s mm_get_0)) ?_
    refine mb_if_eq (pc := 20) 32 dX12_has_20 rfl hr (fun hr => ?_) (fun hr => ?_)
    · refine ml_aload_n (pc := 32) dX12_has_32 rfl mm_get_0 ?_
      refine mb_gr (pc := 33) dX12_has_33 fl_X12_78 hr (fun c4 hr => ?_)
      refine ml_iload_n (pc := 36) dX12_has_36 rfl (mm_get_s mm_get_0) ?_
      refine mb_ai (pc := 37) dX12_has_37 hr (fun x5 hr => ?_)
      exact mg_weak (mm_le_n (mm_le_n (mm_le_n mm_le_0))) (X12_has_b38_ok hz hd h0 hr)
    · refine ml_aload_n (pc := 23) dX12_has_23 rfl mm_get_0 ?_
      refine mb_gr (pc := 24) dX12_has_24 fl_X12_81 hr (fun c6 hr => ?_)
      refine ml_iload_n (pc := 27) dX12_has_27 rfl (mm_get_s mm_get_0) ?_
      refine mb_ai (pc := 28) dX12_has_28 hr (fun x7 hr => ?_)
      refine mg_goto (pc := 29) 38 dX12_has_29 rfl ?_
      exact mg_weak (mm_le_n (mm_le_n (mm_le_n mm_le_0))) (X12_has_b38_ok hz hd h0 hr)
  · refine mg_iconst (pc := 13) dX12_has_13 kc_0 ?_
    exact mb_iret dX12_has_14 rfl hr
theorem dX12_wouldLose_0 : decode cX12_wouldLose 0 = .ok (.aload_n 0, 1) := by decide +kernel
theorem dX12_wouldLose_1 : decode cX12_wouldLose 1 = .ok (.iconst 0, 1) := by decide +kernel
theorem dX12_wouldLose_2 : decode cX12_wouldLose 2 = .ok (.putfield 152, 3) := by decide +kernel
theorem dX12_wouldLose_5 : decode cX12_wouldLose 5 = .ok (.aload_n 0, 1) := by decide +kernel
theorem dX12_wouldLose_6 : decode cX12_wouldLose 6 = .ok (.aload_n 0, 1) := by decide +kernel
theorem dX12_wouldLose_7 : decode cX12_wouldLose 7 = .ok (.aload_n 0, 1) := by decide +kernel
theorem dX12_wouldLose_8 : decode cX12_wouldLose 8 = .ok (.getfield 60, 3) := by decide +kernel
theorem dX12_wouldLose_11 : decode cX12_wouldLose 11 = .ok (.invokevirtual 338, 3) := by decide +kernel
theorem dX12_wouldLose_14 : decode cX12_wouldLose 14 = .ok (.ifCond .ne 7, 3) := by decide +kernel
theorem dX12_wouldLose_17 : decode cX12_wouldLose 17 = .ok (.iconst 1, 1) := by decide +kernel
theorem dX12_wouldLose_18 : decode cX12_wouldLose 18 = .ok (.goto 4, 3) := by decide +kernel
theorem dX12_wouldLose_21 : decode cX12_wouldLose 21 = .ok (.iconst 0, 1) := by decide +kernel
theorem dX12_wouldLose_22 : decode cX12_wouldLose 22 = .ok (.iconst 1, 1) := by decide +kernel
theorem dX12_wouldLose_23 : decode cX12_wouldLose 23 = .ok (.invokevirtual 306, 3) := by decide +kernel
theorem dX12_wouldLose_26 : decode cX12_wouldLose 26 = .ok (.ifCond .ne 5, 3) := by decide +kernel
theorem dX12_wouldLose_29 : decode cX12_wouldLose 29 = .ok (.iconst 0, 1) := by decide +kernel
theorem dX12_wouldLose_30 : decode cX12_wouldLose 30 = .ok (.ireturn, 1) := by decide +kernel
theorem dX12_wouldLose_31 : decode cX12_wouldLose 31 = .ok (.aload_n 0, 1) := by decide +kernel
theorem dX12_wouldLose_32 : decode cX12_wouldLose 32 = .ok (.getfield 60, 3) := by decide +kernel
theorem dX12_wouldLose_35 : decode cX12_wouldLose 35 = .ok (.iconst 0, 1) := by decide +kernel
theorem dX12_wouldLose_36 : decode cX12_wouldLose 36 = .ok (.iaload, 1) := by decide +kernel
theorem dX12_wouldLose_37 : decode cX12_wouldLose 37 = .ok (.istore_n 2, 1) := by decide +kernel
theorem dX12_wouldLose_38 : decode cX12_wouldLose 38 = .ok (.aload_n 0, 1) := by decide +kernel
theorem dX12_wouldLose_39 : decode cX12_wouldLose 39 = .ok (.aload_n 0, 1) := by decide +kernel
theorem dX12_wouldLose_40 : decode cX12_wouldLose 40 = .ok (.getfield 60, 3) := by decide +kernel
theorem dX12_wouldLose_43 : decode cX12_wouldLose 43 = .ok (.iload_n 2, 1) := by decide +kernel
theorem dX12_wouldLose_44 : decode cX12_wouldLose 44 = .ok (.invokevirtual 342, 3) := by decide +kernel
theorem dX12_wouldLose_47 : decode cX12_wouldLose 47 = .ok (.istore_n 3, 1) := by decide +kernel
theorem dX12_wouldLose_48 : decode cX12_wouldLose 48 = .ok (.aload_n 0, 1) := by decide +kernel
theorem dX12_wouldLose_49 : decode cX12_wouldLose 49 = .ok (.iload_n 1, 1) := by decide +kernel
theorem dX12_wouldLose_50 : decode cX12_wouldLose 50 = .ok (.bipush (-2), 2) := by decide +kernel
theorem dX12_wouldLose_52 : decode cX12_wouldLose 52 = .ok (.if_icmp .lt 19, 3) := by decide +kernel
theorem dX12_wouldLose_55 : decode cX12_wouldLose 55 = .ok (.iload_n 1, 1) := by decide +kernel
theorem dX12_wouldLose_56 : decode cX12_wouldLose 56 = .ok (.aload_n 0, 1) := by decide +kernel
theorem dX12_wouldLose_57 : decode cX12_wouldLose 57 = .ok (.getfield 60, 3) := by decide +kernel
theorem dX12_wouldLose_60 : decode cX12_wouldLose 60 = .ok (.iload_n 3, 1) := by decide +kernel
theorem dX12_wouldLose_61 : decode cX12_wouldLose 61 = .ok (.invokestatic 327, 3) := by decide +kernel
theorem dX12_wouldLose_64 : decode cX12_wouldLose 64 = .ok (.if_icmp .ge 7, 3) := by decide +kernel
theorem dX12_wouldLose_67 : decode cX12_wouldLose 67 = .ok (.iconst 1, 1) := by decide +kernel
theorem dX12_wouldLose_68 : decode cX12_wouldLose 68 = .ok (.goto 4, 3) := by decide +kernel
theorem dX12_wouldLose_71 : decode cX12_wouldLose 71 = .ok (.iconst 0, 1) := by decide +kernel
theorem dX12_wouldLose_72 : decode cX12_wouldLose 72 = .ok (.iconst 1, 1) := by decide +kernel
theorem dX12_wouldLose_73 : decode cX12_wouldLose 73 = .ok (.invokevirtual 306, 3) := by decide +kernel
theorem dX12_wouldLose_76 : decode cX12_wouldLose 76 = .ok (.ifCond .ne 5, 3) := by decide +kernel
theorem dX12_wouldLose_79 : decode cX12_wouldLose 79 = .ok (.iconst 0, 1) := by decide +kernel
theorem dX12_wouldLose_80 : decode cX12_wouldLose 80 = .ok (.ireturn, 1) := by decide +kernel
theorem dX12_wouldLose_81 : decode cX12_wouldLose 81 = .ok (.iconst 0, 1) := by decide +kernel
theorem dX12_wouldLose_82 : decode cX12_wouldLose 82 = .ok (.istore 4, 2) := by decide +kernel
theorem dX12_wouldLose_84 : decode cX12_wouldLose 84 = .ok (.iconst (-1), 1) := by decide +kernel
theorem dX12_wouldLose_85 : decode cX12_wouldLose 85 = .ok (.istore 5, 2) := by decide +kernel
theorem dX12_wouldLose_87 : decode cX12_wouldLose 87 = .ok (.iconst 0, 1) := by decide +kernel
theorem dX12_wouldLose_88 : decode cX12_wouldLose 88 = .ok (.istore 6, 2) := by decide +kernel
theorem dX12_wouldLose_90 : decode cX12_wouldLose 90 = .ok (.iload 6, 2) := by decide +kernel
theorem dX12_wouldLose_92 : decode cX12_wouldLose 92 = .ok (.aload_n 0, 1) := by decide +kernel
theorem dX12_wouldLose_93 : decode cX12_wouldLose 93 = .ok (.getfield 60, 3) := by decide +kernel
theorem dX12_wouldLose_96 : decode cX12_wouldLose 96 = .ok (.iload_n 3, 1) := by decide +kernel
theorem dX12_wouldLose_97 : decode cX12_wouldLose 97 = .ok (.invokestatic 327, 3) := by decide +kernel
theorem dX12_wouldLose_100 : decode cX12_wouldLose 100 = .ok (.if_icmp .ge 88, 3) := by decide +kernel
theorem dX12_wouldLose_103 : decode cX12_wouldLose 103 = .ok (.aload_n 0, 1) := by decide +kernel
theorem dX12_wouldLose_104 : decode cX12_wouldLose 104 = .ok (.aload_n 0, 1) := by decide +kernel
theorem dX12_wouldLose_105 : decode cX12_wouldLose 105 = .ok (.getfield 60, 3) := by decide +kernel
theorem dX12_wouldLose_108 : decode cX12_wouldLose 108 = .ok (.aload_n 0, 1) := by decide +kernel
theorem dX12_wouldLose_109 : decode cX12_wouldLose 109 = .ok (.getfield 63, 3) := by decide +kernel
theorem dX12_wouldLose_112 : decode cX12_wouldLose 112 = .ok (.invokevirtual 316, 3) := by decide +kernel
theorem dX12_wouldLose_115 : decode cX12_wouldLose 115 = .ok (.aload_n 0, 1) := by decide +kernel
theorem dX12_wouldLose_116 : decode cX12_wouldLose 116 = .ok (.aload_n 0, 1) := by decide +kernel
theorem dX12_wouldLose_117 : decode cX12_wouldLose 117 = .ok (.getfield 63, 3) := by decide +kernel
theorem dX12_wouldLose_120 : decode cX12_wouldLose 120 = .ok (.iload_n 3, 1) := by decide +kernel
theorem dX12_wouldLose_121 : decode cX12_wouldLose 121 = .ok (.iload 6, 2) := by decide +kernel
theorem dX12_wouldLose_123 : decode cX12_wouldLose 123 = .ok (.iconst 0, 1) := by decide +kernel
theorem dX12_wouldLose_124 : decode cX12_wouldLose 124 = .ok (.invokevirtual 412, 3) := by decide +kernel
theorem dX12_wouldLose_127 : decode cX12_wouldLose 127 = .ok (.aload_n 0, 1) := by decide +kernel
theorem dX12_wouldLose_128 : decode cX12_wouldLose 128 = .ok (.aload_n 0, 1) := by decide +kernel
theorem dX12_wouldLose_129 : decode cX12_wouldLose 129 = .ok (.getfield 63, 3) := by decide +kernel
theorem dX12_wouldLose_132 : decode cX12_wouldLose 132 = .ok (.invokevirtual 428, 3) := by decide +kernel
theorem dX12_wouldLose_135 : decode cX12_wouldLose 135 = .ok (.aload_n 0, 1) := by decide +kernel
theorem dX12_wouldLose_136 : decode cX12_wouldLose 136 = .ok (.aload_n 0, 1) := by decide +kernel
theorem dX12_wouldLose_137 : decode cX12_wouldLose 137 = .ok (.getfield 63, 3) := by decide +kernel
theorem dX12_wouldLose_140 : decode cX12_wouldLose 140 = .ok (.invokevirtual 434, 3) := by decide +kernel
theorem dX12_wouldLose_143 : decode cX12_wouldLose 143 = .ok (.istore 7, 2) := by decide +kernel
theorem dX12_wouldLose_145 : decode cX12_wouldLose 145 = .ok (.iload 6, 2) := by decide +kernel
theorem dX12_wouldLose_147 : decode cX12_wouldLose 147 = .ok (.iload_n 1, 1) := by decide +kernel
theorem dX12_wouldLose_148 : decode cX12_wouldLose 148 = .ok (.if_icmp .ne 6, 3) := by decide +kernel
theorem dX12_wouldLose_151 : decode cX12_wouldLose 151 = .ok (.iload 7, 2) := by decide +kernel
theorem dX12_wouldLose_153 : decode cX12_wouldLose 153 = .ok (.ireturn, 1) := by decide +kernel
theorem dX12_wouldLose_154 : decode cX12_wouldLose 154 = .ok (.iload 7, 2) := by decide +kernel
theorem dX12_wouldLose_156 : decode cX12_wouldLose 156 = .ok (.iconst (-1), 1) := by decide +kernel
theorem dX12_wouldLose_157 : decode cX12_wouldLose 157 = .ok (.if_icmp .eq 25, 3) := by decide +kernel
theorem dX12_wouldLose_160 : decode cX12_wouldLose 160 = .ok (.iload 7, 2) := by decide +kernel
theorem dX12_wouldLose_162 : decode cX12_wouldLose 162 = .ok (.iload_n 2, 1) := by decide +kernel
theorem dX12_wouldLose_163 : decode cX12_wouldLose 163 = .ok (.if_icmp .ne 6, 3) := by decide +kernel
theorem dX12_wouldLose_166 : decode cX12_wouldLose 166 = .ok (.goto 16, 3) := by decide +kernel
theorem dX12_wouldLose_169 : decode cX12_wouldLose 169 = .ok (.iinc 4 1, 3) := by decide +kernel
theorem dX12_wouldLose_172 : decode cX12_wouldLose 172 = .ok (.iload 5, 2) := by decide +kernel
theorem dX12_wouldLose_174 : decode cX12_wouldLose 174 = .ok (.iconst (-1), 1) := by decide +kernel
theorem dX12_wouldLose_175 : decode cX12_wouldLose 175 = .ok (.if_icmp .ne 7, 3) := by decide +kernel
theorem dX12_wouldLose_178 : decode cX12_wouldLose 178 = .ok (.iload 6, 2) := by decide +kernel
theorem dX12_wouldLose_180 : decode cX12_wouldLose 180 = .ok (.istore 5, 2) := by decide +kernel
theorem dX12_wouldLose_182 : decode cX12_wouldLose 182 = .ok (.iinc 6 1, 3) := by decide +kernel
theorem dX12_wouldLose_185 : decode cX12_wouldLose 185 = .ok (.goto (-95), 3) := by decide +kernel
theorem dX12_wouldLose_188 : decode cX12_wouldLose 188 = .ok (.iload_n 1, 1) := by decide +kernel
theorem dX12_wouldLose_189 : decode cX12_wouldLose 189 = .ok (.iconst (-1), 1) := by decide +kernel
theorem dX12_wouldLose_190 : decode cX12_wouldLose 190 = .ok (.if_icmp .ne 8, 3) := by decide +kernel
theorem dX12_wouldLose_193 : decode cX12_wouldLose 193 = .ok (.iload 4, 2) := by decide +kernel
theorem dX12_wouldLose_195 : decode cX12_wouldLose 195 = .ok (.goto 5, 3) := by decide +kernel
theorem dX12_wouldLose_198 : decode cX12_wouldLose 198 = .ok (.iload 5, 2) := by decide +kernel
theorem dX12_wouldLose_200 : decode cX12_wouldLose 200 = .ok (.ireturn, 1) := by decide +kernel
def X12_wouldLose_b200 (e : mm_E) (t0 : Int32) (m : mm_V) : Option (Int32 × mm_V) := some (t0, m)
theorem X12_wouldLose_b200_ok {K : mm_K} {nx : Option Nat} {e : mm_E} (hz : e.2.1 = K.2.2.2.2) {d : Nat} (hd : 7 ≤ d) {t0 : Int32} {a0 : Nat} (h0 : e.1 a0 = some (12, 75)) {m : mm_V} {r : (Int32 × mm_V)} (hr : X12_wouldLose_b200 e t0 m = some r) : mm_G K MX12_wouldLose d (mm_Fi e.1 nx r) 200 [none, none, none, none, none, none, none, none] [.int t0] (e.1, m) nx 0 0 := by
  obtain ⟨d, rfl⟩ : ∃ d', d = d' + 1 := ⟨d - 1, by omega⟩
  unfold X12_wouldLose_b200 at hr
  exact mb_iret dX12_wouldLose_200 rfl hr
def X12_wouldLose_b182 (e : mm_E) (k90 : Int32 → Int32 → Int32 → mm_V → Option (Int32 × mm_V)) (a0 : Nat) (i1 : Int32) (i2 : Int32) (i3 : Int32) (i4 : Int32) (i5 : Int32) (i6 : Int32) (m : mm_V) : Option (Int32 × mm_V) := k90 i4 i5 (i6 + 1) m
theorem X12_wouldLose_b182_ok {K : mm_K} {nx : Option Nat} {e : mm_E} (hz : e.2.1 = K.2.2.2.2) {d : Nat} (hd : 7 ≤ d) {a0 : Nat} {i1 : Int32} {i2 : Int32} {i3 : Int32} {i4 : Int32} {i5 : Int32} {i6 : Int32} (h0 : e.1 a0 = some (12, 75)) {k90 : Int32 → Int32 → Int32 → mm_V → Option (Int32 × mm_V)} (hk90 : ∀ (w4 : Int32) (w5 : Int32) (w6 : Int32) (m : mm_V) (r : (Int32 × mm_V)), k90 w4 w5 w6 m = some r → mm_G K MX12_wouldLose d (mm_Fi e.1 nx r) 90 [some (.ref a0), some (.int i1), some (.int i2), some (.int i3), some (.int w4), some (.int w5), some (.int w6), none] [] (e.1, m) nx 0 0) {m : mm_V} {r : (Int32 × mm_V)} (hr : X12_wouldLose_b182 e k90 a0 i1 i2 i3 i4 i5 i6 m = some r) : mm_G K MX12_wouldLose d (mm_Fi e.1 nx r) 182 [some (.ref a0), some (.int i1), some (.int i2), some (.int i3), some (.int i4), some (.int i5), some (.int i6), none] [] (e.1, m) nx 0 0 := by
  obtain ⟨d, rfl⟩ : ∃ d', d = d' + 1 := ⟨d - 1, by omega⟩
  unfold X12_wouldLose_b182 at hr
  refine ml_iinc (pc := 182) dX12_wouldLose_182 (mm_get_s (mm_get_s (mm_get_s (mm_get_s (mm_get_s (mm_get_s mm_get_0)))))) (congrArg (fun z => i6 + z) kc_1) (Nat.le_of_ble_eq_true rfl) (mm_st1_s (mm_st1_s (mm_st1_s (mm_st1_s (mm_st1_s mm_st1_i))))) ?_
  refine mg_goto (pc := 185) 90 dX12_wouldLose_185 rfl ?_
  exact mg_weak (mm_le_s (mm_le_s (mm_le_s (mm_le_s (mm_le_s (mm_le_s (mm_le_s (mm_le_n mm_le_0)))))))) (hk90 _ _ _ _ _ hr)
def X12_wouldLose_L90 (e : mm_E) (a0 : Nat) (i1 : Int32) (i2 : Int32) (i3 : Int32) : Nat → Int32 → Int32 → Int32 → mm_V → Option (Int32 × mm_V)
  | 0, _, _, _, _ => none
  | n + 1, i4, i5, i6, m => (mm_gr e.1 m 12 75 a0 39).bind fun c1 => (X12_size e c1 i3 m).bind fun r2 => if r2.1 ≤ i6 then (if ¬ i1 = (-1 : Int32) then (X12_wouldLose_b200 e  i5 r2.2) else (X12_wouldLose_b200 e  i4 r2.2)) else ((mm_gr e.1 r2.2 12 75 a0 39).bind fun c3 => (mm_gr e.1 r2.2 12 75 a0 40).bind fun c4 => (X12_copies e a0 c3 c4 r2.2).bind fun r5 => (mm_gr e.1 r5 12 75 a0 40).bind fun c6 => (X12_drawsOf e a0 c6 i3 i6 (0 : Int32) r5).bind fun r7 => (mm_gr e.1 r7 12 75 a0 40).bind fun c8 => (X12_plays e a0 c8 r7).bind fun r9 => (mm_gr e.1 r9 12 75 a0 40).bind fun c10 => (X12_loser e a0 c10 r9).bind fun r11 => if ¬ i6 = i1 then (if r11.1 = (-1 : Int32) then (X12_wouldLose_b182 e (X12_wouldLose_L90 e a0 i1 i2 i3 n) a0 i1 i2 i3 i4 i5 i6  r11.2) else (if ¬ r11.1 = i2 then (if ¬ i5 = (-1 : Int32) then (X12_wouldLose_b182 e (X12_wouldLose_L90 e a0 i1 i2 i3 n) a0 i1 i2 i3 (i4 + 1) i5 i6  r11.2) else (X12_wouldLose_b182 e (X12_wouldLose_L90 e a0 i1 i2 i3 n) a0 i1 i2 i3 (i4 + 1) i6 i6  r11.2)) else (X12_wouldLose_b182 e (X12_wouldLose_L90 e a0 i1 i2 i3 n) a0 i1 i2 i3 i4 i5 i6  r11.2))) else (some (r11.1, r11.2)))
theorem X12_wouldLose_L90_ok {K : mm_K} {nx : Option Nat} {e : mm_E} (hz : e.2.1 = K.2.2.2.2) {d : Nat} (hd : 7 ≤ d) {a0 : Nat} {i1 : Int32} {i2 : Int32} {i3 : Int32} (h0 : e.1 a0 = some (12, 75)) : ∀ (n : Nat) (i4 : Int32) (i5 : Int32) (i6 : Int32) (m : mm_V) (r : (Int32 × mm_V)), X12_wouldLose_L90 e a0 i1 i2 i3 n i4 i5 i6 m = some r → mm_G K MX12_wouldLose d (mm_Fi e.1 nx r) 90 [some (.ref a0), some (.int i1), some (.int i2), some (.int i3), some (.int i4), some (.int i5), some (.int i6), none] [] (e.1, m) nx 0 0 := by
  obtain ⟨d, rfl⟩ : ∃ d', d = d' + 1 := ⟨d - 1, by omega⟩
  intro n
  induction n with
  | zero => intro i4 i5 i6 m r hr; unfold X12_wouldLose_L90 at hr; cases hr
  | succ n ih =>
    intro i4 i5 i6 m r hr
    unfold X12_wouldLose_L90 at hr
    refine ml_iload (pc := 90) dX12_wouldLose_90 (mm_get_s (mm_get_s (mm_get_s (mm_get_s (mm_get_s (mm_get_s mm_get_0)))))) ?_
    refine ml_aload_n (pc := 92) dX12_wouldLose_92 rfl mm_get_0 ?_
    refine mb_gr (pc := 93) dX12_wouldLose_93 fl_X12_60 hr (fun c1 hr => ?_)
    refine ml_iload_n (pc := 96) dX12_wouldLose_96 rfl (mm_get_s (mm_get_s (mm_get_s mm_get_0))) ?_
    refine mb_cSi (pc := 97) (As := [.ref c1, .int i3]) (rest := [.int i6]) dX12_wouldLose_97 cw_X12_327  hr (fun v hv => X12_size_ok hz (by omega)  hv) rfl (Nat.le_of_ble_eq_true rfl) (Nat.zero_le _) (Nat.zero_le _) (fun r2 hr => ?_)
    refine mb_icmp_ge (pc := 100) 188 dX12_wouldLose_100 rfl hr (fun hr => ?_) (fun hr => ?_)
    · refine ml_iload_n (pc := 188) dX12_wouldLose_188 rfl (mm_get_s mm_get_0) ?_
      refine mg_iconst (pc := 189) dX12_wouldLose_189 kc_m1 ?_
      refine mb_icmp_ne (pc := 190) 198 dX12_wouldLose_190 rfl hr (fun hr => ?_) (fun hr => ?_)
      · refine ml_iload (pc := 198) dX12_wouldLose_198 (mm_get_s (mm_get_s (mm_get_s (mm_get_s (mm_get_s mm_get_0))))) ?_
        exact mg_weak (mm_le_n (mm_le_n (mm_le_n (mm_le_n (mm_le_n (mm_le_n (mm_le_n (mm_le_n mm_le_0)))))))) (X12_wouldLose_b200_ok hz hd h0 hr)
      · refine ml_iload (pc := 193) dX12_wouldLose_193 (mm_get_s (mm_get_s (mm_get_s (mm_get_s mm_get_0)))) ?_
        refine mg_goto (pc := 195) 200 dX12_wouldLose_195 rfl ?_
        exact mg_weak (mm_le_n (mm_le_n (mm_le_n (mm_le_n (mm_le_n (mm_le_n (mm_le_n (mm_le_n mm_le_0)))))))) (X12_wouldLose_b200_ok hz hd h0 hr)
    · refine ml_aload_n (pc := 103) dX12_wouldLose_103 rfl mm_get_0 ?_
      refine ml_aload_n (pc := 104) dX12_wouldLose_104 rfl mm_get_0 ?_
      refine mb_gr (pc := 105) dX12_wouldLose_105 fl_X12_60 hr (fun c3 hr => ?_)
      refine ml_aload_n (pc := 108) dX12_wouldLose_108 rfl mm_get_0 ?_
      refine mb_gr (pc := 109) dX12_wouldLose_109 fl_X12_63 hr (fun c4 hr => ?_)
      refine mb_cVv (pc := 112) (As := [.ref c3, .ref c4]) (rest := []) dX12_wouldLose_112 cw_X12_316 h0 hr (fun v hv => X12_copies_ok hz (by omega) h0 hv) rfl (Nat.le_of_ble_eq_true rfl) (Nat.zero_le _) (Nat.zero_le _) (fun r5 hr => ?_)
      refine ml_aload_n (pc := 115) dX12_wouldLose_115 rfl mm_get_0 ?_
      refine ml_aload_n (pc := 116) dX12_wouldLose_116 rfl mm_get_0 ?_
      refine mb_gr (pc := 117) dX12_wouldLose_117 fl_X12_63 hr (fun c6 hr => ?_)
      refine ml_iload_n (pc := 120) dX12_wouldLose_120 rfl (mm_get_s (mm_get_s (mm_get_s mm_get_0))) ?_
      refine ml_iload (pc := 121) dX12_wouldLose_121 (mm_get_s (mm_get_s (mm_get_s (mm_get_s (mm_get_s (mm_get_s mm_get_0)))))) ?_
      refine mg_iconst (pc := 123) dX12_wouldLose_123 kc_0 ?_
      refine mb_cVv (pc := 124) (As := [.ref c6, .int i3, .int i6, .int (0 : Int32)]) (rest := []) dX12_wouldLose_124 cw_X12_412 h0 hr (fun v hv => X12_drawsOf_ok hz (by omega) h0 hv) rfl (Nat.le_of_ble_eq_true rfl) (Nat.zero_le _) (Nat.zero_le _) (fun r7 hr => ?_)
      refine ml_aload_n (pc := 127) dX12_wouldLose_127 rfl mm_get_0 ?_
      refine ml_aload_n (pc := 128) dX12_wouldLose_128 rfl mm_get_0 ?_
      refine mb_gr (pc := 129) dX12_wouldLose_129 fl_X12_63 hr (fun c8 hr => ?_)
      refine mb_cVv (pc := 132) (As := [.ref c8]) (rest := []) dX12_wouldLose_132 cw_X12_428 h0 hr (fun v hv => X12_plays_ok hz (by omega) h0 hv) rfl (Nat.le_of_ble_eq_true rfl) (Nat.zero_le _) (Nat.zero_le _) (fun r9 hr => ?_)
      refine ml_aload_n (pc := 135) dX12_wouldLose_135 rfl mm_get_0 ?_
      refine ml_aload_n (pc := 136) dX12_wouldLose_136 rfl mm_get_0 ?_
      refine mb_gr (pc := 137) dX12_wouldLose_137 fl_X12_63 hr (fun c10 hr => ?_)
      refine mb_cVi (pc := 140) (As := [.ref c10]) (rest := []) dX12_wouldLose_140 cw_X12_434 h0 hr (fun v hv => X12_loser_ok hz (by omega) h0 hv) rfl (Nat.le_of_ble_eq_true rfl) (Nat.zero_le _) (Nat.zero_le _) (fun r11 hr => ?_)
      refine ml_istore (pc := 143) dX12_wouldLose_143 (Nat.le_of_ble_eq_true rfl) (mm_st1_s (mm_st1_s (mm_st1_s (mm_st1_s (mm_st1_s (mm_st1_s mm_st1_i)))))) ?_
      refine ml_iload (pc := 145) dX12_wouldLose_145 (mm_get_s (mm_get_s (mm_get_s (mm_get_s (mm_get_s (mm_get_s mm_get_0)))))) ?_
      refine ml_iload_n (pc := 147) dX12_wouldLose_147 rfl (mm_get_s mm_get_0) ?_
      refine mb_icmp_ne (pc := 148) 154 dX12_wouldLose_148 rfl hr (fun hr => ?_) (fun hr => ?_)
      · refine ml_iload (pc := 154) dX12_wouldLose_154 (mm_get_s (mm_get_s (mm_get_s (mm_get_s (mm_get_s (mm_get_s (mm_get_s mm_get_0))))))) ?_
        refine mg_iconst (pc := 156) dX12_wouldLose_156 kc_m1 ?_
        refine mb_icmp_eq (pc := 157) 182 dX12_wouldLose_157 rfl hr (fun hr => ?_) (fun hr => ?_)
        · exact mg_weak (mm_le_s (mm_le_s (mm_le_s (mm_le_s (mm_le_s (mm_le_s (mm_le_s (mm_le_n mm_le_0)))))))) (X12_wouldLose_b182_ok hz hd h0 ih hr)
        · refine ml_iload (pc := 160) dX12_wouldLose_160 (mm_get_s (mm_get_s (mm_get_s (mm_get_s (mm_get_s (mm_get_s (mm_get_s mm_get_0))))))) ?_
          refine ml_iload_n (pc := 162) dX12_wouldLose_162 rfl (mm_get_s (mm_get_s mm_get_0)) ?_
          refine mb_icmp_ne (pc := 163) 169 dX12_wouldLose_163 rfl hr (fun hr => ?_) (fun hr => ?_)
          · refine ml_iinc (pc := 169) dX12_wouldLose_169 (mm_get_s (mm_get_s (mm_get_s (mm_get_s mm_get_0)))) (congrArg (fun z => i4 + z) kc_1) (Nat.le_of_ble_eq_true rfl) (mm_st1_s (mm_st1_s (mm_st1_s mm_st1_i))) ?_
            refine ml_iload (pc := 172) dX12_wouldLose_172 (mm_get_s (mm_get_s (mm_get_s (mm_get_s (mm_get_s mm_get_0))))) ?_
            refine mg_iconst (pc := 174) dX12_wouldLose_174 kc_m1 ?_
            refine mb_icmp_ne (pc := 175) 182 dX12_wouldLose_175 rfl hr (fun hr => ?_) (fun hr => ?_)
            · exact mg_weak (mm_le_s (mm_le_s (mm_le_s (mm_le_s (mm_le_s (mm_le_s (mm_le_s (mm_le_n mm_le_0)))))))) (X12_wouldLose_b182_ok hz hd h0 ih hr)
            · refine ml_iload (pc := 178) dX12_wouldLose_178 (mm_get_s (mm_get_s (mm_get_s (mm_get_s (mm_get_s (mm_get_s mm_get_0)))))) ?_
              refine ml_istore (pc := 180) dX12_wouldLose_180 (Nat.le_of_ble_eq_true rfl) (mm_st1_s (mm_st1_s (mm_st1_s (mm_st1_s mm_st1_i)))) ?_
              exact mg_weak (mm_le_s (mm_le_s (mm_le_s (mm_le_s (mm_le_s (mm_le_s (mm_le_s (mm_le_n mm_le_0)))))))) (X12_wouldLose_b182_ok hz hd h0 ih hr)
          · refine mg_goto (pc := 166) 182 dX12_wouldLose_166 rfl ?_
            exact mg_weak (mm_le_s (mm_le_s (mm_le_s (mm_le_s (mm_le_s (mm_le_s (mm_le_s (mm_le_n mm_le_0)))))))) (X12_wouldLose_b182_ok hz hd h0 ih hr)
      · refine ml_iload (pc := 151) dX12_wouldLose_151 (mm_get_s (mm_get_s (mm_get_s (mm_get_s (mm_get_s (mm_get_s (mm_get_s mm_get_0))))))) ?_
        exact mb_iret dX12_wouldLose_153 rfl hr
def X12_wouldLose_b72 (e : mm_E) (a0 : Nat) (i1 : Int32) (i2 : Int32) (i3 : Int32) (t0 : Nat) (t1 : Int32) (m : mm_V) : Option (Int32 × mm_V) := if e.1 t0 = some (12, 75) then ((X12_right e t0 t1 (1 : Int32) m).bind fun r1 => if ¬ r1.1 = 0 then (X12_wouldLose_L90 e a0 i1 i2 i3 e.2.2 (0 : Int32) (-1 : Int32) (0 : Int32) r1.2) else (some ((0 : Int32), r1.2))) else none
theorem X12_wouldLose_b72_ok {K : mm_K} {nx : Option Nat} {e : mm_E} (hz : e.2.1 = K.2.2.2.2) {d : Nat} (hd : 7 ≤ d) {a0 : Nat} {i1 : Int32} {i2 : Int32} {i3 : Int32} {t0 : Nat} {t1 : Int32} (h0 : e.1 a0 = some (12, 75)) {m : mm_V} {r : (Int32 × mm_V)} (hr : X12_wouldLose_b72 e a0 i1 i2 i3 t0 t1 m = some r) : mm_G K MX12_wouldLose d (mm_Fi e.1 nx r) 72 [some (.ref a0), some (.int i1), some (.int i2), some (.int i3), none, none, none, none] [.int t1, .ref t0] (e.1, m) nx 0 0 := by
  obtain ⟨d, rfl⟩ : ∃ d', d = d' + 1 := ⟨d - 1, by omega⟩
  unfold X12_wouldLose_b72 at hr
  refine mg_iconst (pc := 72) dX12_wouldLose_72 kc_1 ?_
  refine mb_ck hr (fun hb2 hr => ?_)
  refine mb_cVi (pc := 73) (As := [.int t1, .int (1 : Int32)]) (rest := []) dX12_wouldLose_73 cw_X12_306 hb2 hr (fun v hv => X12_right_ok hz (by omega) hb2 hv) rfl (Nat.le_of_ble_eq_true rfl) (Nat.zero_le _) (Nat.zero_le _) (fun r1 hr => ?_)
  refine mb_if_ne (pc := 76) 81 dX12_wouldLose_76 rfl hr (fun hr => ?_) (fun hr => ?_)
  · refine mg_iconst (pc := 81) dX12_wouldLose_81 kc_0 ?_
    refine ml_istore (pc := 82) dX12_wouldLose_82 (Nat.le_of_ble_eq_true rfl) (mm_st1_s (mm_st1_s (mm_st1_s mm_st1_i))) ?_
    refine mg_iconst (pc := 84) dX12_wouldLose_84 kc_m1 ?_
    refine ml_istore (pc := 85) dX12_wouldLose_85 (Nat.le_of_ble_eq_true rfl) (mm_st1_s (mm_st1_s (mm_st1_s (mm_st1_s mm_st1_i)))) ?_
    refine mg_iconst (pc := 87) dX12_wouldLose_87 kc_0 ?_
    refine ml_istore (pc := 88) dX12_wouldLose_88 (Nat.le_of_ble_eq_true rfl) (mm_st1_s (mm_st1_s (mm_st1_s (mm_st1_s (mm_st1_s mm_st1_i))))) ?_
    exact mg_weak (mm_le_s (mm_le_s (mm_le_s (mm_le_s (mm_le_s (mm_le_s (mm_le_s (mm_le_n mm_le_0)))))))) (X12_wouldLose_L90_ok hz hd h0 _ _ _ _ _ _ hr)
  · refine mg_iconst (pc := 79) dX12_wouldLose_79 kc_0 ?_
    exact mb_iret dX12_wouldLose_80 rfl hr
def X12_wouldLose_b71 (e : mm_E) (a0 : Nat) (i1 : Int32) (i2 : Int32) (i3 : Int32) (t0 : Nat) (m : mm_V) : Option (Int32 × mm_V) := X12_wouldLose_b72 e a0 i1 i2 i3 t0 (0 : Int32) m
theorem X12_wouldLose_b71_ok {K : mm_K} {nx : Option Nat} {e : mm_E} (hz : e.2.1 = K.2.2.2.2) {d : Nat} (hd : 7 ≤ d) {a0 : Nat} {i1 : Int32} {i2 : Int32} {i3 : Int32} {t0 : Nat} (h0 : e.1 a0 = some (12, 75)) {m : mm_V} {r : (Int32 × mm_V)} (hr : X12_wouldLose_b71 e a0 i1 i2 i3 t0 m = some r) : mm_G K MX12_wouldLose d (mm_Fi e.1 nx r) 71 [some (.ref a0), some (.int i1), some (.int i2), some (.int i3), none, none, none, none] [.ref t0] (e.1, m) nx 0 0 := by
  obtain ⟨d, rfl⟩ : ∃ d', d = d' + 1 := ⟨d - 1, by omega⟩
  unfold X12_wouldLose_b71 at hr
  refine mg_iconst (pc := 71) dX12_wouldLose_71 kc_0 ?_
  exact mg_weak (mm_le_s (mm_le_s (mm_le_s (mm_le_s (mm_le_n (mm_le_n (mm_le_n (mm_le_n mm_le_0)))))))) (X12_wouldLose_b72_ok hz hd h0 hr)
def X12_wouldLose_b22 (e : mm_E) (a0 : Nat) (i1 : Int32) (t0 : Nat) (t1 : Int32) (m : mm_V) : Option (Int32 × mm_V) := if e.1 t0 = some (12, 75) then ((X12_right e t0 t1 (1 : Int32) m).bind fun r1 => if ¬ r1.1 = 0 then ((mm_gr e.1 r1.2 12 75 a0 39).bind fun c3 => (mm_ai e.1 r1.2 20 c3 (0 : Int32)).bind fun x4 => (mm_gr e.1 r1.2 12 75 a0 39).bind fun c5 => (X12_nextOf e a0 c5 x4 r1.2).bind fun r6 => if i1 < (-2 : Int32) then (X12_wouldLose_b71 e a0 i1 x4 r6.1 a0 r6.2) else ((mm_gr e.1 r6.2 12 75 a0 39).bind fun c7 => (X12_size e c7 r6.1 r6.2).bind fun r8 => if r8.1 ≤ i1 then (X12_wouldLose_b71 e a0 i1 x4 r6.1 a0 r8.2) else (X12_wouldLose_b72 e a0 i1 x4 r6.1 a0 (1 : Int32) r8.2))) else (some ((0 : Int32), r1.2))) else none
theorem X12_wouldLose_b22_ok {K : mm_K} {nx : Option Nat} {e : mm_E} (hz : e.2.1 = K.2.2.2.2) {d : Nat} (hd : 7 ≤ d) {a0 : Nat} {i1 : Int32} {t0 : Nat} {t1 : Int32} (h0 : e.1 a0 = some (12, 75)) {m : mm_V} {r : (Int32 × mm_V)} (hr : X12_wouldLose_b22 e a0 i1 t0 t1 m = some r) : mm_G K MX12_wouldLose d (mm_Fi e.1 nx r) 22 [some (.ref a0), some (.int i1), none, none, none, none, none, none] [.int t1, .ref t0] (e.1, m) nx 0 0 := by
  obtain ⟨d, rfl⟩ : ∃ d', d = d' + 1 := ⟨d - 1, by omega⟩
  unfold X12_wouldLose_b22 at hr
  refine mg_iconst (pc := 22) dX12_wouldLose_22 kc_1 ?_
  refine mb_ck hr (fun hb2 hr => ?_)
  refine mb_cVi (pc := 23) (As := [.int t1, .int (1 : Int32)]) (rest := []) dX12_wouldLose_23 cw_X12_306 hb2 hr (fun v hv => X12_right_ok hz (by omega) hb2 hv) rfl (Nat.le_of_ble_eq_true rfl) (Nat.zero_le _) (Nat.zero_le _) (fun r1 hr => ?_)
  refine mb_if_ne (pc := 26) 31 dX12_wouldLose_26 rfl hr (fun hr => ?_) (fun hr => ?_)
  · refine ml_aload_n (pc := 31) dX12_wouldLose_31 rfl mm_get_0 ?_
    refine mb_gr (pc := 32) dX12_wouldLose_32 fl_X12_60 hr (fun c3 hr => ?_)
    refine mg_iconst (pc := 35) dX12_wouldLose_35 kc_0 ?_
    refine mb_ai (pc := 36) dX12_wouldLose_36 hr (fun x4 hr => ?_)
    refine ml_istore_n (pc := 37) dX12_wouldLose_37 rfl (Nat.le_of_ble_eq_true rfl) (mm_st1_s mm_st1_i) ?_
    refine ml_aload_n (pc := 38) dX12_wouldLose_38 rfl mm_get_0 ?_
    refine ml_aload_n (pc := 39) dX12_wouldLose_39 rfl mm_get_0 ?_
    refine mb_gr (pc := 40) dX12_wouldLose_40 fl_X12_60 hr (fun c5 hr => ?_)
    refine ml_iload_n (pc := 43) dX12_wouldLose_43 rfl (mm_get_s (mm_get_s mm_get_0)) ?_
    refine mb_cVi (pc := 44) (As := [.ref c5, .int x4]) (rest := []) dX12_wouldLose_44 cw_X12_342 h0 hr (fun v hv => X12_nextOf_ok hz (by omega) h0 hv) rfl (Nat.le_of_ble_eq_true rfl) (Nat.zero_le _) (Nat.zero_le _) (fun r6 hr => ?_)
    refine ml_istore_n (pc := 47) dX12_wouldLose_47 rfl (Nat.le_of_ble_eq_true rfl) (mm_st1_s (mm_st1_s mm_st1_i)) ?_
    refine ml_aload_n (pc := 48) dX12_wouldLose_48 rfl mm_get_0 ?_
    refine ml_iload_n (pc := 49) dX12_wouldLose_49 rfl (mm_get_s mm_get_0) ?_
    refine mg_bipush (pc := 50) dX12_wouldLose_50 kb_m2 ?_
    refine mb_icmp_lt (pc := 52) 71 dX12_wouldLose_52 rfl hr (fun hr => ?_) (fun hr => ?_)
    · exact mg_weak (mm_le_s (mm_le_s (mm_le_s (mm_le_s (mm_le_n (mm_le_n (mm_le_n (mm_le_n mm_le_0)))))))) (X12_wouldLose_b71_ok hz hd h0 hr)
    · refine ml_iload_n (pc := 55) dX12_wouldLose_55 rfl (mm_get_s mm_get_0) ?_
      refine ml_aload_n (pc := 56) dX12_wouldLose_56 rfl mm_get_0 ?_
      refine mb_gr (pc := 57) dX12_wouldLose_57 fl_X12_60 hr (fun c7 hr => ?_)
      refine ml_iload_n (pc := 60) dX12_wouldLose_60 rfl (mm_get_s (mm_get_s (mm_get_s mm_get_0))) ?_
      refine mb_cSi (pc := 61) (As := [.ref c7, .int r6.1]) (rest := [.int i1, .ref a0]) dX12_wouldLose_61 cw_X12_327  hr (fun v hv => X12_size_ok hz (by omega)  hv) rfl (Nat.le_of_ble_eq_true rfl) (Nat.zero_le _) (Nat.zero_le _) (fun r8 hr => ?_)
      refine mb_icmp_ge (pc := 64) 71 dX12_wouldLose_64 rfl hr (fun hr => ?_) (fun hr => ?_)
      · exact mg_weak (mm_le_s (mm_le_s (mm_le_s (mm_le_s (mm_le_n (mm_le_n (mm_le_n (mm_le_n mm_le_0)))))))) (X12_wouldLose_b71_ok hz hd h0 hr)
      · refine mg_iconst (pc := 67) dX12_wouldLose_67 kc_1 ?_
        refine mg_goto (pc := 68) 72 dX12_wouldLose_68 rfl ?_
        exact mg_weak (mm_le_s (mm_le_s (mm_le_s (mm_le_s (mm_le_n (mm_le_n (mm_le_n (mm_le_n mm_le_0)))))))) (X12_wouldLose_b72_ok hz hd h0 hr)
  · refine mg_iconst (pc := 29) dX12_wouldLose_29 kc_0 ?_
    exact mb_iret dX12_wouldLose_30 rfl hr
def X12_wouldLose (e : mm_E) (a0 : Nat) (i1 : Int32) (m : mm_V) : Option (Int32 × mm_V) := (mm_pf e.1 m 12 75 a0 0 (.int (0 : Int32))).bind fun m1 => (mm_gr e.1 m1 12 75 a0 39).bind fun c2 => (X12_isOver e a0 c2 m1).bind fun r3 => if ¬ r3.1 = 0 then (X12_wouldLose_b22 e a0 i1 a0 (0 : Int32) r3.2) else (X12_wouldLose_b22 e a0 i1 a0 (1 : Int32) r3.2)
theorem X12_wouldLose_ok {K : mm_K} {nx : Option Nat} {e : mm_E} (hz : e.2.1 = K.2.2.2.2) {d : Nat} (hd : 7 ≤ d) {a0 : Nat} {i1 : Int32} (h0 : e.1 a0 = some (12, 75)) {m : mm_V} {r : (Int32 × mm_V)} (hr : X12_wouldLose e a0 i1 m = some r) : mm_Cn K MX12_wouldLose d (mm_Fi e.1 nx r) [.ref a0, .int i1] (e.1, m) nx := by
  obtain ⟨d, rfl⟩ : ∃ d', d = d' + 1 := ⟨d - 1, by omega⟩
  refine mm_entry (by decide) (Nat.le_of_ble_eq_true rfl) rfl (fun hok => ?_)
  unfold X12_wouldLose at hr
  refine mg_weak (L' := [some (.ref a0), some (.int i1), none, none, none, none, none, none]) (mm_le_s (mm_le_s (mm_le_e (mm_le_e (mm_le_e (mm_le_e (mm_le_e (mm_le_e mm_le_0)))))))) ?_
  refine ml_aload_n (pc := 0) dX12_wouldLose_0 rfl mm_get_0 ?_
  refine mg_iconst (pc := 1) dX12_wouldLose_1 kc_0 ?_
  refine mb_pi (pc := 2) dX12_wouldLose_2 fp_X12_152 hr (fun m1 hr => ?_)
  refine ml_aload_n (pc := 5) dX12_wouldLose_5 rfl mm_get_0 ?_
  refine ml_aload_n (pc := 6) dX12_wouldLose_6 rfl mm_get_0 ?_
  refine ml_aload_n (pc := 7) dX12_wouldLose_7 rfl mm_get_0 ?_
  refine mb_gr (pc := 8) dX12_wouldLose_8 fl_X12_60 hr (fun c2 hr => ?_)
  refine mb_cVi (pc := 11) (As := [.ref c2]) (rest := [.ref a0]) dX12_wouldLose_11 cw_X12_338 h0 hr (fun v hv => X12_isOver_ok hz (by omega) h0 hv) rfl (Nat.le_of_ble_eq_true rfl) (Nat.zero_le _) (Nat.zero_le _) (fun r3 hr => ?_)
  refine mb_if_ne (pc := 14) 21 dX12_wouldLose_14 rfl hr (fun hr => ?_) (fun hr => ?_)
  · refine mg_iconst (pc := 21) dX12_wouldLose_21 kc_0 ?_
    exact mg_weak (mm_le_s (mm_le_s (mm_le_n (mm_le_n (mm_le_n (mm_le_n (mm_le_n (mm_le_n mm_le_0)))))))) (X12_wouldLose_b22_ok hz hd h0 hr)
  · refine mg_iconst (pc := 17) dX12_wouldLose_17 kc_1 ?_
    refine mg_goto (pc := 18) 22 dX12_wouldLose_18 rfl ?_
    exact mg_weak (mm_le_s (mm_le_s (mm_le_n (mm_le_n (mm_le_n (mm_le_n (mm_le_n (mm_le_n mm_le_0)))))))) (X12_wouldLose_b22_ok hz hd h0 hr)
