theorem tw_1922 : Cond.methodLink "SootQueenModel" 470 ⟨"SootQueenModel", "oftenAt", "(II)I"⟩ ∈ lw_tbl := List.mem_append_right _ (List.mem_of_getElem? (i := 1922) (by decide +kernel))
theorem tw_1925 : Cond.code ⟨"SootQueenModel", "oftenAt", "(II)I"⟩ prog_14_method_90_code 5 (some .int) ∈ lw_tbl := List.mem_append_right _ (List.mem_of_getElem? (i := 1925) (by decide +kernel))
theorem tw_1924 : Cond.instanceMethod ⟨"SootQueenModel", "oftenAt", "(II)I"⟩ ∈ lw_tbl := List.mem_append_right _ (List.mem_of_getElem? (i := 1924) (by decide +kernel))
theorem sw_102 : Cond.selects "SootQueenModel" ⟨"SootQueenModel", "oftenAt", "(II)I"⟩ ⟨"SootQueenModel", "oftenAt", "(II)I"⟩ ∈ lw_tbl := List.mem_append_left _ (List.mem_of_getElem? (i := 102) (by decide +kernel))
theorem cw_X12_470 : mm_CV RX12 470 MX12_oftenAt 12 2 := ⟨⟨Or.inl tw_1922, tw_1925, tw_14, ⟨by decide, by decide⟩, by decide +kernel, by decide⟩, tw_1924, by decide, (RX12, TX12, 75), rfl, sw_102⟩
theorem tw_1930 : Cond.constantLong "SootQueenModel" 473 (100) ∈ lw_tbl := List.mem_append_right _ (List.mem_of_getElem? (i := 1930) (by decide +kernel))
theorem tw_1947 : Cond.methodLink "SootQueenModel" 475 ⟨"SootQueenModel", "swaps", "(II)V"⟩ ∈ lw_tbl := List.mem_append_right _ (List.mem_of_getElem? (i := 1947) (by decide +kernel))
theorem tw_1950 : Cond.code ⟨"SootQueenModel", "swaps", "(II)V"⟩ prog_14_method_94_code 4 none ∈ lw_tbl := List.mem_append_right _ (List.mem_of_getElem? (i := 1950) (by decide +kernel))
theorem tw_1949 : Cond.instanceMethod ⟨"SootQueenModel", "swaps", "(II)V"⟩ ∈ lw_tbl := List.mem_append_right _ (List.mem_of_getElem? (i := 1949) (by decide +kernel))
theorem sw_106 : Cond.selects "SootQueenModel" ⟨"SootQueenModel", "swaps", "(II)V"⟩ ⟨"SootQueenModel", "swaps", "(II)V"⟩ ∈ lw_tbl := List.mem_append_left _ (List.mem_of_getElem? (i := 106) (by decide +kernel))
theorem cw_X12_475 : mm_CV RX12 475 MX12_swaps 12 2 := ⟨⟨Or.inl tw_1947, tw_1950, tw_14, ⟨by decide, by decide⟩, by decide +kernel, by decide⟩, tw_1949, by decide, (RX12, TX12, 75), rfl, sw_106⟩
theorem tw_1943 : Cond.methodLink "SootQueenModel" 484 ⟨"SootQueenModel", "countsUp", "()Z"⟩ ∈ lw_tbl := List.mem_append_right _ (List.mem_of_getElem? (i := 1943) (by decide +kernel))
theorem tw_1946 : Cond.code ⟨"SootQueenModel", "countsUp", "()Z"⟩ prog_14_method_93_code 5 (some .boolean) ∈ lw_tbl := List.mem_append_right _ (List.mem_of_getElem? (i := 1946) (by decide +kernel))
theorem tw_1945 : Cond.instanceMethod ⟨"SootQueenModel", "countsUp", "()Z"⟩ ∈ lw_tbl := List.mem_append_right _ (List.mem_of_getElem? (i := 1945) (by decide +kernel))
theorem sw_105 : Cond.selects "SootQueenModel" ⟨"SootQueenModel", "countsUp", "()Z"⟩ ⟨"SootQueenModel", "countsUp", "()Z"⟩ ∈ lw_tbl := List.mem_append_left _ (List.mem_of_getElem? (i := 105) (by decide +kernel))
theorem cw_X12_484 : mm_CV RX12 484 MX12_countsUp 12 0 := ⟨⟨Or.inl tw_1943, tw_1946, tw_14, ⟨by decide, by decide⟩, by decide +kernel, by decide⟩, tw_1945, by decide, (RX12, TX12, 75), rfl, sw_105⟩
theorem tw_1939 : Cond.methodLink "SootQueenModel" 481 ⟨"SootQueenModel", "figures", "()I"⟩ ∈ lw_tbl := List.mem_append_right _ (List.mem_of_getElem? (i := 1939) (by decide +kernel))
theorem tw_1942 : Cond.code ⟨"SootQueenModel", "figures", "()I"⟩ prog_14_method_96_code 3 (some .int) ∈ lw_tbl := List.mem_append_right _ (List.mem_of_getElem? (i := 1942) (by decide +kernel))
theorem tw_1941 : Cond.instanceMethod ⟨"SootQueenModel", "figures", "()I"⟩ ∈ lw_tbl := List.mem_append_right _ (List.mem_of_getElem? (i := 1941) (by decide +kernel))
theorem sw_104 : Cond.selects "SootQueenModel" ⟨"SootQueenModel", "figures", "()I"⟩ ⟨"SootQueenModel", "figures", "()I"⟩ ∈ lw_tbl := List.mem_append_left _ (List.mem_of_getElem? (i := 104) (by decide +kernel))
theorem cw_X12_481 : mm_CV RX12 481 MX12_figures 12 0 := ⟨⟨Or.inl tw_1939, tw_1942, tw_14, ⟨by decide, by decide⟩, by decide +kernel, by decide⟩, tw_1941, by decide, (RX12, TX12, 75), rfl, sw_104⟩
theorem tw_1470 : Cond.fieldLink "SootQueenModel" 124 "SootQueenModel" "seat" "[I" ∈ lw_tbl := List.mem_append_right _ (List.mem_of_getElem? (i := 1470) (by decide +kernel))
theorem fl_X12_124 : mm_FL RX12 124 12 68 75 := ⟨(RX12, TX12, 75), rfl, rfl, by decide, by decide, Or.inl tw_1470⟩
theorem tw_1935 : Cond.methodLink "SootQueenModel" 478 ⟨"SootQueenModel", "sitsAsEver", "()V"⟩ ∈ lw_tbl := List.mem_append_right _ (List.mem_of_getElem? (i := 1935) (by decide +kernel))
theorem tw_1938 : Cond.code ⟨"SootQueenModel", "sitsAsEver", "()V"⟩ prog_14_method_95_code 2 none ∈ lw_tbl := List.mem_append_right _ (List.mem_of_getElem? (i := 1938) (by decide +kernel))
theorem tw_1937 : Cond.instanceMethod ⟨"SootQueenModel", "sitsAsEver", "()V"⟩ ∈ lw_tbl := List.mem_append_right _ (List.mem_of_getElem? (i := 1937) (by decide +kernel))
theorem sw_103 : Cond.selects "SootQueenModel" ⟨"SootQueenModel", "sitsAsEver", "()V"⟩ ⟨"SootQueenModel", "sitsAsEver", "()V"⟩ ∈ lw_tbl := List.mem_append_left _ (List.mem_of_getElem? (i := 103) (by decide +kernel))
theorem cw_X12_478 : mm_CV RX12 478 MX12_sitsAsEver 12 0 := ⟨⟨Or.inl tw_1935, tw_1938, tw_14, ⟨by decide, by decide⟩, by decide +kernel, by decide⟩, tw_1937, by decide, (RX12, TX12, 75), rfl, sw_103⟩
theorem tw_1471 : Cond.fieldLink "SootQueenModel" 127 "SootQueenModel" "evening" "[I" ∈ lw_tbl := List.mem_append_right _ (List.mem_of_getElem? (i := 1471) (by decide +kernel))
theorem fl_X12_127 : mm_FL RX12 127 12 69 75 := ⟨(RX12, TX12, 75), rfl, rfl, by decide, by decide, Or.inl tw_1471⟩
theorem tw_1959 : Cond.methodLink "SootQueenModel" 487 ⟨"SootQueenModel", "aheadOf", "([II)I"⟩ ∈ lw_tbl := List.mem_append_right _ (List.mem_of_getElem? (i := 1959) (by decide +kernel))
theorem tw_1962 : Cond.code ⟨"SootQueenModel", "aheadOf", "([II)I"⟩ prog_14_method_40_code 5 (some .int) ∈ lw_tbl := List.mem_append_right _ (List.mem_of_getElem? (i := 1962) (by decide +kernel))
theorem tw_1961 : Cond.instanceMethod ⟨"SootQueenModel", "aheadOf", "([II)I"⟩ ∈ lw_tbl := List.mem_append_right _ (List.mem_of_getElem? (i := 1961) (by decide +kernel))
theorem sw_108 : Cond.selects "SootQueenModel" ⟨"SootQueenModel", "aheadOf", "([II)I"⟩ ⟨"SootQueenModel", "aheadOf", "([II)I"⟩ ∈ lw_tbl := List.mem_append_left _ (List.mem_of_getElem? (i := 108) (by decide +kernel))
theorem cw_X12_487 : mm_CV RX12 487 MX12_aheadOf 12 2 := ⟨⟨Or.inl tw_1959, tw_1962, tw_14, ⟨by decide, by decide⟩, by decide +kernel, by decide⟩, tw_1961, by decide, (RX12, TX12, 75), rfl, sw_108⟩
theorem tw_1472 : Cond.fieldLink "SootQueenModel" 130 "SootQueenModel" "losses" "[I" ∈ lw_tbl := List.mem_append_right _ (List.mem_of_getElem? (i := 1472) (by decide +kernel))
theorem fl_X12_130 : mm_FL RX12 130 12 70 75 := ⟨(RX12, TX12, 75), rfl, rfl, by decide, by decide, Or.inl tw_1472⟩
theorem tw_1955 : Cond.methodLink "SootQueenModel" 490 ⟨"SootQueenModel", "evens", "(IZ)I"⟩ ∈ lw_tbl := List.mem_append_right _ (List.mem_of_getElem? (i := 1955) (by decide +kernel))
theorem tw_1958 : Cond.code ⟨"SootQueenModel", "evens", "(IZ)I"⟩ prog_14_method_98_code 7 (some .int) ∈ lw_tbl := List.mem_append_right _ (List.mem_of_getElem? (i := 1958) (by decide +kernel))
theorem tw_1957 : Cond.instanceMethod ⟨"SootQueenModel", "evens", "(IZ)I"⟩ ∈ lw_tbl := List.mem_append_right _ (List.mem_of_getElem? (i := 1957) (by decide +kernel))
theorem sw_107 : Cond.selects "SootQueenModel" ⟨"SootQueenModel", "evens", "(IZ)I"⟩ ⟨"SootQueenModel", "evens", "(IZ)I"⟩ ∈ lw_tbl := List.mem_append_left _ (List.mem_of_getElem? (i := 107) (by decide +kernel))
theorem cw_X12_490 : mm_CV RX12 490 MX12_evens 12 2 := ⟨⟨Or.inl tw_1955, tw_1958, tw_14, ⟨by decide, by decide⟩, by decide +kernel, by decide⟩, tw_1957, by decide, (RX12, TX12, 75), rfl, sw_107⟩
theorem tw_1474 : Cond.fieldLink "SootQueenModel" 494 "SootQueenModel" "imageKept" "I" ∈ lw_tbl := List.mem_append_right _ (List.mem_of_getElem? (i := 1474) (by decide +kernel))
theorem fl_X12_494 : mm_FL RX12 494 12 72 75 := ⟨(RX12, TX12, 75), rfl, rfl, by decide, by decide, Or.inl tw_1474⟩
theorem fp_X12_494 : mm_FP RX12 494 12 72 75 .int := ⟨fl_X12_494, (RX12, TX12, 75), rfl, rfl, by decide +kernel⟩
theorem tw_1475 : Cond.fieldLink "SootQueenModel" 133 "SootQueenModel" "imageNow" "[I" ∈ lw_tbl := List.mem_append_right _ (List.mem_of_getElem? (i := 1475) (by decide +kernel))
theorem fl_X12_133 : mm_FL RX12 133 12 73 75 := ⟨(RX12, TX12, 75), rfl, rfl, by decide, by decide, Or.inl tw_1475⟩
theorem tw_1476 : Cond.fieldLink "SootQueenModel" 136 "SootQueenModel" "imageDraw" "[I" ∈ lw_tbl := List.mem_append_right _ (List.mem_of_getElem? (i := 1476) (by decide +kernel))
theorem fl_X12_136 : mm_FL RX12 136 12 74 75 := ⟨(RX12, TX12, 75), rfl, rfl, by decide, by decide, Or.inl tw_1476⟩
theorem dX12_peeped_0 : decode cX12_peeped 0 = .ok (.aload_n 0, 1) := by decide +kernel
theorem dX12_peeped_1 : decode cX12_peeped 1 = .ok (.iconst 0, 1) := by decide +kernel
theorem dX12_peeped_2 : decode cX12_peeped 2 = .ok (.putfield 152, 3) := by decide +kernel
theorem dX12_peeped_5 : decode cX12_peeped 5 = .ok (.aload_n 0, 1) := by decide +kernel
theorem dX12_peeped_6 : decode cX12_peeped 6 = .ok (.iload_n 1, 1) := by decide +kernel
theorem dX12_peeped_7 : decode cX12_peeped 7 = .ok (.invokevirtual 376, 3) := by decide +kernel
theorem dX12_peeped_10 : decode cX12_peeped 10 = .ok (.ifCond .eq 12, 3) := by decide +kernel
theorem dX12_peeped_13 : decode cX12_peeped 13 = .ok (.aload_n 0, 1) := by decide +kernel
theorem dX12_peeped_14 : decode cX12_peeped 14 = .ok (.iload_n 2, 1) := by decide +kernel
theorem dX12_peeped_15 : decode cX12_peeped 15 = .ok (.iconst 3, 1) := by decide +kernel
theorem dX12_peeped_16 : decode cX12_peeped 16 = .ok (.invokevirtual 393, 3) := by decide +kernel
theorem dX12_peeped_19 : decode cX12_peeped 19 = .ok (.ifCond .ne 5, 3) := by decide +kernel
theorem dX12_peeped_22 : decode cX12_peeped 22 = .ok (.lconst 0, 1) := by decide +kernel
theorem dX12_peeped_23 : decode cX12_peeped 23 = .ok (.lreturn, 1) := by decide +kernel
theorem dX12_peeped_24 : decode cX12_peeped 24 = .ok (.iconst 0, 1) := by decide +kernel
theorem dX12_peeped_25 : decode cX12_peeped 25 = .ok (.istore_n 3, 1) := by decide +kernel
theorem dX12_peeped_26 : decode cX12_peeped 26 = .ok (.iconst 0, 1) := by decide +kernel
theorem dX12_peeped_27 : decode cX12_peeped 27 = .ok (.istore 4, 2) := by decide +kernel
theorem dX12_peeped_29 : decode cX12_peeped 29 = .ok (.lconst 1, 1) := by decide +kernel
theorem dX12_peeped_30 : decode cX12_peeped 30 = .ok (.lstore 5, 2) := by decide +kernel
theorem dX12_peeped_32 : decode cX12_peeped 32 = .ok (.lconst 1, 1) := by decide +kernel
theorem dX12_peeped_33 : decode cX12_peeped 33 = .ok (.lstore 7, 2) := by decide +kernel
theorem dX12_peeped_35 : decode cX12_peeped 35 = .ok (.aload_n 0, 1) := by decide +kernel
theorem dX12_peeped_36 : decode cX12_peeped 36 = .ok (.getfield 365, 3) := by decide +kernel
theorem dX12_peeped_39 : decode cX12_peeped 39 = .ok (.iconst 1, 1) := by decide +kernel
theorem dX12_peeped_40 : decode cX12_peeped 40 = .ok (.isub, 1) := by decide +kernel
theorem dX12_peeped_41 : decode cX12_peeped 41 = .ok (.istore 9, 2) := by decide +kernel
theorem dX12_peeped_43 : decode cX12_peeped 43 = .ok (.iload 9, 2) := by decide +kernel
theorem dX12_peeped_45 : decode cX12_peeped 45 = .ok (.ifCond .lt 93, 3) := by decide +kernel
theorem dX12_peeped_48 : decode cX12_peeped 48 = .ok (.aload_n 0, 1) := by decide +kernel
theorem dX12_peeped_49 : decode cX12_peeped 49 = .ok (.iload 9, 2) := by decide +kernel
theorem dX12_peeped_51 : decode cX12_peeped 51 = .ok (.iconst 0, 1) := by decide +kernel
theorem dX12_peeped_52 : decode cX12_peeped 52 = .ok (.invokevirtual 419, 3) := by decide +kernel
theorem dX12_peeped_55 : decode cX12_peeped 55 = .ok (.iload_n 1, 1) := by decide +kernel
theorem dX12_peeped_56 : decode cX12_peeped 56 = .ok (.if_icmp .ne 76, 3) := by decide +kernel
theorem dX12_peeped_59 : decode cX12_peeped 59 = .ok (.aload_n 0, 1) := by decide +kernel
theorem dX12_peeped_60 : decode cX12_peeped 60 = .ok (.iload 9, 2) := by decide +kernel
theorem dX12_peeped_62 : decode cX12_peeped 62 = .ok (.bipush 8, 2) := by decide +kernel
theorem dX12_peeped_64 : decode cX12_peeped 64 = .ok (.invokevirtual 419, 3) := by decide +kernel
theorem dX12_peeped_67 : decode cX12_peeped 67 = .ok (.ifCond .ne 6, 3) := by decide +kernel
theorem dX12_peeped_70 : decode cX12_peeped 70 = .ok (.goto 62, 3) := by decide +kernel
theorem dX12_peeped_73 : decode cX12_peeped 73 = .ok (.iload_n 3, 1) := by decide +kernel
theorem dX12_peeped_74 : decode cX12_peeped 74 = .ok (.bipush 12, 2) := by decide +kernel
theorem dX12_peeped_76 : decode cX12_peeped 76 = .ok (.if_icmp .ge 33, 3) := by decide +kernel
theorem dX12_peeped_79 : decode cX12_peeped 79 = .ok (.lload 5, 2) := by decide +kernel
theorem dX12_peeped_81 : decode cX12_peeped 81 = .ok (.aload_n 0, 1) := by decide +kernel
theorem dX12_peeped_82 : decode cX12_peeped 82 = .ok (.iload 9, 2) := by decide +kernel
theorem dX12_peeped_84 : decode cX12_peeped 84 = .ok (.bipush 7, 2) := by decide +kernel
theorem dX12_peeped_86 : decode cX12_peeped 86 = .ok (.invokevirtual 419, 3) := by decide +kernel
theorem dX12_peeped_89 : decode cX12_peeped 89 = .ok (.iconst 1, 1) := by decide +kernel
theorem dX12_peeped_90 : decode cX12_peeped 90 = .ok (.isub, 1) := by decide +kernel
theorem dX12_peeped_91 : decode cX12_peeped 91 = .ok (.i2l, 1) := by decide +kernel
theorem dX12_peeped_92 : decode cX12_peeped 92 = .ok (.lmul, 1) := by decide +kernel
theorem dX12_peeped_93 : decode cX12_peeped 93 = .ok (.lstore 5, 2) := by decide +kernel
theorem dX12_peeped_95 : decode cX12_peeped 95 = .ok (.lload 7, 2) := by decide +kernel
theorem dX12_peeped_97 : decode cX12_peeped 97 = .ok (.aload_n 0, 1) := by decide +kernel
theorem dX12_peeped_98 : decode cX12_peeped 98 = .ok (.iload 9, 2) := by decide +kernel
theorem dX12_peeped_100 : decode cX12_peeped 100 = .ok (.bipush 7, 2) := by decide +kernel
theorem dX12_peeped_102 : decode cX12_peeped 102 = .ok (.invokevirtual 419, 3) := by decide +kernel
theorem dX12_peeped_105 : decode cX12_peeped 105 = .ok (.i2l, 1) := by decide +kernel
theorem dX12_peeped_106 : decode cX12_peeped 106 = .ok (.lmul, 1) := by decide +kernel
theorem dX12_peeped_107 : decode cX12_peeped 107 = .ok (.lstore 7, 2) := by decide +kernel
theorem dX12_peeped_109 : decode cX12_peeped 109 = .ok (.iinc 3 1, 3) := by decide +kernel
theorem dX12_peeped_112 : decode cX12_peeped 112 = .ok (.iload 4, 2) := by decide +kernel
theorem dX12_peeped_114 : decode cX12_peeped 114 = .ok (.aload_n 0, 1) := by decide +kernel
theorem dX12_peeped_115 : decode cX12_peeped 115 = .ok (.iload 9, 2) := by decide +kernel
theorem dX12_peeped_117 : decode cX12_peeped 117 = .ok (.iconst 3, 1) := by decide +kernel
theorem dX12_peeped_118 : decode cX12_peeped 118 = .ok (.invokevirtual 419, 3) := by decide +kernel
theorem dX12_peeped_121 : decode cX12_peeped 121 = .ok (.ifCond .ne 7, 3) := by decide +kernel
theorem dX12_peeped_124 : decode cX12_peeped 124 = .ok (.iconst 1, 1) := by decide +kernel
theorem dX12_peeped_125 : decode cX12_peeped 125 = .ok (.goto 4, 3) := by decide +kernel
theorem dX12_peeped_128 : decode cX12_peeped 128 = .ok (.iconst 0, 1) := by decide +kernel
theorem dX12_peeped_129 : decode cX12_peeped 129 = .ok (.iadd, 1) := by decide +kernel
theorem dX12_peeped_130 : decode cX12_peeped 130 = .ok (.istore 4, 2) := by decide +kernel
theorem dX12_peeped_132 : decode cX12_peeped 132 = .ok (.iinc 9 (-1), 3) := by decide +kernel
theorem dX12_peeped_135 : decode cX12_peeped 135 = .ok (.goto (-92), 3) := by decide +kernel
theorem dX12_peeped_138 : decode cX12_peeped 138 = .ok (.iload_n 2, 1) := by decide +kernel
theorem dX12_peeped_139 : decode cX12_peeped 139 = .ok (.iconst 2, 1) := by decide +kernel
theorem dX12_peeped_140 : decode cX12_peeped 140 = .ok (.if_icmp .ge 14, 3) := by decide +kernel
theorem dX12_peeped_143 : decode cX12_peeped 143 = .ok (.lload 5, 2) := by decide +kernel
theorem dX12_peeped_145 : decode cX12_peeped 145 = .ok (.lload 7, 2) := by decide +kernel
theorem dX12_peeped_147 : decode cX12_peeped 147 = .ok (.iload_n 2, 1) := by decide +kernel
theorem dX12_peeped_148 : decode cX12_peeped 148 = .ok (.invokestatic 445, 3) := by decide +kernel
theorem dX12_peeped_151 : decode cX12_peeped 151 = .ok (.goto 16, 3) := by decide +kernel
theorem dX12_peeped_154 : decode cX12_peeped 154 = .ok (.iload_n 2, 1) := by decide +kernel
theorem dX12_peeped_155 : decode cX12_peeped 155 = .ok (.iconst 2, 1) := by decide +kernel
theorem dX12_peeped_156 : decode cX12_peeped 156 = .ok (.if_icmp .ne 8, 3) := by decide +kernel
theorem dX12_peeped_159 : decode cX12_peeped 159 = .ok (.iload_n 3, 1) := by decide +kernel
theorem dX12_peeped_160 : decode cX12_peeped 160 = .ok (.i2l, 1) := by decide +kernel
theorem dX12_peeped_161 : decode cX12_peeped 161 = .ok (.goto 6, 3) := by decide +kernel
theorem dX12_peeped_164 : decode cX12_peeped 164 = .ok (.iload 4, 2) := by decide +kernel
theorem dX12_peeped_166 : decode cX12_peeped 166 = .ok (.i2l, 1) := by decide +kernel
theorem dX12_peeped_167 : decode cX12_peeped 167 = .ok (.lreturn, 1) := by decide +kernel
def X12_peeped_b167 (e : mm_E) (t0 : Int64) (m : mm_V) : Option (Int64 × mm_V) := some (t0, m)
theorem X12_peeped_b167_ok {K : mm_K} {nx : Option Nat} {e : mm_E} (hz : e.2.1 = K.2.2.2.2) {d : Nat} (hd : 2 ≤ d) {t0 : Int64} {a0 : Nat} (h0 : e.1 a0 = some (12, 75)) {m : mm_V} {r : (Int64 × mm_V)} (hr : X12_peeped_b167 e t0 m = some r) : mm_G K MX12_peeped d (mm_Fl e.1 nx r) 167 [none, none, none, none, none, none, none, none, none, none] [.long t0] (e.1, m) nx 0 0 := by
  obtain ⟨d, rfl⟩ : ∃ d', d = d' + 1 := ⟨d - 1, by omega⟩
  unfold X12_peeped_b167 at hr
  exact mb_lret dX12_peeped_167 rfl hr
def X12_peeped_b132 (e : mm_E) (k43 : Int32 → Int32 → Int64 → Int64 → Int32 → mm_V → Option (Int64 × mm_V)) (a0 : Nat) (i1 : Int32) (i2 : Int32) (i3 : Int32) (i4 : Int32) (j5 : Int64) (j7 : Int64) (i9 : Int32) (m : mm_V) : Option (Int64 × mm_V) := k43 i3 i4 j5 j7 (i9 + (-1)) m
theorem X12_peeped_b132_ok {K : mm_K} {nx : Option Nat} {e : mm_E} (hz : e.2.1 = K.2.2.2.2) {d : Nat} (hd : 2 ≤ d) {a0 : Nat} {i1 : Int32} {i2 : Int32} {i3 : Int32} {i4 : Int32} {j5 : Int64} {j7 : Int64} {i9 : Int32} (h0 : e.1 a0 = some (12, 75)) {k43 : Int32 → Int32 → Int64 → Int64 → Int32 → mm_V → Option (Int64 × mm_V)} (hk43 : ∀ (w3 : Int32) (w4 : Int32) (w5 : Int64) (w7 : Int64) (w9 : Int32) (m : mm_V) (r : (Int64 × mm_V)), k43 w3 w4 w5 w7 w9 m = some r → mm_G K MX12_peeped d (mm_Fl e.1 nx r) 43 [some (.ref a0), some (.int i1), some (.int i2), some (.int w3), some (.int w4), some (.long w5), none, some (.long w7), none, some (.int w9)] [] (e.1, m) nx 0 0) {m : mm_V} {r : (Int64 × mm_V)} (hr : X12_peeped_b132 e k43 a0 i1 i2 i3 i4 j5 j7 i9 m = some r) : mm_G K MX12_peeped d (mm_Fl e.1 nx r) 132 [some (.ref a0), some (.int i1), some (.int i2), some (.int i3), some (.int i4), some (.long j5), none, some (.long j7), none, some (.int i9)] [] (e.1, m) nx 0 0 := by
  obtain ⟨d, rfl⟩ : ∃ d', d = d' + 1 := ⟨d - 1, by omega⟩
  unfold X12_peeped_b132 at hr
  refine ml_iinc (pc := 132) dX12_peeped_132 (mm_get_s (mm_get_s (mm_get_s (mm_get_s (mm_get_s (mm_get_s (mm_get_s (mm_get_s (mm_get_s mm_get_0))))))))) (congrArg (fun z => i9 + z) kc_m1) (Nat.le_of_ble_eq_true rfl) (mm_st1_s (mm_st1_s (mm_st1_s (mm_st1_s (mm_st1_s (mm_st1_s (mm_st1_s (mm_st1_s mm_st1_n)))))))) ?_
  refine mg_goto (pc := 135) 43 dX12_peeped_135 rfl ?_
  exact mg_weak (mm_le_s (mm_le_s (mm_le_s (mm_le_s (mm_le_s (mm_le_s (mm_le_n (mm_le_s (mm_le_n (mm_le_s mm_le_0)))))))))) (hk43 _ _ _ _ _ _ _ hr)
def X12_peeped_b129 (e : mm_E) (k43 : Int32 → Int32 → Int64 → Int64 → Int32 → mm_V → Option (Int64 × mm_V)) (a0 : Nat) (i1 : Int32) (i2 : Int32) (i3 : Int32) (j5 : Int64) (j7 : Int64) (i9 : Int32) (t0 : Int32) (t1 : Int32) (m : mm_V) : Option (Int64 × mm_V) := X12_peeped_b132 e k43 a0 i1 i2 i3 (t0 + t1) j5 j7 i9  m
theorem X12_peeped_b129_ok {K : mm_K} {nx : Option Nat} {e : mm_E} (hz : e.2.1 = K.2.2.2.2) {d : Nat} (hd : 2 ≤ d) {a0 : Nat} {i1 : Int32} {i2 : Int32} {i3 : Int32} {j5 : Int64} {j7 : Int64} {i9 : Int32} {t0 : Int32} {t1 : Int32} (h0 : e.1 a0 = some (12, 75)) {k43 : Int32 → Int32 → Int64 → Int64 → Int32 → mm_V → Option (Int64 × mm_V)} (hk43 : ∀ (w3 : Int32) (w4 : Int32) (w5 : Int64) (w7 : Int64) (w9 : Int32) (m : mm_V) (r : (Int64 × mm_V)), k43 w3 w4 w5 w7 w9 m = some r → mm_G K MX12_peeped d (mm_Fl e.1 nx r) 43 [some (.ref a0), some (.int i1), some (.int i2), some (.int w3), some (.int w4), some (.long w5), none, some (.long w7), none, some (.int w9)] [] (e.1, m) nx 0 0) {m : mm_V} {r : (Int64 × mm_V)} (hr : X12_peeped_b129 e k43 a0 i1 i2 i3 j5 j7 i9 t0 t1 m = some r) : mm_G K MX12_peeped d (mm_Fl e.1 nx r) 129 [some (.ref a0), some (.int i1), some (.int i2), some (.int i3), none, some (.long j5), none, some (.long j7), none, some (.int i9)] [.int t1, .int t0] (e.1, m) nx 0 0 := by
  obtain ⟨d, rfl⟩ : ∃ d', d = d' + 1 := ⟨d - 1, by omega⟩
  unfold X12_peeped_b129 at hr
  refine mg_iadd (pc := 129) dX12_peeped_129 ?_
  refine ml_istore (pc := 130) dX12_peeped_130 (Nat.le_of_ble_eq_true rfl) (mm_st1_s (mm_st1_s (mm_st1_s mm_st1_i))) ?_
  exact mg_weak (mm_le_s (mm_le_s (mm_le_s (mm_le_s (mm_le_s (mm_le_s (mm_le_n (mm_le_s (mm_le_n (mm_le_s mm_le_0)))))))))) (X12_peeped_b132_ok hz hd h0 hk43 hr)
def X12_peeped_b109 (e : mm_E) (k43 : Int32 → Int32 → Int64 → Int64 → Int32 → mm_V → Option (Int64 × mm_V)) (a0 : Nat) (i1 : Int32) (i2 : Int32) (i3 : Int32) (i4 : Int32) (j5 : Int64) (j7 : Int64) (i9 : Int32) (m : mm_V) : Option (Int64 × mm_V) := (X12_did e a0 i9 (3 : Int32) m).bind fun r1 => if ¬ r1.1 = 0 then (X12_peeped_b129 e k43 a0 i1 i2 (i3 + 1) j5 j7 i9 i4 (0 : Int32) r1.2) else (X12_peeped_b129 e k43 a0 i1 i2 (i3 + 1) j5 j7 i9 i4 (1 : Int32) r1.2)
theorem X12_peeped_b109_ok {K : mm_K} {nx : Option Nat} {e : mm_E} (hz : e.2.1 = K.2.2.2.2) {d : Nat} (hd : 2 ≤ d) {a0 : Nat} {i1 : Int32} {i2 : Int32} {i3 : Int32} {i4 : Int32} {j5 : Int64} {j7 : Int64} {i9 : Int32} (h0 : e.1 a0 = some (12, 75)) {k43 : Int32 → Int32 → Int64 → Int64 → Int32 → mm_V → Option (Int64 × mm_V)} (hk43 : ∀ (w3 : Int32) (w4 : Int32) (w5 : Int64) (w7 : Int64) (w9 : Int32) (m : mm_V) (r : (Int64 × mm_V)), k43 w3 w4 w5 w7 w9 m = some r → mm_G K MX12_peeped d (mm_Fl e.1 nx r) 43 [some (.ref a0), some (.int i1), some (.int i2), some (.int w3), some (.int w4), some (.long w5), none, some (.long w7), none, some (.int w9)] [] (e.1, m) nx 0 0) {m : mm_V} {r : (Int64 × mm_V)} (hr : X12_peeped_b109 e k43 a0 i1 i2 i3 i4 j5 j7 i9 m = some r) : mm_G K MX12_peeped d (mm_Fl e.1 nx r) 109 [some (.ref a0), some (.int i1), some (.int i2), some (.int i3), some (.int i4), some (.long j5), none, some (.long j7), none, some (.int i9)] [] (e.1, m) nx 0 0 := by
  obtain ⟨d, rfl⟩ : ∃ d', d = d' + 1 := ⟨d - 1, by omega⟩
  unfold X12_peeped_b109 at hr
  refine ml_iinc (pc := 109) dX12_peeped_109 (mm_get_s (mm_get_s (mm_get_s mm_get_0))) (congrArg (fun z => i3 + z) kc_1) (Nat.le_of_ble_eq_true rfl) (mm_st1_s (mm_st1_s mm_st1_i)) ?_
  refine ml_iload (pc := 112) dX12_peeped_112 (mm_get_s (mm_get_s (mm_get_s (mm_get_s mm_get_0)))) ?_
  refine ml_aload_n (pc := 114) dX12_peeped_114 rfl mm_get_0 ?_
  refine ml_iload (pc := 115) dX12_peeped_115 (mm_get_s (mm_get_s (mm_get_s (mm_get_s (mm_get_s (mm_get_s (mm_get_s (mm_get_s (mm_get_s mm_get_0))))))))) ?_
  refine mg_iconst (pc := 117) dX12_peeped_117 kc_3 ?_
  refine mb_cVi (pc := 118) (As := [.int i9, .int (3 : Int32)]) (rest := [.int i4]) dX12_peeped_118 cw_X12_419 h0 hr (fun v hv => X12_did_ok hz (by omega) h0 hv) rfl (Nat.le_of_ble_eq_true rfl) (Nat.zero_le _) (Nat.zero_le _) (fun r1 hr => ?_)
  refine mb_if_ne (pc := 121) 128 dX12_peeped_121 rfl hr (fun hr => ?_) (fun hr => ?_)
  · refine mg_iconst (pc := 128) dX12_peeped_128 kc_0 ?_
    exact mg_weak (mm_le_s (mm_le_s (mm_le_s (mm_le_s (mm_le_n (mm_le_s (mm_le_n (mm_le_s (mm_le_n (mm_le_s mm_le_0)))))))))) (X12_peeped_b129_ok hz hd h0 hk43 hr)
  · refine mg_iconst (pc := 124) dX12_peeped_124 kc_1 ?_
    refine mg_goto (pc := 125) 129 dX12_peeped_125 rfl ?_
    exact mg_weak (mm_le_s (mm_le_s (mm_le_s (mm_le_s (mm_le_n (mm_le_s (mm_le_n (mm_le_s (mm_le_n (mm_le_s mm_le_0)))))))))) (X12_peeped_b129_ok hz hd h0 hk43 hr)
def X12_peeped_L43 (e : mm_E) (a0 : Nat) (i1 : Int32) (i2 : Int32) : Nat → Int32 → Int32 → Int64 → Int64 → Int32 → mm_V → Option (Int64 × mm_V)
  | 0, _, _, _, _, _, _ => none
  | n + 1, i3, i4, j5, j7, i9, m => if i9 < 0 then (if (2 : Int32) ≤ i2 then (if ¬ i2 = (2 : Int32) then (X12_peeped_b167 e  i4.toInt64 m) else (X12_peeped_b167 e  i3.toInt64 m)) else ((X12_portion e j5 j7 i2 m).bind fun r1 => X12_peeped_b167 e  r1.1 r1.2)) else ((X12_did e a0 i9 (0 : Int32) m).bind fun r2 => if ¬ r2.1 = i1 then (X12_peeped_b132 e (X12_peeped_L43 e a0 i1 i2 n) a0 i1 i2 i3 i4 j5 j7 i9  r2.2) else ((X12_did e a0 i9 (8 : Int32) r2.2).bind fun r3 => if ¬ r3.1 = 0 then (if (12 : Int32) ≤ i3 then (X12_peeped_b109 e (X12_peeped_L43 e a0 i1 i2 n) a0 i1 i2 i3 i4 j5 j7 i9  r3.2) else ((X12_did e a0 i9 (7 : Int32) r3.2).bind fun r4 => (X12_did e a0 i9 (7 : Int32) r4.2).bind fun r5 => X12_peeped_b109 e (X12_peeped_L43 e a0 i1 i2 n) a0 i1 i2 i3 i4 (j5 * (r4.1 - (1 : Int32)).toInt64) (j7 * r5.1.toInt64) i9  r5.2)) else (X12_peeped_b132 e (X12_peeped_L43 e a0 i1 i2 n) a0 i1 i2 i3 i4 j5 j7 i9  r3.2)))
theorem X12_peeped_L43_ok {K : mm_K} {nx : Option Nat} {e : mm_E} (hz : e.2.1 = K.2.2.2.2) {d : Nat} (hd : 2 ≤ d) {a0 : Nat} {i1 : Int32} {i2 : Int32} (h0 : e.1 a0 = some (12, 75)) : ∀ (n : Nat) (i3 : Int32) (i4 : Int32) (j5 : Int64) (j7 : Int64) (i9 : Int32) (m : mm_V) (r : (Int64 × mm_V)), X12_peeped_L43 e a0 i1 i2 n i3 i4 j5 j7 i9 m = some r → mm_G K MX12_peeped d (mm_Fl e.1 nx r) 43 [some (.ref a0), some (.int i1), some (.int i2), some (.int i3), some (.int i4), some (.long j5), none, some (.long j7), none, some (.int i9)] [] (e.1, m) nx 0 0 := by
  obtain ⟨d, rfl⟩ : ∃ d', d = d' + 1 := ⟨d - 1, by omega⟩
  intro n
  induction n with
  | zero => intro i3 i4 j5 j7 i9 m r hr; unfold X12_peeped_L43 at hr; cases hr
  | succ n ih =>
    intro i3 i4 j5 j7 i9 m r hr
    unfold X12_peeped_L43 at hr
    refine ml_iload (pc := 43) dX12_peeped_43 (mm_get_s (mm_get_s (mm_get_s (mm_get_s (mm_get_s (mm_get_s (mm_get_s (mm_get_s (mm_get_s mm_get_0))))))))) ?_
    refine mb_if_lt (pc := 45) 138 dX12_peeped_45 rfl hr (fun hr => ?_) (fun hr => ?_)
    · refine ml_iload_n (pc := 138) dX12_peeped_138 rfl (mm_get_s (mm_get_s mm_get_0)) ?_
      refine mg_iconst (pc := 139) dX12_peeped_139 kc_2 ?_
      refine mb_icmp_ge (pc := 140) 154 dX12_peeped_140 rfl hr (fun hr => ?_) (fun hr => ?_)
      · refine ml_iload_n (pc := 154) dX12_peeped_154 rfl (mm_get_s (mm_get_s mm_get_0)) ?_
        refine mg_iconst (pc := 155) dX12_peeped_155 kc_2 ?_
        refine mb_icmp_ne (pc := 156) 164 dX12_peeped_156 rfl hr (fun hr => ?_) (fun hr => ?_)
        · refine ml_iload (pc := 164) dX12_peeped_164 (mm_get_s (mm_get_s (mm_get_s (mm_get_s mm_get_0)))) ?_
          refine mg_i2l (pc := 166) dX12_peeped_166 ?_
          exact mg_weak (mm_le_n (mm_le_n (mm_le_n (mm_le_n (mm_le_n (mm_le_n (mm_le_n (mm_le_n (mm_le_n (mm_le_n mm_le_0)))))))))) (X12_peeped_b167_ok hz hd h0 hr)
        · refine ml_iload_n (pc := 159) dX12_peeped_159 rfl (mm_get_s (mm_get_s (mm_get_s mm_get_0))) ?_
          refine mg_i2l (pc := 160) dX12_peeped_160 ?_
          refine mg_goto (pc := 161) 167 dX12_peeped_161 rfl ?_
          exact mg_weak (mm_le_n (mm_le_n (mm_le_n (mm_le_n (mm_le_n (mm_le_n (mm_le_n (mm_le_n (mm_le_n (mm_le_n mm_le_0)))))))))) (X12_peeped_b167_ok hz hd h0 hr)
      · refine ml_lload (pc := 143) dX12_peeped_143 (mm_get_s (mm_get_s (mm_get_s (mm_get_s (mm_get_s mm_get_0))))) ?_
        refine ml_lload (pc := 145) dX12_peeped_145 (mm_get_s (mm_get_s (mm_get_s (mm_get_s (mm_get_s (mm_get_s (mm_get_s mm_get_0))))))) ?_
        refine ml_iload_n (pc := 147) dX12_peeped_147 rfl (mm_get_s (mm_get_s mm_get_0)) ?_
        refine mb_cSl (pc := 148) (As := [.long j5, .long j7, .int i2]) (rest := []) dX12_peeped_148 cw_X12_445  hr (fun v hv => X12_portion_ok hz (by omega)  hv) rfl (Nat.le_of_ble_eq_true rfl) (Nat.zero_le _) (Nat.zero_le _) (fun r1 hr => ?_)
        refine mg_goto (pc := 151) 167 dX12_peeped_151 rfl ?_
        exact mg_weak (mm_le_n (mm_le_n (mm_le_n (mm_le_n (mm_le_n (mm_le_n (mm_le_n (mm_le_n (mm_le_n (mm_le_n mm_le_0)))))))))) (X12_peeped_b167_ok hz hd h0 hr)
    · refine ml_aload_n (pc := 48) dX12_peeped_48 rfl mm_get_0 ?_
      refine ml_iload (pc := 49) dX12_peeped_49 (mm_get_s (mm_get_s (mm_get_s (mm_get_s (mm_get_s (mm_get_s (mm_get_s (mm_get_s (mm_get_s mm_get_0))))))))) ?_
      refine mg_iconst (pc := 51) dX12_peeped_51 kc_0 ?_
      refine mb_cVi (pc := 52) (As := [.int i9, .int (0 : Int32)]) (rest := []) dX12_peeped_52 cw_X12_419 h0 hr (fun v hv => X12_did_ok hz (by omega) h0 hv) rfl (Nat.le_of_ble_eq_true rfl) (Nat.zero_le _) (Nat.zero_le _) (fun r2 hr => ?_)
      refine ml_iload_n (pc := 55) dX12_peeped_55 rfl (mm_get_s mm_get_0) ?_
      refine mb_icmp_ne (pc := 56) 132 dX12_peeped_56 rfl hr (fun hr => ?_) (fun hr => ?_)
      · exact mg_weak (mm_le_s (mm_le_s (mm_le_s (mm_le_s (mm_le_s (mm_le_s (mm_le_n (mm_le_s (mm_le_n (mm_le_s mm_le_0)))))))))) (X12_peeped_b132_ok hz hd h0 ih hr)
      · refine ml_aload_n (pc := 59) dX12_peeped_59 rfl mm_get_0 ?_
        refine ml_iload (pc := 60) dX12_peeped_60 (mm_get_s (mm_get_s (mm_get_s (mm_get_s (mm_get_s (mm_get_s (mm_get_s (mm_get_s (mm_get_s mm_get_0))))))))) ?_
        refine mg_bipush (pc := 62) dX12_peeped_62 kb_8 ?_
        refine mb_cVi (pc := 64) (As := [.int i9, .int (8 : Int32)]) (rest := []) dX12_peeped_64 cw_X12_419 h0 hr (fun v hv => X12_did_ok hz (by omega) h0 hv) rfl (Nat.le_of_ble_eq_true rfl) (Nat.zero_le _) (Nat.zero_le _) (fun r3 hr => ?_)
        refine mb_if_ne (pc := 67) 73 dX12_peeped_67 rfl hr (fun hr => ?_) (fun hr => ?_)
        · refine ml_iload_n (pc := 73) dX12_peeped_73 rfl (mm_get_s (mm_get_s (mm_get_s mm_get_0))) ?_
          refine mg_bipush (pc := 74) dX12_peeped_74 kb_12 ?_
          refine mb_icmp_ge (pc := 76) 109 dX12_peeped_76 rfl hr (fun hr => ?_) (fun hr => ?_)
          · exact mg_weak (mm_le_s (mm_le_s (mm_le_s (mm_le_s (mm_le_s (mm_le_s (mm_le_n (mm_le_s (mm_le_n (mm_le_s mm_le_0)))))))))) (X12_peeped_b109_ok hz hd h0 ih hr)
          · refine ml_lload (pc := 79) dX12_peeped_79 (mm_get_s (mm_get_s (mm_get_s (mm_get_s (mm_get_s mm_get_0))))) ?_
            refine ml_aload_n (pc := 81) dX12_peeped_81 rfl mm_get_0 ?_
            refine ml_iload (pc := 82) dX12_peeped_82 (mm_get_s (mm_get_s (mm_get_s (mm_get_s (mm_get_s (mm_get_s (mm_get_s (mm_get_s (mm_get_s mm_get_0))))))))) ?_
            refine mg_bipush (pc := 84) dX12_peeped_84 kb_7 ?_
            refine mb_cVi (pc := 86) (As := [.int i9, .int (7 : Int32)]) (rest := [.long j5]) dX12_peeped_86 cw_X12_419 h0 hr (fun v hv => X12_did_ok hz (by omega) h0 hv) rfl (Nat.le_of_ble_eq_true rfl) (Nat.zero_le _) (Nat.zero_le _) (fun r4 hr => ?_)
            refine mg_iconst (pc := 89) dX12_peeped_89 kc_1 ?_
            refine mg_isub (pc := 90) dX12_peeped_90 ?_
            refine mg_i2l (pc := 91) dX12_peeped_91 ?_
            refine mg_lmul (pc := 92) dX12_peeped_92 ?_
            refine ml_lstore (pc := 93) dX12_peeped_93 (Nat.le_of_ble_eq_true rfl) (mm_st2_s (mm_st2_s (mm_st2_s (mm_st2_s mm_st2_i)))) ?_
            refine ml_lload (pc := 95) dX12_peeped_95 (mm_get_s (mm_get_s (mm_get_s (mm_get_s (mm_get_s (mm_get_s (mm_get_s mm_get_0))))))) ?_
            refine ml_aload_n (pc := 97) dX12_peeped_97 rfl mm_get_0 ?_
            refine ml_iload (pc := 98) dX12_peeped_98 (mm_get_s (mm_get_s (mm_get_s (mm_get_s (mm_get_s (mm_get_s (mm_get_s (mm_get_s (mm_get_s mm_get_0))))))))) ?_
            refine mg_bipush (pc := 100) dX12_peeped_100 kb_7 ?_
            refine mb_cVi (pc := 102) (As := [.int i9, .int (7 : Int32)]) (rest := [.long j7]) dX12_peeped_102 cw_X12_419 h0 hr (fun v hv => X12_did_ok hz (by omega) h0 hv) rfl (Nat.le_of_ble_eq_true rfl) (Nat.zero_le _) (Nat.zero_le _) (fun r5 hr => ?_)
            refine mg_i2l (pc := 105) dX12_peeped_105 ?_
            refine mg_lmul (pc := 106) dX12_peeped_106 ?_
            refine ml_lstore (pc := 107) dX12_peeped_107 (Nat.le_of_ble_eq_true rfl) (mm_st2_s (mm_st2_s (mm_st2_s (mm_st2_s (mm_st2_s (mm_st2_s mm_st2_n)))))) ?_
            exact mg_weak (mm_le_s (mm_le_s (mm_le_s (mm_le_s (mm_le_s (mm_le_s (mm_le_n (mm_le_s (mm_le_n (mm_le_s mm_le_0)))))))))) (X12_peeped_b109_ok hz hd h0 ih hr)
        · refine mg_goto (pc := 70) 132 dX12_peeped_70 rfl ?_
          exact mg_weak (mm_le_s (mm_le_s (mm_le_s (mm_le_s (mm_le_s (mm_le_s (mm_le_n (mm_le_s (mm_le_n (mm_le_s mm_le_0)))))))))) (X12_peeped_b132_ok hz hd h0 ih hr)
def X12_peeped_b22 (e : mm_E) (m : mm_V) : Option (Int64 × mm_V) := some ((0 : Int64), m)
theorem X12_peeped_b22_ok {K : mm_K} {nx : Option Nat} {e : mm_E} (hz : e.2.1 = K.2.2.2.2) {d : Nat} (hd : 2 ≤ d) {a0 : Nat} (h0 : e.1 a0 = some (12, 75)) {m : mm_V} {r : (Int64 × mm_V)} (hr : X12_peeped_b22 e m = some r) : mm_G K MX12_peeped d (mm_Fl e.1 nx r) 22 [none, none, none, none, none, none, none, none, none, none] [] (e.1, m) nx 0 0 := by
  obtain ⟨d, rfl⟩ : ∃ d', d = d' + 1 := ⟨d - 1, by omega⟩
  unfold X12_peeped_b22 at hr
  refine mg_lconst (pc := 22) dX12_peeped_22 (v := (0 : Int64)) (by decide) ?_
  exact mb_lret dX12_peeped_23 rfl hr
def X12_peeped (e : mm_E) (a0 : Nat) (i1 : Int32) (i2 : Int32) (m : mm_V) : Option (Int64 × mm_V) := (mm_pf e.1 m 12 75 a0 0 (.int (0 : Int32))).bind fun m1 => (X12_isPerson e a0 i1 m1).bind fun r2 => if r2.1 = 0 then (X12_peeped_b22 e   r2.2) else ((X12_isWhat e a0 i2 (3 : Int32) r2.2).bind fun r3 => if ¬ r3.1 = 0 then ((mm_gi e.1 r3.2 12 75 a0 48).bind fun x4 => X12_peeped_L43 e a0 i1 i2 e.2.2 (0 : Int32) (0 : Int32) (1 : Int64) (1 : Int64) (x4 - (1 : Int32)) r3.2) else (X12_peeped_b22 e   r3.2))
theorem X12_peeped_ok {K : mm_K} {nx : Option Nat} {e : mm_E} (hz : e.2.1 = K.2.2.2.2) {d : Nat} (hd : 2 ≤ d) {a0 : Nat} {i1 : Int32} {i2 : Int32} (h0 : e.1 a0 = some (12, 75)) {m : mm_V} {r : (Int64 × mm_V)} (hr : X12_peeped e a0 i1 i2 m = some r) : mm_Cn K MX12_peeped d (mm_Fl e.1 nx r) [.ref a0, .int i1, .int i2] (e.1, m) nx := by
  obtain ⟨d, rfl⟩ : ∃ d', d = d' + 1 := ⟨d - 1, by omega⟩
  refine mm_entry (by decide) (Nat.le_of_ble_eq_true rfl) rfl (fun hok => ?_)
  unfold X12_peeped at hr
  refine mg_weak (L' := [some (.ref a0), some (.int i1), some (.int i2), none, none, none, none, none, none, none]) (mm_le_s (mm_le_s (mm_le_s (mm_le_e (mm_le_e (mm_le_e (mm_le_e (mm_le_e (mm_le_e (mm_le_e mm_le_0)))))))))) ?_
  refine ml_aload_n (pc := 0) dX12_peeped_0 rfl mm_get_0 ?_
  refine mg_iconst (pc := 1) dX12_peeped_1 kc_0 ?_
  refine mb_pi (pc := 2) dX12_peeped_2 fp_X12_152 hr (fun m1 hr => ?_)
  refine ml_aload_n (pc := 5) dX12_peeped_5 rfl mm_get_0 ?_
  refine ml_iload_n (pc := 6) dX12_peeped_6 rfl (mm_get_s mm_get_0) ?_
  refine mb_cVi (pc := 7) (As := [.int i1]) (rest := []) dX12_peeped_7 cw_X12_376 h0 hr (fun v hv => X12_isPerson_ok hz (by omega) h0 hv) rfl (Nat.le_of_ble_eq_true rfl) (Nat.zero_le _) (Nat.zero_le _) (fun r2 hr => ?_)
  refine mb_if_eq (pc := 10) 22 dX12_peeped_10 rfl hr (fun hr => ?_) (fun hr => ?_)
  · exact mg_weak (mm_le_n (mm_le_n (mm_le_n (mm_le_n (mm_le_n (mm_le_n (mm_le_n (mm_le_n (mm_le_n (mm_le_n mm_le_0)))))))))) (X12_peeped_b22_ok hz hd h0 hr)
  · refine ml_aload_n (pc := 13) dX12_peeped_13 rfl mm_get_0 ?_
    refine ml_iload_n (pc := 14) dX12_peeped_14 rfl (mm_get_s (mm_get_s mm_get_0)) ?_
    refine mg_iconst (pc := 15) dX12_peeped_15 kc_3 ?_
    refine mb_cVi (pc := 16) (As := [.int i2, .int (3 : Int32)]) (rest := []) dX12_peeped_16 cw_X12_393 h0 hr (fun v hv => X12_isWhat_ok hz (by omega) h0 hv) rfl (Nat.le_of_ble_eq_true rfl) (Nat.zero_le _) (Nat.zero_le _) (fun r3 hr => ?_)
    refine mb_if_ne (pc := 19) 24 dX12_peeped_19 rfl hr (fun hr => ?_) (fun hr => ?_)
    · refine mg_iconst (pc := 24) dX12_peeped_24 kc_0 ?_
      refine ml_istore_n (pc := 25) dX12_peeped_25 rfl (Nat.le_of_ble_eq_true rfl) (mm_st1_s (mm_st1_s mm_st1_i)) ?_
      refine mg_iconst (pc := 26) dX12_peeped_26 kc_0 ?_
      refine ml_istore (pc := 27) dX12_peeped_27 (Nat.le_of_ble_eq_true rfl) (mm_st1_s (mm_st1_s (mm_st1_s mm_st1_i))) ?_
      refine mg_lconst (pc := 29) dX12_peeped_29 (v := (1 : Int64)) (by decide) ?_
      refine ml_lstore (pc := 30) dX12_peeped_30 (Nat.le_of_ble_eq_true rfl) (mm_st2_s (mm_st2_s (mm_st2_s (mm_st2_s mm_st2_i)))) ?_
      refine mg_lconst (pc := 32) dX12_peeped_32 (v := (1 : Int64)) (by decide) ?_
      refine ml_lstore (pc := 33) dX12_peeped_33 (Nat.le_of_ble_eq_true rfl) (mm_st2_s (mm_st2_s (mm_st2_s (mm_st2_s (mm_st2_s (mm_st2_s mm_st2_n)))))) ?_
      refine ml_aload_n (pc := 35) dX12_peeped_35 rfl mm_get_0 ?_
      refine mb_gi (pc := 36) dX12_peeped_36 fl_X12_365 hr (fun x4 hr => ?_)
      refine mg_iconst (pc := 39) dX12_peeped_39 kc_1 ?_
      refine mg_isub (pc := 40) dX12_peeped_40 ?_
      refine ml_istore (pc := 41) dX12_peeped_41 (Nat.le_of_ble_eq_true rfl) (mm_st1_s (mm_st1_s (mm_st1_s (mm_st1_s (mm_st1_s (mm_st1_s (mm_st1_s (mm_st1_s mm_st1_n)))))))) ?_
      exact mg_weak (mm_le_s (mm_le_s (mm_le_s (mm_le_s (mm_le_s (mm_le_s (mm_le_n (mm_le_s (mm_le_n (mm_le_s mm_le_0)))))))))) (X12_peeped_L43_ok hz hd h0 _ _ _ _ _ _ _ _ hr)
    · exact mg_weak (mm_le_n (mm_le_n (mm_le_n (mm_le_n (mm_le_n (mm_le_n (mm_le_n (mm_le_n (mm_le_n (mm_le_n mm_le_0)))))))))) (X12_peeped_b22_ok hz hd h0 hr)
theorem dX12_hold_0 : decode cX12_hold 0 = .ok (.aload_n 0, 1) := by decide +kernel
theorem dX12_hold_1 : decode cX12_hold 1 = .ok (.iconst 0, 1) := by decide +kernel
theorem dX12_hold_2 : decode cX12_hold 2 = .ok (.putfield 152, 3) := by decide +kernel
theorem dX12_hold_5 : decode cX12_hold 5 = .ok (.aload_n 0, 1) := by decide +kernel
theorem dX12_hold_6 : decode cX12_hold 6 = .ok (.iload_n 1, 1) := by decide +kernel
theorem dX12_hold_7 : decode cX12_hold 7 = .ok (.invokevirtual 376, 3) := by decide +kernel
theorem dX12_hold_10 : decode cX12_hold 10 = .ok (.ifCond .eq 27, 3) := by decide +kernel
theorem dX12_hold_13 : decode cX12_hold 13 = .ok (.aload_n 0, 1) := by decide +kernel
theorem dX12_hold_14 : decode cX12_hold 14 = .ok (.iload_n 3, 1) := by decide +kernel
theorem dX12_hold_15 : decode cX12_hold 15 = .ok (.iconst 2, 1) := by decide +kernel
theorem dX12_hold_16 : decode cX12_hold 16 = .ok (.invokevirtual 393, 3) := by decide +kernel
theorem dX12_hold_19 : decode cX12_hold 19 = .ok (.ifCond .eq 18, 3) := by decide +kernel
theorem dX12_hold_22 : decode cX12_hold 22 = .ok (.aload_n 0, 1) := by decide +kernel
theorem dX12_hold_23 : decode cX12_hold 23 = .ok (.iload_n 2, 1) := by decide +kernel
theorem dX12_hold_24 : decode cX12_hold 24 = .ok (.iconst 1, 1) := by decide +kernel
theorem dX12_hold_25 : decode cX12_hold 25 = .ok (.bipush 6, 2) := by decide +kernel
theorem dX12_hold_27 : decode cX12_hold 27 = .ok (.invokestatic 368, 3) := by decide +kernel
theorem dX12_hold_30 : decode cX12_hold 30 = .ok (.iconst 2, 1) := by decide +kernel
theorem dX12_hold_31 : decode cX12_hold 31 = .ok (.invokevirtual 306, 3) := by decide +kernel
theorem dX12_hold_34 : decode cX12_hold 34 = .ok (.ifCond .ne 5, 3) := by decide +kernel
theorem dX12_hold_37 : decode cX12_hold 37 = .ok (.iconst 0, 1) := by decide +kernel
theorem dX12_hold_38 : decode cX12_hold 38 = .ok (.ireturn, 1) := by decide +kernel
theorem dX12_hold_39 : decode cX12_hold 39 = .ok (.iconst 0, 1) := by decide +kernel
theorem dX12_hold_40 : decode cX12_hold 40 = .ok (.istore 4, 2) := by decide +kernel
theorem dX12_hold_42 : decode cX12_hold 42 = .ok (.iconst 0, 1) := by decide +kernel
theorem dX12_hold_43 : decode cX12_hold 43 = .ok (.istore 5, 2) := by decide +kernel
theorem dX12_hold_45 : decode cX12_hold 45 = .ok (.iconst 0, 1) := by decide +kernel
theorem dX12_hold_46 : decode cX12_hold 46 = .ok (.istore 6, 2) := by decide +kernel
theorem dX12_hold_48 : decode cX12_hold 48 = .ok (.iload 6, 2) := by decide +kernel
theorem dX12_hold_50 : decode cX12_hold 50 = .ok (.iload_n 2, 1) := by decide +kernel
theorem dX12_hold_51 : decode cX12_hold 51 = .ok (.if_icmp .ge 57, 3) := by decide +kernel
theorem dX12_hold_54 : decode cX12_hold 54 = .ok (.iload 5, 2) := by decide +kernel
theorem dX12_hold_56 : decode cX12_hold 56 = .ok (.aload_n 0, 1) := by decide +kernel
theorem dX12_hold_57 : decode cX12_hold 57 = .ok (.getfield 20, 3) := by decide +kernel
theorem dX12_hold_60 : decode cX12_hold 60 = .ok (.bipush 6, 2) := by decide +kernel
theorem dX12_hold_62 : decode cX12_hold 62 = .ok (.iload_n 1, 1) := by decide +kernel
theorem dX12_hold_63 : decode cX12_hold 63 = .ok (.imul, 1) := by decide +kernel
theorem dX12_hold_64 : decode cX12_hold 64 = .ok (.iload 6, 2) := by decide +kernel
theorem dX12_hold_66 : decode cX12_hold 66 = .ok (.iadd, 1) := by decide +kernel
theorem dX12_hold_67 : decode cX12_hold 67 = .ok (.iaload, 1) := by decide +kernel
theorem dX12_hold_68 : decode cX12_hold 68 = .ok (.iadd, 1) := by decide +kernel
theorem dX12_hold_69 : decode cX12_hold 69 = .ok (.istore 5, 2) := by decide +kernel
theorem dX12_hold_71 : decode cX12_hold 71 = .ok (.aload_n 0, 1) := by decide +kernel
theorem dX12_hold_72 : decode cX12_hold 72 = .ok (.getfield 20, 3) := by decide +kernel
theorem dX12_hold_75 : decode cX12_hold 75 = .ok (.bipush 6, 2) := by decide +kernel
theorem dX12_hold_77 : decode cX12_hold 77 = .ok (.iload_n 1, 1) := by decide +kernel
theorem dX12_hold_78 : decode cX12_hold 78 = .ok (.imul, 1) := by decide +kernel
theorem dX12_hold_79 : decode cX12_hold 79 = .ok (.iload 6, 2) := by decide +kernel
theorem dX12_hold_81 : decode cX12_hold 81 = .ok (.iadd, 1) := by decide +kernel
theorem dX12_hold_82 : decode cX12_hold 82 = .ok (.iaload, 1) := by decide +kernel
theorem dX12_hold_83 : decode cX12_hold 83 = .ok (.aload_n 0, 1) := by decide +kernel
theorem dX12_hold_84 : decode cX12_hold 84 = .ok (.getfield 20, 3) := by decide +kernel
theorem dX12_hold_87 : decode cX12_hold 87 = .ok (.bipush 6, 2) := by decide +kernel
theorem dX12_hold_89 : decode cX12_hold 89 = .ok (.iload_n 1, 1) := by decide +kernel
theorem dX12_hold_90 : decode cX12_hold 90 = .ok (.imul, 1) := by decide +kernel
theorem dX12_hold_91 : decode cX12_hold 91 = .ok (.iload 4, 2) := by decide +kernel
theorem dX12_hold_93 : decode cX12_hold 93 = .ok (.iadd, 1) := by decide +kernel
theorem dX12_hold_94 : decode cX12_hold 94 = .ok (.iaload, 1) := by decide +kernel
theorem dX12_hold_95 : decode cX12_hold 95 = .ok (.if_icmp .le 7, 3) := by decide +kernel
theorem dX12_hold_98 : decode cX12_hold 98 = .ok (.iload 6, 2) := by decide +kernel
theorem dX12_hold_100 : decode cX12_hold 100 = .ok (.istore 4, 2) := by decide +kernel
theorem dX12_hold_102 : decode cX12_hold 102 = .ok (.iinc 6 1, 3) := by decide +kernel
theorem dX12_hold_105 : decode cX12_hold 105 = .ok (.goto (-57), 3) := by decide +kernel
theorem dX12_hold_108 : decode cX12_hold 108 = .ok (.iload_n 3, 1) := by decide +kernel
theorem dX12_hold_109 : decode cX12_hold 109 = .ok (.ifCond .ne 8, 3) := by decide +kernel
theorem dX12_hold_112 : decode cX12_hold 112 = .ok (.iload 4, 2) := by decide +kernel
theorem dX12_hold_114 : decode cX12_hold 114 = .ok (.goto 26, 3) := by decide +kernel
theorem dX12_hold_117 : decode cX12_hold 117 = .ok (.aload_n 0, 1) := by decide +kernel
theorem dX12_hold_118 : decode cX12_hold 118 = .ok (.getfield 20, 3) := by decide +kernel
theorem dX12_hold_121 : decode cX12_hold 121 = .ok (.bipush 6, 2) := by decide +kernel
theorem dX12_hold_123 : decode cX12_hold 123 = .ok (.iload_n 1, 1) := by decide +kernel
theorem dX12_hold_124 : decode cX12_hold 124 = .ok (.imul, 1) := by decide +kernel
theorem dX12_hold_125 : decode cX12_hold 125 = .ok (.iload 4, 2) := by decide +kernel
theorem dX12_hold_127 : decode cX12_hold 127 = .ok (.iadd, 1) := by decide +kernel
theorem dX12_hold_128 : decode cX12_hold 128 = .ok (.iaload, 1) := by decide +kernel
theorem dX12_hold_129 : decode cX12_hold 129 = .ok (.i2l, 1) := by decide +kernel
theorem dX12_hold_130 : decode cX12_hold 130 = .ok (.iload 5, 2) := by decide +kernel
theorem dX12_hold_132 : decode cX12_hold 132 = .ok (.i2l, 1) := by decide +kernel
theorem dX12_hold_133 : decode cX12_hold 133 = .ok (.iload_n 3, 1) := by decide +kernel
theorem dX12_hold_134 : decode cX12_hold 134 = .ok (.iconst 1, 1) := by decide +kernel
theorem dX12_hold_135 : decode cX12_hold 135 = .ok (.isub, 1) := by decide +kernel
theorem dX12_hold_136 : decode cX12_hold 136 = .ok (.invokestatic 445, 3) := by decide +kernel
theorem dX12_hold_139 : decode cX12_hold 139 = .ok (.l2i, 1) := by decide +kernel
theorem dX12_hold_140 : decode cX12_hold 140 = .ok (.ireturn, 1) := by decide +kernel
def X12_hold_b140 (e : mm_E) (t0 : Int32) (m : mm_V) : Option (Int32 × mm_V) := some (t0, m)
theorem X12_hold_b140_ok {K : mm_K} {nx : Option Nat} {e : mm_E} (hz : e.2.1 = K.2.2.2.2) {d : Nat} (hd : 2 ≤ d) {t0 : Int32} {a0 : Nat} (h0 : e.1 a0 = some (12, 75)) {m : mm_V} {r : (Int32 × mm_V)} (hr : X12_hold_b140 e t0 m = some r) : mm_G K MX12_hold d (mm_Fi e.1 nx r) 140 [none, none, none, none, none, none, none] [.int t0] (e.1, m) nx 0 0 := by
  obtain ⟨d, rfl⟩ : ∃ d', d = d' + 1 := ⟨d - 1, by omega⟩
  unfold X12_hold_b140 at hr
  exact mb_iret dX12_hold_140 rfl hr
def X12_hold_b102 (e : mm_E) (k48 : Int32 → Int32 → Int32 → mm_V → Option (Int32 × mm_V)) (a0 : Nat) (i1 : Int32) (i2 : Int32) (i3 : Int32) (i4 : Int32) (i5 : Int32) (i6 : Int32) (m : mm_V) : Option (Int32 × mm_V) := k48 i4 i5 (i6 + 1) m
theorem X12_hold_b102_ok {K : mm_K} {nx : Option Nat} {e : mm_E} (hz : e.2.1 = K.2.2.2.2) {d : Nat} (hd : 2 ≤ d) {a0 : Nat} {i1 : Int32} {i2 : Int32} {i3 : Int32} {i4 : Int32} {i5 : Int32} {i6 : Int32} (h0 : e.1 a0 = some (12, 75)) {k48 : Int32 → Int32 → Int32 → mm_V → Option (Int32 × mm_V)} (hk48 : ∀ (w4 : Int32) (w5 : Int32) (w6 : Int32) (m : mm_V) (r : (Int32 × mm_V)), k48 w4 w5 w6 m = some r → mm_G K MX12_hold d (mm_Fi e.1 nx r) 48 [some (.ref a0), some (.int i1), some (.int i2), some (.int i3), some (.int w4), some (.int w5), some (.int w6)] [] (e.1, m) nx 0 0) {m : mm_V} {r : (Int32 × mm_V)} (hr : X12_hold_b102 e k48 a0 i1 i2 i3 i4 i5 i6 m = some r) : mm_G K MX12_hold d (mm_Fi e.1 nx r) 102 [some (.ref a0), some (.int i1), some (.int i2), some (.int i3), some (.int i4), some (.int i5), some (.int i6)] [] (e.1, m) nx 0 0 := by
  obtain ⟨d, rfl⟩ : ∃ d', d = d' + 1 := ⟨d - 1, by omega⟩
  unfold X12_hold_b102 at hr
  refine ml_iinc (pc := 102) dX12_hold_102 (mm_get_s (mm_get_s (mm_get_s (mm_get_s (mm_get_s (mm_get_s mm_get_0)))))) (congrArg (fun z => i6 + z) kc_1) (Nat.le_of_ble_eq_true rfl) (mm_st1_s (mm_st1_s (mm_st1_s (mm_st1_s (mm_st1_s mm_st1_i))))) ?_
  refine mg_goto (pc := 105) 48 dX12_hold_105 rfl ?_
  exact mg_weak (mm_le_s (mm_le_s (mm_le_s (mm_le_s (mm_le_s (mm_le_s (mm_le_s mm_le_0))))))) (hk48 _ _ _ _ _ hr)
def X12_hold_L48 (e : mm_E) (a0 : Nat) (i1 : Int32) (i2 : Int32) (i3 : Int32) : Nat → Int32 → Int32 → Int32 → mm_V → Option (Int32 × mm_V)
  | 0, _, _, _, _ => none
  | n + 1, i4, i5, i6, m => if i2 ≤ i6 then (if ¬ i3 = 0 then ((mm_gr e.1 m 12 75 a0 6).bind fun c1 => (mm_ai e.1 m 20 c1 (((6 : Int32) * i1) + i4)).bind fun x2 => (X12_portion e x2.toInt64 i5.toInt64 (i3 - (1 : Int32)) m).bind fun r3 => X12_hold_b140 e  r3.1.toInt32 r3.2) else (X12_hold_b140 e  i4 m)) else ((mm_gr e.1 m 12 75 a0 6).bind fun c4 => (mm_ai e.1 m 20 c4 (((6 : Int32) * i1) + i6)).bind fun x5 => (mm_gr e.1 m 12 75 a0 6).bind fun c6 => (mm_ai e.1 m 20 c6 (((6 : Int32) * i1) + i6)).bind fun x7 => (mm_gr e.1 m 12 75 a0 6).bind fun c8 => (mm_ai e.1 m 20 c8 (((6 : Int32) * i1) + i4)).bind fun x9 => if x7 ≤ x9 then (X12_hold_b102 e (X12_hold_L48 e a0 i1 i2 i3 n) a0 i1 i2 i3 i4 (i5 + x5) i6  m) else (X12_hold_b102 e (X12_hold_L48 e a0 i1 i2 i3 n) a0 i1 i2 i3 i6 (i5 + x5) i6  m))
theorem X12_hold_L48_ok {K : mm_K} {nx : Option Nat} {e : mm_E} (hz : e.2.1 = K.2.2.2.2) {d : Nat} (hd : 2 ≤ d) {a0 : Nat} {i1 : Int32} {i2 : Int32} {i3 : Int32} (h0 : e.1 a0 = some (12, 75)) : ∀ (n : Nat) (i4 : Int32) (i5 : Int32) (i6 : Int32) (m : mm_V) (r : (Int32 × mm_V)), X12_hold_L48 e a0 i1 i2 i3 n i4 i5 i6 m = some r → mm_G K MX12_hold d (mm_Fi e.1 nx r) 48 [some (.ref a0), some (.int i1), some (.int i2), some (.int i3), some (.int i4), some (.int i5), some (.int i6)] [] (e.1, m) nx 0 0 := by
  obtain ⟨d, rfl⟩ : ∃ d', d = d' + 1 := ⟨d - 1, by omega⟩
  intro n
  induction n with
  | zero => intro i4 i5 i6 m r hr; unfold X12_hold_L48 at hr; cases hr
  | succ n ih =>
    intro i4 i5 i6 m r hr
    unfold X12_hold_L48 at hr
    refine ml_iload (pc := 48) dX12_hold_48 (mm_get_s (mm_get_s (mm_get_s (mm_get_s (mm_get_s (mm_get_s mm_get_0)))))) ?_
    refine ml_iload_n (pc := 50) dX12_hold_50 rfl (mm_get_s (mm_get_s mm_get_0)) ?_
    refine mb_icmp_ge (pc := 51) 108 dX12_hold_51 rfl hr (fun hr => ?_) (fun hr => ?_)
    · refine ml_iload_n (pc := 108) dX12_hold_108 rfl (mm_get_s (mm_get_s (mm_get_s mm_get_0))) ?_
      refine mb_if_ne (pc := 109) 117 dX12_hold_109 rfl hr (fun hr => ?_) (fun hr => ?_)
      · refine ml_aload_n (pc := 117) dX12_hold_117 rfl mm_get_0 ?_
        refine mb_gr (pc := 118) dX12_hold_118 fl_X12_20 hr (fun c1 hr => ?_)
        refine mg_bipush (pc := 121) dX12_hold_121 kb_6 ?_
        refine ml_iload_n (pc := 123) dX12_hold_123 rfl (mm_get_s mm_get_0) ?_
        refine mg_imul (pc := 124) dX12_hold_124 ?_
        refine ml_iload (pc := 125) dX12_hold_125 (mm_get_s (mm_get_s (mm_get_s (mm_get_s mm_get_0)))) ?_
        refine mg_iadd (pc := 127) dX12_hold_127 ?_
        refine mb_ai (pc := 128) dX12_hold_128 hr (fun x2 hr => ?_)
        refine mg_i2l (pc := 129) dX12_hold_129 ?_
        refine ml_iload (pc := 130) dX12_hold_130 (mm_get_s (mm_get_s (mm_get_s (mm_get_s (mm_get_s mm_get_0))))) ?_
        refine mg_i2l (pc := 132) dX12_hold_132 ?_
        refine ml_iload_n (pc := 133) dX12_hold_133 rfl (mm_get_s (mm_get_s (mm_get_s mm_get_0))) ?_
        refine mg_iconst (pc := 134) dX12_hold_134 kc_1 ?_
        refine mg_isub (pc := 135) dX12_hold_135 ?_
        refine mb_cSl (pc := 136) (As := [.long x2.toInt64, .long i5.toInt64, .int (i3 - (1 : Int32))]) (rest := []) dX12_hold_136 cw_X12_445  hr (fun v hv => X12_portion_ok hz (by omega)  hv) rfl (Nat.le_of_ble_eq_true rfl) (Nat.zero_le _) (Nat.zero_le _) (fun r3 hr => ?_)
        refine mg_l2i (pc := 139) dX12_hold_139 ?_
        exact mg_weak (mm_le_n (mm_le_n (mm_le_n (mm_le_n (mm_le_n (mm_le_n (mm_le_n mm_le_0))))))) (X12_hold_b140_ok hz hd h0 hr)
      · refine ml_iload (pc := 112) dX12_hold_112 (mm_get_s (mm_get_s (mm_get_s (mm_get_s mm_get_0)))) ?_
        refine mg_goto (pc := 114) 140 dX12_hold_114 rfl ?_
        exact mg_weak (mm_le_n (mm_le_n (mm_le_n (mm_le_n (mm_le_n (mm_le_n (mm_le_n mm_le_0))))))) (X12_hold_b140_ok hz hd h0 hr)
    · refine ml_iload (pc := 54) dX12_hold_54 (mm_get_s (mm_get_s (mm_get_s (mm_get_s (mm_get_s mm_get_0))))) ?_
      refine ml_aload_n (pc := 56) dX12_hold_56 rfl mm_get_0 ?_
      refine mb_gr (pc := 57) dX12_hold_57 fl_X12_20 hr (fun c4 hr => ?_)
      refine mg_bipush (pc := 60) dX12_hold_60 kb_6 ?_
      refine ml_iload_n (pc := 62) dX12_hold_62 rfl (mm_get_s mm_get_0) ?_
      refine mg_imul (pc := 63) dX12_hold_63 ?_
      refine ml_iload (pc := 64) dX12_hold_64 (mm_get_s (mm_get_s (mm_get_s (mm_get_s (mm_get_s (mm_get_s mm_get_0)))))) ?_
      refine mg_iadd (pc := 66) dX12_hold_66 ?_
      refine mb_ai (pc := 67) dX12_hold_67 hr (fun x5 hr => ?_)
      refine mg_iadd (pc := 68) dX12_hold_68 ?_
      refine ml_istore (pc := 69) dX12_hold_69 (Nat.le_of_ble_eq_true rfl) (mm_st1_s (mm_st1_s (mm_st1_s (mm_st1_s mm_st1_i)))) ?_
      refine ml_aload_n (pc := 71) dX12_hold_71 rfl mm_get_0 ?_
      refine mb_gr (pc := 72) dX12_hold_72 fl_X12_20 hr (fun c6 hr => ?_)
      refine mg_bipush (pc := 75) dX12_hold_75 kb_6 ?_
      refine ml_iload_n (pc := 77) dX12_hold_77 rfl (mm_get_s mm_get_0) ?_
      refine mg_imul (pc := 78) dX12_hold_78 ?_
      refine ml_iload (pc := 79) dX12_hold_79 (mm_get_s (mm_get_s (mm_get_s (mm_get_s (mm_get_s (mm_get_s mm_get_0)))))) ?_
      refine mg_iadd (pc := 81) dX12_hold_81 ?_
      refine mb_ai (pc := 82) dX12_hold_82 hr (fun x7 hr => ?_)
      refine ml_aload_n (pc := 83) dX12_hold_83 rfl mm_get_0 ?_
      refine mb_gr (pc := 84) dX12_hold_84 fl_X12_20 hr (fun c8 hr => ?_)
      refine mg_bipush (pc := 87) dX12_hold_87 kb_6 ?_
      refine ml_iload_n (pc := 89) dX12_hold_89 rfl (mm_get_s mm_get_0) ?_
      refine mg_imul (pc := 90) dX12_hold_90 ?_
      refine ml_iload (pc := 91) dX12_hold_91 (mm_get_s (mm_get_s (mm_get_s (mm_get_s mm_get_0)))) ?_
      refine mg_iadd (pc := 93) dX12_hold_93 ?_
      refine mb_ai (pc := 94) dX12_hold_94 hr (fun x9 hr => ?_)
      refine mb_icmp_le (pc := 95) 102 dX12_hold_95 rfl hr (fun hr => ?_) (fun hr => ?_)
      · exact mg_weak (mm_le_s (mm_le_s (mm_le_s (mm_le_s (mm_le_s (mm_le_s (mm_le_s mm_le_0))))))) (X12_hold_b102_ok hz hd h0 ih hr)
      · refine ml_iload (pc := 98) dX12_hold_98 (mm_get_s (mm_get_s (mm_get_s (mm_get_s (mm_get_s (mm_get_s mm_get_0)))))) ?_
        refine ml_istore (pc := 100) dX12_hold_100 (Nat.le_of_ble_eq_true rfl) (mm_st1_s (mm_st1_s (mm_st1_s mm_st1_i))) ?_
        exact mg_weak (mm_le_s (mm_le_s (mm_le_s (mm_le_s (mm_le_s (mm_le_s (mm_le_s mm_le_0))))))) (X12_hold_b102_ok hz hd h0 ih hr)
def X12_hold_b37 (e : mm_E) (m : mm_V) : Option (Int32 × mm_V) := some ((0 : Int32), m)
theorem X12_hold_b37_ok {K : mm_K} {nx : Option Nat} {e : mm_E} (hz : e.2.1 = K.2.2.2.2) {d : Nat} (hd : 2 ≤ d) {a0 : Nat} (h0 : e.1 a0 = some (12, 75)) {m : mm_V} {r : (Int32 × mm_V)} (hr : X12_hold_b37 e m = some r) : mm_G K MX12_hold d (mm_Fi e.1 nx r) 37 [none, none, none, none, none, none, none] [] (e.1, m) nx 0 0 := by
  obtain ⟨d, rfl⟩ : ∃ d', d = d' + 1 := ⟨d - 1, by omega⟩
  unfold X12_hold_b37 at hr
  refine mg_iconst (pc := 37) dX12_hold_37 kc_0 ?_
  exact mb_iret dX12_hold_38 rfl hr
def X12_hold (e : mm_E) (a0 : Nat) (i1 : Int32) (i2 : Int32) (i3 : Int32) (m : mm_V) : Option (Int32 × mm_V) := (mm_pf e.1 m 12 75 a0 0 (.int (0 : Int32))).bind fun m1 => (X12_isPerson e a0 i1 m1).bind fun r2 => if r2.1 = 0 then (X12_hold_b37 e   r2.2) else ((X12_isWhat e a0 i3 (2 : Int32) r2.2).bind fun r3 => if r3.1 = 0 then (X12_hold_b37 e   r3.2) else ((X12_within e i2 (1 : Int32) (6 : Int32) r3.2).bind fun r4 => (X12_right e a0 r4.1 (2 : Int32) r4.2).bind fun r5 => if ¬ r5.1 = 0 then (X12_hold_L48 e a0 i1 i2 i3 e.2.2 (0 : Int32) (0 : Int32) (0 : Int32) r5.2) else (X12_hold_b37 e   r5.2)))
theorem X12_hold_ok {K : mm_K} {nx : Option Nat} {e : mm_E} (hz : e.2.1 = K.2.2.2.2) {d : Nat} (hd : 2 ≤ d) {a0 : Nat} {i1 : Int32} {i2 : Int32} {i3 : Int32} (h0 : e.1 a0 = some (12, 75)) {m : mm_V} {r : (Int32 × mm_V)} (hr : X12_hold e a0 i1 i2 i3 m = some r) : mm_Cn K MX12_hold d (mm_Fi e.1 nx r) [.ref a0, .int i1, .int i2, .int i3] (e.1, m) nx := by
  obtain ⟨d, rfl⟩ : ∃ d', d = d' + 1 := ⟨d - 1, by omega⟩
  refine mm_entry (by decide) (Nat.le_of_ble_eq_true rfl) rfl (fun hok => ?_)
  unfold X12_hold at hr
  refine mg_weak (L' := [some (.ref a0), some (.int i1), some (.int i2), some (.int i3), none, none, none]) (mm_le_s (mm_le_s (mm_le_s (mm_le_s (mm_le_e (mm_le_e (mm_le_e mm_le_0))))))) ?_
  refine ml_aload_n (pc := 0) dX12_hold_0 rfl mm_get_0 ?_
  refine mg_iconst (pc := 1) dX12_hold_1 kc_0 ?_
  refine mb_pi (pc := 2) dX12_hold_2 fp_X12_152 hr (fun m1 hr => ?_)
  refine ml_aload_n (pc := 5) dX12_hold_5 rfl mm_get_0 ?_
  refine ml_iload_n (pc := 6) dX12_hold_6 rfl (mm_get_s mm_get_0) ?_
  refine mb_cVi (pc := 7) (As := [.int i1]) (rest := []) dX12_hold_7 cw_X12_376 h0 hr (fun v hv => X12_isPerson_ok hz (by omega) h0 hv) rfl (Nat.le_of_ble_eq_true rfl) (Nat.zero_le _) (Nat.zero_le _) (fun r2 hr => ?_)
  refine mb_if_eq (pc := 10) 37 dX12_hold_10 rfl hr (fun hr => ?_) (fun hr => ?_)
  · exact mg_weak (mm_le_n (mm_le_n (mm_le_n (mm_le_n (mm_le_n (mm_le_n (mm_le_n mm_le_0))))))) (X12_hold_b37_ok hz hd h0 hr)
  · refine ml_aload_n (pc := 13) dX12_hold_13 rfl mm_get_0 ?_
    refine ml_iload_n (pc := 14) dX12_hold_14 rfl (mm_get_s (mm_get_s (mm_get_s mm_get_0))) ?_
    refine mg_iconst (pc := 15) dX12_hold_15 kc_2 ?_
    refine mb_cVi (pc := 16) (As := [.int i3, .int (2 : Int32)]) (rest := []) dX12_hold_16 cw_X12_393 h0 hr (fun v hv => X12_isWhat_ok hz (by omega) h0 hv) rfl (Nat.le_of_ble_eq_true rfl) (Nat.zero_le _) (Nat.zero_le _) (fun r3 hr => ?_)
    refine mb_if_eq (pc := 19) 37 dX12_hold_19 rfl hr (fun hr => ?_) (fun hr => ?_)
    · exact mg_weak (mm_le_n (mm_le_n (mm_le_n (mm_le_n (mm_le_n (mm_le_n (mm_le_n mm_le_0))))))) (X12_hold_b37_ok hz hd h0 hr)
    · refine ml_aload_n (pc := 22) dX12_hold_22 rfl mm_get_0 ?_
      refine ml_iload_n (pc := 23) dX12_hold_23 rfl (mm_get_s (mm_get_s mm_get_0)) ?_
      refine mg_iconst (pc := 24) dX12_hold_24 kc_1 ?_
      refine mg_bipush (pc := 25) dX12_hold_25 kb_6 ?_
      refine mb_cSi (pc := 27) (As := [.int i2, .int (1 : Int32), .int (6 : Int32)]) (rest := [.ref a0]) dX12_hold_27 cw_X12_368  hr (fun v hv => X12_within_ok hz (by omega)  hv) rfl (Nat.le_of_ble_eq_true rfl) (Nat.zero_le _) (Nat.zero_le _) (fun r4 hr => ?_)
      refine mg_iconst (pc := 30) dX12_hold_30 kc_2 ?_
      refine mb_cVi (pc := 31) (As := [.int r4.1, .int (2 : Int32)]) (rest := []) dX12_hold_31 cw_X12_306 h0 hr (fun v hv => X12_right_ok hz (by omega) h0 hv) rfl (Nat.le_of_ble_eq_true rfl) (Nat.zero_le _) (Nat.zero_le _) (fun r5 hr => ?_)
      refine mb_if_ne (pc := 34) 39 dX12_hold_34 rfl hr (fun hr => ?_) (fun hr => ?_)
      · refine mg_iconst (pc := 39) dX12_hold_39 kc_0 ?_
        refine ml_istore (pc := 40) dX12_hold_40 (Nat.le_of_ble_eq_true rfl) (mm_st1_s (mm_st1_s (mm_st1_s mm_st1_i))) ?_
        refine mg_iconst (pc := 42) dX12_hold_42 kc_0 ?_
        refine ml_istore (pc := 43) dX12_hold_43 (Nat.le_of_ble_eq_true rfl) (mm_st1_s (mm_st1_s (mm_st1_s (mm_st1_s mm_st1_i)))) ?_
        refine mg_iconst (pc := 45) dX12_hold_45 kc_0 ?_
        refine ml_istore (pc := 46) dX12_hold_46 (Nat.le_of_ble_eq_true rfl) (mm_st1_s (mm_st1_s (mm_st1_s (mm_st1_s (mm_st1_s mm_st1_i))))) ?_
        exact mg_weak (mm_le_s (mm_le_s (mm_le_s (mm_le_s (mm_le_s (mm_le_s (mm_le_s mm_le_0))))))) (X12_hold_L48_ok hz hd h0 _ _ _ _ _ _ hr)
      · exact mg_weak (mm_le_n (mm_le_n (mm_le_n (mm_le_n (mm_le_n (mm_le_n (mm_le_n mm_le_0))))))) (X12_hold_b37_ok hz hd h0 hr)
theorem dX12_oftenAt_0 : decode cX12_oftenAt 0 = .ok (.iconst 0, 1) := by decide +kernel
theorem dX12_oftenAt_1 : decode cX12_oftenAt 1 = .ok (.istore_n 3, 1) := by decide +kernel
theorem dX12_oftenAt_2 : decode cX12_oftenAt 2 = .ok (.iconst 0, 1) := by decide +kernel
theorem dX12_oftenAt_3 : decode cX12_oftenAt 3 = .ok (.istore 4, 2) := by decide +kernel
theorem dX12_oftenAt_5 : decode cX12_oftenAt 5 = .ok (.iload 4, 2) := by decide +kernel
theorem dX12_oftenAt_7 : decode cX12_oftenAt 7 = .ok (.aload_n 0, 1) := by decide +kernel
theorem dX12_oftenAt_8 : decode cX12_oftenAt 8 = .ok (.getfield 365, 3) := by decide +kernel
theorem dX12_oftenAt_11 : decode cX12_oftenAt 11 = .ok (.if_icmp .ge 56, 3) := by decide +kernel
theorem dX12_oftenAt_14 : decode cX12_oftenAt 14 = .ok (.iload_n 3, 1) := by decide +kernel
theorem dX12_oftenAt_15 : decode cX12_oftenAt 15 = .ok (.aload_n 0, 1) := by decide +kernel
theorem dX12_oftenAt_16 : decode cX12_oftenAt 16 = .ok (.iload 4, 2) := by decide +kernel
theorem dX12_oftenAt_18 : decode cX12_oftenAt 18 = .ok (.iconst 0, 1) := by decide +kernel
theorem dX12_oftenAt_19 : decode cX12_oftenAt 19 = .ok (.invokevirtual 419, 3) := by decide +kernel
theorem dX12_oftenAt_22 : decode cX12_oftenAt 22 = .ok (.iload_n 1, 1) := by decide +kernel
theorem dX12_oftenAt_23 : decode cX12_oftenAt 23 = .ok (.if_icmp .ne 35, 3) := by decide +kernel
theorem dX12_oftenAt_26 : decode cX12_oftenAt 26 = .ok (.aload_n 0, 1) := by decide +kernel
theorem dX12_oftenAt_27 : decode cX12_oftenAt 27 = .ok (.iload 4, 2) := by decide +kernel
theorem dX12_oftenAt_29 : decode cX12_oftenAt 29 = .ok (.iconst 2, 1) := by decide +kernel
theorem dX12_oftenAt_30 : decode cX12_oftenAt 30 = .ok (.invokevirtual 419, 3) := by decide +kernel
theorem dX12_oftenAt_33 : decode cX12_oftenAt 33 = .ok (.bipush 6, 2) := by decide +kernel
theorem dX12_oftenAt_35 : decode cX12_oftenAt 35 = .ok (.if_icmp .ge 13, 3) := by decide +kernel
theorem dX12_oftenAt_38 : decode cX12_oftenAt 38 = .ok (.aload_n 0, 1) := by decide +kernel
theorem dX12_oftenAt_39 : decode cX12_oftenAt 39 = .ok (.iload 4, 2) := by decide +kernel
theorem dX12_oftenAt_41 : decode cX12_oftenAt 41 = .ok (.iconst 2, 1) := by decide +kernel
theorem dX12_oftenAt_42 : decode cX12_oftenAt 42 = .ok (.invokevirtual 419, 3) := by decide +kernel
theorem dX12_oftenAt_45 : decode cX12_oftenAt 45 = .ok (.goto 5, 3) := by decide +kernel
theorem dX12_oftenAt_48 : decode cX12_oftenAt 48 = .ok (.bipush 6, 2) := by decide +kernel
theorem dX12_oftenAt_50 : decode cX12_oftenAt 50 = .ok (.iload_n 2, 1) := by decide +kernel
theorem dX12_oftenAt_51 : decode cX12_oftenAt 51 = .ok (.if_icmp .ne 7, 3) := by decide +kernel
theorem dX12_oftenAt_54 : decode cX12_oftenAt 54 = .ok (.iconst 1, 1) := by decide +kernel
theorem dX12_oftenAt_55 : decode cX12_oftenAt 55 = .ok (.goto 4, 3) := by decide +kernel
theorem dX12_oftenAt_58 : decode cX12_oftenAt 58 = .ok (.iconst 0, 1) := by decide +kernel
theorem dX12_oftenAt_59 : decode cX12_oftenAt 59 = .ok (.iadd, 1) := by decide +kernel
theorem dX12_oftenAt_60 : decode cX12_oftenAt 60 = .ok (.istore_n 3, 1) := by decide +kernel
theorem dX12_oftenAt_61 : decode cX12_oftenAt 61 = .ok (.iinc 4 1, 3) := by decide +kernel
theorem dX12_oftenAt_64 : decode cX12_oftenAt 64 = .ok (.goto (-59), 3) := by decide +kernel
theorem dX12_oftenAt_67 : decode cX12_oftenAt 67 = .ok (.iload_n 3, 1) := by decide +kernel
theorem dX12_oftenAt_68 : decode cX12_oftenAt 68 = .ok (.ireturn, 1) := by decide +kernel
def X12_oftenAt_b59 (e : mm_E) (k5 : Int32 → Int32 → mm_V → Option (Int32 × mm_V)) (a0 : Nat) (i1 : Int32) (i2 : Int32) (i4 : Int32) (t0 : Int32) (t1 : Int32) (m : mm_V) : Option (Int32 × mm_V) := k5 (t0 + t1) (i4 + 1) m
theorem X12_oftenAt_b59_ok {K : mm_K} {nx : Option Nat} {e : mm_E} (hz : e.2.1 = K.2.2.2.2) {d : Nat} (hd : 1 ≤ d) {a0 : Nat} {i1 : Int32} {i2 : Int32} {i4 : Int32} {t0 : Int32} {t1 : Int32} (h0 : e.1 a0 = some (12, 75)) {k5 : Int32 → Int32 → mm_V → Option (Int32 × mm_V)} (hk5 : ∀ (w3 : Int32) (w4 : Int32) (m : mm_V) (r : (Int32 × mm_V)), k5 w3 w4 m = some r → mm_G K MX12_oftenAt d (mm_Fi e.1 nx r) 5 [some (.ref a0), some (.int i1), some (.int i2), some (.int w3), some (.int w4)] [] (e.1, m) nx 0 0) {m : mm_V} {r : (Int32 × mm_V)} (hr : X12_oftenAt_b59 e k5 a0 i1 i2 i4 t0 t1 m = some r) : mm_G K MX12_oftenAt d (mm_Fi e.1 nx r) 59 [some (.ref a0), some (.int i1), some (.int i2), none, some (.int i4)] [.int t1, .int t0] (e.1, m) nx 0 0 := by
  obtain ⟨d, rfl⟩ : ∃ d', d = d' + 1 := ⟨d - 1, by omega⟩
  unfold X12_oftenAt_b59 at hr
  refine mg_iadd (pc := 59) dX12_oftenAt_59 ?_
  refine ml_istore_n (pc := 60) dX12_oftenAt_60 rfl (Nat.le_of_ble_eq_true rfl) (mm_st1_s (mm_st1_s mm_st1_i)) ?_
  refine ml_iinc (pc := 61) dX12_oftenAt_61 (mm_get_s (mm_get_s (mm_get_s (mm_get_s mm_get_0)))) (congrArg (fun z => i4 + z) kc_1) (Nat.le_of_ble_eq_true rfl) (mm_st1_s (mm_st1_s (mm_st1_s mm_st1_i))) ?_
  refine mg_goto (pc := 64) 5 dX12_oftenAt_64 rfl ?_
  exact mg_weak (mm_le_s (mm_le_s (mm_le_s (mm_le_s (mm_le_s mm_le_0))))) (hk5 _ _ _ _ hr)
def X12_oftenAt_b58 (e : mm_E) (k5 : Int32 → Int32 → mm_V → Option (Int32 × mm_V)) (a0 : Nat) (i1 : Int32) (i2 : Int32) (i4 : Int32) (t0 : Int32) (m : mm_V) : Option (Int32 × mm_V) := X12_oftenAt_b59 e k5 a0 i1 i2 i4 t0 (0 : Int32) m
theorem X12_oftenAt_b58_ok {K : mm_K} {nx : Option Nat} {e : mm_E} (hz : e.2.1 = K.2.2.2.2) {d : Nat} (hd : 1 ≤ d) {a0 : Nat} {i1 : Int32} {i2 : Int32} {i4 : Int32} {t0 : Int32} (h0 : e.1 a0 = some (12, 75)) {k5 : Int32 → Int32 → mm_V → Option (Int32 × mm_V)} (hk5 : ∀ (w3 : Int32) (w4 : Int32) (m : mm_V) (r : (Int32 × mm_V)), k5 w3 w4 m = some r → mm_G K MX12_oftenAt d (mm_Fi e.1 nx r) 5 [some (.ref a0), some (.int i1), some (.int i2), some (.int w3), some (.int w4)] [] (e.1, m) nx 0 0) {m : mm_V} {r : (Int32 × mm_V)} (hr : X12_oftenAt_b58 e k5 a0 i1 i2 i4 t0 m = some r) : mm_G K MX12_oftenAt d (mm_Fi e.1 nx r) 58 [some (.ref a0), some (.int i1), some (.int i2), none, some (.int i4)] [.int t0] (e.1, m) nx 0 0 := by
  obtain ⟨d, rfl⟩ : ∃ d', d = d' + 1 := ⟨d - 1, by omega⟩
  unfold X12_oftenAt_b58 at hr
  refine mg_iconst (pc := 58) dX12_oftenAt_58 kc_0 ?_
  exact mg_weak (mm_le_s (mm_le_s (mm_le_s (mm_le_n (mm_le_s mm_le_0))))) (X12_oftenAt_b59_ok hz hd h0 hk5 hr)
def X12_oftenAt_b50 (e : mm_E) (k5 : Int32 → Int32 → mm_V → Option (Int32 × mm_V)) (a0 : Nat) (i1 : Int32) (i2 : Int32) (i4 : Int32) (t0 : Int32) (t1 : Int32) (m : mm_V) : Option (Int32 × mm_V) := if ¬ t1 = i2 then (X12_oftenAt_b58 e k5 a0 i1 i2 i4 t0 m) else (X12_oftenAt_b59 e k5 a0 i1 i2 i4 t0 (1 : Int32) m)
theorem X12_oftenAt_b50_ok {K : mm_K} {nx : Option Nat} {e : mm_E} (hz : e.2.1 = K.2.2.2.2) {d : Nat} (hd : 1 ≤ d) {a0 : Nat} {i1 : Int32} {i2 : Int32} {i4 : Int32} {t0 : Int32} {t1 : Int32} (h0 : e.1 a0 = some (12, 75)) {k5 : Int32 → Int32 → mm_V → Option (Int32 × mm_V)} (hk5 : ∀ (w3 : Int32) (w4 : Int32) (m : mm_V) (r : (Int32 × mm_V)), k5 w3 w4 m = some r → mm_G K MX12_oftenAt d (mm_Fi e.1 nx r) 5 [some (.ref a0), some (.int i1), some (.int i2), some (.int w3), some (.int w4)] [] (e.1, m) nx 0 0) {m : mm_V} {r : (Int32 × mm_V)} (hr : X12_oftenAt_b50 e k5 a0 i1 i2 i4 t0 t1 m = some r) : mm_G K MX12_oftenAt d (mm_Fi e.1 nx r) 50 [some (.ref a0), some (.int i1), some (.int i2), none, some (.int i4)] [.int t1, .int t0] (e.1, m) nx 0 0 := by
  obtain ⟨d, rfl⟩ : ∃ d', d = d' + 1 := ⟨d - 1, by omega⟩
  unfold X12_oftenAt_b50 at hr
  refine ml_iload_n (pc := 50) dX12_oftenAt_50 rfl (mm_get_s (mm_get_s mm_get_0)) ?_
  refine mb_icmp_ne (pc := 51) 58 dX12_oftenAt_51 rfl hr (fun hr => ?_) (fun hr => ?_)
  · exact mg_weak (mm_le_s (mm_le_s (mm_le_s (mm_le_n (mm_le_s mm_le_0))))) (X12_oftenAt_b58_ok hz hd h0 hk5 hr)
  · refine mg_iconst (pc := 54) dX12_oftenAt_54 kc_1 ?_
    refine mg_goto (pc := 55) 59 dX12_oftenAt_55 rfl ?_
    exact mg_weak (mm_le_s (mm_le_s (mm_le_s (mm_le_n (mm_le_s mm_le_0))))) (X12_oftenAt_b59_ok hz hd h0 hk5 hr)
def X12_oftenAt_L5 (e : mm_E) (a0 : Nat) (i1 : Int32) (i2 : Int32) : Nat → Int32 → Int32 → mm_V → Option (Int32 × mm_V)
  | 0, _, _, _ => none
  | n + 1, i3, i4, m => (mm_gi e.1 m 12 75 a0 48).bind fun x1 => if x1 ≤ i4 then (some (i3, m)) else ((X12_did e a0 i4 (0 : Int32) m).bind fun r2 => if ¬ r2.1 = i1 then (X12_oftenAt_b58 e (X12_oftenAt_L5 e a0 i1 i2 n) a0 i1 i2 i4 i3 r2.2) else ((X12_did e a0 i4 (2 : Int32) r2.2).bind fun r3 => if (6 : Int32) ≤ r3.1 then (X12_oftenAt_b50 e (X12_oftenAt_L5 e a0 i1 i2 n) a0 i1 i2 i4 i3 (6 : Int32) r3.2) else ((X12_did e a0 i4 (2 : Int32) r3.2).bind fun r4 => X12_oftenAt_b50 e (X12_oftenAt_L5 e a0 i1 i2 n) a0 i1 i2 i4 i3 r4.1 r4.2)))
theorem X12_oftenAt_L5_ok {K : mm_K} {nx : Option Nat} {e : mm_E} (hz : e.2.1 = K.2.2.2.2) {d : Nat} (hd : 1 ≤ d) {a0 : Nat} {i1 : Int32} {i2 : Int32} (h0 : e.1 a0 = some (12, 75)) : ∀ (n : Nat) (i3 : Int32) (i4 : Int32) (m : mm_V) (r : (Int32 × mm_V)), X12_oftenAt_L5 e a0 i1 i2 n i3 i4 m = some r → mm_G K MX12_oftenAt d (mm_Fi e.1 nx r) 5 [some (.ref a0), some (.int i1), some (.int i2), some (.int i3), some (.int i4)] [] (e.1, m) nx 0 0 := by
  obtain ⟨d, rfl⟩ : ∃ d', d = d' + 1 := ⟨d - 1, by omega⟩
  intro n
  induction n with
  | zero => intro i3 i4 m r hr; unfold X12_oftenAt_L5 at hr; cases hr
  | succ n ih =>
    intro i3 i4 m r hr
    unfold X12_oftenAt_L5 at hr
    refine ml_iload (pc := 5) dX12_oftenAt_5 (mm_get_s (mm_get_s (mm_get_s (mm_get_s mm_get_0)))) ?_
    refine ml_aload_n (pc := 7) dX12_oftenAt_7 rfl mm_get_0 ?_
    refine mb_gi (pc := 8) dX12_oftenAt_8 fl_X12_365 hr (fun x1 hr => ?_)
    refine mb_icmp_ge (pc := 11) 67 dX12_oftenAt_11 rfl hr (fun hr => ?_) (fun hr => ?_)
    · refine ml_iload_n (pc := 67) dX12_oftenAt_67 rfl (mm_get_s (mm_get_s (mm_get_s mm_get_0))) ?_
      exact mb_iret dX12_oftenAt_68 rfl hr
    · refine ml_iload_n (pc := 14) dX12_oftenAt_14 rfl (mm_get_s (mm_get_s (mm_get_s mm_get_0))) ?_
      refine ml_aload_n (pc := 15) dX12_oftenAt_15 rfl mm_get_0 ?_
      refine ml_iload (pc := 16) dX12_oftenAt_16 (mm_get_s (mm_get_s (mm_get_s (mm_get_s mm_get_0)))) ?_
      refine mg_iconst (pc := 18) dX12_oftenAt_18 kc_0 ?_
      refine mb_cVi (pc := 19) (As := [.int i4, .int (0 : Int32)]) (rest := [.int i3]) dX12_oftenAt_19 cw_X12_419 h0 hr (fun v hv => X12_did_ok hz (by omega) h0 hv) rfl (Nat.le_of_ble_eq_true rfl) (Nat.zero_le _) (Nat.zero_le _) (fun r2 hr => ?_)
      refine ml_iload_n (pc := 22) dX12_oftenAt_22 rfl (mm_get_s mm_get_0) ?_
      refine mb_icmp_ne (pc := 23) 58 dX12_oftenAt_23 rfl hr (fun hr => ?_) (fun hr => ?_)
      · exact mg_weak (mm_le_s (mm_le_s (mm_le_s (mm_le_n (mm_le_s mm_le_0))))) (X12_oftenAt_b58_ok hz hd h0 ih hr)
      · refine ml_aload_n (pc := 26) dX12_oftenAt_26 rfl mm_get_0 ?_
        refine ml_iload (pc := 27) dX12_oftenAt_27 (mm_get_s (mm_get_s (mm_get_s (mm_get_s mm_get_0)))) ?_
        refine mg_iconst (pc := 29) dX12_oftenAt_29 kc_2 ?_
        refine mb_cVi (pc := 30) (As := [.int i4, .int (2 : Int32)]) (rest := [.int i3]) dX12_oftenAt_30 cw_X12_419 h0 hr (fun v hv => X12_did_ok hz (by omega) h0 hv) rfl (Nat.le_of_ble_eq_true rfl) (Nat.zero_le _) (Nat.zero_le _) (fun r3 hr => ?_)
        refine mg_bipush (pc := 33) dX12_oftenAt_33 kb_6 ?_
        refine mb_icmp_ge (pc := 35) 48 dX12_oftenAt_35 rfl hr (fun hr => ?_) (fun hr => ?_)
        · refine mg_bipush (pc := 48) dX12_oftenAt_48 kb_6 ?_
          exact mg_weak (mm_le_s (mm_le_s (mm_le_s (mm_le_n (mm_le_s mm_le_0))))) (X12_oftenAt_b50_ok hz hd h0 ih hr)
        · refine ml_aload_n (pc := 38) dX12_oftenAt_38 rfl mm_get_0 ?_
          refine ml_iload (pc := 39) dX12_oftenAt_39 (mm_get_s (mm_get_s (mm_get_s (mm_get_s mm_get_0)))) ?_
          refine mg_iconst (pc := 41) dX12_oftenAt_41 kc_2 ?_
          refine mb_cVi (pc := 42) (As := [.int i4, .int (2 : Int32)]) (rest := [.int i3]) dX12_oftenAt_42 cw_X12_419 h0 hr (fun v hv => X12_did_ok hz (by omega) h0 hv) rfl (Nat.le_of_ble_eq_true rfl) (Nat.zero_le _) (Nat.zero_le _) (fun r4 hr => ?_)
          refine mg_goto (pc := 45) 50 dX12_oftenAt_45 rfl ?_
          exact mg_weak (mm_le_s (mm_le_s (mm_le_s (mm_le_n (mm_le_s mm_le_0))))) (X12_oftenAt_b50_ok hz hd h0 ih hr)
def X12_oftenAt (e : mm_E) (a0 : Nat) (i1 : Int32) (i2 : Int32) (m : mm_V) : Option (Int32 × mm_V) := X12_oftenAt_L5 e a0 i1 i2 e.2.2 (0 : Int32) (0 : Int32) m
theorem X12_oftenAt_ok {K : mm_K} {nx : Option Nat} {e : mm_E} (hz : e.2.1 = K.2.2.2.2) {d : Nat} (hd : 1 ≤ d) {a0 : Nat} {i1 : Int32} {i2 : Int32} (h0 : e.1 a0 = some (12, 75)) {m : mm_V} {r : (Int32 × mm_V)} (hr : X12_oftenAt e a0 i1 i2 m = some r) : mm_Cn K MX12_oftenAt d (mm_Fi e.1 nx r) [.ref a0, .int i1, .int i2] (e.1, m) nx := by
  obtain ⟨d, rfl⟩ : ∃ d', d = d' + 1 := ⟨d - 1, by omega⟩
  refine mm_entry (by decide) (Nat.le_of_ble_eq_true rfl) rfl (fun hok => ?_)
  unfold X12_oftenAt at hr
  refine mg_weak (L' := [some (.ref a0), some (.int i1), some (.int i2), none, none]) (mm_le_s (mm_le_s (mm_le_s (mm_le_e (mm_le_e mm_le_0))))) ?_
  refine mg_iconst (pc := 0) dX12_oftenAt_0 kc_0 ?_
  refine ml_istore_n (pc := 1) dX12_oftenAt_1 rfl (Nat.le_of_ble_eq_true rfl) (mm_st1_s (mm_st1_s mm_st1_i)) ?_
  refine mg_iconst (pc := 2) dX12_oftenAt_2 kc_0 ?_
  refine ml_istore (pc := 3) dX12_oftenAt_3 (Nat.le_of_ble_eq_true rfl) (mm_st1_s (mm_st1_s (mm_st1_s mm_st1_i))) ?_
  exact mg_weak (mm_le_s (mm_le_s (mm_le_s (mm_le_s (mm_le_s mm_le_0))))) (X12_oftenAt_L5_ok hz hd h0 _ _ _ _ _ hr)
theorem dX12_habit_0 : decode cX12_habit 0 = .ok (.aload_n 0, 1) := by decide +kernel
theorem dX12_habit_1 : decode cX12_habit 1 = .ok (.iconst 0, 1) := by decide +kernel
theorem dX12_habit_2 : decode cX12_habit 2 = .ok (.putfield 152, 3) := by decide +kernel
theorem dX12_habit_5 : decode cX12_habit 5 = .ok (.aload_n 0, 1) := by decide +kernel
theorem dX12_habit_6 : decode cX12_habit 6 = .ok (.iload_n 1, 1) := by decide +kernel
theorem dX12_habit_7 : decode cX12_habit 7 = .ok (.invokevirtual 376, 3) := by decide +kernel
theorem dX12_habit_10 : decode cX12_habit 10 = .ok (.ifCond .eq 13, 3) := by decide +kernel
theorem dX12_habit_13 : decode cX12_habit 13 = .ok (.aload_n 0, 1) := by decide +kernel
theorem dX12_habit_14 : decode cX12_habit 14 = .ok (.iload_n 2, 1) := by decide +kernel
theorem dX12_habit_15 : decode cX12_habit 15 = .ok (.bipush 9, 2) := by decide +kernel
theorem dX12_habit_17 : decode cX12_habit 17 = .ok (.invokevirtual 393, 3) := by decide +kernel
theorem dX12_habit_20 : decode cX12_habit 20 = .ok (.ifCond .ne 5, 3) := by decide +kernel
theorem dX12_habit_23 : decode cX12_habit 23 = .ok (.iconst 0, 1) := by decide +kernel
theorem dX12_habit_24 : decode cX12_habit 24 = .ok (.ireturn, 1) := by decide +kernel
theorem dX12_habit_25 : decode cX12_habit 25 = .ok (.iload_n 2, 1) := by decide +kernel
theorem dX12_habit_26 : decode cX12_habit 26 = .ok (.bipush 7, 2) := by decide +kernel
theorem dX12_habit_28 : decode cX12_habit 28 = .ok (.if_icmp .ge 10, 3) := by decide +kernel
theorem dX12_habit_31 : decode cX12_habit 31 = .ok (.aload_n 0, 1) := by decide +kernel
theorem dX12_habit_32 : decode cX12_habit 32 = .ok (.iload_n 1, 1) := by decide +kernel
theorem dX12_habit_33 : decode cX12_habit 33 = .ok (.iload_n 2, 1) := by decide +kernel
theorem dX12_habit_34 : decode cX12_habit 34 = .ok (.invokevirtual 470, 3) := by decide +kernel
theorem dX12_habit_37 : decode cX12_habit 37 = .ok (.ireturn, 1) := by decide +kernel
theorem dX12_habit_38 : decode cX12_habit 38 = .ok (.iload_n 2, 1) := by decide +kernel
theorem dX12_habit_39 : decode cX12_habit 39 = .ok (.bipush 7, 2) := by decide +kernel
theorem dX12_habit_41 : decode cX12_habit 41 = .ok (.if_icmp .ne 51, 3) := by decide +kernel
theorem dX12_habit_44 : decode cX12_habit 44 = .ok (.iconst (-1), 1) := by decide +kernel
theorem dX12_habit_45 : decode cX12_habit 45 = .ok (.istore_n 3, 1) := by decide +kernel
theorem dX12_habit_46 : decode cX12_habit 46 = .ok (.iconst 0, 1) := by decide +kernel
theorem dX12_habit_47 : decode cX12_habit 47 = .ok (.istore 4, 2) := by decide +kernel
theorem dX12_habit_49 : decode cX12_habit 49 = .ok (.iload 4, 2) := by decide +kernel
theorem dX12_habit_51 : decode cX12_habit 51 = .ok (.bipush 7, 2) := by decide +kernel
theorem dX12_habit_53 : decode cX12_habit 53 = .ok (.if_icmp .ge 37, 3) := by decide +kernel
theorem dX12_habit_56 : decode cX12_habit 56 = .ok (.aload_n 0, 1) := by decide +kernel
theorem dX12_habit_57 : decode cX12_habit 57 = .ok (.iload_n 1, 1) := by decide +kernel
theorem dX12_habit_58 : decode cX12_habit 58 = .ok (.iload 4, 2) := by decide +kernel
theorem dX12_habit_60 : decode cX12_habit 60 = .ok (.invokevirtual 470, 3) := by decide +kernel
theorem dX12_habit_63 : decode cX12_habit 63 = .ok (.iload_n 3, 1) := by decide +kernel
theorem dX12_habit_64 : decode cX12_habit 64 = .ok (.iconst (-1), 1) := by decide +kernel
theorem dX12_habit_65 : decode cX12_habit 65 = .ok (.if_icmp .ne 7, 3) := by decide +kernel
theorem dX12_habit_68 : decode cX12_habit 68 = .ok (.iconst 0, 1) := by decide +kernel
theorem dX12_habit_69 : decode cX12_habit 69 = .ok (.goto 9, 3) := by decide +kernel
theorem dX12_habit_72 : decode cX12_habit 72 = .ok (.aload_n 0, 1) := by decide +kernel
theorem dX12_habit_73 : decode cX12_habit 73 = .ok (.iload_n 1, 1) := by decide +kernel
theorem dX12_habit_74 : decode cX12_habit 74 = .ok (.iload_n 3, 1) := by decide +kernel
theorem dX12_habit_75 : decode cX12_habit 75 = .ok (.invokevirtual 470, 3) := by decide +kernel
theorem dX12_habit_78 : decode cX12_habit 78 = .ok (.if_icmp .le 6, 3) := by decide +kernel
theorem dX12_habit_81 : decode cX12_habit 81 = .ok (.iload 4, 2) := by decide +kernel
theorem dX12_habit_83 : decode cX12_habit 83 = .ok (.istore_n 3, 1) := by decide +kernel
theorem dX12_habit_84 : decode cX12_habit 84 = .ok (.iinc 4 1, 3) := by decide +kernel
theorem dX12_habit_87 : decode cX12_habit 87 = .ok (.goto (-38), 3) := by decide +kernel
theorem dX12_habit_90 : decode cX12_habit 90 = .ok (.iload_n 3, 1) := by decide +kernel
theorem dX12_habit_91 : decode cX12_habit 91 = .ok (.ireturn, 1) := by decide +kernel
theorem dX12_habit_92 : decode cX12_habit 92 = .ok (.iconst 0, 1) := by decide +kernel
theorem dX12_habit_93 : decode cX12_habit 93 = .ok (.istore_n 3, 1) := by decide +kernel
theorem dX12_habit_94 : decode cX12_habit 94 = .ok (.iconst 0, 1) := by decide +kernel
theorem dX12_habit_95 : decode cX12_habit 95 = .ok (.istore 4, 2) := by decide +kernel
theorem dX12_habit_97 : decode cX12_habit 97 = .ok (.iload 4, 2) := by decide +kernel
theorem dX12_habit_99 : decode cX12_habit 99 = .ok (.aload_n 0, 1) := by decide +kernel
theorem dX12_habit_100 : decode cX12_habit 100 = .ok (.getfield 365, 3) := by decide +kernel
theorem dX12_habit_103 : decode cX12_habit 103 = .ok (.if_icmp .ge 56, 3) := by decide +kernel
theorem dX12_habit_106 : decode cX12_habit 106 = .ok (.iload_n 3, 1) := by decide +kernel
theorem dX12_habit_107 : decode cX12_habit 107 = .ok (.aload_n 0, 1) := by decide +kernel
theorem dX12_habit_108 : decode cX12_habit 108 = .ok (.iload 4, 2) := by decide +kernel
theorem dX12_habit_110 : decode cX12_habit 110 = .ok (.iconst 1, 1) := by decide +kernel
theorem dX12_habit_111 : decode cX12_habit 111 = .ok (.invokevirtual 419, 3) := by decide +kernel
theorem dX12_habit_114 : decode cX12_habit 114 = .ok (.iload_n 1, 1) := by decide +kernel
theorem dX12_habit_115 : decode cX12_habit 115 = .ok (.if_icmp .ne 35, 3) := by decide +kernel
theorem dX12_habit_118 : decode cX12_habit 118 = .ok (.aload_n 0, 1) := by decide +kernel
theorem dX12_habit_119 : decode cX12_habit 119 = .ok (.iload 4, 2) := by decide +kernel
theorem dX12_habit_121 : decode cX12_habit 121 = .ok (.bipush 8, 2) := by decide +kernel
theorem dX12_habit_123 : decode cX12_habit 123 = .ok (.invokevirtual 419, 3) := by decide +kernel
theorem dX12_habit_126 : decode cX12_habit 126 = .ok (.iconst 1, 1) := by decide +kernel
theorem dX12_habit_127 : decode cX12_habit 127 = .ok (.if_icmp .ne 23, 3) := by decide +kernel
theorem dX12_habit_130 : decode cX12_habit 130 = .ok (.iload_n 2, 1) := by decide +kernel
theorem dX12_habit_131 : decode cX12_habit 131 = .ok (.bipush 8, 2) := by decide +kernel
theorem dX12_habit_133 : decode cX12_habit 133 = .ok (.if_icmp .eq 13, 3) := by decide +kernel
theorem dX12_habit_136 : decode cX12_habit 136 = .ok (.aload_n 0, 1) := by decide +kernel
theorem dX12_habit_137 : decode cX12_habit 137 = .ok (.iload 4, 2) := by decide +kernel
theorem dX12_habit_139 : decode cX12_habit 139 = .ok (.iconst 3, 1) := by decide +kernel
theorem dX12_habit_140 : decode cX12_habit 140 = .ok (.invokevirtual 419, 3) := by decide +kernel
theorem dX12_habit_143 : decode cX12_habit 143 = .ok (.ifCond .ne 7, 3) := by decide +kernel
theorem dX12_habit_146 : decode cX12_habit 146 = .ok (.iconst 1, 1) := by decide +kernel
theorem dX12_habit_147 : decode cX12_habit 147 = .ok (.goto 4, 3) := by decide +kernel
theorem dX12_habit_150 : decode cX12_habit 150 = .ok (.iconst 0, 1) := by decide +kernel
theorem dX12_habit_151 : decode cX12_habit 151 = .ok (.iadd, 1) := by decide +kernel
theorem dX12_habit_152 : decode cX12_habit 152 = .ok (.istore_n 3, 1) := by decide +kernel
theorem dX12_habit_153 : decode cX12_habit 153 = .ok (.iinc 4 1, 3) := by decide +kernel
theorem dX12_habit_156 : decode cX12_habit 156 = .ok (.goto (-59), 3) := by decide +kernel
theorem dX12_habit_159 : decode cX12_habit 159 = .ok (.iload_n 3, 1) := by decide +kernel
theorem dX12_habit_160 : decode cX12_habit 160 = .ok (.ireturn, 1) := by decide +kernel
def X12_habit_b151 (e : mm_E) (k97 : Int32 → Int32 → mm_V → Option (Int32 × mm_V)) (a0 : Nat) (i1 : Int32) (i2 : Int32) (i4 : Int32) (t0 : Int32) (t1 : Int32) (m : mm_V) : Option (Int32 × mm_V) := k97 (t0 + t1) (i4 + 1) m
theorem X12_habit_b151_ok {K : mm_K} {nx : Option Nat} {e : mm_E} (hz : e.2.1 = K.2.2.2.2) {d : Nat} (hd : 2 ≤ d) {a0 : Nat} {i1 : Int32} {i2 : Int32} {i4 : Int32} {t0 : Int32} {t1 : Int32} (h0 : e.1 a0 = some (12, 75)) {k97 : Int32 → Int32 → mm_V → Option (Int32 × mm_V)} (hk97 : ∀ (w3 : Int32) (w4 : Int32) (m : mm_V) (r : (Int32 × mm_V)), k97 w3 w4 m = some r → mm_G K MX12_habit d (mm_Fi e.1 nx r) 97 [some (.ref a0), some (.int i1), some (.int i2), some (.int w3), some (.int w4)] [] (e.1, m) nx 0 0) {m : mm_V} {r : (Int32 × mm_V)} (hr : X12_habit_b151 e k97 a0 i1 i2 i4 t0 t1 m = some r) : mm_G K MX12_habit d (mm_Fi e.1 nx r) 151 [some (.ref a0), some (.int i1), some (.int i2), none, some (.int i4)] [.int t1, .int t0] (e.1, m) nx 0 0 := by
  obtain ⟨d, rfl⟩ : ∃ d', d = d' + 1 := ⟨d - 1, by omega⟩
  unfold X12_habit_b151 at hr
  refine mg_iadd (pc := 151) dX12_habit_151 ?_
  refine ml_istore_n (pc := 152) dX12_habit_152 rfl (Nat.le_of_ble_eq_true rfl) (mm_st1_s (mm_st1_s mm_st1_i)) ?_
  refine ml_iinc (pc := 153) dX12_habit_153 (mm_get_s (mm_get_s (mm_get_s (mm_get_s mm_get_0)))) (congrArg (fun z => i4 + z) kc_1) (Nat.le_of_ble_eq_true rfl) (mm_st1_s (mm_st1_s (mm_st1_s mm_st1_i))) ?_
  refine mg_goto (pc := 156) 97 dX12_habit_156 rfl ?_
  exact mg_weak (mm_le_s (mm_le_s (mm_le_s (mm_le_s (mm_le_s mm_le_0))))) (hk97 _ _ _ _ hr)
def X12_habit_b150 (e : mm_E) (k97 : Int32 → Int32 → mm_V → Option (Int32 × mm_V)) (a0 : Nat) (i1 : Int32) (i2 : Int32) (i4 : Int32) (t0 : Int32) (m : mm_V) : Option (Int32 × mm_V) := X12_habit_b151 e k97 a0 i1 i2 i4 t0 (0 : Int32) m
theorem X12_habit_b150_ok {K : mm_K} {nx : Option Nat} {e : mm_E} (hz : e.2.1 = K.2.2.2.2) {d : Nat} (hd : 2 ≤ d) {a0 : Nat} {i1 : Int32} {i2 : Int32} {i4 : Int32} {t0 : Int32} (h0 : e.1 a0 = some (12, 75)) {k97 : Int32 → Int32 → mm_V → Option (Int32 × mm_V)} (hk97 : ∀ (w3 : Int32) (w4 : Int32) (m : mm_V) (r : (Int32 × mm_V)), k97 w3 w4 m = some r → mm_G K MX12_habit d (mm_Fi e.1 nx r) 97 [some (.ref a0), some (.int i1), some (.int i2), some (.int w3), some (.int w4)] [] (e.1, m) nx 0 0) {m : mm_V} {r : (Int32 × mm_V)} (hr : X12_habit_b150 e k97 a0 i1 i2 i4 t0 m = some r) : mm_G K MX12_habit d (mm_Fi e.1 nx r) 150 [some (.ref a0), some (.int i1), some (.int i2), none, some (.int i4)] [.int t0] (e.1, m) nx 0 0 := by
  obtain ⟨d, rfl⟩ : ∃ d', d = d' + 1 := ⟨d - 1, by omega⟩
  unfold X12_habit_b150 at hr
  refine mg_iconst (pc := 150) dX12_habit_150 kc_0 ?_
  exact mg_weak (mm_le_s (mm_le_s (mm_le_s (mm_le_n (mm_le_s mm_le_0))))) (X12_habit_b151_ok hz hd h0 hk97 hr)
def X12_habit_b146 (e : mm_E) (k97 : Int32 → Int32 → mm_V → Option (Int32 × mm_V)) (a0 : Nat) (i1 : Int32) (i2 : Int32) (i4 : Int32) (t0 : Int32) (m : mm_V) : Option (Int32 × mm_V) := X12_habit_b151 e k97 a0 i1 i2 i4 t0 (1 : Int32) m
theorem X12_habit_b146_ok {K : mm_K} {nx : Option Nat} {e : mm_E} (hz : e.2.1 = K.2.2.2.2) {d : Nat} (hd : 2 ≤ d) {a0 : Nat} {i1 : Int32} {i2 : Int32} {i4 : Int32} {t0 : Int32} (h0 : e.1 a0 = some (12, 75)) {k97 : Int32 → Int32 → mm_V → Option (Int32 × mm_V)} (hk97 : ∀ (w3 : Int32) (w4 : Int32) (m : mm_V) (r : (Int32 × mm_V)), k97 w3 w4 m = some r → mm_G K MX12_habit d (mm_Fi e.1 nx r) 97 [some (.ref a0), some (.int i1), some (.int i2), some (.int w3), some (.int w4)] [] (e.1, m) nx 0 0) {m : mm_V} {r : (Int32 × mm_V)} (hr : X12_habit_b146 e k97 a0 i1 i2 i4 t0 m = some r) : mm_G K MX12_habit d (mm_Fi e.1 nx r) 146 [some (.ref a0), some (.int i1), some (.int i2), none, some (.int i4)] [.int t0] (e.1, m) nx 0 0 := by
  obtain ⟨d, rfl⟩ : ∃ d', d = d' + 1 := ⟨d - 1, by omega⟩
  unfold X12_habit_b146 at hr
  refine mg_iconst (pc := 146) dX12_habit_146 kc_1 ?_
  refine mg_goto (pc := 147) 151 dX12_habit_147 rfl ?_
  exact mg_weak (mm_le_s (mm_le_s (mm_le_s (mm_le_n (mm_le_s mm_le_0))))) (X12_habit_b151_ok hz hd h0 hk97 hr)
def X12_habit_L97 (e : mm_E) (a0 : Nat) (i1 : Int32) (i2 : Int32) : Nat → Int32 → Int32 → mm_V → Option (Int32 × mm_V)
  | 0, _, _, _ => none
  | n + 1, i3, i4, m => (mm_gi e.1 m 12 75 a0 48).bind fun x1 => if x1 ≤ i4 then (some (i3, m)) else ((X12_did e a0 i4 (1 : Int32) m).bind fun r2 => if ¬ r2.1 = i1 then (X12_habit_b150 e (X12_habit_L97 e a0 i1 i2 n) a0 i1 i2 i4 i3 r2.2) else ((X12_did e a0 i4 (8 : Int32) r2.2).bind fun r3 => if ¬ r3.1 = (1 : Int32) then (X12_habit_b150 e (X12_habit_L97 e a0 i1 i2 n) a0 i1 i2 i4 i3 r3.2) else (if i2 = (8 : Int32) then (X12_habit_b146 e (X12_habit_L97 e a0 i1 i2 n) a0 i1 i2 i4 i3 r3.2) else ((X12_did e a0 i4 (3 : Int32) r3.2).bind fun r4 => if ¬ r4.1 = 0 then (X12_habit_b150 e (X12_habit_L97 e a0 i1 i2 n) a0 i1 i2 i4 i3 r4.2) else (X12_habit_b146 e (X12_habit_L97 e a0 i1 i2 n) a0 i1 i2 i4 i3 r4.2)))))
theorem X12_habit_L97_ok {K : mm_K} {nx : Option Nat} {e : mm_E} (hz : e.2.1 = K.2.2.2.2) {d : Nat} (hd : 2 ≤ d) {a0 : Nat} {i1 : Int32} {i2 : Int32} (h0 : e.1 a0 = some (12, 75)) : ∀ (n : Nat) (i3 : Int32) (i4 : Int32) (m : mm_V) (r : (Int32 × mm_V)), X12_habit_L97 e a0 i1 i2 n i3 i4 m = some r → mm_G K MX12_habit d (mm_Fi e.1 nx r) 97 [some (.ref a0), some (.int i1), some (.int i2), some (.int i3), some (.int i4)] [] (e.1, m) nx 0 0 := by
  obtain ⟨d, rfl⟩ : ∃ d', d = d' + 1 := ⟨d - 1, by omega⟩
  intro n
  induction n with
  | zero => intro i3 i4 m r hr; unfold X12_habit_L97 at hr; cases hr
  | succ n ih =>
    intro i3 i4 m r hr
    unfold X12_habit_L97 at hr
    refine ml_iload (pc := 97) dX12_habit_97 (mm_get_s (mm_get_s (mm_get_s (mm_get_s mm_get_0)))) ?_
    refine ml_aload_n (pc := 99) dX12_habit_99 rfl mm_get_0 ?_
    refine mb_gi (pc := 100) dX12_habit_100 fl_X12_365 hr (fun x1 hr => ?_)
    refine mb_icmp_ge (pc := 103) 159 dX12_habit_103 rfl hr (fun hr => ?_) (fun hr => ?_)
    · refine ml_iload_n (pc := 159) dX12_habit_159 rfl (mm_get_s (mm_get_s (mm_get_s mm_get_0))) ?_
      exact mb_iret dX12_habit_160 rfl hr
    · refine ml_iload_n (pc := 106) dX12_habit_106 rfl (mm_get_s (mm_get_s (mm_get_s mm_get_0))) ?_
      refine ml_aload_n (pc := 107) dX12_habit_107 rfl mm_get_0 ?_
      refine ml_iload (pc := 108) dX12_habit_108 (mm_get_s (mm_get_s (mm_get_s (mm_get_s mm_get_0)))) ?_
      refine mg_iconst (pc := 110) dX12_habit_110 kc_1 ?_
      refine mb_cVi (pc := 111) (As := [.int i4, .int (1 : Int32)]) (rest := [.int i3]) dX12_habit_111 cw_X12_419 h0 hr (fun v hv => X12_did_ok hz (by omega) h0 hv) rfl (Nat.le_of_ble_eq_true rfl) (Nat.zero_le _) (Nat.zero_le _) (fun r2 hr => ?_)
      refine ml_iload_n (pc := 114) dX12_habit_114 rfl (mm_get_s mm_get_0) ?_
      refine mb_icmp_ne (pc := 115) 150 dX12_habit_115 rfl hr (fun hr => ?_) (fun hr => ?_)
      · exact mg_weak (mm_le_s (mm_le_s (mm_le_s (mm_le_n (mm_le_s mm_le_0))))) (X12_habit_b150_ok hz hd h0 ih hr)
      · refine ml_aload_n (pc := 118) dX12_habit_118 rfl mm_get_0 ?_
        refine ml_iload (pc := 119) dX12_habit_119 (mm_get_s (mm_get_s (mm_get_s (mm_get_s mm_get_0)))) ?_
        refine mg_bipush (pc := 121) dX12_habit_121 kb_8 ?_
        refine mb_cVi (pc := 123) (As := [.int i4, .int (8 : Int32)]) (rest := [.int i3]) dX12_habit_123 cw_X12_419 h0 hr (fun v hv => X12_did_ok hz (by omega) h0 hv) rfl (Nat.le_of_ble_eq_true rfl) (Nat.zero_le _) (Nat.zero_le _) (fun r3 hr => ?_)
        refine mg_iconst (pc := 126) dX12_habit_126 kc_1 ?_
        refine mb_icmp_ne (pc := 127) 150 dX12_habit_127 rfl hr (fun hr => ?_) (fun hr => ?_)
        · exact mg_weak (mm_le_s (mm_le_s (mm_le_s (mm_le_n (mm_le_s mm_le_0))))) (X12_habit_b150_ok hz hd h0 ih hr)
        · refine ml_iload_n (pc := 130) dX12_habit_130 rfl (mm_get_s (mm_get_s mm_get_0)) ?_
          refine mg_bipush (pc := 131) dX12_habit_131 kb_8 ?_
          refine mb_icmp_eq (pc := 133) 146 dX12_habit_133 rfl hr (fun hr => ?_) (fun hr => ?_)
          · exact mg_weak (mm_le_s (mm_le_s (mm_le_s (mm_le_n (mm_le_s mm_le_0))))) (X12_habit_b146_ok hz hd h0 ih hr)
          · refine ml_aload_n (pc := 136) dX12_habit_136 rfl mm_get_0 ?_
            refine ml_iload (pc := 137) dX12_habit_137 (mm_get_s (mm_get_s (mm_get_s (mm_get_s mm_get_0)))) ?_
            refine mg_iconst (pc := 139) dX12_habit_139 kc_3 ?_
            refine mb_cVi (pc := 140) (As := [.int i4, .int (3 : Int32)]) (rest := [.int i3]) dX12_habit_140 cw_X12_419 h0 hr (fun v hv => X12_did_ok hz (by omega) h0 hv) rfl (Nat.le_of_ble_eq_true rfl) (Nat.zero_le _) (Nat.zero_le _) (fun r4 hr => ?_)
            refine mb_if_ne (pc := 143) 150 dX12_habit_143 rfl hr (fun hr => ?_) (fun hr => ?_)
            · exact mg_weak (mm_le_s (mm_le_s (mm_le_s (mm_le_n (mm_le_s mm_le_0))))) (X12_habit_b150_ok hz hd h0 ih hr)
            · exact mg_weak (mm_le_s (mm_le_s (mm_le_s (mm_le_n (mm_le_s mm_le_0))))) (X12_habit_b146_ok hz hd h0 ih hr)
def X12_habit_b84 (e : mm_E) (k49 : Int32 → Int32 → mm_V → Option (Int32 × mm_V)) (a0 : Nat) (i1 : Int32) (i3 : Int32) (i4 : Int32) (m : mm_V) : Option (Int32 × mm_V) := k49 i3 (i4 + 1) m
theorem X12_habit_b84_ok {K : mm_K} {nx : Option Nat} {e : mm_E} (hz : e.2.1 = K.2.2.2.2) {d : Nat} (hd : 2 ≤ d) {a0 : Nat} {i1 : Int32} {i3 : Int32} {i4 : Int32} (h0 : e.1 a0 = some (12, 75)) {k49 : Int32 → Int32 → mm_V → Option (Int32 × mm_V)} (hk49 : ∀ (w3 : Int32) (w4 : Int32) (m : mm_V) (r : (Int32 × mm_V)), k49 w3 w4 m = some r → mm_G K MX12_habit d (mm_Fi e.1 nx r) 49 [some (.ref a0), some (.int i1), none, some (.int w3), some (.int w4)] [] (e.1, m) nx 0 0) {m : mm_V} {r : (Int32 × mm_V)} (hr : X12_habit_b84 e k49 a0 i1 i3 i4 m = some r) : mm_G K MX12_habit d (mm_Fi e.1 nx r) 84 [some (.ref a0), some (.int i1), none, some (.int i3), some (.int i4)] [] (e.1, m) nx 0 0 := by
  obtain ⟨d, rfl⟩ : ∃ d', d = d' + 1 := ⟨d - 1, by omega⟩
  unfold X12_habit_b84 at hr
  refine ml_iinc (pc := 84) dX12_habit_84 (mm_get_s (mm_get_s (mm_get_s (mm_get_s mm_get_0)))) (congrArg (fun z => i4 + z) kc_1) (Nat.le_of_ble_eq_true rfl) (mm_st1_s (mm_st1_s (mm_st1_s mm_st1_i))) ?_
  refine mg_goto (pc := 87) 49 dX12_habit_87 rfl ?_
  exact mg_weak (mm_le_s (mm_le_s (mm_le_n (mm_le_s (mm_le_s mm_le_0))))) (hk49 _ _ _ _ hr)
def X12_habit_b78 (e : mm_E) (k49 : Int32 → Int32 → mm_V → Option (Int32 × mm_V)) (a0 : Nat) (i1 : Int32) (i3 : Int32) (i4 : Int32) (t0 : Int32) (t1 : Int32) (m : mm_V) : Option (Int32 × mm_V) := if t0 ≤ t1 then (X12_habit_b84 e k49 a0 i1 i3 i4  m) else (X12_habit_b84 e k49 a0 i1 i4 i4  m)
theorem X12_habit_b78_ok {K : mm_K} {nx : Option Nat} {e : mm_E} (hz : e.2.1 = K.2.2.2.2) {d : Nat} (hd : 2 ≤ d) {a0 : Nat} {i1 : Int32} {i3 : Int32} {i4 : Int32} {t0 : Int32} {t1 : Int32} (h0 : e.1 a0 = some (12, 75)) {k49 : Int32 → Int32 → mm_V → Option (Int32 × mm_V)} (hk49 : ∀ (w3 : Int32) (w4 : Int32) (m : mm_V) (r : (Int32 × mm_V)), k49 w3 w4 m = some r → mm_G K MX12_habit d (mm_Fi e.1 nx r) 49 [some (.ref a0), some (.int i1), none, some (.int w3), some (.int w4)] [] (e.1, m) nx 0 0) {m : mm_V} {r : (Int32 × mm_V)} (hr : X12_habit_b78 e k49 a0 i1 i3 i4 t0 t1 m = some r) : mm_G K MX12_habit d (mm_Fi e.1 nx r) 78 [some (.ref a0), some (.int i1), none, some (.int i3), some (.int i4)] [.int t1, .int t0] (e.1, m) nx 0 0 := by
  obtain ⟨d, rfl⟩ : ∃ d', d = d' + 1 := ⟨d - 1, by omega⟩
  unfold X12_habit_b78 at hr
  refine mb_icmp_le (pc := 78) 84 dX12_habit_78 rfl hr (fun hr => ?_) (fun hr => ?_)
  · exact mg_weak (mm_le_s (mm_le_s (mm_le_n (mm_le_s (mm_le_s mm_le_0))))) (X12_habit_b84_ok hz hd h0 hk49 hr)
  · refine ml_iload (pc := 81) dX12_habit_81 (mm_get_s (mm_get_s (mm_get_s (mm_get_s mm_get_0)))) ?_
    refine ml_istore_n (pc := 83) dX12_habit_83 rfl (Nat.le_of_ble_eq_true rfl) (mm_st1_s (mm_st1_s mm_st1_n)) ?_
    exact mg_weak (mm_le_s (mm_le_s (mm_le_n (mm_le_s (mm_le_s mm_le_0))))) (X12_habit_b84_ok hz hd h0 hk49 hr)
def X12_habit_L49 (e : mm_E) (a0 : Nat) (i1 : Int32) : Nat → Int32 → Int32 → mm_V → Option (Int32 × mm_V)
  | 0, _, _, _ => none
  | n + 1, i3, i4, m => if (7 : Int32) ≤ i4 then (some (i3, m)) else ((X12_oftenAt e a0 i1 i4 m).bind fun r1 => if ¬ i3 = (-1 : Int32) then ((X12_oftenAt e a0 i1 i3 r1.2).bind fun r2 => X12_habit_b78 e (X12_habit_L49 e a0 i1 n) a0 i1 i3 i4 r1.1 r2.1 r2.2) else (X12_habit_b78 e (X12_habit_L49 e a0 i1 n) a0 i1 i3 i4 r1.1 (0 : Int32) r1.2))
theorem X12_habit_L49_ok {K : mm_K} {nx : Option Nat} {e : mm_E} (hz : e.2.1 = K.2.2.2.2) {d : Nat} (hd : 2 ≤ d) {a0 : Nat} {i1 : Int32} (h0 : e.1 a0 = some (12, 75)) : ∀ (n : Nat) (i3 : Int32) (i4 : Int32) (m : mm_V) (r : (Int32 × mm_V)), X12_habit_L49 e a0 i1 n i3 i4 m = some r → mm_G K MX12_habit d (mm_Fi e.1 nx r) 49 [some (.ref a0), some (.int i1), none, some (.int i3), some (.int i4)] [] (e.1, m) nx 0 0 := by
  obtain ⟨d, rfl⟩ : ∃ d', d = d' + 1 := ⟨d - 1, by omega⟩
  intro n
  induction n with
  | zero => intro i3 i4 m r hr; unfold X12_habit_L49 at hr; cases hr
  | succ n ih =>
    intro i3 i4 m r hr
    unfold X12_habit_L49 at hr
    refine ml_iload (pc := 49) dX12_habit_49 (mm_get_s (mm_get_s (mm_get_s (mm_get_s mm_get_0)))) ?_
    refine mg_bipush (pc := 51) dX12_habit_51 kb_7 ?_
    refine mb_icmp_ge (pc := 53) 90 dX12_habit_53 rfl hr (fun hr => ?_) (fun hr => ?_)
    · refine ml_iload_n (pc := 90) dX12_habit_90 rfl (mm_get_s (mm_get_s (mm_get_s mm_get_0))) ?_
      exact mb_iret dX12_habit_91 rfl hr
    · refine ml_aload_n (pc := 56) dX12_habit_56 rfl mm_get_0 ?_
      refine ml_iload_n (pc := 57) dX12_habit_57 rfl (mm_get_s mm_get_0) ?_
      refine ml_iload (pc := 58) dX12_habit_58 (mm_get_s (mm_get_s (mm_get_s (mm_get_s mm_get_0)))) ?_
      refine mb_cVi (pc := 60) (As := [.int i1, .int i4]) (rest := []) dX12_habit_60 cw_X12_470 h0 hr (fun v hv => X12_oftenAt_ok hz (by omega) h0 hv) rfl (Nat.le_of_ble_eq_true rfl) (Nat.zero_le _) (Nat.zero_le _) (fun r1 hr => ?_)
      refine ml_iload_n (pc := 63) dX12_habit_63 rfl (mm_get_s (mm_get_s (mm_get_s mm_get_0))) ?_
      refine mg_iconst (pc := 64) dX12_habit_64 kc_m1 ?_
      refine mb_icmp_ne (pc := 65) 72 dX12_habit_65 rfl hr (fun hr => ?_) (fun hr => ?_)
      · refine ml_aload_n (pc := 72) dX12_habit_72 rfl mm_get_0 ?_
        refine ml_iload_n (pc := 73) dX12_habit_73 rfl (mm_get_s mm_get_0) ?_
        refine ml_iload_n (pc := 74) dX12_habit_74 rfl (mm_get_s (mm_get_s (mm_get_s mm_get_0))) ?_
        refine mb_cVi (pc := 75) (As := [.int i1, .int i3]) (rest := [.int r1.1]) dX12_habit_75 cw_X12_470 h0 hr (fun v hv => X12_oftenAt_ok hz (by omega) h0 hv) rfl (Nat.le_of_ble_eq_true rfl) (Nat.zero_le _) (Nat.zero_le _) (fun r2 hr => ?_)
        exact mg_weak (mm_le_s (mm_le_s (mm_le_n (mm_le_s (mm_le_s mm_le_0))))) (X12_habit_b78_ok hz hd h0 ih hr)
      · refine mg_iconst (pc := 68) dX12_habit_68 kc_0 ?_
        refine mg_goto (pc := 69) 78 dX12_habit_69 rfl ?_
        exact mg_weak (mm_le_s (mm_le_s (mm_le_n (mm_le_s (mm_le_s mm_le_0))))) (X12_habit_b78_ok hz hd h0 ih hr)
def X12_habit_b23 (e : mm_E) (m : mm_V) : Option (Int32 × mm_V) := some ((0 : Int32), m)
theorem X12_habit_b23_ok {K : mm_K} {nx : Option Nat} {e : mm_E} (hz : e.2.1 = K.2.2.2.2) {d : Nat} (hd : 2 ≤ d) {a0 : Nat} (h0 : e.1 a0 = some (12, 75)) {m : mm_V} {r : (Int32 × mm_V)} (hr : X12_habit_b23 e m = some r) : mm_G K MX12_habit d (mm_Fi e.1 nx r) 23 [none, none, none, none, none] [] (e.1, m) nx 0 0 := by
  obtain ⟨d, rfl⟩ : ∃ d', d = d' + 1 := ⟨d - 1, by omega⟩
  unfold X12_habit_b23 at hr
  refine mg_iconst (pc := 23) dX12_habit_23 kc_0 ?_
  exact mb_iret dX12_habit_24 rfl hr
def X12_habit (e : mm_E) (a0 : Nat) (i1 : Int32) (i2 : Int32) (m : mm_V) : Option (Int32 × mm_V) := (mm_pf e.1 m 12 75 a0 0 (.int (0 : Int32))).bind fun m1 => (X12_isPerson e a0 i1 m1).bind fun r2 => if r2.1 = 0 then (X12_habit_b23 e   r2.2) else ((X12_isWhat e a0 i2 (9 : Int32) r2.2).bind fun r3 => if ¬ r3.1 = 0 then (if (7 : Int32) ≤ i2 then (if ¬ i2 = (7 : Int32) then (X12_habit_L97 e a0 i1 i2 e.2.2 (0 : Int32) (0 : Int32) r3.2) else (X12_habit_L49 e a0 i1 e.2.2 (-1 : Int32) (0 : Int32) r3.2)) else ((X12_oftenAt e a0 i1 i2 r3.2).bind fun r4 => some (r4.1, r4.2))) else (X12_habit_b23 e   r3.2))
theorem X12_habit_ok {K : mm_K} {nx : Option Nat} {e : mm_E} (hz : e.2.1 = K.2.2.2.2) {d : Nat} (hd : 2 ≤ d) {a0 : Nat} {i1 : Int32} {i2 : Int32} (h0 : e.1 a0 = some (12, 75)) {m : mm_V} {r : (Int32 × mm_V)} (hr : X12_habit e a0 i1 i2 m = some r) : mm_Cn K MX12_habit d (mm_Fi e.1 nx r) [.ref a0, .int i1, .int i2] (e.1, m) nx := by
  obtain ⟨d, rfl⟩ : ∃ d', d = d' + 1 := ⟨d - 1, by omega⟩
  refine mm_entry (by decide) (Nat.le_of_ble_eq_true rfl) rfl (fun hok => ?_)
  unfold X12_habit at hr
  refine mg_weak (L' := [some (.ref a0), some (.int i1), some (.int i2), none, none]) (mm_le_s (mm_le_s (mm_le_s (mm_le_e (mm_le_e mm_le_0))))) ?_
  refine ml_aload_n (pc := 0) dX12_habit_0 rfl mm_get_0 ?_
  refine mg_iconst (pc := 1) dX12_habit_1 kc_0 ?_
  refine mb_pi (pc := 2) dX12_habit_2 fp_X12_152 hr (fun m1 hr => ?_)
  refine ml_aload_n (pc := 5) dX12_habit_5 rfl mm_get_0 ?_
  refine ml_iload_n (pc := 6) dX12_habit_6 rfl (mm_get_s mm_get_0) ?_
  refine mb_cVi (pc := 7) (As := [.int i1]) (rest := []) dX12_habit_7 cw_X12_376 h0 hr (fun v hv => X12_isPerson_ok hz (by omega) h0 hv) rfl (Nat.le_of_ble_eq_true rfl) (Nat.zero_le _) (Nat.zero_le _) (fun r2 hr => ?_)
  refine mb_if_eq (pc := 10) 23 dX12_habit_10 rfl hr (fun hr => ?_) (fun hr => ?_)
  · exact mg_weak (mm_le_n (mm_le_n (mm_le_n (mm_le_n (mm_le_n mm_le_0))))) (X12_habit_b23_ok hz hd h0 hr)
  · refine ml_aload_n (pc := 13) dX12_habit_13 rfl mm_get_0 ?_
    refine ml_iload_n (pc := 14) dX12_habit_14 rfl (mm_get_s (mm_get_s mm_get_0)) ?_
    refine mg_bipush (pc := 15) dX12_habit_15 kb_9 ?_
    refine mb_cVi (pc := 17) (As := [.int i2, .int (9 : Int32)]) (rest := []) dX12_habit_17 cw_X12_393 h0 hr (fun v hv => X12_isWhat_ok hz (by omega) h0 hv) rfl (Nat.le_of_ble_eq_true rfl) (Nat.zero_le _) (Nat.zero_le _) (fun r3 hr => ?_)
    refine mb_if_ne (pc := 20) 25 dX12_habit_20 rfl hr (fun hr => ?_) (fun hr => ?_)
    · refine ml_iload_n (pc := 25) dX12_habit_25 rfl (mm_get_s (mm_get_s mm_get_0)) ?_
      refine mg_bipush (pc := 26) dX12_habit_26 kb_7 ?_
      refine mb_icmp_ge (pc := 28) 38 dX12_habit_28 rfl hr (fun hr => ?_) (fun hr => ?_)
      · refine ml_iload_n (pc := 38) dX12_habit_38 rfl (mm_get_s (mm_get_s mm_get_0)) ?_
        refine mg_bipush (pc := 39) dX12_habit_39 kb_7 ?_
        refine mb_icmp_ne (pc := 41) 92 dX12_habit_41 rfl hr (fun hr => ?_) (fun hr => ?_)
        · refine mg_iconst (pc := 92) dX12_habit_92 kc_0 ?_
          refine ml_istore_n (pc := 93) dX12_habit_93 rfl (Nat.le_of_ble_eq_true rfl) (mm_st1_s (mm_st1_s mm_st1_i)) ?_
          refine mg_iconst (pc := 94) dX12_habit_94 kc_0 ?_
          refine ml_istore (pc := 95) dX12_habit_95 (Nat.le_of_ble_eq_true rfl) (mm_st1_s (mm_st1_s (mm_st1_s mm_st1_i))) ?_
          exact mg_weak (mm_le_s (mm_le_s (mm_le_s (mm_le_s (mm_le_s mm_le_0))))) (X12_habit_L97_ok hz hd h0 _ _ _ _ _ hr)
        · refine mg_iconst (pc := 44) dX12_habit_44 kc_m1 ?_
          refine ml_istore_n (pc := 45) dX12_habit_45 rfl (Nat.le_of_ble_eq_true rfl) (mm_st1_s (mm_st1_s mm_st1_i)) ?_
          refine mg_iconst (pc := 46) dX12_habit_46 kc_0 ?_
          refine ml_istore (pc := 47) dX12_habit_47 (Nat.le_of_ble_eq_true rfl) (mm_st1_s (mm_st1_s (mm_st1_s mm_st1_i))) ?_
          exact mg_weak (mm_le_s (mm_le_s (mm_le_n (mm_le_s (mm_le_s mm_le_0))))) (X12_habit_L49_ok hz hd h0 _ _ _ _ _ hr)
      · refine ml_aload_n (pc := 31) dX12_habit_31 rfl mm_get_0 ?_
        refine ml_iload_n (pc := 32) dX12_habit_32 rfl (mm_get_s mm_get_0) ?_
        refine ml_iload_n (pc := 33) dX12_habit_33 rfl (mm_get_s (mm_get_s mm_get_0)) ?_
        refine mb_cVi (pc := 34) (As := [.int i1, .int i2]) (rest := []) dX12_habit_34 cw_X12_470 h0 hr (fun v hv => X12_oftenAt_ok hz (by omega) h0 hv) rfl (Nat.le_of_ble_eq_true rfl) (Nat.zero_le _) (Nat.zero_le _) (fun r4 hr => ?_)
        exact mb_iret dX12_habit_37 rfl hr
    · exact mg_weak (mm_le_n (mm_le_n (mm_le_n (mm_le_n (mm_le_n mm_le_0))))) (X12_habit_b23_ok hz hd h0 hr)
theorem dX12_face_0 : decode cX12_face 0 = .ok (.aload_n 0, 1) := by decide +kernel
theorem dX12_face_1 : decode cX12_face 1 = .ok (.iconst 0, 1) := by decide +kernel
theorem dX12_face_2 : decode cX12_face 2 = .ok (.putfield 152, 3) := by decide +kernel
theorem dX12_face_5 : decode cX12_face 5 = .ok (.aload_n 0, 1) := by decide +kernel
theorem dX12_face_6 : decode cX12_face 6 = .ok (.iload_n 3, 1) := by decide +kernel
theorem dX12_face_7 : decode cX12_face 7 = .ok (.iconst 4, 1) := by decide +kernel
theorem dX12_face_8 : decode cX12_face 8 = .ok (.invokevirtual 393, 3) := by decide +kernel
theorem dX12_face_11 : decode cX12_face 11 = .ok (.ifCond .eq 36, 3) := by decide +kernel
theorem dX12_face_14 : decode cX12_face 14 = .ok (.aload_n 0, 1) := by decide +kernel
theorem dX12_face_15 : decode cX12_face 15 = .ok (.iload_n 1, 1) := by decide +kernel
theorem dX12_face_16 : decode cX12_face 16 = .ok (.iconst 2, 1) := by decide +kernel
theorem dX12_face_17 : decode cX12_face 17 = .ok (.bipush 6, 2) := by decide +kernel
theorem dX12_face_19 : decode cX12_face 19 = .ok (.invokestatic 368, 3) := by decide +kernel
theorem dX12_face_22 : decode cX12_face 22 = .ok (.ifCond .eq 17, 3) := by decide +kernel
theorem dX12_face_25 : decode cX12_face 25 = .ok (.iload_n 2, 1) := by decide +kernel
theorem dX12_face_26 : decode cX12_face 26 = .ok (.iconst 0, 1) := by decide +kernel
theorem dX12_face_27 : decode cX12_face 27 = .ok (.bipush 100, 2) := by decide +kernel
theorem dX12_face_29 : decode cX12_face 29 = .ok (.invokestatic 368, 3) := by decide +kernel
theorem dX12_face_32 : decode cX12_face 32 = .ok (.ifCond .eq 7, 3) := by decide +kernel
theorem dX12_face_35 : decode cX12_face 35 = .ok (.iconst 1, 1) := by decide +kernel
theorem dX12_face_36 : decode cX12_face 36 = .ok (.goto 4, 3) := by decide +kernel
theorem dX12_face_39 : decode cX12_face 39 = .ok (.iconst 0, 1) := by decide +kernel
theorem dX12_face_40 : decode cX12_face 40 = .ok (.iconst 2, 1) := by decide +kernel
theorem dX12_face_41 : decode cX12_face 41 = .ok (.invokevirtual 306, 3) := by decide +kernel
theorem dX12_face_44 : decode cX12_face 44 = .ok (.ifCond .ne 5, 3) := by decide +kernel
theorem dX12_face_47 : decode cX12_face 47 = .ok (.iconst 0, 1) := by decide +kernel
theorem dX12_face_48 : decode cX12_face 48 = .ok (.ireturn, 1) := by decide +kernel
theorem dX12_face_49 : decode cX12_face 49 = .ok (.bipush 100, 2) := by decide +kernel
theorem dX12_face_51 : decode cX12_face 51 = .ok (.iload_n 1, 1) := by decide +kernel
theorem dX12_face_52 : decode cX12_face 52 = .ok (.iconst 1, 1) := by decide +kernel
theorem dX12_face_53 : decode cX12_face 53 = .ok (.isub, 1) := by decide +kernel
theorem dX12_face_54 : decode cX12_face 54 = .ok (.imul, 1) := by decide +kernel
theorem dX12_face_55 : decode cX12_face 55 = .ok (.istore 4, 2) := by decide +kernel
theorem dX12_face_57 : decode cX12_face 57 = .ok (.iload_n 3, 1) := by decide +kernel
theorem dX12_face_58 : decode cX12_face 58 = .ok (.iconst 2, 1) := by decide +kernel
theorem dX12_face_59 : decode cX12_face 59 = .ok (.if_icmp .ge 14, 3) := by decide +kernel
theorem dX12_face_62 : decode cX12_face 62 = .ok (.iload_n 2, 1) := by decide +kernel
theorem dX12_face_63 : decode cX12_face 63 = .ok (.i2l, 1) := by decide +kernel
theorem dX12_face_64 : decode cX12_face 64 = .ok (.ldc2_w 473, 3) := by decide +kernel
theorem dX12_face_67 : decode cX12_face 67 = .ok (.iload_n 3, 1) := by decide +kernel
theorem dX12_face_68 : decode cX12_face 68 = .ok (.invokestatic 445, 3) := by decide +kernel
theorem dX12_face_71 : decode cX12_face 71 = .ok (.l2i, 1) := by decide +kernel
theorem dX12_face_72 : decode cX12_face 72 = .ok (.ireturn, 1) := by decide +kernel
theorem dX12_face_73 : decode cX12_face 73 = .ok (.iload_n 3, 1) := by decide +kernel
theorem dX12_face_74 : decode cX12_face 74 = .ok (.iconst 4, 1) := by decide +kernel
theorem dX12_face_75 : decode cX12_face 75 = .ok (.if_icmp .ge 19, 3) := by decide +kernel
theorem dX12_face_78 : decode cX12_face 78 = .ok (.bipush 100, 2) := by decide +kernel
theorem dX12_face_80 : decode cX12_face 80 = .ok (.iload_n 2, 1) := by decide +kernel
theorem dX12_face_81 : decode cX12_face 81 = .ok (.isub, 1) := by decide +kernel
theorem dX12_face_82 : decode cX12_face 82 = .ok (.i2l, 1) := by decide +kernel
theorem dX12_face_83 : decode cX12_face 83 = .ok (.iload 4, 2) := by decide +kernel
theorem dX12_face_85 : decode cX12_face 85 = .ok (.i2l, 1) := by decide +kernel
theorem dX12_face_86 : decode cX12_face 86 = .ok (.iload_n 3, 1) := by decide +kernel
theorem dX12_face_87 : decode cX12_face 87 = .ok (.iconst 2, 1) := by decide +kernel
theorem dX12_face_88 : decode cX12_face 88 = .ok (.isub, 1) := by decide +kernel
theorem dX12_face_89 : decode cX12_face 89 = .ok (.invokestatic 445, 3) := by decide +kernel
theorem dX12_face_92 : decode cX12_face 92 = .ok (.l2i, 1) := by decide +kernel
theorem dX12_face_93 : decode cX12_face 93 = .ok (.ireturn, 1) := by decide +kernel
theorem dX12_face_94 : decode cX12_face 94 = .ok (.iload_n 2, 1) := by decide +kernel
theorem dX12_face_95 : decode cX12_face 95 = .ok (.iload_n 1, 1) := by decide +kernel
theorem dX12_face_96 : decode cX12_face 96 = .ok (.iconst 1, 1) := by decide +kernel
theorem dX12_face_97 : decode cX12_face 97 = .ok (.isub, 1) := by decide +kernel
theorem dX12_face_98 : decode cX12_face 98 = .ok (.imul, 1) := by decide +kernel
theorem dX12_face_99 : decode cX12_face 99 = .ok (.bipush 100, 2) := by decide +kernel
theorem dX12_face_101 : decode cX12_face 101 = .ok (.iload_n 2, 1) := by decide +kernel
theorem dX12_face_102 : decode cX12_face 102 = .ok (.isub, 1) := by decide +kernel
theorem dX12_face_103 : decode cX12_face 103 = .ok (.if_icmp .lt 7, 3) := by decide +kernel
theorem dX12_face_106 : decode cX12_face 106 = .ok (.iconst 0, 1) := by decide +kernel
theorem dX12_face_107 : decode cX12_face 107 = .ok (.goto 4, 3) := by decide +kernel
theorem dX12_face_110 : decode cX12_face 110 = .ok (.iconst 1, 1) := by decide +kernel
theorem dX12_face_111 : decode cX12_face 111 = .ok (.ireturn, 1) := by decide +kernel
def X12_face_b111 (e : mm_E) (t0 : Int32) (m : mm_V) : Option (Int32 × mm_V) := some (t0, m)
theorem X12_face_b111_ok {K : mm_K} {nx : Option Nat} {e : mm_E} (hz : e.2.1 = K.2.2.2.2) {d : Nat} (hd : 2 ≤ d) {t0 : Int32} {a0 : Nat} (h0 : e.1 a0 = some (12, 75)) {m : mm_V} {r : (Int32 × mm_V)} (hr : X12_face_b111 e t0 m = some r) : mm_G K MX12_face d (mm_Fi e.1 nx r) 111 [none, none, none, none, none] [.int t0] (e.1, m) nx 0 0 := by
  obtain ⟨d, rfl⟩ : ∃ d', d = d' + 1 := ⟨d - 1, by omega⟩
  unfold X12_face_b111 at hr
  exact mb_iret dX12_face_111 rfl hr
def X12_face_b47 (e : mm_E) (m : mm_V) : Option (Int32 × mm_V) := some ((0 : Int32), m)
theorem X12_face_b47_ok {K : mm_K} {nx : Option Nat} {e : mm_E} (hz : e.2.1 = K.2.2.2.2) {d : Nat} (hd : 2 ≤ d) {a0 : Nat} (h0 : e.1 a0 = some (12, 75)) {m : mm_V} {r : (Int32 × mm_V)} (hr : X12_face_b47 e m = some r) : mm_G K MX12_face d (mm_Fi e.1 nx r) 47 [none, none, none, none, none] [] (e.1, m) nx 0 0 := by
  obtain ⟨d, rfl⟩ : ∃ d', d = d' + 1 := ⟨d - 1, by omega⟩
  unfold X12_face_b47 at hr
  refine mg_iconst (pc := 47) dX12_face_47 kc_0 ?_
  exact mb_iret dX12_face_48 rfl hr
def X12_face_b40 (e : mm_E) (i1 : Int32) (i2 : Int32) (i3 : Int32) (t0 : Nat) (t1 : Int32) (m : mm_V) : Option (Int32 × mm_V) := if e.1 t0 = some (12, 75) then ((X12_right e t0 t1 (2 : Int32) m).bind fun r1 => if ¬ r1.1 = 0 then (if (2 : Int32) ≤ i3 then (if (4 : Int32) ≤ i3 then (if (i2 * (i1 - (1 : Int32))) < ((100 : Int32) - i2) then (X12_face_b111 e  (1 : Int32) r1.2) else (X12_face_b111 e  (0 : Int32) r1.2)) else ((X12_portion e ((100 : Int32) - i2).toInt64 ((100 : Int32) * (i1 - (1 : Int32))).toInt64 (i3 - (2 : Int32)) r1.2).bind fun r3 => some (r3.1.toInt32, r3.2))) else ((X12_portion e i2.toInt64 (100 : Int64) i3 r1.2).bind fun r4 => some (r4.1.toInt32, r4.2))) else (X12_face_b47 e   r1.2)) else none
theorem X12_face_b40_ok {K : mm_K} {nx : Option Nat} {e : mm_E} (hz : e.2.1 = K.2.2.2.2) {d : Nat} (hd : 2 ≤ d) {i1 : Int32} {i2 : Int32} {i3 : Int32} {t0 : Nat} {t1 : Int32} {a0 : Nat} (h0 : e.1 a0 = some (12, 75)) {m : mm_V} {r : (Int32 × mm_V)} (hr : X12_face_b40 e i1 i2 i3 t0 t1 m = some r) : mm_G K MX12_face d (mm_Fi e.1 nx r) 40 [none, some (.int i1), some (.int i2), some (.int i3), none] [.int t1, .ref t0] (e.1, m) nx 0 0 := by
  obtain ⟨d, rfl⟩ : ∃ d', d = d' + 1 := ⟨d - 1, by omega⟩
  unfold X12_face_b40 at hr
  refine mg_iconst (pc := 40) dX12_face_40 kc_2 ?_
  refine mb_ck hr (fun hb2 hr => ?_)
  refine mb_cVi (pc := 41) (As := [.int t1, .int (2 : Int32)]) (rest := []) dX12_face_41 cw_X12_306 hb2 hr (fun v hv => X12_right_ok hz (by omega) hb2 hv) rfl (Nat.le_of_ble_eq_true rfl) (Nat.zero_le _) (Nat.zero_le _) (fun r1 hr => ?_)
  refine mb_if_ne (pc := 44) 49 dX12_face_44 rfl hr (fun hr => ?_) (fun hr => ?_)
  · refine mg_bipush (pc := 49) dX12_face_49 kb_100 ?_
    refine ml_iload_n (pc := 51) dX12_face_51 rfl (mm_get_s mm_get_0) ?_
    refine mg_iconst (pc := 52) dX12_face_52 kc_1 ?_
    refine mg_isub (pc := 53) dX12_face_53 ?_
    refine mg_imul (pc := 54) dX12_face_54 ?_
    refine ml_istore (pc := 55) dX12_face_55 (Nat.le_of_ble_eq_true rfl) (mm_st1_s (mm_st1_s (mm_st1_s mm_st1_i))) ?_
    refine ml_iload_n (pc := 57) dX12_face_57 rfl (mm_get_s (mm_get_s (mm_get_s mm_get_0))) ?_
    refine mg_iconst (pc := 58) dX12_face_58 kc_2 ?_
    refine mb_icmp_ge (pc := 59) 73 dX12_face_59 rfl hr (fun hr => ?_) (fun hr => ?_)
    · refine ml_iload_n (pc := 73) dX12_face_73 rfl (mm_get_s (mm_get_s (mm_get_s mm_get_0))) ?_
      refine mg_iconst (pc := 74) dX12_face_74 kc_4 ?_
      refine mb_icmp_ge (pc := 75) 94 dX12_face_75 rfl hr (fun hr => ?_) (fun hr => ?_)
      · refine ml_iload_n (pc := 94) dX12_face_94 rfl (mm_get_s (mm_get_s mm_get_0)) ?_
        refine ml_iload_n (pc := 95) dX12_face_95 rfl (mm_get_s mm_get_0) ?_
        refine mg_iconst (pc := 96) dX12_face_96 kc_1 ?_
        refine mg_isub (pc := 97) dX12_face_97 ?_
        refine mg_imul (pc := 98) dX12_face_98 ?_
        refine mg_bipush (pc := 99) dX12_face_99 kb_100 ?_
        refine ml_iload_n (pc := 101) dX12_face_101 rfl (mm_get_s (mm_get_s mm_get_0)) ?_
        refine mg_isub (pc := 102) dX12_face_102 ?_
        refine mb_icmp_lt (pc := 103) 110 dX12_face_103 rfl hr (fun hr => ?_) (fun hr => ?_)
        · refine mg_iconst (pc := 110) dX12_face_110 kc_1 ?_
          exact mg_weak (mm_le_n (mm_le_n (mm_le_n (mm_le_n (mm_le_n mm_le_0))))) (X12_face_b111_ok hz hd h0 hr)
        · refine mg_iconst (pc := 106) dX12_face_106 kc_0 ?_
          refine mg_goto (pc := 107) 111 dX12_face_107 rfl ?_
          exact mg_weak (mm_le_n (mm_le_n (mm_le_n (mm_le_n (mm_le_n mm_le_0))))) (X12_face_b111_ok hz hd h0 hr)
      · refine mg_bipush (pc := 78) dX12_face_78 kb_100 ?_
        refine ml_iload_n (pc := 80) dX12_face_80 rfl (mm_get_s (mm_get_s mm_get_0)) ?_
        refine mg_isub (pc := 81) dX12_face_81 ?_
        refine mg_i2l (pc := 82) dX12_face_82 ?_
        refine ml_iload (pc := 83) dX12_face_83 (mm_get_s (mm_get_s (mm_get_s (mm_get_s mm_get_0)))) ?_
        refine mg_i2l (pc := 85) dX12_face_85 ?_
        refine ml_iload_n (pc := 86) dX12_face_86 rfl (mm_get_s (mm_get_s (mm_get_s mm_get_0))) ?_
        refine mg_iconst (pc := 87) dX12_face_87 kc_2 ?_
        refine mg_isub (pc := 88) dX12_face_88 ?_
        refine mb_cSl (pc := 89) (As := [.long ((100 : Int32) - i2).toInt64, .long ((100 : Int32) * (i1 - (1 : Int32))).toInt64, .int (i3 - (2 : Int32))]) (rest := []) dX12_face_89 cw_X12_445  hr (fun v hv => X12_portion_ok hz (by omega)  hv) rfl (Nat.le_of_ble_eq_true rfl) (Nat.zero_le _) (Nat.zero_le _) (fun r3 hr => ?_)
        refine mg_l2i (pc := 92) dX12_face_92 ?_
        exact mb_iret dX12_face_93 rfl hr
    · refine ml_iload_n (pc := 62) dX12_face_62 rfl (mm_get_s (mm_get_s mm_get_0)) ?_
      refine mg_i2l (pc := 63) dX12_face_63 ?_
      refine mg_ldc2 (pc := 64) dX12_face_64 (v := (100 : Int64)) tw_1930 ?_
      refine ml_iload_n (pc := 67) dX12_face_67 rfl (mm_get_s (mm_get_s (mm_get_s mm_get_0))) ?_
      refine mb_cSl (pc := 68) (As := [.long i2.toInt64, .long (100 : Int64), .int i3]) (rest := []) dX12_face_68 cw_X12_445  hr (fun v hv => X12_portion_ok hz (by omega)  hv) rfl (Nat.le_of_ble_eq_true rfl) (Nat.zero_le _) (Nat.zero_le _) (fun r4 hr => ?_)
      refine mg_l2i (pc := 71) dX12_face_71 ?_
      exact mb_iret dX12_face_72 rfl hr
  · exact mg_weak (mm_le_n (mm_le_n (mm_le_n (mm_le_n (mm_le_n mm_le_0))))) (X12_face_b47_ok hz hd h0 hr)
def X12_face_b39 (e : mm_E) (i1 : Int32) (i2 : Int32) (i3 : Int32) (t0 : Nat) (m : mm_V) : Option (Int32 × mm_V) := X12_face_b40 e i1 i2 i3 t0 (0 : Int32) m
theorem X12_face_b39_ok {K : mm_K} {nx : Option Nat} {e : mm_E} (hz : e.2.1 = K.2.2.2.2) {d : Nat} (hd : 2 ≤ d) {i1 : Int32} {i2 : Int32} {i3 : Int32} {t0 : Nat} {a0 : Nat} (h0 : e.1 a0 = some (12, 75)) {m : mm_V} {r : (Int32 × mm_V)} (hr : X12_face_b39 e i1 i2 i3 t0 m = some r) : mm_G K MX12_face d (mm_Fi e.1 nx r) 39 [none, some (.int i1), some (.int i2), some (.int i3), none] [.ref t0] (e.1, m) nx 0 0 := by
  obtain ⟨d, rfl⟩ : ∃ d', d = d' + 1 := ⟨d - 1, by omega⟩
  unfold X12_face_b39 at hr
  refine mg_iconst (pc := 39) dX12_face_39 kc_0 ?_
  exact mg_weak (mm_le_n (mm_le_s (mm_le_s (mm_le_s (mm_le_n mm_le_0))))) (X12_face_b40_ok hz hd h0 hr)
def X12_face (e : mm_E) (a0 : Nat) (i1 : Int32) (i2 : Int32) (i3 : Int32) (m : mm_V) : Option (Int32 × mm_V) := (mm_pf e.1 m 12 75 a0 0 (.int (0 : Int32))).bind fun m1 => (X12_isWhat e a0 i3 (4 : Int32) m1).bind fun r2 => if r2.1 = 0 then (X12_face_b47 e   r2.2) else ((X12_within e i1 (2 : Int32) (6 : Int32) r2.2).bind fun r3 => if r3.1 = 0 then (X12_face_b39 e i1 i2 i3 a0 r3.2) else ((X12_within e i2 (0 : Int32) (100 : Int32) r3.2).bind fun r4 => if r4.1 = 0 then (X12_face_b39 e i1 i2 i3 a0 r4.2) else (X12_face_b40 e i1 i2 i3 a0 (1 : Int32) r4.2)))
theorem X12_face_ok {K : mm_K} {nx : Option Nat} {e : mm_E} (hz : e.2.1 = K.2.2.2.2) {d : Nat} (hd : 2 ≤ d) {a0 : Nat} {i1 : Int32} {i2 : Int32} {i3 : Int32} (h0 : e.1 a0 = some (12, 75)) {m : mm_V} {r : (Int32 × mm_V)} (hr : X12_face e a0 i1 i2 i3 m = some r) : mm_Cn K MX12_face d (mm_Fi e.1 nx r) [.ref a0, .int i1, .int i2, .int i3] (e.1, m) nx := by
  obtain ⟨d, rfl⟩ : ∃ d', d = d' + 1 := ⟨d - 1, by omega⟩
  refine mm_entry (by decide) (Nat.le_of_ble_eq_true rfl) rfl (fun hok => ?_)
  unfold X12_face at hr
  refine mg_weak (L' := [some (.ref a0), some (.int i1), some (.int i2), some (.int i3), none]) (mm_le_s (mm_le_s (mm_le_s (mm_le_s (mm_le_e mm_le_0))))) ?_
  refine ml_aload_n (pc := 0) dX12_face_0 rfl mm_get_0 ?_
  refine mg_iconst (pc := 1) dX12_face_1 kc_0 ?_
  refine mb_pi (pc := 2) dX12_face_2 fp_X12_152 hr (fun m1 hr => ?_)
  refine ml_aload_n (pc := 5) dX12_face_5 rfl mm_get_0 ?_
  refine ml_iload_n (pc := 6) dX12_face_6 rfl (mm_get_s (mm_get_s (mm_get_s mm_get_0))) ?_
  refine mg_iconst (pc := 7) dX12_face_7 kc_4 ?_
  refine mb_cVi (pc := 8) (As := [.int i3, .int (4 : Int32)]) (rest := []) dX12_face_8 cw_X12_393 h0 hr (fun v hv => X12_isWhat_ok hz (by omega) h0 hv) rfl (Nat.le_of_ble_eq_true rfl) (Nat.zero_le _) (Nat.zero_le _) (fun r2 hr => ?_)
  refine mb_if_eq (pc := 11) 47 dX12_face_11 rfl hr (fun hr => ?_) (fun hr => ?_)
  · exact mg_weak (mm_le_n (mm_le_n (mm_le_n (mm_le_n (mm_le_n mm_le_0))))) (X12_face_b47_ok hz hd h0 hr)
  · refine ml_aload_n (pc := 14) dX12_face_14 rfl mm_get_0 ?_
    refine ml_iload_n (pc := 15) dX12_face_15 rfl (mm_get_s mm_get_0) ?_
    refine mg_iconst (pc := 16) dX12_face_16 kc_2 ?_
    refine mg_bipush (pc := 17) dX12_face_17 kb_6 ?_
    refine mb_cSi (pc := 19) (As := [.int i1, .int (2 : Int32), .int (6 : Int32)]) (rest := [.ref a0]) dX12_face_19 cw_X12_368  hr (fun v hv => X12_within_ok hz (by omega)  hv) rfl (Nat.le_of_ble_eq_true rfl) (Nat.zero_le _) (Nat.zero_le _) (fun r3 hr => ?_)
    refine mb_if_eq (pc := 22) 39 dX12_face_22 rfl hr (fun hr => ?_) (fun hr => ?_)
    · exact mg_weak (mm_le_n (mm_le_s (mm_le_s (mm_le_s (mm_le_n mm_le_0))))) (X12_face_b39_ok hz hd h0 hr)
    · refine ml_iload_n (pc := 25) dX12_face_25 rfl (mm_get_s (mm_get_s mm_get_0)) ?_
      refine mg_iconst (pc := 26) dX12_face_26 kc_0 ?_
      refine mg_bipush (pc := 27) dX12_face_27 kb_100 ?_
      refine mb_cSi (pc := 29) (As := [.int i2, .int (0 : Int32), .int (100 : Int32)]) (rest := [.ref a0]) dX12_face_29 cw_X12_368  hr (fun v hv => X12_within_ok hz (by omega)  hv) rfl (Nat.le_of_ble_eq_true rfl) (Nat.zero_le _) (Nat.zero_le _) (fun r4 hr => ?_)
      refine mb_if_eq (pc := 32) 39 dX12_face_32 rfl hr (fun hr => ?_) (fun hr => ?_)
      · exact mg_weak (mm_le_n (mm_le_s (mm_le_s (mm_le_s (mm_le_n mm_le_0))))) (X12_face_b39_ok hz hd h0 hr)
      · refine mg_iconst (pc := 35) dX12_face_35 kc_1 ?_
        refine mg_goto (pc := 36) 40 dX12_face_36 rfl ?_
        exact mg_weak (mm_le_n (mm_le_s (mm_le_s (mm_le_s (mm_le_n mm_le_0))))) (X12_face_b40_ok hz hd h0 hr)
theorem dX12_swaps_0 : decode cX12_swaps 0 = .ok (.aload_n 0, 1) := by decide +kernel
theorem dX12_swaps_1 : decode cX12_swaps 1 = .ok (.getfield 72, 3) := by decide +kernel
theorem dX12_swaps_4 : decode cX12_swaps 4 = .ok (.iload_n 1, 1) := by decide +kernel
theorem dX12_swaps_5 : decode cX12_swaps 5 = .ok (.iaload, 1) := by decide +kernel
theorem dX12_swaps_6 : decode cX12_swaps 6 = .ok (.istore_n 3, 1) := by decide +kernel
theorem dX12_swaps_7 : decode cX12_swaps 7 = .ok (.aload_n 0, 1) := by decide +kernel
theorem dX12_swaps_8 : decode cX12_swaps 8 = .ok (.getfield 72, 3) := by decide +kernel
theorem dX12_swaps_11 : decode cX12_swaps 11 = .ok (.iload_n 1, 1) := by decide +kernel
theorem dX12_swaps_12 : decode cX12_swaps 12 = .ok (.aload_n 0, 1) := by decide +kernel
theorem dX12_swaps_13 : decode cX12_swaps 13 = .ok (.getfield 72, 3) := by decide +kernel
theorem dX12_swaps_16 : decode cX12_swaps 16 = .ok (.iload_n 2, 1) := by decide +kernel
theorem dX12_swaps_17 : decode cX12_swaps 17 = .ok (.iaload, 1) := by decide +kernel
theorem dX12_swaps_18 : decode cX12_swaps 18 = .ok (.iastore, 1) := by decide +kernel
theorem dX12_swaps_19 : decode cX12_swaps 19 = .ok (.aload_n 0, 1) := by decide +kernel
theorem dX12_swaps_20 : decode cX12_swaps 20 = .ok (.getfield 72, 3) := by decide +kernel
theorem dX12_swaps_23 : decode cX12_swaps 23 = .ok (.iload_n 2, 1) := by decide +kernel
theorem dX12_swaps_24 : decode cX12_swaps 24 = .ok (.iload_n 3, 1) := by decide +kernel
theorem dX12_swaps_25 : decode cX12_swaps 25 = .ok (.iastore, 1) := by decide +kernel
theorem dX12_swaps_26 : decode cX12_swaps 26 = .ok (.return_, 1) := by decide +kernel
def X12_swaps (e : mm_E) (a0 : Nat) (i1 : Int32) (i2 : Int32) (m : mm_V) : Option mm_V := (mm_gr e.1 m 12 75 a0 44).bind fun c1 => (mm_ai e.1 m 20 c1 i1).bind fun x2 => (mm_gr e.1 m 12 75 a0 44).bind fun c3 => (mm_gr e.1 m 12 75 a0 44).bind fun c4 => (mm_ai e.1 m 20 c4 i2).bind fun x5 => (mm_si e.1 m c3 i1 x5).bind fun m6 => (mm_gr e.1 m6 12 75 a0 44).bind fun c7 => (mm_si e.1 m6 c7 i2 x2).bind fun m8 => some m8
theorem X12_swaps_ok {K : mm_K} {nx : Option Nat} {e : mm_E} (hz : e.2.1 = K.2.2.2.2) {d : Nat} (hd : 0 ≤ d) {a0 : Nat} {i1 : Int32} {i2 : Int32} (h0 : e.1 a0 = some (12, 75)) {m : mm_V} {r : mm_V} (hr : X12_swaps e a0 i1 i2 m = some r) : mm_Cn K MX12_swaps d (mm_Fv e.1 nx r) [.ref a0, .int i1, .int i2] (e.1, m) nx := by
  refine mm_entry (by decide) (Nat.le_of_ble_eq_true rfl) rfl (fun hok => ?_)
  unfold X12_swaps at hr
  refine mg_weak (L' := [some (.ref a0), some (.int i1), some (.int i2), none]) (mm_le_s (mm_le_s (mm_le_s (mm_le_e mm_le_0)))) ?_
  refine ml_aload_n (pc := 0) dX12_swaps_0 rfl mm_get_0 ?_
  refine mb_gr (pc := 1) dX12_swaps_1 fl_X12_72 hr (fun c1 hr => ?_)
  refine ml_iload_n (pc := 4) dX12_swaps_4 rfl (mm_get_s mm_get_0) ?_
  refine mb_ai (pc := 5) dX12_swaps_5 hr (fun x2 hr => ?_)
  refine ml_istore_n (pc := 6) dX12_swaps_6 rfl (Nat.le_of_ble_eq_true rfl) (mm_st1_s (mm_st1_s mm_st1_i)) ?_
  refine ml_aload_n (pc := 7) dX12_swaps_7 rfl mm_get_0 ?_
  refine mb_gr (pc := 8) dX12_swaps_8 fl_X12_72 hr (fun c3 hr => ?_)
  refine ml_iload_n (pc := 11) dX12_swaps_11 rfl (mm_get_s mm_get_0) ?_
  refine ml_aload_n (pc := 12) dX12_swaps_12 rfl mm_get_0 ?_
  refine mb_gr (pc := 13) dX12_swaps_13 fl_X12_72 hr (fun c4 hr => ?_)
  refine ml_iload_n (pc := 16) dX12_swaps_16 rfl (mm_get_s (mm_get_s mm_get_0)) ?_
  refine mb_ai (pc := 17) dX12_swaps_17 hr (fun x5 hr => ?_)
  refine mb_si (pc := 18) dX12_swaps_18 hr (fun m6 hr => ?_)
  refine ml_aload_n (pc := 19) dX12_swaps_19 rfl mm_get_0 ?_
  refine mb_gr (pc := 20) dX12_swaps_20 fl_X12_72 hr (fun c7 hr => ?_)
  refine ml_iload_n (pc := 23) dX12_swaps_23 rfl (mm_get_s (mm_get_s mm_get_0)) ?_
  refine ml_iload_n (pc := 24) dX12_swaps_24 rfl (mm_get_s (mm_get_s (mm_get_s mm_get_0))) ?_
  refine mb_si (pc := 25) dX12_swaps_25 hr (fun m8 hr => ?_)
  exact mb_vret dX12_swaps_26 rfl hr
theorem dX12_countsUp_0 : decode cX12_countsUp 0 = .ok (.aload_n 0, 1) := by decide +kernel
theorem dX12_countsUp_1 : decode cX12_countsUp 1 = .ok (.getfield 7, 3) := by decide +kernel
theorem dX12_countsUp_4 : decode cX12_countsUp 4 = .ok (.iconst 2, 1) := by decide +kernel
theorem dX12_countsUp_5 : decode cX12_countsUp 5 = .ok (.isub, 1) := by decide +kernel
theorem dX12_countsUp_6 : decode cX12_countsUp 6 = .ok (.istore_n 1, 1) := by decide +kernel
theorem dX12_countsUp_7 : decode cX12_countsUp 7 = .ok (.iload_n 1, 1) := by decide +kernel
theorem dX12_countsUp_8 : decode cX12_countsUp 8 = .ok (.ifCond .le 26, 3) := by decide +kernel
theorem dX12_countsUp_11 : decode cX12_countsUp 11 = .ok (.aload_n 0, 1) := by decide +kernel
theorem dX12_countsUp_12 : decode cX12_countsUp 12 = .ok (.getfield 72, 3) := by decide +kernel
theorem dX12_countsUp_15 : decode cX12_countsUp 15 = .ok (.iload_n 1, 1) := by decide +kernel
theorem dX12_countsUp_16 : decode cX12_countsUp 16 = .ok (.iaload, 1) := by decide +kernel
theorem dX12_countsUp_17 : decode cX12_countsUp 17 = .ok (.aload_n 0, 1) := by decide +kernel
theorem dX12_countsUp_18 : decode cX12_countsUp 18 = .ok (.getfield 72, 3) := by decide +kernel
theorem dX12_countsUp_21 : decode cX12_countsUp 21 = .ok (.iload_n 1, 1) := by decide +kernel
theorem dX12_countsUp_22 : decode cX12_countsUp 22 = .ok (.iconst 1, 1) := by decide +kernel
theorem dX12_countsUp_23 : decode cX12_countsUp 23 = .ok (.iadd, 1) := by decide +kernel
theorem dX12_countsUp_24 : decode cX12_countsUp 24 = .ok (.iaload, 1) := by decide +kernel
theorem dX12_countsUp_25 : decode cX12_countsUp 25 = .ok (.if_icmp .le 9, 3) := by decide +kernel
theorem dX12_countsUp_28 : decode cX12_countsUp 28 = .ok (.iinc 1 (-1), 3) := by decide +kernel
theorem dX12_countsUp_31 : decode cX12_countsUp 31 = .ok (.goto (-24), 3) := by decide +kernel
theorem dX12_countsUp_34 : decode cX12_countsUp 34 = .ok (.iload_n 1, 1) := by decide +kernel
theorem dX12_countsUp_35 : decode cX12_countsUp 35 = .ok (.ifCond .gt 5, 3) := by decide +kernel
theorem dX12_countsUp_38 : decode cX12_countsUp 38 = .ok (.iconst 0, 1) := by decide +kernel
theorem dX12_countsUp_39 : decode cX12_countsUp 39 = .ok (.ireturn, 1) := by decide +kernel
theorem dX12_countsUp_40 : decode cX12_countsUp 40 = .ok (.aload_n 0, 1) := by decide +kernel
theorem dX12_countsUp_41 : decode cX12_countsUp 41 = .ok (.getfield 7, 3) := by decide +kernel
theorem dX12_countsUp_44 : decode cX12_countsUp 44 = .ok (.iconst 1, 1) := by decide +kernel
theorem dX12_countsUp_45 : decode cX12_countsUp 45 = .ok (.isub, 1) := by decide +kernel
theorem dX12_countsUp_46 : decode cX12_countsUp 46 = .ok (.istore_n 2, 1) := by decide +kernel
theorem dX12_countsUp_47 : decode cX12_countsUp 47 = .ok (.aload_n 0, 1) := by decide +kernel
theorem dX12_countsUp_48 : decode cX12_countsUp 48 = .ok (.getfield 72, 3) := by decide +kernel
theorem dX12_countsUp_51 : decode cX12_countsUp 51 = .ok (.iload_n 2, 1) := by decide +kernel
theorem dX12_countsUp_52 : decode cX12_countsUp 52 = .ok (.iaload, 1) := by decide +kernel
theorem dX12_countsUp_53 : decode cX12_countsUp 53 = .ok (.aload_n 0, 1) := by decide +kernel
theorem dX12_countsUp_54 : decode cX12_countsUp 54 = .ok (.getfield 72, 3) := by decide +kernel
theorem dX12_countsUp_57 : decode cX12_countsUp 57 = .ok (.iload_n 1, 1) := by decide +kernel
theorem dX12_countsUp_58 : decode cX12_countsUp 58 = .ok (.iaload, 1) := by decide +kernel
theorem dX12_countsUp_59 : decode cX12_countsUp 59 = .ok (.if_icmp .ge 9, 3) := by decide +kernel
theorem dX12_countsUp_62 : decode cX12_countsUp 62 = .ok (.iinc 2 (-1), 3) := by decide +kernel
theorem dX12_countsUp_65 : decode cX12_countsUp 65 = .ok (.goto (-18), 3) := by decide +kernel
theorem dX12_countsUp_68 : decode cX12_countsUp 68 = .ok (.aload_n 0, 1) := by decide +kernel
theorem dX12_countsUp_69 : decode cX12_countsUp 69 = .ok (.iload_n 1, 1) := by decide +kernel
theorem dX12_countsUp_70 : decode cX12_countsUp 70 = .ok (.iload_n 2, 1) := by decide +kernel
theorem dX12_countsUp_71 : decode cX12_countsUp 71 = .ok (.invokevirtual 475, 3) := by decide +kernel
theorem dX12_countsUp_74 : decode cX12_countsUp 74 = .ok (.iload_n 1, 1) := by decide +kernel
theorem dX12_countsUp_75 : decode cX12_countsUp 75 = .ok (.iconst 1, 1) := by decide +kernel
theorem dX12_countsUp_76 : decode cX12_countsUp 76 = .ok (.iadd, 1) := by decide +kernel
theorem dX12_countsUp_77 : decode cX12_countsUp 77 = .ok (.istore_n 3, 1) := by decide +kernel
theorem dX12_countsUp_78 : decode cX12_countsUp 78 = .ok (.aload_n 0, 1) := by decide +kernel
theorem dX12_countsUp_79 : decode cX12_countsUp 79 = .ok (.getfield 7, 3) := by decide +kernel
theorem dX12_countsUp_82 : decode cX12_countsUp 82 = .ok (.iconst 1, 1) := by decide +kernel
theorem dX12_countsUp_83 : decode cX12_countsUp 83 = .ok (.isub, 1) := by decide +kernel
theorem dX12_countsUp_84 : decode cX12_countsUp 84 = .ok (.istore 4, 2) := by decide +kernel
theorem dX12_countsUp_86 : decode cX12_countsUp 86 = .ok (.iload_n 3, 1) := by decide +kernel
theorem dX12_countsUp_87 : decode cX12_countsUp 87 = .ok (.iload 4, 2) := by decide +kernel
theorem dX12_countsUp_89 : decode cX12_countsUp 89 = .ok (.if_icmp .ge 19, 3) := by decide +kernel
theorem dX12_countsUp_92 : decode cX12_countsUp 92 = .ok (.aload_n 0, 1) := by decide +kernel
theorem dX12_countsUp_93 : decode cX12_countsUp 93 = .ok (.iload_n 3, 1) := by decide +kernel
theorem dX12_countsUp_94 : decode cX12_countsUp 94 = .ok (.iload 4, 2) := by decide +kernel
theorem dX12_countsUp_96 : decode cX12_countsUp 96 = .ok (.invokevirtual 475, 3) := by decide +kernel
theorem dX12_countsUp_99 : decode cX12_countsUp 99 = .ok (.iinc 3 1, 3) := by decide +kernel
theorem dX12_countsUp_102 : decode cX12_countsUp 102 = .ok (.iinc 4 (-1), 3) := by decide +kernel
theorem dX12_countsUp_105 : decode cX12_countsUp 105 = .ok (.goto (-19), 3) := by decide +kernel
theorem dX12_countsUp_108 : decode cX12_countsUp 108 = .ok (.iconst 1, 1) := by decide +kernel
theorem dX12_countsUp_109 : decode cX12_countsUp 109 = .ok (.ireturn, 1) := by decide +kernel
def X12_countsUp_L86 (e : mm_E) (a0 : Nat) : Nat → Int32 → Int32 → mm_V → Option (Int32 × mm_V)
  | 0, _, _, _ => none
  | n + 1, i3, i4, m => if i4 ≤ i3 then (mm_rz (1 : Int32) m) else ((X12_swaps e a0 i3 i4 m).bind fun r1 => X12_countsUp_L86 e a0 n (i3 + 1) (i4 + (-1)) r1)
theorem X12_countsUp_L86_ok {K : mm_K} {nx : Option Nat} {e : mm_E} (hz : e.2.1 = K.2.2.2.2) {d : Nat} (hd : 1 ≤ d) {a0 : Nat} (h0 : e.1 a0 = some (12, 75)) : ∀ (n : Nat) (i3 : Int32) (i4 : Int32) (m : mm_V) (r : (Int32 × mm_V)), X12_countsUp_L86 e a0 n i3 i4 m = some r → mm_G K MX12_countsUp d (mm_Fi e.1 nx r) 86 [some (.ref a0), none, none, some (.int i3), some (.int i4)] [] (e.1, m) nx 0 0 := by
  obtain ⟨d, rfl⟩ : ∃ d', d = d' + 1 := ⟨d - 1, by omega⟩
  intro n
  induction n with
  | zero => intro i3 i4 m r hr; unfold X12_countsUp_L86 at hr; cases hr
  | succ n ih =>
    intro i3 i4 m r hr
    unfold X12_countsUp_L86 at hr
    refine ml_iload_n (pc := 86) dX12_countsUp_86 rfl (mm_get_s (mm_get_s (mm_get_s mm_get_0))) ?_
    refine ml_iload (pc := 87) dX12_countsUp_87 (mm_get_s (mm_get_s (mm_get_s (mm_get_s mm_get_0)))) ?_
    refine mb_icmp_ge (pc := 89) 108 dX12_countsUp_89 rfl hr (fun hr => ?_) (fun hr => ?_)
    · refine mg_iconst (pc := 108) dX12_countsUp_108 kc_1 ?_
      exact mb_zret dX12_countsUp_109 rfl hr
    · refine ml_aload_n (pc := 92) dX12_countsUp_92 rfl mm_get_0 ?_
      refine ml_iload_n (pc := 93) dX12_countsUp_93 rfl (mm_get_s (mm_get_s (mm_get_s mm_get_0))) ?_
      refine ml_iload (pc := 94) dX12_countsUp_94 (mm_get_s (mm_get_s (mm_get_s (mm_get_s mm_get_0)))) ?_
      refine mb_cVv (pc := 96) (As := [.int i3, .int i4]) (rest := []) dX12_countsUp_96 cw_X12_475 h0 hr (fun v hv => X12_swaps_ok hz (by omega) h0 hv) rfl (Nat.le_of_ble_eq_true rfl) (Nat.zero_le _) (Nat.zero_le _) (fun r1 hr => ?_)
      refine ml_iinc (pc := 99) dX12_countsUp_99 (mm_get_s (mm_get_s (mm_get_s mm_get_0))) (congrArg (fun z => i3 + z) kc_1) (Nat.le_of_ble_eq_true rfl) (mm_st1_s (mm_st1_s mm_st1_n)) ?_
      refine ml_iinc (pc := 102) dX12_countsUp_102 (mm_get_s (mm_get_s (mm_get_s (mm_get_s mm_get_0)))) (congrArg (fun z => i4 + z) kc_m1) (Nat.le_of_ble_eq_true rfl) (mm_st1_s (mm_st1_s (mm_st1_s mm_st1_i))) ?_
      refine mg_goto (pc := 105) 86 dX12_countsUp_105 rfl ?_
      exact mg_weak (mm_le_s (mm_le_n (mm_le_n (mm_le_s (mm_le_s mm_le_0))))) (ih _ _ _ _ hr)
def X12_countsUp_L47 (e : mm_E) (a0 : Nat) (i1 : Int32) : Nat → Int32 → mm_V → Option (Int32 × mm_V)
  | 0, _, _ => none
  | n + 1, i2, m => (mm_gr e.1 m 12 75 a0 44).bind fun c1 => (mm_ai e.1 m 20 c1 i2).bind fun x2 => (mm_gr e.1 m 12 75 a0 44).bind fun c3 => (mm_ai e.1 m 20 c3 i1).bind fun x4 => if x4 ≤ x2 then ((X12_swaps e a0 i1 i2 m).bind fun r5 => (mm_gi e.1 r5 12 75 a0 1).bind fun x6 => X12_countsUp_L86 e a0 e.2.2 (i1 + (1 : Int32)) (x6 - (1 : Int32)) r5) else (X12_countsUp_L47 e a0 i1 n (i2 + (-1)) m)
theorem X12_countsUp_L47_ok {K : mm_K} {nx : Option Nat} {e : mm_E} (hz : e.2.1 = K.2.2.2.2) {d : Nat} (hd : 1 ≤ d) {a0 : Nat} {i1 : Int32} (h0 : e.1 a0 = some (12, 75)) : ∀ (n : Nat) (i2 : Int32) (m : mm_V) (r : (Int32 × mm_V)), X12_countsUp_L47 e a0 i1 n i2 m = some r → mm_G K MX12_countsUp d (mm_Fi e.1 nx r) 47 [some (.ref a0), some (.int i1), some (.int i2), none, none] [] (e.1, m) nx 0 0 := by
  obtain ⟨d, rfl⟩ : ∃ d', d = d' + 1 := ⟨d - 1, by omega⟩
  intro n
  induction n with
  | zero => intro i2 m r hr; unfold X12_countsUp_L47 at hr; cases hr
  | succ n ih =>
    intro i2 m r hr
    unfold X12_countsUp_L47 at hr
    refine ml_aload_n (pc := 47) dX12_countsUp_47 rfl mm_get_0 ?_
    refine mb_gr (pc := 48) dX12_countsUp_48 fl_X12_72 hr (fun c1 hr => ?_)
    refine ml_iload_n (pc := 51) dX12_countsUp_51 rfl (mm_get_s (mm_get_s mm_get_0)) ?_
    refine mb_ai (pc := 52) dX12_countsUp_52 hr (fun x2 hr => ?_)
    refine ml_aload_n (pc := 53) dX12_countsUp_53 rfl mm_get_0 ?_
    refine mb_gr (pc := 54) dX12_countsUp_54 fl_X12_72 hr (fun c3 hr => ?_)
    refine ml_iload_n (pc := 57) dX12_countsUp_57 rfl (mm_get_s mm_get_0) ?_
    refine mb_ai (pc := 58) dX12_countsUp_58 hr (fun x4 hr => ?_)
    refine mb_icmp_ge (pc := 59) 68 dX12_countsUp_59 rfl hr (fun hr => ?_) (fun hr => ?_)
    · refine ml_aload_n (pc := 68) dX12_countsUp_68 rfl mm_get_0 ?_
      refine ml_iload_n (pc := 69) dX12_countsUp_69 rfl (mm_get_s mm_get_0) ?_
      refine ml_iload_n (pc := 70) dX12_countsUp_70 rfl (mm_get_s (mm_get_s mm_get_0)) ?_
      refine mb_cVv (pc := 71) (As := [.int i1, .int i2]) (rest := []) dX12_countsUp_71 cw_X12_475 h0 hr (fun v hv => X12_swaps_ok hz (by omega) h0 hv) rfl (Nat.le_of_ble_eq_true rfl) (Nat.zero_le _) (Nat.zero_le _) (fun r5 hr => ?_)
      refine ml_iload_n (pc := 74) dX12_countsUp_74 rfl (mm_get_s mm_get_0) ?_
      refine mg_iconst (pc := 75) dX12_countsUp_75 kc_1 ?_
      refine mg_iadd (pc := 76) dX12_countsUp_76 ?_
      refine ml_istore_n (pc := 77) dX12_countsUp_77 rfl (Nat.le_of_ble_eq_true rfl) (mm_st1_s (mm_st1_s mm_st1_i)) ?_
      refine ml_aload_n (pc := 78) dX12_countsUp_78 rfl mm_get_0 ?_
      refine mb_gi (pc := 79) dX12_countsUp_79 fl_X12_7 hr (fun x6 hr => ?_)
      refine mg_iconst (pc := 82) dX12_countsUp_82 kc_1 ?_
      refine mg_isub (pc := 83) dX12_countsUp_83 ?_
      refine ml_istore (pc := 84) dX12_countsUp_84 (Nat.le_of_ble_eq_true rfl) (mm_st1_s (mm_st1_s (mm_st1_s mm_st1_i))) ?_
      exact mg_weak (mm_le_s (mm_le_n (mm_le_n (mm_le_s (mm_le_s mm_le_0))))) (X12_countsUp_L86_ok hz hd h0 _ _ _ _ _ hr)
    · refine ml_iinc (pc := 62) dX12_countsUp_62 (mm_get_s (mm_get_s mm_get_0)) (congrArg (fun z => i2 + z) kc_m1) (Nat.le_of_ble_eq_true rfl) (mm_st1_s mm_st1_i) ?_
      refine mg_goto (pc := 65) 47 dX12_countsUp_65 rfl ?_
      exact mg_weak (mm_le_s (mm_le_s (mm_le_s (mm_le_n (mm_le_n mm_le_0))))) (ih _ _ _ hr)
def X12_countsUp_b34 (e : mm_E) (a0 : Nat) (i1 : Int32) (m : mm_V) : Option (Int32 × mm_V) := if 0 < i1 then ((mm_gi e.1 m 12 75 a0 1).bind fun x1 => X12_countsUp_L47 e a0 i1 e.2.2 (x1 - (1 : Int32)) m) else (mm_rz (0 : Int32) m)
theorem X12_countsUp_b34_ok {K : mm_K} {nx : Option Nat} {e : mm_E} (hz : e.2.1 = K.2.2.2.2) {d : Nat} (hd : 1 ≤ d) {a0 : Nat} {i1 : Int32} (h0 : e.1 a0 = some (12, 75)) {m : mm_V} {r : (Int32 × mm_V)} (hr : X12_countsUp_b34 e a0 i1 m = some r) : mm_G K MX12_countsUp d (mm_Fi e.1 nx r) 34 [some (.ref a0), some (.int i1), none, none, none] [] (e.1, m) nx 0 0 := by
  obtain ⟨d, rfl⟩ : ∃ d', d = d' + 1 := ⟨d - 1, by omega⟩
  unfold X12_countsUp_b34 at hr
  refine ml_iload_n (pc := 34) dX12_countsUp_34 rfl (mm_get_s mm_get_0) ?_
  refine mb_if_gt (pc := 35) 40 dX12_countsUp_35 rfl hr (fun hr => ?_) (fun hr => ?_)
  · refine ml_aload_n (pc := 40) dX12_countsUp_40 rfl mm_get_0 ?_
    refine mb_gi (pc := 41) dX12_countsUp_41 fl_X12_7 hr (fun x1 hr => ?_)
    refine mg_iconst (pc := 44) dX12_countsUp_44 kc_1 ?_
    refine mg_isub (pc := 45) dX12_countsUp_45 ?_
    refine ml_istore_n (pc := 46) dX12_countsUp_46 rfl (Nat.le_of_ble_eq_true rfl) (mm_st1_s mm_st1_i) ?_
    exact mg_weak (mm_le_s (mm_le_s (mm_le_s (mm_le_n (mm_le_n mm_le_0))))) (X12_countsUp_L47_ok hz hd h0 _ _ _ _ hr)
  · refine mg_iconst (pc := 38) dX12_countsUp_38 kc_0 ?_
    exact mb_zret dX12_countsUp_39 rfl hr
def X12_countsUp_L7 (e : mm_E) (a0 : Nat) : Nat → Int32 → mm_V → Option (Int32 × mm_V)
  | 0, _, _ => none
  | n + 1, i1, m => if i1 ≤ 0 then (X12_countsUp_b34 e a0 i1  m) else ((mm_gr e.1 m 12 75 a0 44).bind fun c1 => (mm_ai e.1 m 20 c1 i1).bind fun x2 => (mm_gr e.1 m 12 75 a0 44).bind fun c3 => (mm_ai e.1 m 20 c3 (i1 + (1 : Int32))).bind fun x4 => if x2 ≤ x4 then (X12_countsUp_b34 e a0 i1  m) else (X12_countsUp_L7 e a0 n (i1 + (-1)) m))
theorem X12_countsUp_L7_ok {K : mm_K} {nx : Option Nat} {e : mm_E} (hz : e.2.1 = K.2.2.2.2) {d : Nat} (hd : 1 ≤ d) {a0 : Nat} (h0 : e.1 a0 = some (12, 75)) : ∀ (n : Nat) (i1 : Int32) (m : mm_V) (r : (Int32 × mm_V)), X12_countsUp_L7 e a0 n i1 m = some r → mm_G K MX12_countsUp d (mm_Fi e.1 nx r) 7 [some (.ref a0), some (.int i1), none, none, none] [] (e.1, m) nx 0 0 := by
  obtain ⟨d, rfl⟩ : ∃ d', d = d' + 1 := ⟨d - 1, by omega⟩
  intro n
  induction n with
  | zero => intro i1 m r hr; unfold X12_countsUp_L7 at hr; cases hr
  | succ n ih =>
    intro i1 m r hr
    unfold X12_countsUp_L7 at hr
    refine ml_iload_n (pc := 7) dX12_countsUp_7 rfl (mm_get_s mm_get_0) ?_
    refine mb_if_le (pc := 8) 34 dX12_countsUp_8 rfl hr (fun hr => ?_) (fun hr => ?_)
    · exact mg_weak (mm_le_s (mm_le_s (mm_le_n (mm_le_n (mm_le_n mm_le_0))))) (X12_countsUp_b34_ok hz hd h0 hr)
    · refine ml_aload_n (pc := 11) dX12_countsUp_11 rfl mm_get_0 ?_
      refine mb_gr (pc := 12) dX12_countsUp_12 fl_X12_72 hr (fun c1 hr => ?_)
      refine ml_iload_n (pc := 15) dX12_countsUp_15 rfl (mm_get_s mm_get_0) ?_
      refine mb_ai (pc := 16) dX12_countsUp_16 hr (fun x2 hr => ?_)
      refine ml_aload_n (pc := 17) dX12_countsUp_17 rfl mm_get_0 ?_
      refine mb_gr (pc := 18) dX12_countsUp_18 fl_X12_72 hr (fun c3 hr => ?_)
      refine ml_iload_n (pc := 21) dX12_countsUp_21 rfl (mm_get_s mm_get_0) ?_
      refine mg_iconst (pc := 22) dX12_countsUp_22 kc_1 ?_
      refine mg_iadd (pc := 23) dX12_countsUp_23 ?_
      refine mb_ai (pc := 24) dX12_countsUp_24 hr (fun x4 hr => ?_)
      refine mb_icmp_le (pc := 25) 34 dX12_countsUp_25 rfl hr (fun hr => ?_) (fun hr => ?_)
      · exact mg_weak (mm_le_s (mm_le_s (mm_le_n (mm_le_n (mm_le_n mm_le_0))))) (X12_countsUp_b34_ok hz hd h0 hr)
      · refine ml_iinc (pc := 28) dX12_countsUp_28 (mm_get_s mm_get_0) (congrArg (fun z => i1 + z) kc_m1) (Nat.le_of_ble_eq_true rfl) mm_st1_r ?_
        refine mg_goto (pc := 31) 7 dX12_countsUp_31 rfl ?_
        exact mg_weak (mm_le_s (mm_le_s (mm_le_n (mm_le_n (mm_le_n mm_le_0))))) (ih _ _ _ hr)
def X12_countsUp (e : mm_E) (a0 : Nat) (m : mm_V) : Option (Int32 × mm_V) := (mm_gi e.1 m 12 75 a0 1).bind fun x1 => X12_countsUp_L7 e a0 e.2.2 (x1 - (2 : Int32)) m
theorem X12_countsUp_ok {K : mm_K} {nx : Option Nat} {e : mm_E} (hz : e.2.1 = K.2.2.2.2) {d : Nat} (hd : 1 ≤ d) {a0 : Nat} (h0 : e.1 a0 = some (12, 75)) {m : mm_V} {r : (Int32 × mm_V)} (hr : X12_countsUp e a0 m = some r) : mm_Cn K MX12_countsUp d (mm_Fi e.1 nx r) [.ref a0] (e.1, m) nx := by
  obtain ⟨d, rfl⟩ : ∃ d', d = d' + 1 := ⟨d - 1, by omega⟩
  refine mm_entry (by decide) (Nat.le_of_ble_eq_true rfl) rfl (fun hok => ?_)
  unfold X12_countsUp at hr
  refine mg_weak (L' := [some (.ref a0), none, none, none, none]) (mm_le_s (mm_le_e (mm_le_e (mm_le_e (mm_le_e mm_le_0))))) ?_
  refine ml_aload_n (pc := 0) dX12_countsUp_0 rfl mm_get_0 ?_
  refine mb_gi (pc := 1) dX12_countsUp_1 fl_X12_7 hr (fun x1 hr => ?_)
  refine mg_iconst (pc := 4) dX12_countsUp_4 kc_2 ?_
  refine mg_isub (pc := 5) dX12_countsUp_5 ?_
  refine ml_istore_n (pc := 6) dX12_countsUp_6 rfl (Nat.le_of_ble_eq_true rfl) mm_st1_r ?_
  exact mg_weak (mm_le_s (mm_le_s (mm_le_n (mm_le_n (mm_le_n mm_le_0))))) (X12_countsUp_L7_ok hz hd h0 _ _ _ _ hr)
theorem dX12_sitsAsEver_0 : decode cX12_sitsAsEver 0 = .ok (.iconst 0, 1) := by decide +kernel
theorem dX12_sitsAsEver_1 : decode cX12_sitsAsEver 1 = .ok (.istore_n 1, 1) := by decide +kernel
theorem dX12_sitsAsEver_2 : decode cX12_sitsAsEver 2 = .ok (.iload_n 1, 1) := by decide +kernel
theorem dX12_sitsAsEver_3 : decode cX12_sitsAsEver 3 = .ok (.bipush 6, 2) := by decide +kernel
theorem dX12_sitsAsEver_5 : decode cX12_sitsAsEver 5 = .ok (.if_icmp .ge 16, 3) := by decide +kernel
theorem dX12_sitsAsEver_8 : decode cX12_sitsAsEver 8 = .ok (.aload_n 0, 1) := by decide +kernel
theorem dX12_sitsAsEver_9 : decode cX12_sitsAsEver 9 = .ok (.getfield 72, 3) := by decide +kernel
theorem dX12_sitsAsEver_12 : decode cX12_sitsAsEver 12 = .ok (.iload_n 1, 1) := by decide +kernel
theorem dX12_sitsAsEver_13 : decode cX12_sitsAsEver 13 = .ok (.iload_n 1, 1) := by decide +kernel
theorem dX12_sitsAsEver_14 : decode cX12_sitsAsEver 14 = .ok (.iastore, 1) := by decide +kernel
theorem dX12_sitsAsEver_15 : decode cX12_sitsAsEver 15 = .ok (.iinc 1 1, 3) := by decide +kernel
theorem dX12_sitsAsEver_18 : decode cX12_sitsAsEver 18 = .ok (.goto (-16), 3) := by decide +kernel
theorem dX12_sitsAsEver_21 : decode cX12_sitsAsEver 21 = .ok (.return_, 1) := by decide +kernel
def X12_sitsAsEver_L2 (e : mm_E) (a0 : Nat) : Nat → Int32 → mm_V → Option mm_V
  | 0, _, _ => none
  | n + 1, i1, m => if (6 : Int32) ≤ i1 then (some m) else ((mm_gr e.1 m 12 75 a0 44).bind fun c1 => (mm_si e.1 m c1 i1 i1).bind fun m2 => X12_sitsAsEver_L2 e a0 n (i1 + 1) m2)
theorem X12_sitsAsEver_L2_ok {K : mm_K} {nx : Option Nat} {e : mm_E} (hz : e.2.1 = K.2.2.2.2) {d : Nat} (hd : 0 ≤ d) {a0 : Nat} (h0 : e.1 a0 = some (12, 75)) : ∀ (n : Nat) (i1 : Int32) (m : mm_V) (r : mm_V), X12_sitsAsEver_L2 e a0 n i1 m = some r → mm_G K MX12_sitsAsEver d (mm_Fv e.1 nx r) 2 [some (.ref a0), some (.int i1)] [] (e.1, m) nx 0 0 := by
  intro n
  induction n with
  | zero => intro i1 m r hr; unfold X12_sitsAsEver_L2 at hr; cases hr
  | succ n ih =>
    intro i1 m r hr
    unfold X12_sitsAsEver_L2 at hr
    refine ml_iload_n (pc := 2) dX12_sitsAsEver_2 rfl (mm_get_s mm_get_0) ?_
    refine mg_bipush (pc := 3) dX12_sitsAsEver_3 kb_6 ?_
    refine mb_icmp_ge (pc := 5) 21 dX12_sitsAsEver_5 rfl hr (fun hr => ?_) (fun hr => ?_)
    · exact mb_vret dX12_sitsAsEver_21 rfl hr
    · refine ml_aload_n (pc := 8) dX12_sitsAsEver_8 rfl mm_get_0 ?_
      refine mb_gr (pc := 9) dX12_sitsAsEver_9 fl_X12_72 hr (fun c1 hr => ?_)
      refine ml_iload_n (pc := 12) dX12_sitsAsEver_12 rfl (mm_get_s mm_get_0) ?_
      refine ml_iload_n (pc := 13) dX12_sitsAsEver_13 rfl (mm_get_s mm_get_0) ?_
      refine mb_si (pc := 14) dX12_sitsAsEver_14 hr (fun m2 hr => ?_)
      refine ml_iinc (pc := 15) dX12_sitsAsEver_15 (mm_get_s mm_get_0) (congrArg (fun z => i1 + z) kc_1) (Nat.le_of_ble_eq_true rfl) mm_st1_r ?_
      refine mg_goto (pc := 18) 2 dX12_sitsAsEver_18 rfl ?_
      exact mg_weak (mm_le_s (mm_le_s mm_le_0)) (ih _ _ _ hr)
def X12_sitsAsEver (e : mm_E) (a0 : Nat) (m : mm_V) : Option mm_V := X12_sitsAsEver_L2 e a0 e.2.2 (0 : Int32) m
theorem X12_sitsAsEver_ok {K : mm_K} {nx : Option Nat} {e : mm_E} (hz : e.2.1 = K.2.2.2.2) {d : Nat} (hd : 0 ≤ d) {a0 : Nat} (h0 : e.1 a0 = some (12, 75)) {m : mm_V} {r : mm_V} (hr : X12_sitsAsEver e a0 m = some r) : mm_Cn K MX12_sitsAsEver d (mm_Fv e.1 nx r) [.ref a0] (e.1, m) nx := by
  refine mm_entry (by decide) (Nat.le_of_ble_eq_true rfl) rfl (fun hok => ?_)
  unfold X12_sitsAsEver at hr
  refine mg_weak (L' := [some (.ref a0), none]) (mm_le_s (mm_le_e mm_le_0)) ?_
  refine mg_iconst (pc := 0) dX12_sitsAsEver_0 kc_0 ?_
  refine ml_istore_n (pc := 1) dX12_sitsAsEver_1 rfl (Nat.le_of_ble_eq_true rfl) mm_st1_r ?_
  exact mg_weak (mm_le_s (mm_le_s mm_le_0)) (X12_sitsAsEver_L2_ok hz hd h0 _ _ _ _ hr)
theorem dX12_figures_0 : decode cX12_figures 0 = .ok (.iconst 0, 1) := by decide +kernel
theorem dX12_figures_1 : decode cX12_figures 1 = .ok (.istore_n 1, 1) := by decide +kernel
theorem dX12_figures_2 : decode cX12_figures 2 = .ok (.aload_n 0, 1) := by decide +kernel
theorem dX12_figures_3 : decode cX12_figures 3 = .ok (.getfield 7, 3) := by decide +kernel
theorem dX12_figures_6 : decode cX12_figures 6 = .ok (.iconst 1, 1) := by decide +kernel
theorem dX12_figures_7 : decode cX12_figures 7 = .ok (.isub, 1) := by decide +kernel
theorem dX12_figures_8 : decode cX12_figures 8 = .ok (.istore_n 2, 1) := by decide +kernel
theorem dX12_figures_9 : decode cX12_figures 9 = .ok (.iload_n 2, 1) := by decide +kernel
theorem dX12_figures_10 : decode cX12_figures 10 = .ok (.ifCond .lt 21, 3) := by decide +kernel
theorem dX12_figures_13 : decode cX12_figures 13 = .ok (.bipush 6, 2) := by decide +kernel
theorem dX12_figures_15 : decode cX12_figures 15 = .ok (.iload_n 1, 1) := by decide +kernel
theorem dX12_figures_16 : decode cX12_figures 16 = .ok (.imul, 1) := by decide +kernel
theorem dX12_figures_17 : decode cX12_figures 17 = .ok (.aload_n 0, 1) := by decide +kernel
theorem dX12_figures_18 : decode cX12_figures 18 = .ok (.getfield 72, 3) := by decide +kernel
theorem dX12_figures_21 : decode cX12_figures 21 = .ok (.iload_n 2, 1) := by decide +kernel
theorem dX12_figures_22 : decode cX12_figures 22 = .ok (.iaload, 1) := by decide +kernel
theorem dX12_figures_23 : decode cX12_figures 23 = .ok (.iadd, 1) := by decide +kernel
theorem dX12_figures_24 : decode cX12_figures 24 = .ok (.istore_n 1, 1) := by decide +kernel
theorem dX12_figures_25 : decode cX12_figures 25 = .ok (.iinc 2 (-1), 3) := by decide +kernel
theorem dX12_figures_28 : decode cX12_figures 28 = .ok (.goto (-19), 3) := by decide +kernel
theorem dX12_figures_31 : decode cX12_figures 31 = .ok (.iload_n 1, 1) := by decide +kernel
theorem dX12_figures_32 : decode cX12_figures 32 = .ok (.ireturn, 1) := by decide +kernel
def X12_figures_L9 (e : mm_E) (a0 : Nat) : Nat → Int32 → Int32 → mm_V → Option (Int32 × mm_V)
  | 0, _, _, _ => none
  | n + 1, i1, i2, m => if i2 < 0 then (some (i1, m)) else ((mm_gr e.1 m 12 75 a0 44).bind fun c1 => (mm_ai e.1 m 20 c1 i2).bind fun x2 => X12_figures_L9 e a0 n (((6 : Int32) * i1) + x2) (i2 + (-1)) m)
theorem X12_figures_L9_ok {K : mm_K} {nx : Option Nat} {e : mm_E} (hz : e.2.1 = K.2.2.2.2) {d : Nat} (hd : 0 ≤ d) {a0 : Nat} (h0 : e.1 a0 = some (12, 75)) : ∀ (n : Nat) (i1 : Int32) (i2 : Int32) (m : mm_V) (r : (Int32 × mm_V)), X12_figures_L9 e a0 n i1 i2 m = some r → mm_G K MX12_figures d (mm_Fi e.1 nx r) 9 [some (.ref a0), some (.int i1), some (.int i2)] [] (e.1, m) nx 0 0 := by
  intro n
  induction n with
  | zero => intro i1 i2 m r hr; unfold X12_figures_L9 at hr; cases hr
  | succ n ih =>
    intro i1 i2 m r hr
    unfold X12_figures_L9 at hr
    refine ml_iload_n (pc := 9) dX12_figures_9 rfl (mm_get_s (mm_get_s mm_get_0)) ?_
    refine mb_if_lt (pc := 10) 31 dX12_figures_10 rfl hr (fun hr => ?_) (fun hr => ?_)
    · refine ml_iload_n (pc := 31) dX12_figures_31 rfl (mm_get_s mm_get_0) ?_
      exact mb_iret dX12_figures_32 rfl hr
    · refine mg_bipush (pc := 13) dX12_figures_13 kb_6 ?_
      refine ml_iload_n (pc := 15) dX12_figures_15 rfl (mm_get_s mm_get_0) ?_
      refine mg_imul (pc := 16) dX12_figures_16 ?_
      refine ml_aload_n (pc := 17) dX12_figures_17 rfl mm_get_0 ?_
      refine mb_gr (pc := 18) dX12_figures_18 fl_X12_72 hr (fun c1 hr => ?_)
      refine ml_iload_n (pc := 21) dX12_figures_21 rfl (mm_get_s (mm_get_s mm_get_0)) ?_
      refine mb_ai (pc := 22) dX12_figures_22 hr (fun x2 hr => ?_)
      refine mg_iadd (pc := 23) dX12_figures_23 ?_
      refine ml_istore_n (pc := 24) dX12_figures_24 rfl (Nat.le_of_ble_eq_true rfl) mm_st1_r ?_
      refine ml_iinc (pc := 25) dX12_figures_25 (mm_get_s (mm_get_s mm_get_0)) (congrArg (fun z => i2 + z) kc_m1) (Nat.le_of_ble_eq_true rfl) (mm_st1_s mm_st1_i) ?_
      refine mg_goto (pc := 28) 9 dX12_figures_28 rfl ?_
      exact mg_weak (mm_le_s (mm_le_s (mm_le_s mm_le_0))) (ih _ _ _ _ hr)
def X12_figures (e : mm_E) (a0 : Nat) (m : mm_V) : Option (Int32 × mm_V) := (mm_gi e.1 m 12 75 a0 1).bind fun x1 => X12_figures_L9 e a0 e.2.2 (0 : Int32) (x1 - (1 : Int32)) m
theorem X12_figures_ok {K : mm_K} {nx : Option Nat} {e : mm_E} (hz : e.2.1 = K.2.2.2.2) {d : Nat} (hd : 0 ≤ d) {a0 : Nat} (h0 : e.1 a0 = some (12, 75)) {m : mm_V} {r : (Int32 × mm_V)} (hr : X12_figures e a0 m = some r) : mm_Cn K MX12_figures d (mm_Fi e.1 nx r) [.ref a0] (e.1, m) nx := by
  refine mm_entry (by decide) (Nat.le_of_ble_eq_true rfl) rfl (fun hok => ?_)
  unfold X12_figures at hr
  refine mg_weak (L' := [some (.ref a0), none, none]) (mm_le_s (mm_le_e (mm_le_e mm_le_0))) ?_
  refine mg_iconst (pc := 0) dX12_figures_0 kc_0 ?_
  refine ml_istore_n (pc := 1) dX12_figures_1 rfl (Nat.le_of_ble_eq_true rfl) mm_st1_r ?_
  refine ml_aload_n (pc := 2) dX12_figures_2 rfl mm_get_0 ?_
  refine mb_gi (pc := 3) dX12_figures_3 fl_X12_7 hr (fun x1 hr => ?_)
  refine mg_iconst (pc := 6) dX12_figures_6 kc_1 ?_
  refine mg_isub (pc := 7) dX12_figures_7 ?_
  refine ml_istore_n (pc := 8) dX12_figures_8 rfl (Nat.le_of_ble_eq_true rfl) (mm_st1_s mm_st1_i) ?_
  exact mg_weak (mm_le_s (mm_le_s (mm_le_s mm_le_0))) (X12_figures_L9_ok hz hd h0 _ _ _ _ _ hr)
theorem dX12_seats_0 : decode cX12_seats 0 = .ok (.aload_n 0, 1) := by decide +kernel
theorem dX12_seats_1 : decode cX12_seats 1 = .ok (.iconst 0, 1) := by decide +kernel
theorem dX12_seats_2 : decode cX12_seats 2 = .ok (.putfield 152, 3) := by decide +kernel
theorem dX12_seats_5 : decode cX12_seats 5 = .ok (.aload_n 0, 1) := by decide +kernel
theorem dX12_seats_6 : decode cX12_seats 6 = .ok (.iload_n 1, 1) := by decide +kernel
theorem dX12_seats_7 : decode cX12_seats 7 = .ok (.invokevirtual 376, 3) := by decide +kernel
theorem dX12_seats_10 : decode cX12_seats 10 = .ok (.ifCond .eq 12, 3) := by decide +kernel
theorem dX12_seats_13 : decode cX12_seats 13 = .ok (.aload_n 0, 1) := by decide +kernel
theorem dX12_seats_14 : decode cX12_seats 14 = .ok (.iload_n 2, 1) := by decide +kernel
theorem dX12_seats_15 : decode cX12_seats 15 = .ok (.iconst 2, 1) := by decide +kernel
theorem dX12_seats_16 : decode cX12_seats 16 = .ok (.invokevirtual 393, 3) := by decide +kernel
theorem dX12_seats_19 : decode cX12_seats 19 = .ok (.ifCond .ne 5, 3) := by decide +kernel
theorem dX12_seats_22 : decode cX12_seats 22 = .ok (.iconst 0, 1) := by decide +kernel
theorem dX12_seats_23 : decode cX12_seats 23 = .ok (.ireturn, 1) := by decide +kernel
theorem dX12_seats_24 : decode cX12_seats 24 = .ok (.iconst 0, 1) := by decide +kernel
theorem dX12_seats_25 : decode cX12_seats 25 = .ok (.istore_n 3, 1) := by decide +kernel
theorem dX12_seats_26 : decode cX12_seats 26 = .ok (.iconst 0, 1) := by decide +kernel
theorem dX12_seats_27 : decode cX12_seats 27 = .ok (.istore 4, 2) := by decide +kernel
theorem dX12_seats_29 : decode cX12_seats 29 = .ok (.iconst (-1), 1) := by decide +kernel
theorem dX12_seats_30 : decode cX12_seats 30 = .ok (.istore 5, 2) := by decide +kernel
theorem dX12_seats_32 : decode cX12_seats 32 = .ok (.aload_n 0, 1) := by decide +kernel
theorem dX12_seats_33 : decode cX12_seats 33 = .ok (.invokevirtual 478, 3) := by decide +kernel
theorem dX12_seats_36 : decode cX12_seats 36 = .ok (.iconst 1, 1) := by decide +kernel
theorem dX12_seats_37 : decode cX12_seats 37 = .ok (.istore 6, 2) := by decide +kernel
theorem dX12_seats_39 : decode cX12_seats 39 = .ok (.iload 6, 2) := by decide +kernel
theorem dX12_seats_41 : decode cX12_seats 41 = .ok (.ifCond .eq 189, 3) := by decide +kernel
theorem dX12_seats_44 : decode cX12_seats 44 = .ok (.aload_n 0, 1) := by decide +kernel
theorem dX12_seats_45 : decode cX12_seats 45 = .ok (.aload_n 0, 1) := by decide +kernel
theorem dX12_seats_46 : decode cX12_seats 46 = .ok (.getfield 124, 3) := by decide +kernel
theorem dX12_seats_49 : decode cX12_seats 49 = .ok (.invokevirtual 345, 3) := by decide +kernel
theorem dX12_seats_52 : decode cX12_seats 52 = .ok (.iconst 0, 1) := by decide +kernel
theorem dX12_seats_53 : decode cX12_seats 53 = .ok (.istore 7, 2) := by decide +kernel
theorem dX12_seats_55 : decode cX12_seats 55 = .ok (.iload 7, 2) := by decide +kernel
theorem dX12_seats_57 : decode cX12_seats 57 = .ok (.aload_n 0, 1) := by decide +kernel
theorem dX12_seats_58 : decode cX12_seats 58 = .ok (.getfield 7, 3) := by decide +kernel
theorem dX12_seats_61 : decode cX12_seats 61 = .ok (.if_icmp .ge 64, 3) := by decide +kernel
theorem dX12_seats_64 : decode cX12_seats 64 = .ok (.iconst 0, 1) := by decide +kernel
theorem dX12_seats_65 : decode cX12_seats 65 = .ok (.istore 8, 2) := by decide +kernel
theorem dX12_seats_67 : decode cX12_seats 67 = .ok (.iload 8, 2) := by decide +kernel
theorem dX12_seats_69 : decode cX12_seats 69 = .ok (.aload_n 0, 1) := by decide +kernel
theorem dX12_seats_70 : decode cX12_seats 70 = .ok (.getfield 60, 3) := by decide +kernel
theorem dX12_seats_73 : decode cX12_seats 73 = .ok (.aload_n 0, 1) := by decide +kernel
theorem dX12_seats_74 : decode cX12_seats 74 = .ok (.getfield 72, 3) := by decide +kernel
theorem dX12_seats_77 : decode cX12_seats 77 = .ok (.iload 7, 2) := by decide +kernel
theorem dX12_seats_79 : decode cX12_seats 79 = .ok (.iaload, 1) := by decide +kernel
theorem dX12_seats_80 : decode cX12_seats 80 = .ok (.invokestatic 327, 3) := by decide +kernel
theorem dX12_seats_83 : decode cX12_seats 83 = .ok (.if_icmp .ge 36, 3) := by decide +kernel
theorem dX12_seats_86 : decode cX12_seats 86 = .ok (.aload_n 0, 1) := by decide +kernel
theorem dX12_seats_87 : decode cX12_seats 87 = .ok (.getfield 124, 3) := by decide +kernel
theorem dX12_seats_90 : decode cX12_seats 90 = .ok (.iload 7, 2) := by decide +kernel
theorem dX12_seats_92 : decode cX12_seats 92 = .ok (.iload 8, 2) := by decide +kernel
theorem dX12_seats_94 : decode cX12_seats 94 = .ok (.aload_n 0, 1) := by decide +kernel
theorem dX12_seats_95 : decode cX12_seats 95 = .ok (.getfield 60, 3) := by decide +kernel
theorem dX12_seats_98 : decode cX12_seats 98 = .ok (.aload_n 0, 1) := by decide +kernel
theorem dX12_seats_99 : decode cX12_seats 99 = .ok (.getfield 72, 3) := by decide +kernel
theorem dX12_seats_102 : decode cX12_seats 102 = .ok (.iload 7, 2) := by decide +kernel
theorem dX12_seats_104 : decode cX12_seats 104 = .ok (.iaload, 1) := by decide +kernel
theorem dX12_seats_105 : decode cX12_seats 105 = .ok (.iload 8, 2) := by decide +kernel
theorem dX12_seats_107 : decode cX12_seats 107 = .ok (.invokestatic 331, 3) := by decide +kernel
theorem dX12_seats_110 : decode cX12_seats 110 = .ok (.invokestatic 348, 3) := by decide +kernel
theorem dX12_seats_113 : decode cX12_seats 113 = .ok (.iinc 8 1, 3) := by decide +kernel
theorem dX12_seats_116 : decode cX12_seats 116 = .ok (.goto (-49), 3) := by decide +kernel
theorem dX12_seats_119 : decode cX12_seats 119 = .ok (.iinc 7 1, 3) := by decide +kernel
theorem dX12_seats_122 : decode cX12_seats 122 = .ok (.goto (-67), 3) := by decide +kernel
theorem dX12_seats_125 : decode cX12_seats 125 = .ok (.aload_n 0, 1) := by decide +kernel
theorem dX12_seats_126 : decode cX12_seats 126 = .ok (.aload_n 0, 1) := by decide +kernel
theorem dX12_seats_127 : decode cX12_seats 127 = .ok (.getfield 124, 3) := by decide +kernel
theorem dX12_seats_130 : decode cX12_seats 130 = .ok (.invokevirtual 352, 3) := by decide +kernel
theorem dX12_seats_133 : decode cX12_seats 133 = .ok (.aload_n 0, 1) := by decide +kernel
theorem dX12_seats_134 : decode cX12_seats 134 = .ok (.aload_n 0, 1) := by decide +kernel
theorem dX12_seats_135 : decode cX12_seats 135 = .ok (.getfield 124, 3) := by decide +kernel
theorem dX12_seats_138 : decode cX12_seats 138 = .ok (.invokevirtual 428, 3) := by decide +kernel
theorem dX12_seats_141 : decode cX12_seats 141 = .ok (.aload_n 0, 1) := by decide +kernel
theorem dX12_seats_142 : decode cX12_seats 142 = .ok (.aload_n 0, 1) := by decide +kernel
theorem dX12_seats_143 : decode cX12_seats 143 = .ok (.getfield 124, 3) := by decide +kernel
theorem dX12_seats_146 : decode cX12_seats 146 = .ok (.invokevirtual 434, 3) := by decide +kernel
theorem dX12_seats_149 : decode cX12_seats 149 = .ok (.istore 7, 2) := by decide +kernel
theorem dX12_seats_151 : decode cX12_seats 151 = .ok (.iload_n 3, 1) := by decide +kernel
theorem dX12_seats_152 : decode cX12_seats 152 = .ok (.iload 7, 2) := by decide +kernel
theorem dX12_seats_154 : decode cX12_seats 154 = .ok (.iconst (-1), 1) := by decide +kernel
theorem dX12_seats_155 : decode cX12_seats 155 = .ok (.if_icmp .eq 18, 3) := by decide +kernel
theorem dX12_seats_158 : decode cX12_seats 158 = .ok (.aload_n 0, 1) := by decide +kernel
theorem dX12_seats_159 : decode cX12_seats 159 = .ok (.getfield 72, 3) := by decide +kernel
theorem dX12_seats_162 : decode cX12_seats 162 = .ok (.iload 7, 2) := by decide +kernel
theorem dX12_seats_164 : decode cX12_seats 164 = .ok (.iaload, 1) := by decide +kernel
theorem dX12_seats_165 : decode cX12_seats 165 = .ok (.iload_n 1, 1) := by decide +kernel
theorem dX12_seats_166 : decode cX12_seats 166 = .ok (.if_icmp .ne 7, 3) := by decide +kernel
theorem dX12_seats_169 : decode cX12_seats 169 = .ok (.iconst 1, 1) := by decide +kernel
theorem dX12_seats_170 : decode cX12_seats 170 = .ok (.goto 4, 3) := by decide +kernel
theorem dX12_seats_173 : decode cX12_seats 173 = .ok (.iconst 0, 1) := by decide +kernel
theorem dX12_seats_174 : decode cX12_seats 174 = .ok (.iadd, 1) := by decide +kernel
theorem dX12_seats_175 : decode cX12_seats 175 = .ok (.istore_n 3, 1) := by decide +kernel
theorem dX12_seats_176 : decode cX12_seats 176 = .ok (.iload 4, 2) := by decide +kernel
theorem dX12_seats_178 : decode cX12_seats 178 = .ok (.iload 7, 2) := by decide +kernel
theorem dX12_seats_180 : decode cX12_seats 180 = .ok (.iconst (-1), 1) := by decide +kernel
theorem dX12_seats_181 : decode cX12_seats 181 = .ok (.if_icmp .ne 7, 3) := by decide +kernel
theorem dX12_seats_184 : decode cX12_seats 184 = .ok (.iconst 1, 1) := by decide +kernel
theorem dX12_seats_185 : decode cX12_seats 185 = .ok (.goto 4, 3) := by decide +kernel
theorem dX12_seats_188 : decode cX12_seats 188 = .ok (.iconst 0, 1) := by decide +kernel
theorem dX12_seats_189 : decode cX12_seats 189 = .ok (.iadd, 1) := by decide +kernel
theorem dX12_seats_190 : decode cX12_seats 190 = .ok (.istore 4, 2) := by decide +kernel
theorem dX12_seats_192 : decode cX12_seats 192 = .ok (.iload 5, 2) := by decide +kernel
theorem dX12_seats_194 : decode cX12_seats 194 = .ok (.iconst (-1), 1) := by decide +kernel
theorem dX12_seats_195 : decode cX12_seats 195 = .ok (.if_icmp .ne 26, 3) := by decide +kernel
theorem dX12_seats_198 : decode cX12_seats 198 = .ok (.iload 7, 2) := by decide +kernel
theorem dX12_seats_200 : decode cX12_seats 200 = .ok (.iconst (-1), 1) := by decide +kernel
theorem dX12_seats_201 : decode cX12_seats 201 = .ok (.if_icmp .eq 20, 3) := by decide +kernel
theorem dX12_seats_204 : decode cX12_seats 204 = .ok (.aload_n 0, 1) := by decide +kernel
theorem dX12_seats_205 : decode cX12_seats 205 = .ok (.getfield 72, 3) := by decide +kernel
theorem dX12_seats_208 : decode cX12_seats 208 = .ok (.iload 7, 2) := by decide +kernel
theorem dX12_seats_210 : decode cX12_seats 210 = .ok (.iaload, 1) := by decide +kernel
theorem dX12_seats_211 : decode cX12_seats 211 = .ok (.iload_n 1, 1) := by decide +kernel
theorem dX12_seats_212 : decode cX12_seats 212 = .ok (.if_icmp .eq 9, 3) := by decide +kernel
theorem dX12_seats_215 : decode cX12_seats 215 = .ok (.aload_n 0, 1) := by decide +kernel
theorem dX12_seats_216 : decode cX12_seats 216 = .ok (.invokevirtual 481, 3) := by decide +kernel
theorem dX12_seats_219 : decode cX12_seats 219 = .ok (.istore 5, 2) := by decide +kernel
theorem dX12_seats_221 : decode cX12_seats 221 = .ok (.aload_n 0, 1) := by decide +kernel
theorem dX12_seats_222 : decode cX12_seats 222 = .ok (.invokevirtual 484, 3) := by decide +kernel
theorem dX12_seats_225 : decode cX12_seats 225 = .ok (.istore 6, 2) := by decide +kernel
theorem dX12_seats_227 : decode cX12_seats 227 = .ok (.goto (-188), 3) := by decide +kernel
theorem dX12_seats_230 : decode cX12_seats 230 = .ok (.aload_n 0, 1) := by decide +kernel
theorem dX12_seats_231 : decode cX12_seats 231 = .ok (.invokevirtual 478, 3) := by decide +kernel
theorem dX12_seats_234 : decode cX12_seats 234 = .ok (.iload_n 2, 1) := by decide +kernel
theorem dX12_seats_235 : decode cX12_seats 235 = .ok (.ifCond .ne 7, 3) := by decide +kernel
theorem dX12_seats_238 : decode cX12_seats 238 = .ok (.iload_n 3, 1) := by decide +kernel
theorem dX12_seats_239 : decode cX12_seats 239 = .ok (.goto 15, 3) := by decide +kernel
theorem dX12_seats_242 : decode cX12_seats 242 = .ok (.iload_n 2, 1) := by decide +kernel
theorem dX12_seats_243 : decode cX12_seats 243 = .ok (.iconst 1, 1) := by decide +kernel
theorem dX12_seats_244 : decode cX12_seats 244 = .ok (.if_icmp .ne 8, 3) := by decide +kernel
theorem dX12_seats_247 : decode cX12_seats 247 = .ok (.iload 4, 2) := by decide +kernel
theorem dX12_seats_249 : decode cX12_seats 249 = .ok (.goto 5, 3) := by decide +kernel
theorem dX12_seats_252 : decode cX12_seats 252 = .ok (.iload 5, 2) := by decide +kernel
theorem dX12_seats_254 : decode cX12_seats 254 = .ok (.ireturn, 1) := by decide +kernel
def X12_seats_b254 (e : mm_E) (t0 : Int32) (m : mm_V) : Option (Int32 × mm_V) := some (t0, m)
theorem X12_seats_b254_ok {K : mm_K} {nx : Option Nat} {e : mm_E} (hz : e.2.1 = K.2.2.2.2) {d : Nat} (hd : 7 ≤ d) {t0 : Int32} {a0 : Nat} (h0 : e.1 a0 = some (12, 75)) {m : mm_V} {r : (Int32 × mm_V)} (hr : X12_seats_b254 e t0 m = some r) : mm_G K MX12_seats d (mm_Fi e.1 nx r) 254 [none, none, none, none, none, none, none, none, none] [.int t0] (e.1, m) nx 0 0 := by
  obtain ⟨d, rfl⟩ : ∃ d', d = d' + 1 := ⟨d - 1, by omega⟩
  unfold X12_seats_b254 at hr
  exact mb_iret dX12_seats_254 rfl hr
def X12_seats_b221 (e : mm_E) (k39 : Int32 → Int32 → Int32 → Int32 → mm_V → Option (Int32 × mm_V)) (a0 : Nat) (i1 : Int32) (i2 : Int32) (i3 : Int32) (i4 : Int32) (i5 : Int32) (m : mm_V) : Option (Int32 × mm_V) := (X12_countsUp e a0 m).bind fun r1 => k39 i3 i4 i5 r1.1 r1.2
theorem X12_seats_b221_ok {K : mm_K} {nx : Option Nat} {e : mm_E} (hz : e.2.1 = K.2.2.2.2) {d : Nat} (hd : 7 ≤ d) {a0 : Nat} {i1 : Int32} {i2 : Int32} {i3 : Int32} {i4 : Int32} {i5 : Int32} (h0 : e.1 a0 = some (12, 75)) {k39 : Int32 → Int32 → Int32 → Int32 → mm_V → Option (Int32 × mm_V)} (hk39 : ∀ (w3 : Int32) (w4 : Int32) (w5 : Int32) (w6 : Int32) (m : mm_V) (r : (Int32 × mm_V)), k39 w3 w4 w5 w6 m = some r → mm_G K MX12_seats d (mm_Fi e.1 nx r) 39 [some (.ref a0), some (.int i1), some (.int i2), some (.int w3), some (.int w4), some (.int w5), some (.int w6), none, none] [] (e.1, m) nx 0 0) {m : mm_V} {r : (Int32 × mm_V)} (hr : X12_seats_b221 e k39 a0 i1 i2 i3 i4 i5 m = some r) : mm_G K MX12_seats d (mm_Fi e.1 nx r) 221 [some (.ref a0), some (.int i1), some (.int i2), some (.int i3), some (.int i4), some (.int i5), none, none, none] [] (e.1, m) nx 0 0 := by
  obtain ⟨d, rfl⟩ : ∃ d', d = d' + 1 := ⟨d - 1, by omega⟩
  unfold X12_seats_b221 at hr
  refine ml_aload_n (pc := 221) dX12_seats_221 rfl mm_get_0 ?_
  refine mb_cVi (pc := 222) (As := []) (rest := []) dX12_seats_222 cw_X12_484 h0 hr (fun v hv => X12_countsUp_ok hz (by omega) h0 hv) rfl (Nat.le_of_ble_eq_true rfl) (Nat.zero_le _) (Nat.zero_le _) (fun r1 hr => ?_)
  refine ml_istore (pc := 225) dX12_seats_225 (Nat.le_of_ble_eq_true rfl) (mm_st1_s (mm_st1_s (mm_st1_s (mm_st1_s (mm_st1_s mm_st1_i))))) ?_
  refine mg_goto (pc := 227) 39 dX12_seats_227 rfl ?_
  exact mg_weak (mm_le_s (mm_le_s (mm_le_s (mm_le_s (mm_le_s (mm_le_s (mm_le_s (mm_le_n (mm_le_n mm_le_0))))))))) (hk39 _ _ _ _ _ _ hr)
def X12_seats_b189 (e : mm_E) (k39 : Int32 → Int32 → Int32 → Int32 → mm_V → Option (Int32 × mm_V)) (a0 : Nat) (i1 : Int32) (i2 : Int32) (i3 : Int32) (i5 : Int32) (i7 : Int32) (t0 : Int32) (t1 : Int32) (m : mm_V) : Option (Int32 × mm_V) := if ¬ i5 = (-1 : Int32) then (X12_seats_b221 e k39 a0 i1 i2 i3 (t0 + t1) i5  m) else (if i7 = (-1 : Int32) then (X12_seats_b221 e k39 a0 i1 i2 i3 (t0 + t1) i5  m) else ((mm_gr e.1 m 12 75 a0 44).bind fun c1 => (mm_ai e.1 m 20 c1 i7).bind fun x2 => if x2 = i1 then (X12_seats_b221 e k39 a0 i1 i2 i3 (t0 + t1) i5  m) else ((X12_figures e a0 m).bind fun r3 => X12_seats_b221 e k39 a0 i1 i2 i3 (t0 + t1) r3.1  r3.2)))
theorem X12_seats_b189_ok {K : mm_K} {nx : Option Nat} {e : mm_E} (hz : e.2.1 = K.2.2.2.2) {d : Nat} (hd : 7 ≤ d) {a0 : Nat} {i1 : Int32} {i2 : Int32} {i3 : Int32} {i5 : Int32} {i7 : Int32} {t0 : Int32} {t1 : Int32} (h0 : e.1 a0 = some (12, 75)) {k39 : Int32 → Int32 → Int32 → Int32 → mm_V → Option (Int32 × mm_V)} (hk39 : ∀ (w3 : Int32) (w4 : Int32) (w5 : Int32) (w6 : Int32) (m : mm_V) (r : (Int32 × mm_V)), k39 w3 w4 w5 w6 m = some r → mm_G K MX12_seats d (mm_Fi e.1 nx r) 39 [some (.ref a0), some (.int i1), some (.int i2), some (.int w3), some (.int w4), some (.int w5), some (.int w6), none, none] [] (e.1, m) nx 0 0) {m : mm_V} {r : (Int32 × mm_V)} (hr : X12_seats_b189 e k39 a0 i1 i2 i3 i5 i7 t0 t1 m = some r) : mm_G K MX12_seats d (mm_Fi e.1 nx r) 189 [some (.ref a0), some (.int i1), some (.int i2), some (.int i3), none, some (.int i5), none, some (.int i7), none] [.int t1, .int t0] (e.1, m) nx 0 0 := by
  obtain ⟨d, rfl⟩ : ∃ d', d = d' + 1 := ⟨d - 1, by omega⟩
  unfold X12_seats_b189 at hr
  refine mg_iadd (pc := 189) dX12_seats_189 ?_
  refine ml_istore (pc := 190) dX12_seats_190 (Nat.le_of_ble_eq_true rfl) (mm_st1_s (mm_st1_s (mm_st1_s mm_st1_i))) ?_
  refine ml_iload (pc := 192) dX12_seats_192 (mm_get_s (mm_get_s (mm_get_s (mm_get_s (mm_get_s mm_get_0))))) ?_
  refine mg_iconst (pc := 194) dX12_seats_194 kc_m1 ?_
  refine mb_icmp_ne (pc := 195) 221 dX12_seats_195 rfl hr (fun hr => ?_) (fun hr => ?_)
  · exact mg_weak (mm_le_s (mm_le_s (mm_le_s (mm_le_s (mm_le_s (mm_le_s (mm_le_n (mm_le_n (mm_le_n mm_le_0))))))))) (X12_seats_b221_ok hz hd h0 hk39 hr)
  · refine ml_iload (pc := 198) dX12_seats_198 (mm_get_s (mm_get_s (mm_get_s (mm_get_s (mm_get_s (mm_get_s (mm_get_s mm_get_0))))))) ?_
    refine mg_iconst (pc := 200) dX12_seats_200 kc_m1 ?_
    refine mb_icmp_eq (pc := 201) 221 dX12_seats_201 rfl hr (fun hr => ?_) (fun hr => ?_)
    · exact mg_weak (mm_le_s (mm_le_s (mm_le_s (mm_le_s (mm_le_s (mm_le_s (mm_le_n (mm_le_n (mm_le_n mm_le_0))))))))) (X12_seats_b221_ok hz hd h0 hk39 hr)
    · refine ml_aload_n (pc := 204) dX12_seats_204 rfl mm_get_0 ?_
      refine mb_gr (pc := 205) dX12_seats_205 fl_X12_72 hr (fun c1 hr => ?_)
      refine ml_iload (pc := 208) dX12_seats_208 (mm_get_s (mm_get_s (mm_get_s (mm_get_s (mm_get_s (mm_get_s (mm_get_s mm_get_0))))))) ?_
      refine mb_ai (pc := 210) dX12_seats_210 hr (fun x2 hr => ?_)
      refine ml_iload_n (pc := 211) dX12_seats_211 rfl (mm_get_s mm_get_0) ?_
      refine mb_icmp_eq (pc := 212) 221 dX12_seats_212 rfl hr (fun hr => ?_) (fun hr => ?_)
      · exact mg_weak (mm_le_s (mm_le_s (mm_le_s (mm_le_s (mm_le_s (mm_le_s (mm_le_n (mm_le_n (mm_le_n mm_le_0))))))))) (X12_seats_b221_ok hz hd h0 hk39 hr)
      · refine ml_aload_n (pc := 215) dX12_seats_215 rfl mm_get_0 ?_
        refine mb_cVi (pc := 216) (As := []) (rest := []) dX12_seats_216 cw_X12_481 h0 hr (fun v hv => X12_figures_ok hz (by omega) h0 hv) rfl (Nat.le_of_ble_eq_true rfl) (Nat.zero_le _) (Nat.zero_le _) (fun r3 hr => ?_)
        refine ml_istore (pc := 219) dX12_seats_219 (Nat.le_of_ble_eq_true rfl) (mm_st1_s (mm_st1_s (mm_st1_s (mm_st1_s mm_st1_i)))) ?_
        exact mg_weak (mm_le_s (mm_le_s (mm_le_s (mm_le_s (mm_le_s (mm_le_s (mm_le_n (mm_le_n (mm_le_n mm_le_0))))))))) (X12_seats_b221_ok hz hd h0 hk39 hr)
def X12_seats_b174 (e : mm_E) (k39 : Int32 → Int32 → Int32 → Int32 → mm_V → Option (Int32 × mm_V)) (a0 : Nat) (i1 : Int32) (i2 : Int32) (i4 : Int32) (i5 : Int32) (i7 : Int32) (t0 : Int32) (t1 : Int32) (m : mm_V) : Option (Int32 × mm_V) := if ¬ i7 = (-1 : Int32) then (X12_seats_b189 e k39 a0 i1 i2 (t0 + t1) i5 i7 i4 (0 : Int32) m) else (X12_seats_b189 e k39 a0 i1 i2 (t0 + t1) i5 i7 i4 (1 : Int32) m)
theorem X12_seats_b174_ok {K : mm_K} {nx : Option Nat} {e : mm_E} (hz : e.2.1 = K.2.2.2.2) {d : Nat} (hd : 7 ≤ d) {a0 : Nat} {i1 : Int32} {i2 : Int32} {i4 : Int32} {i5 : Int32} {i7 : Int32} {t0 : Int32} {t1 : Int32} (h0 : e.1 a0 = some (12, 75)) {k39 : Int32 → Int32 → Int32 → Int32 → mm_V → Option (Int32 × mm_V)} (hk39 : ∀ (w3 : Int32) (w4 : Int32) (w5 : Int32) (w6 : Int32) (m : mm_V) (r : (Int32 × mm_V)), k39 w3 w4 w5 w6 m = some r → mm_G K MX12_seats d (mm_Fi e.1 nx r) 39 [some (.ref a0), some (.int i1), some (.int i2), some (.int w3), some (.int w4), some (.int w5), some (.int w6), none, none] [] (e.1, m) nx 0 0) {m : mm_V} {r : (Int32 × mm_V)} (hr : X12_seats_b174 e k39 a0 i1 i2 i4 i5 i7 t0 t1 m = some r) : mm_G K MX12_seats d (mm_Fi e.1 nx r) 174 [some (.ref a0), some (.int i1), some (.int i2), none, some (.int i4), some (.int i5), none, some (.int i7), none] [.int t1, .int t0] (e.1, m) nx 0 0 := by
  obtain ⟨d, rfl⟩ : ∃ d', d = d' + 1 := ⟨d - 1, by omega⟩
  unfold X12_seats_b174 at hr
  refine mg_iadd (pc := 174) dX12_seats_174 ?_
  refine ml_istore_n (pc := 175) dX12_seats_175 rfl (Nat.le_of_ble_eq_true rfl) (mm_st1_s (mm_st1_s mm_st1_i)) ?_
  refine ml_iload (pc := 176) dX12_seats_176 (mm_get_s (mm_get_s (mm_get_s (mm_get_s mm_get_0)))) ?_
  refine ml_iload (pc := 178) dX12_seats_178 (mm_get_s (mm_get_s (mm_get_s (mm_get_s (mm_get_s (mm_get_s (mm_get_s mm_get_0))))))) ?_
  refine mg_iconst (pc := 180) dX12_seats_180 kc_m1 ?_
  refine mb_icmp_ne (pc := 181) 188 dX12_seats_181 rfl hr (fun hr => ?_) (fun hr => ?_)
  · refine mg_iconst (pc := 188) dX12_seats_188 kc_0 ?_
    exact mg_weak (mm_le_s (mm_le_s (mm_le_s (mm_le_s (mm_le_n (mm_le_s (mm_le_n (mm_le_s (mm_le_n mm_le_0))))))))) (X12_seats_b189_ok hz hd h0 hk39 hr)
  · refine mg_iconst (pc := 184) dX12_seats_184 kc_1 ?_
    refine mg_goto (pc := 185) 189 dX12_seats_185 rfl ?_
    exact mg_weak (mm_le_s (mm_le_s (mm_le_s (mm_le_s (mm_le_n (mm_le_s (mm_le_n (mm_le_s (mm_le_n mm_le_0))))))))) (X12_seats_b189_ok hz hd h0 hk39 hr)
def X12_seats_b173 (e : mm_E) (k39 : Int32 → Int32 → Int32 → Int32 → mm_V → Option (Int32 × mm_V)) (a0 : Nat) (i1 : Int32) (i2 : Int32) (i4 : Int32) (i5 : Int32) (i7 : Int32) (t0 : Int32) (m : mm_V) : Option (Int32 × mm_V) := X12_seats_b174 e k39 a0 i1 i2 i4 i5 i7 t0 (0 : Int32) m
theorem X12_seats_b173_ok {K : mm_K} {nx : Option Nat} {e : mm_E} (hz : e.2.1 = K.2.2.2.2) {d : Nat} (hd : 7 ≤ d) {a0 : Nat} {i1 : Int32} {i2 : Int32} {i4 : Int32} {i5 : Int32} {i7 : Int32} {t0 : Int32} (h0 : e.1 a0 = some (12, 75)) {k39 : Int32 → Int32 → Int32 → Int32 → mm_V → Option (Int32 × mm_V)} (hk39 : ∀ (w3 : Int32) (w4 : Int32) (w5 : Int32) (w6 : Int32) (m : mm_V) (r : (Int32 × mm_V)), k39 w3 w4 w5 w6 m = some r → mm_G K MX12_seats d (mm_Fi e.1 nx r) 39 [some (.ref a0), some (.int i1), some (.int i2), some (.int w3), some (.int w4), some (.int w5), some (.int w6), none, none] [] (e.1, m) nx 0 0) {m : mm_V} {r : (Int32 × mm_V)} (hr : X12_seats_b173 e k39 a0 i1 i2 i4 i5 i7 t0 m = some r) : mm_G K MX12_seats d (mm_Fi e.1 nx r) 173 [some (.ref a0), some (.int i1), some (.int i2), none, some (.int i4), some (.int i5), none, some (.int i7), none] [.int t0] (e.1, m) nx 0 0 := by
  obtain ⟨d, rfl⟩ : ∃ d', d = d' + 1 := ⟨d - 1, by omega⟩
  unfold X12_seats_b173 at hr
  refine mg_iconst (pc := 173) dX12_seats_173 kc_0 ?_
  exact mg_weak (mm_le_s (mm_le_s (mm_le_s (mm_le_n (mm_le_s (mm_le_s (mm_le_n (mm_le_s (mm_le_n mm_le_0))))))))) (X12_seats_b174_ok hz hd h0 hk39 hr)
def X12_seats_L67 (e : mm_E) (k39 : Int32 → Int32 → Int32 → Int32 → mm_V → Option (Int32 × mm_V)) (k55 : Int32 → mm_V → Option (Int32 × mm_V)) (a0 : Nat) (i1 : Int32) (i2 : Int32) (i3 : Int32) (i4 : Int32) (i5 : Int32) (i7 : Int32) : Nat → Int32 → mm_V → Option (Int32 × mm_V)
  | 0, _, _ => none
  | n + 1, i8, m => (mm_gr e.1 m 12 75 a0 39).bind fun c1 => (mm_gr e.1 m 12 75 a0 44).bind fun c2 => (mm_ai e.1 m 20 c2 i7).bind fun x3 => (X12_size e c1 x3 m).bind fun r4 => if r4.1 ≤ i8 then (k55 (i7 + 1) r4.2) else ((mm_gr e.1 r4.2 12 75 a0 68).bind fun c5 => (mm_gr e.1 r4.2 12 75 a0 39).bind fun c6 => (mm_gr e.1 r4.2 12 75 a0 44).bind fun c7 => (mm_ai e.1 r4.2 20 c7 i7).bind fun x8 => (X12_card e c6 x8 i8 r4.2).bind fun r9 => (X12_inserts e c5 i7 i8 r9.1 r9.2).bind fun r10 => X12_seats_L67 e k39 k55 a0 i1 i2 i3 i4 i5 i7 n (i8 + 1) r10)
theorem X12_seats_L67_ok {K : mm_K} {nx : Option Nat} {e : mm_E} (hz : e.2.1 = K.2.2.2.2) {d : Nat} (hd : 7 ≤ d) {a0 : Nat} {i1 : Int32} {i2 : Int32} {i3 : Int32} {i4 : Int32} {i5 : Int32} {i7 : Int32} (h0 : e.1 a0 = some (12, 75)) {k39 : Int32 → Int32 → Int32 → Int32 → mm_V → Option (Int32 × mm_V)} {k55 : Int32 → mm_V → Option (Int32 × mm_V)} (hk39 : ∀ (w3 : Int32) (w4 : Int32) (w5 : Int32) (w6 : Int32) (m : mm_V) (r : (Int32 × mm_V)), k39 w3 w4 w5 w6 m = some r → mm_G K MX12_seats d (mm_Fi e.1 nx r) 39 [some (.ref a0), some (.int i1), some (.int i2), some (.int w3), some (.int w4), some (.int w5), some (.int w6), none, none] [] (e.1, m) nx 0 0) (hk55 : ∀ (w7 : Int32) (m : mm_V) (r : (Int32 × mm_V)), k55 w7 m = some r → mm_G K MX12_seats d (mm_Fi e.1 nx r) 55 [some (.ref a0), some (.int i1), some (.int i2), some (.int i3), some (.int i4), some (.int i5), none, some (.int w7), none] [] (e.1, m) nx 0 0) : ∀ (n : Nat) (i8 : Int32) (m : mm_V) (r : (Int32 × mm_V)), X12_seats_L67 e k39 k55 a0 i1 i2 i3 i4 i5 i7 n i8 m = some r → mm_G K MX12_seats d (mm_Fi e.1 nx r) 67 [some (.ref a0), some (.int i1), some (.int i2), some (.int i3), some (.int i4), some (.int i5), none, some (.int i7), some (.int i8)] [] (e.1, m) nx 0 0 := by
  obtain ⟨d, rfl⟩ : ∃ d', d = d' + 1 := ⟨d - 1, by omega⟩
  intro n
  induction n with
  | zero => intro i8 m r hr; unfold X12_seats_L67 at hr; cases hr
  | succ n ih =>
    intro i8 m r hr
    unfold X12_seats_L67 at hr
    refine ml_iload (pc := 67) dX12_seats_67 (mm_get_s (mm_get_s (mm_get_s (mm_get_s (mm_get_s (mm_get_s (mm_get_s (mm_get_s mm_get_0)))))))) ?_
    refine ml_aload_n (pc := 69) dX12_seats_69 rfl mm_get_0 ?_
    refine mb_gr (pc := 70) dX12_seats_70 fl_X12_60 hr (fun c1 hr => ?_)
    refine ml_aload_n (pc := 73) dX12_seats_73 rfl mm_get_0 ?_
    refine mb_gr (pc := 74) dX12_seats_74 fl_X12_72 hr (fun c2 hr => ?_)
    refine ml_iload (pc := 77) dX12_seats_77 (mm_get_s (mm_get_s (mm_get_s (mm_get_s (mm_get_s (mm_get_s (mm_get_s mm_get_0))))))) ?_
    refine mb_ai (pc := 79) dX12_seats_79 hr (fun x3 hr => ?_)
    refine mb_cSi (pc := 80) (As := [.ref c1, .int x3]) (rest := [.int i8]) dX12_seats_80 cw_X12_327  hr (fun v hv => X12_size_ok hz (by omega)  hv) rfl (Nat.le_of_ble_eq_true rfl) (Nat.zero_le _) (Nat.zero_le _) (fun r4 hr => ?_)
    refine mb_icmp_ge (pc := 83) 119 dX12_seats_83 rfl hr (fun hr => ?_) (fun hr => ?_)
    · refine ml_iinc (pc := 119) dX12_seats_119 (mm_get_s (mm_get_s (mm_get_s (mm_get_s (mm_get_s (mm_get_s (mm_get_s mm_get_0))))))) (congrArg (fun z => i7 + z) kc_1) (Nat.le_of_ble_eq_true rfl) (mm_st1_s (mm_st1_s (mm_st1_s (mm_st1_s (mm_st1_s (mm_st1_s mm_st1_n)))))) ?_
      refine mg_goto (pc := 122) 55 dX12_seats_122 rfl ?_
      exact mg_weak (mm_le_s (mm_le_s (mm_le_s (mm_le_s (mm_le_s (mm_le_s (mm_le_n (mm_le_s (mm_le_n mm_le_0))))))))) (hk55 _ _ _ hr)
    · refine ml_aload_n (pc := 86) dX12_seats_86 rfl mm_get_0 ?_
      refine mb_gr (pc := 87) dX12_seats_87 fl_X12_124 hr (fun c5 hr => ?_)
      refine ml_iload (pc := 90) dX12_seats_90 (mm_get_s (mm_get_s (mm_get_s (mm_get_s (mm_get_s (mm_get_s (mm_get_s mm_get_0))))))) ?_
      refine ml_iload (pc := 92) dX12_seats_92 (mm_get_s (mm_get_s (mm_get_s (mm_get_s (mm_get_s (mm_get_s (mm_get_s (mm_get_s mm_get_0)))))))) ?_
      refine ml_aload_n (pc := 94) dX12_seats_94 rfl mm_get_0 ?_
      refine mb_gr (pc := 95) dX12_seats_95 fl_X12_60 hr (fun c6 hr => ?_)
      refine ml_aload_n (pc := 98) dX12_seats_98 rfl mm_get_0 ?_
      refine mb_gr (pc := 99) dX12_seats_99 fl_X12_72 hr (fun c7 hr => ?_)
      refine ml_iload (pc := 102) dX12_seats_102 (mm_get_s (mm_get_s (mm_get_s (mm_get_s (mm_get_s (mm_get_s (mm_get_s mm_get_0))))))) ?_
      refine mb_ai (pc := 104) dX12_seats_104 hr (fun x8 hr => ?_)
      refine ml_iload (pc := 105) dX12_seats_105 (mm_get_s (mm_get_s (mm_get_s (mm_get_s (mm_get_s (mm_get_s (mm_get_s (mm_get_s mm_get_0)))))))) ?_
      refine mb_cSi (pc := 107) (As := [.ref c6, .int x8, .int i8]) (rest := [.int i8, .int i7, .ref c5]) dX12_seats_107 cw_X12_331  hr (fun v hv => X12_card_ok hz (by omega)  hv) rfl (Nat.le_of_ble_eq_true rfl) (Nat.zero_le _) (Nat.zero_le _) (fun r9 hr => ?_)
      refine mb_cSv (pc := 110) (As := [.ref c5, .int i7, .int i8, .int r9.1]) (rest := []) dX12_seats_110 cw_X12_348  hr (fun v hv => X12_inserts_ok hz (by omega)  hv) rfl (Nat.le_of_ble_eq_true rfl) (Nat.zero_le _) (Nat.zero_le _) (fun r10 hr => ?_)
      refine ml_iinc (pc := 113) dX12_seats_113 (mm_get_s (mm_get_s (mm_get_s (mm_get_s (mm_get_s (mm_get_s (mm_get_s (mm_get_s mm_get_0)))))))) (congrArg (fun z => i8 + z) kc_1) (Nat.le_of_ble_eq_true rfl) (mm_st1_s (mm_st1_s (mm_st1_s (mm_st1_s (mm_st1_s (mm_st1_s (mm_st1_s mm_st1_i))))))) ?_
      refine mg_goto (pc := 116) 67 dX12_seats_116 rfl ?_
      exact mg_weak (mm_le_s (mm_le_s (mm_le_s (mm_le_s (mm_le_s (mm_le_s (mm_le_n (mm_le_s (mm_le_s mm_le_0))))))))) (ih _ _ _ hr)
def X12_seats_L55 (e : mm_E) (k39 : Int32 → Int32 → Int32 → Int32 → mm_V → Option (Int32 × mm_V)) (a0 : Nat) (i1 : Int32) (i2 : Int32) (i3 : Int32) (i4 : Int32) (i5 : Int32) : Nat → Int32 → mm_V → Option (Int32 × mm_V)
  | 0, _, _ => none
  | n + 1, i7, m => (mm_gi e.1 m 12 75 a0 1).bind fun x1 => if x1 ≤ i7 then ((mm_gr e.1 m 12 75 a0 68).bind fun c2 => (X12_opens e a0 c2 m).bind fun r3 => (mm_gr e.1 r3 12 75 a0 68).bind fun c4 => (X12_plays e a0 c4 r3).bind fun r5 => (mm_gr e.1 r5 12 75 a0 68).bind fun c6 => (X12_loser e a0 c6 r5).bind fun r7 => if r7.1 = (-1 : Int32) then (X12_seats_b173 e k39 a0 i1 i2 i4 i5 r7.1 i3 r7.2) else ((mm_gr e.1 r7.2 12 75 a0 44).bind fun c8 => (mm_ai e.1 r7.2 20 c8 r7.1).bind fun x9 => if ¬ x9 = i1 then (X12_seats_b173 e k39 a0 i1 i2 i4 i5 r7.1 i3 r7.2) else (X12_seats_b174 e k39 a0 i1 i2 i4 i5 r7.1 i3 (1 : Int32) r7.2))) else (X12_seats_L67 e k39 (X12_seats_L55 e k39 a0 i1 i2 i3 i4 i5 n) a0 i1 i2 i3 i4 i5 i7 e.2.2 (0 : Int32) m)
theorem X12_seats_L55_ok {K : mm_K} {nx : Option Nat} {e : mm_E} (hz : e.2.1 = K.2.2.2.2) {d : Nat} (hd : 7 ≤ d) {a0 : Nat} {i1 : Int32} {i2 : Int32} {i3 : Int32} {i4 : Int32} {i5 : Int32} (h0 : e.1 a0 = some (12, 75)) {k39 : Int32 → Int32 → Int32 → Int32 → mm_V → Option (Int32 × mm_V)} (hk39 : ∀ (w3 : Int32) (w4 : Int32) (w5 : Int32) (w6 : Int32) (m : mm_V) (r : (Int32 × mm_V)), k39 w3 w4 w5 w6 m = some r → mm_G K MX12_seats d (mm_Fi e.1 nx r) 39 [some (.ref a0), some (.int i1), some (.int i2), some (.int w3), some (.int w4), some (.int w5), some (.int w6), none, none] [] (e.1, m) nx 0 0) : ∀ (n : Nat) (i7 : Int32) (m : mm_V) (r : (Int32 × mm_V)), X12_seats_L55 e k39 a0 i1 i2 i3 i4 i5 n i7 m = some r → mm_G K MX12_seats d (mm_Fi e.1 nx r) 55 [some (.ref a0), some (.int i1), some (.int i2), some (.int i3), some (.int i4), some (.int i5), none, some (.int i7), none] [] (e.1, m) nx 0 0 := by
  obtain ⟨d, rfl⟩ : ∃ d', d = d' + 1 := ⟨d - 1, by omega⟩
  intro n
  induction n with
  | zero => intro i7 m r hr; unfold X12_seats_L55 at hr; cases hr
  | succ n ih =>
    intro i7 m r hr
    unfold X12_seats_L55 at hr
    refine ml_iload (pc := 55) dX12_seats_55 (mm_get_s (mm_get_s (mm_get_s (mm_get_s (mm_get_s (mm_get_s (mm_get_s mm_get_0))))))) ?_
    refine ml_aload_n (pc := 57) dX12_seats_57 rfl mm_get_0 ?_
    refine mb_gi (pc := 58) dX12_seats_58 fl_X12_7 hr (fun x1 hr => ?_)
    refine mb_icmp_ge (pc := 61) 125 dX12_seats_61 rfl hr (fun hr => ?_) (fun hr => ?_)
    · refine ml_aload_n (pc := 125) dX12_seats_125 rfl mm_get_0 ?_
      refine ml_aload_n (pc := 126) dX12_seats_126 rfl mm_get_0 ?_
      refine mb_gr (pc := 127) dX12_seats_127 fl_X12_124 hr (fun c2 hr => ?_)
      refine mb_cVv (pc := 130) (As := [.ref c2]) (rest := []) dX12_seats_130 cw_X12_352 h0 hr (fun v hv => X12_opens_ok hz (by omega) h0 hv) rfl (Nat.le_of_ble_eq_true rfl) (Nat.zero_le _) (Nat.zero_le _) (fun r3 hr => ?_)
      refine ml_aload_n (pc := 133) dX12_seats_133 rfl mm_get_0 ?_
      refine ml_aload_n (pc := 134) dX12_seats_134 rfl mm_get_0 ?_
      refine mb_gr (pc := 135) dX12_seats_135 fl_X12_124 hr (fun c4 hr => ?_)
      refine mb_cVv (pc := 138) (As := [.ref c4]) (rest := []) dX12_seats_138 cw_X12_428 h0 hr (fun v hv => X12_plays_ok hz (by omega) h0 hv) rfl (Nat.le_of_ble_eq_true rfl) (Nat.zero_le _) (Nat.zero_le _) (fun r5 hr => ?_)
      refine ml_aload_n (pc := 141) dX12_seats_141 rfl mm_get_0 ?_
      refine ml_aload_n (pc := 142) dX12_seats_142 rfl mm_get_0 ?_
      refine mb_gr (pc := 143) dX12_seats_143 fl_X12_124 hr (fun c6 hr => ?_)
      refine mb_cVi (pc := 146) (As := [.ref c6]) (rest := []) dX12_seats_146 cw_X12_434 h0 hr (fun v hv => X12_loser_ok hz (by omega) h0 hv) rfl (Nat.le_of_ble_eq_true rfl) (Nat.zero_le _) (Nat.zero_le _) (fun r7 hr => ?_)
      refine ml_istore (pc := 149) dX12_seats_149 (Nat.le_of_ble_eq_true rfl) (mm_st1_s (mm_st1_s (mm_st1_s (mm_st1_s (mm_st1_s (mm_st1_s mm_st1_n)))))) ?_
      refine ml_iload_n (pc := 151) dX12_seats_151 rfl (mm_get_s (mm_get_s (mm_get_s mm_get_0))) ?_
      refine ml_iload (pc := 152) dX12_seats_152 (mm_get_s (mm_get_s (mm_get_s (mm_get_s (mm_get_s (mm_get_s (mm_get_s mm_get_0))))))) ?_
      refine mg_iconst (pc := 154) dX12_seats_154 kc_m1 ?_
      refine mb_icmp_eq (pc := 155) 173 dX12_seats_155 rfl hr (fun hr => ?_) (fun hr => ?_)
      · exact mg_weak (mm_le_s (mm_le_s (mm_le_s (mm_le_n (mm_le_s (mm_le_s (mm_le_n (mm_le_s (mm_le_n mm_le_0))))))))) (X12_seats_b173_ok hz hd h0 hk39 hr)
      · refine ml_aload_n (pc := 158) dX12_seats_158 rfl mm_get_0 ?_
        refine mb_gr (pc := 159) dX12_seats_159 fl_X12_72 hr (fun c8 hr => ?_)
        refine ml_iload (pc := 162) dX12_seats_162 (mm_get_s (mm_get_s (mm_get_s (mm_get_s (mm_get_s (mm_get_s (mm_get_s mm_get_0))))))) ?_
        refine mb_ai (pc := 164) dX12_seats_164 hr (fun x9 hr => ?_)
        refine ml_iload_n (pc := 165) dX12_seats_165 rfl (mm_get_s mm_get_0) ?_
        refine mb_icmp_ne (pc := 166) 173 dX12_seats_166 rfl hr (fun hr => ?_) (fun hr => ?_)
        · exact mg_weak (mm_le_s (mm_le_s (mm_le_s (mm_le_n (mm_le_s (mm_le_s (mm_le_n (mm_le_s (mm_le_n mm_le_0))))))))) (X12_seats_b173_ok hz hd h0 hk39 hr)
        · refine mg_iconst (pc := 169) dX12_seats_169 kc_1 ?_
          refine mg_goto (pc := 170) 174 dX12_seats_170 rfl ?_
          exact mg_weak (mm_le_s (mm_le_s (mm_le_s (mm_le_n (mm_le_s (mm_le_s (mm_le_n (mm_le_s (mm_le_n mm_le_0))))))))) (X12_seats_b174_ok hz hd h0 hk39 hr)
    · refine mg_iconst (pc := 64) dX12_seats_64 kc_0 ?_
      refine ml_istore (pc := 65) dX12_seats_65 (Nat.le_of_ble_eq_true rfl) (mm_st1_s (mm_st1_s (mm_st1_s (mm_st1_s (mm_st1_s (mm_st1_s (mm_st1_s mm_st1_i))))))) ?_
      exact mg_weak (mm_le_s (mm_le_s (mm_le_s (mm_le_s (mm_le_s (mm_le_s (mm_le_n (mm_le_s (mm_le_s mm_le_0))))))))) (X12_seats_L67_ok hz hd h0 hk39 ih _ _ _ _ hr)
def X12_seats_L39 (e : mm_E) (a0 : Nat) (i1 : Int32) (i2 : Int32) : Nat → Int32 → Int32 → Int32 → Int32 → mm_V → Option (Int32 × mm_V)
  | 0, _, _, _, _, _ => none
  | n + 1, i3, i4, i5, i6, m => if i6 = 0 then ((X12_sitsAsEver e a0 m).bind fun r1 => if ¬ i2 = 0 then (if ¬ i2 = (1 : Int32) then (X12_seats_b254 e  i5 r1) else (X12_seats_b254 e  i4 r1)) else (X12_seats_b254 e  i3 r1)) else ((mm_gr e.1 m 12 75 a0 68).bind fun c2 => (X12_clears e a0 c2 m).bind fun r3 => X12_seats_L55 e (X12_seats_L39 e a0 i1 i2 n) a0 i1 i2 i3 i4 i5 e.2.2 (0 : Int32) r3)
theorem X12_seats_L39_ok {K : mm_K} {nx : Option Nat} {e : mm_E} (hz : e.2.1 = K.2.2.2.2) {d : Nat} (hd : 7 ≤ d) {a0 : Nat} {i1 : Int32} {i2 : Int32} (h0 : e.1 a0 = some (12, 75)) : ∀ (n : Nat) (i3 : Int32) (i4 : Int32) (i5 : Int32) (i6 : Int32) (m : mm_V) (r : (Int32 × mm_V)), X12_seats_L39 e a0 i1 i2 n i3 i4 i5 i6 m = some r → mm_G K MX12_seats d (mm_Fi e.1 nx r) 39 [some (.ref a0), some (.int i1), some (.int i2), some (.int i3), some (.int i4), some (.int i5), some (.int i6), none, none] [] (e.1, m) nx 0 0 := by
  obtain ⟨d, rfl⟩ : ∃ d', d = d' + 1 := ⟨d - 1, by omega⟩
  intro n
  induction n with
  | zero => intro i3 i4 i5 i6 m r hr; unfold X12_seats_L39 at hr; cases hr
  | succ n ih =>
    intro i3 i4 i5 i6 m r hr
    unfold X12_seats_L39 at hr
    refine ml_iload (pc := 39) dX12_seats_39 (mm_get_s (mm_get_s (mm_get_s (mm_get_s (mm_get_s (mm_get_s mm_get_0)))))) ?_
    refine mb_if_eq (pc := 41) 230 dX12_seats_41 rfl hr (fun hr => ?_) (fun hr => ?_)
    · refine ml_aload_n (pc := 230) dX12_seats_230 rfl mm_get_0 ?_
      refine mb_cVv (pc := 231) (As := []) (rest := []) dX12_seats_231 cw_X12_478 h0 hr (fun v hv => X12_sitsAsEver_ok hz (by omega) h0 hv) rfl (Nat.le_of_ble_eq_true rfl) (Nat.zero_le _) (Nat.zero_le _) (fun r1 hr => ?_)
      refine ml_iload_n (pc := 234) dX12_seats_234 rfl (mm_get_s (mm_get_s mm_get_0)) ?_
      refine mb_if_ne (pc := 235) 242 dX12_seats_235 rfl hr (fun hr => ?_) (fun hr => ?_)
      · refine ml_iload_n (pc := 242) dX12_seats_242 rfl (mm_get_s (mm_get_s mm_get_0)) ?_
        refine mg_iconst (pc := 243) dX12_seats_243 kc_1 ?_
        refine mb_icmp_ne (pc := 244) 252 dX12_seats_244 rfl hr (fun hr => ?_) (fun hr => ?_)
        · refine ml_iload (pc := 252) dX12_seats_252 (mm_get_s (mm_get_s (mm_get_s (mm_get_s (mm_get_s mm_get_0))))) ?_
          exact mg_weak (mm_le_n (mm_le_n (mm_le_n (mm_le_n (mm_le_n (mm_le_n (mm_le_n (mm_le_n (mm_le_n mm_le_0))))))))) (X12_seats_b254_ok hz hd h0 hr)
        · refine ml_iload (pc := 247) dX12_seats_247 (mm_get_s (mm_get_s (mm_get_s (mm_get_s mm_get_0)))) ?_
          refine mg_goto (pc := 249) 254 dX12_seats_249 rfl ?_
          exact mg_weak (mm_le_n (mm_le_n (mm_le_n (mm_le_n (mm_le_n (mm_le_n (mm_le_n (mm_le_n (mm_le_n mm_le_0))))))))) (X12_seats_b254_ok hz hd h0 hr)
      · refine ml_iload_n (pc := 238) dX12_seats_238 rfl (mm_get_s (mm_get_s (mm_get_s mm_get_0))) ?_
        refine mg_goto (pc := 239) 254 dX12_seats_239 rfl ?_
        exact mg_weak (mm_le_n (mm_le_n (mm_le_n (mm_le_n (mm_le_n (mm_le_n (mm_le_n (mm_le_n (mm_le_n mm_le_0))))))))) (X12_seats_b254_ok hz hd h0 hr)
    · refine ml_aload_n (pc := 44) dX12_seats_44 rfl mm_get_0 ?_
      refine ml_aload_n (pc := 45) dX12_seats_45 rfl mm_get_0 ?_
      refine mb_gr (pc := 46) dX12_seats_46 fl_X12_124 hr (fun c2 hr => ?_)
      refine mb_cVv (pc := 49) (As := [.ref c2]) (rest := []) dX12_seats_49 cw_X12_345 h0 hr (fun v hv => X12_clears_ok hz (by omega) h0 hv) rfl (Nat.le_of_ble_eq_true rfl) (Nat.zero_le _) (Nat.zero_le _) (fun r3 hr => ?_)
      refine mg_iconst (pc := 52) dX12_seats_52 kc_0 ?_
      refine ml_istore (pc := 53) dX12_seats_53 (Nat.le_of_ble_eq_true rfl) (mm_st1_s (mm_st1_s (mm_st1_s (mm_st1_s (mm_st1_s (mm_st1_s mm_st1_i)))))) ?_
      exact mg_weak (mm_le_s (mm_le_s (mm_le_s (mm_le_s (mm_le_s (mm_le_s (mm_le_n (mm_le_s (mm_le_n mm_le_0))))))))) (X12_seats_L55_ok hz hd h0 ih _ _ _ _ hr)
def X12_seats_b22 (e : mm_E) (m : mm_V) : Option (Int32 × mm_V) := some ((0 : Int32), m)
theorem X12_seats_b22_ok {K : mm_K} {nx : Option Nat} {e : mm_E} (hz : e.2.1 = K.2.2.2.2) {d : Nat} (hd : 7 ≤ d) {a0 : Nat} (h0 : e.1 a0 = some (12, 75)) {m : mm_V} {r : (Int32 × mm_V)} (hr : X12_seats_b22 e m = some r) : mm_G K MX12_seats d (mm_Fi e.1 nx r) 22 [none, none, none, none, none, none, none, none, none] [] (e.1, m) nx 0 0 := by
  obtain ⟨d, rfl⟩ : ∃ d', d = d' + 1 := ⟨d - 1, by omega⟩
  unfold X12_seats_b22 at hr
  refine mg_iconst (pc := 22) dX12_seats_22 kc_0 ?_
  exact mb_iret dX12_seats_23 rfl hr
def X12_seats (e : mm_E) (a0 : Nat) (i1 : Int32) (i2 : Int32) (m : mm_V) : Option (Int32 × mm_V) := (mm_pf e.1 m 12 75 a0 0 (.int (0 : Int32))).bind fun m1 => (X12_isPerson e a0 i1 m1).bind fun r2 => if r2.1 = 0 then (X12_seats_b22 e   r2.2) else ((X12_isWhat e a0 i2 (2 : Int32) r2.2).bind fun r3 => if ¬ r3.1 = 0 then ((X12_sitsAsEver e a0 r3.2).bind fun r4 => X12_seats_L39 e a0 i1 i2 e.2.2 (0 : Int32) (0 : Int32) (-1 : Int32) (1 : Int32) r4) else (X12_seats_b22 e   r3.2))
theorem X12_seats_ok {K : mm_K} {nx : Option Nat} {e : mm_E} (hz : e.2.1 = K.2.2.2.2) {d : Nat} (hd : 7 ≤ d) {a0 : Nat} {i1 : Int32} {i2 : Int32} (h0 : e.1 a0 = some (12, 75)) {m : mm_V} {r : (Int32 × mm_V)} (hr : X12_seats e a0 i1 i2 m = some r) : mm_Cn K MX12_seats d (mm_Fi e.1 nx r) [.ref a0, .int i1, .int i2] (e.1, m) nx := by
  obtain ⟨d, rfl⟩ : ∃ d', d = d' + 1 := ⟨d - 1, by omega⟩
  refine mm_entry (by decide) (Nat.le_of_ble_eq_true rfl) rfl (fun hok => ?_)
  unfold X12_seats at hr
  refine mg_weak (L' := [some (.ref a0), some (.int i1), some (.int i2), none, none, none, none, none, none]) (mm_le_s (mm_le_s (mm_le_s (mm_le_e (mm_le_e (mm_le_e (mm_le_e (mm_le_e (mm_le_e mm_le_0))))))))) ?_
  refine ml_aload_n (pc := 0) dX12_seats_0 rfl mm_get_0 ?_
  refine mg_iconst (pc := 1) dX12_seats_1 kc_0 ?_
  refine mb_pi (pc := 2) dX12_seats_2 fp_X12_152 hr (fun m1 hr => ?_)
  refine ml_aload_n (pc := 5) dX12_seats_5 rfl mm_get_0 ?_
  refine ml_iload_n (pc := 6) dX12_seats_6 rfl (mm_get_s mm_get_0) ?_
  refine mb_cVi (pc := 7) (As := [.int i1]) (rest := []) dX12_seats_7 cw_X12_376 h0 hr (fun v hv => X12_isPerson_ok hz (by omega) h0 hv) rfl (Nat.le_of_ble_eq_true rfl) (Nat.zero_le _) (Nat.zero_le _) (fun r2 hr => ?_)
  refine mb_if_eq (pc := 10) 22 dX12_seats_10 rfl hr (fun hr => ?_) (fun hr => ?_)
  · exact mg_weak (mm_le_n (mm_le_n (mm_le_n (mm_le_n (mm_le_n (mm_le_n (mm_le_n (mm_le_n (mm_le_n mm_le_0))))))))) (X12_seats_b22_ok hz hd h0 hr)
  · refine ml_aload_n (pc := 13) dX12_seats_13 rfl mm_get_0 ?_
    refine ml_iload_n (pc := 14) dX12_seats_14 rfl (mm_get_s (mm_get_s mm_get_0)) ?_
    refine mg_iconst (pc := 15) dX12_seats_15 kc_2 ?_
    refine mb_cVi (pc := 16) (As := [.int i2, .int (2 : Int32)]) (rest := []) dX12_seats_16 cw_X12_393 h0 hr (fun v hv => X12_isWhat_ok hz (by omega) h0 hv) rfl (Nat.le_of_ble_eq_true rfl) (Nat.zero_le _) (Nat.zero_le _) (fun r3 hr => ?_)
    refine mb_if_ne (pc := 19) 24 dX12_seats_19 rfl hr (fun hr => ?_) (fun hr => ?_)
    · refine mg_iconst (pc := 24) dX12_seats_24 kc_0 ?_
      refine ml_istore_n (pc := 25) dX12_seats_25 rfl (Nat.le_of_ble_eq_true rfl) (mm_st1_s (mm_st1_s mm_st1_i)) ?_
      refine mg_iconst (pc := 26) dX12_seats_26 kc_0 ?_
      refine ml_istore (pc := 27) dX12_seats_27 (Nat.le_of_ble_eq_true rfl) (mm_st1_s (mm_st1_s (mm_st1_s mm_st1_i))) ?_
      refine mg_iconst (pc := 29) dX12_seats_29 kc_m1 ?_
      refine ml_istore (pc := 30) dX12_seats_30 (Nat.le_of_ble_eq_true rfl) (mm_st1_s (mm_st1_s (mm_st1_s (mm_st1_s mm_st1_i)))) ?_
      refine ml_aload_n (pc := 32) dX12_seats_32 rfl mm_get_0 ?_
      refine mb_cVv (pc := 33) (As := []) (rest := []) dX12_seats_33 cw_X12_478 h0 hr (fun v hv => X12_sitsAsEver_ok hz (by omega) h0 hv) rfl (Nat.le_of_ble_eq_true rfl) (Nat.zero_le _) (Nat.zero_le _) (fun r4 hr => ?_)
      refine mg_iconst (pc := 36) dX12_seats_36 kc_1 ?_
      refine ml_istore (pc := 37) dX12_seats_37 (Nat.le_of_ble_eq_true rfl) (mm_st1_s (mm_st1_s (mm_st1_s (mm_st1_s (mm_st1_s mm_st1_i))))) ?_
      exact mg_weak (mm_le_s (mm_le_s (mm_le_s (mm_le_s (mm_le_s (mm_le_s (mm_le_s (mm_le_n (mm_le_n mm_le_0))))))))) (X12_seats_L39_ok hz hd h0 _ _ _ _ _ _ _ hr)
    · exact mg_weak (mm_le_n (mm_le_n (mm_le_n (mm_le_n (mm_le_n (mm_le_n (mm_le_n (mm_le_n (mm_le_n mm_le_0))))))))) (X12_seats_b22_ok hz hd h0 hr)
theorem dX12_evens_0 : decode cX12_evens 0 = .ok (.iconst 0, 1) := by decide +kernel
theorem dX12_evens_1 : decode cX12_evens 1 = .ok (.istore_n 3, 1) := by decide +kernel
theorem dX12_evens_2 : decode cX12_evens 2 = .ok (.iload_n 3, 1) := by decide +kernel
theorem dX12_evens_3 : decode cX12_evens 3 = .ok (.sipush 200, 3) := by decide +kernel
theorem dX12_evens_6 : decode cX12_evens 6 = .ok (.if_icmp .ge 118, 3) := by decide +kernel
theorem dX12_evens_9 : decode cX12_evens 9 = .ok (.aload_n 0, 1) := by decide +kernel
theorem dX12_evens_10 : decode cX12_evens 10 = .ok (.aload_n 0, 1) := by decide +kernel
theorem dX12_evens_11 : decode cX12_evens 11 = .ok (.getfield 127, 3) := by decide +kernel
theorem dX12_evens_14 : decode cX12_evens 14 = .ok (.invokevirtual 338, 3) := by decide +kernel
theorem dX12_evens_17 : decode cX12_evens 17 = .ok (.ifCond .ne 107, 3) := by decide +kernel
theorem dX12_evens_20 : decode cX12_evens 20 = .ok (.aload_n 0, 1) := by decide +kernel
theorem dX12_evens_21 : decode cX12_evens 21 = .ok (.getfield 127, 3) := by decide +kernel
theorem dX12_evens_24 : decode cX12_evens 24 = .ok (.iconst 0, 1) := by decide +kernel
theorem dX12_evens_25 : decode cX12_evens 25 = .ok (.iaload, 1) := by decide +kernel
theorem dX12_evens_26 : decode cX12_evens 26 = .ok (.istore 4, 2) := by decide +kernel
theorem dX12_evens_28 : decode cX12_evens 28 = .ok (.iload_n 1, 1) := by decide +kernel
theorem dX12_evens_29 : decode cX12_evens 29 = .ok (.iconst 1, 1) := by decide +kernel
theorem dX12_evens_30 : decode cX12_evens 30 = .ok (.iand, 1) := by decide +kernel
theorem dX12_evens_31 : decode cX12_evens 31 = .ok (.iconst 1, 1) := by decide +kernel
theorem dX12_evens_32 : decode cX12_evens 32 = .ok (.if_icmp .ne 16, 3) := by decide +kernel
theorem dX12_evens_35 : decode cX12_evens 35 = .ok (.aload_n 0, 1) := by decide +kernel
theorem dX12_evens_36 : decode cX12_evens 36 = .ok (.aload_n 0, 1) := by decide +kernel
theorem dX12_evens_37 : decode cX12_evens 37 = .ok (.getfield 127, 3) := by decide +kernel
theorem dX12_evens_40 : decode cX12_evens 40 = .ok (.iload 4, 2) := by decide +kernel
theorem dX12_evens_42 : decode cX12_evens 42 = .ok (.invokevirtual 487, 3) := by decide +kernel
theorem dX12_evens_45 : decode cX12_evens 45 = .ok (.goto 13, 3) := by decide +kernel
theorem dX12_evens_48 : decode cX12_evens 48 = .ok (.aload_n 0, 1) := by decide +kernel
theorem dX12_evens_49 : decode cX12_evens 49 = .ok (.aload_n 0, 1) := by decide +kernel
theorem dX12_evens_50 : decode cX12_evens 50 = .ok (.getfield 127, 3) := by decide +kernel
theorem dX12_evens_53 : decode cX12_evens 53 = .ok (.iload 4, 2) := by decide +kernel
theorem dX12_evens_55 : decode cX12_evens 55 = .ok (.invokevirtual 342, 3) := by decide +kernel
theorem dX12_evens_58 : decode cX12_evens 58 = .ok (.istore 5, 2) := by decide +kernel
theorem dX12_evens_60 : decode cX12_evens 60 = .ok (.iload_n 2, 1) := by decide +kernel
theorem dX12_evens_61 : decode cX12_evens 61 = .ok (.ifCond .eq 19, 3) := by decide +kernel
theorem dX12_evens_64 : decode cX12_evens 64 = .ok (.aload_n 0, 1) := by decide +kernel
theorem dX12_evens_65 : decode cX12_evens 65 = .ok (.aload_n 0, 1) := by decide +kernel
theorem dX12_evens_66 : decode cX12_evens 66 = .ok (.getfield 127, 3) := by decide +kernel
theorem dX12_evens_69 : decode cX12_evens 69 = .ok (.iload 5, 2) := by decide +kernel
theorem dX12_evens_71 : decode cX12_evens 71 = .ok (.invokestatic 327, 3) := by decide +kernel
theorem dX12_evens_74 : decode cX12_evens 74 = .ok (.invokevirtual 359, 3) := by decide +kernel
theorem dX12_evens_77 : decode cX12_evens 77 = .ok (.goto 15, 3) := by decide +kernel
theorem dX12_evens_80 : decode cX12_evens 80 = .ok (.aload_n 0, 1) := by decide +kernel
theorem dX12_evens_81 : decode cX12_evens 81 = .ok (.aload_n 0, 1) := by decide +kernel
theorem dX12_evens_82 : decode cX12_evens 82 = .ok (.getfield 127, 3) := by decide +kernel
theorem dX12_evens_85 : decode cX12_evens 85 = .ok (.iload 4, 2) := by decide +kernel
theorem dX12_evens_87 : decode cX12_evens 87 = .ok (.iload 5, 2) := by decide +kernel
theorem dX12_evens_89 : decode cX12_evens 89 = .ok (.invokevirtual 397, 3) := by decide +kernel
theorem dX12_evens_92 : decode cX12_evens 92 = .ok (.istore 6, 2) := by decide +kernel
theorem dX12_evens_94 : decode cX12_evens 94 = .ok (.aload_n 0, 1) := by decide +kernel
theorem dX12_evens_95 : decode cX12_evens 95 = .ok (.aload_n 0, 1) := by decide +kernel
theorem dX12_evens_96 : decode cX12_evens 96 = .ok (.getfield 127, 3) := by decide +kernel
theorem dX12_evens_99 : decode cX12_evens 99 = .ok (.iload 5, 2) := by decide +kernel
theorem dX12_evens_101 : decode cX12_evens 101 = .ok (.iload 6, 2) := by decide +kernel
theorem dX12_evens_103 : decode cX12_evens 103 = .ok (.iload_n 1, 1) := by decide +kernel
theorem dX12_evens_104 : decode cX12_evens 104 = .ok (.iconst 2, 1) := by decide +kernel
theorem dX12_evens_105 : decode cX12_evens 105 = .ok (.iand, 1) := by decide +kernel
theorem dX12_evens_106 : decode cX12_evens 106 = .ok (.iconst 2, 1) := by decide +kernel
theorem dX12_evens_107 : decode cX12_evens 107 = .ok (.if_icmp .ne 7, 3) := by decide +kernel
theorem dX12_evens_110 : decode cX12_evens 110 = .ok (.iconst 1, 1) := by decide +kernel
theorem dX12_evens_111 : decode cX12_evens 111 = .ok (.goto 4, 3) := by decide +kernel
theorem dX12_evens_114 : decode cX12_evens 114 = .ok (.iconst 0, 1) := by decide +kernel
theorem dX12_evens_115 : decode cX12_evens 115 = .ok (.invokevirtual 412, 3) := by decide +kernel
theorem dX12_evens_118 : decode cX12_evens 118 = .ok (.iinc 3 1, 3) := by decide +kernel
theorem dX12_evens_121 : decode cX12_evens 121 = .ok (.goto (-119), 3) := by decide +kernel
theorem dX12_evens_124 : decode cX12_evens 124 = .ok (.iload_n 3, 1) := by decide +kernel
theorem dX12_evens_125 : decode cX12_evens 125 = .ok (.ireturn, 1) := by decide +kernel
def X12_evens_b124 (e : mm_E) (i3 : Int32) (m : mm_V) : Option (Int32 × mm_V) := some (i3, m)
theorem X12_evens_b124_ok {K : mm_K} {nx : Option Nat} {e : mm_E} (hz : e.2.1 = K.2.2.2.2) {d : Nat} (hd : 5 ≤ d) {i3 : Int32} {a0 : Nat} (h0 : e.1 a0 = some (12, 75)) {m : mm_V} {r : (Int32 × mm_V)} (hr : X12_evens_b124 e i3 m = some r) : mm_G K MX12_evens d (mm_Fi e.1 nx r) 124 [none, none, none, some (.int i3), none, none, none] [] (e.1, m) nx 0 0 := by
  obtain ⟨d, rfl⟩ : ∃ d', d = d' + 1 := ⟨d - 1, by omega⟩
  unfold X12_evens_b124 at hr
  refine ml_iload_n (pc := 124) dX12_evens_124 rfl (mm_get_s (mm_get_s (mm_get_s mm_get_0))) ?_
  exact mb_iret dX12_evens_125 rfl hr
def X12_evens_b115 (e : mm_E) (k2 : Int32 → mm_V → Option (Int32 × mm_V)) (a0 : Nat) (i1 : Int32) (i2 : Int32) (i3 : Int32) (t0 : Nat) (t1 : Nat) (t2 : Int32) (t3 : Int32) (t4 : Int32) (m : mm_V) : Option (Int32 × mm_V) := if e.1 t0 = some (12, 75) then ((X12_drawsOf e t0 t1 t2 t3 t4 m).bind fun r1 => k2 (i3 + 1) r1) else none
theorem X12_evens_b115_ok {K : mm_K} {nx : Option Nat} {e : mm_E} (hz : e.2.1 = K.2.2.2.2) {d : Nat} (hd : 5 ≤ d) {a0 : Nat} {i1 : Int32} {i2 : Int32} {i3 : Int32} {t0 : Nat} {t1 : Nat} {t2 : Int32} {t3 : Int32} {t4 : Int32} (h0 : e.1 a0 = some (12, 75)) {k2 : Int32 → mm_V → Option (Int32 × mm_V)} (hk2 : ∀ (w3 : Int32) (m : mm_V) (r : (Int32 × mm_V)), k2 w3 m = some r → mm_G K MX12_evens d (mm_Fi e.1 nx r) 2 [some (.ref a0), some (.int i1), some (.int i2), some (.int w3), none, none, none] [] (e.1, m) nx 0 0) {m : mm_V} {r : (Int32 × mm_V)} (hr : X12_evens_b115 e k2 a0 i1 i2 i3 t0 t1 t2 t3 t4 m = some r) : mm_G K MX12_evens d (mm_Fi e.1 nx r) 115 [some (.ref a0), some (.int i1), some (.int i2), some (.int i3), none, none, none] [.int t4, .int t3, .int t2, .ref t1, .ref t0] (e.1, m) nx 0 0 := by
  obtain ⟨d, rfl⟩ : ∃ d', d = d' + 1 := ⟨d - 1, by omega⟩
  unfold X12_evens_b115 at hr
  refine mb_ck hr (fun hb2 hr => ?_)
  refine mb_cVv (pc := 115) (As := [.ref t1, .int t2, .int t3, .int t4]) (rest := []) dX12_evens_115 cw_X12_412 hb2 hr (fun v hv => X12_drawsOf_ok hz (by omega) hb2 hv) rfl (Nat.le_of_ble_eq_true rfl) (Nat.zero_le _) (Nat.zero_le _) (fun r1 hr => ?_)
  refine ml_iinc (pc := 118) dX12_evens_118 (mm_get_s (mm_get_s (mm_get_s mm_get_0))) (congrArg (fun z => i3 + z) kc_1) (Nat.le_of_ble_eq_true rfl) (mm_st1_s (mm_st1_s mm_st1_i)) ?_
  refine mg_goto (pc := 121) 2 dX12_evens_121 rfl ?_
  exact mg_weak (mm_le_s (mm_le_s (mm_le_s (mm_le_s (mm_le_n (mm_le_n (mm_le_n mm_le_0))))))) (hk2 _ _ _ hr)
def X12_evens_b92 (e : mm_E) (k2 : Int32 → mm_V → Option (Int32 × mm_V)) (a0 : Nat) (i1 : Int32) (i2 : Int32) (i3 : Int32) (i5 : Int32) (t0 : Int32) (m : mm_V) : Option (Int32 × mm_V) := (mm_gr e.1 m 12 75 a0 69).bind fun c1 => if ¬ (i1 &&& (2 : Int32)) = (2 : Int32) then (X12_evens_b115 e k2 a0 i1 i2 i3 a0 c1 i5 t0 (0 : Int32) m) else (X12_evens_b115 e k2 a0 i1 i2 i3 a0 c1 i5 t0 (1 : Int32) m)
theorem X12_evens_b92_ok {K : mm_K} {nx : Option Nat} {e : mm_E} (hz : e.2.1 = K.2.2.2.2) {d : Nat} (hd : 5 ≤ d) {a0 : Nat} {i1 : Int32} {i2 : Int32} {i3 : Int32} {i5 : Int32} {t0 : Int32} (h0 : e.1 a0 = some (12, 75)) {k2 : Int32 → mm_V → Option (Int32 × mm_V)} (hk2 : ∀ (w3 : Int32) (m : mm_V) (r : (Int32 × mm_V)), k2 w3 m = some r → mm_G K MX12_evens d (mm_Fi e.1 nx r) 2 [some (.ref a0), some (.int i1), some (.int i2), some (.int w3), none, none, none] [] (e.1, m) nx 0 0) {m : mm_V} {r : (Int32 × mm_V)} (hr : X12_evens_b92 e k2 a0 i1 i2 i3 i5 t0 m = some r) : mm_G K MX12_evens d (mm_Fi e.1 nx r) 92 [some (.ref a0), some (.int i1), some (.int i2), some (.int i3), none, some (.int i5), none] [.int t0] (e.1, m) nx 0 0 := by
  obtain ⟨d, rfl⟩ : ∃ d', d = d' + 1 := ⟨d - 1, by omega⟩
  unfold X12_evens_b92 at hr
  refine ml_istore (pc := 92) dX12_evens_92 (Nat.le_of_ble_eq_true rfl) (mm_st1_s (mm_st1_s (mm_st1_s (mm_st1_s (mm_st1_s mm_st1_i))))) ?_
  refine ml_aload_n (pc := 94) dX12_evens_94 rfl mm_get_0 ?_
  refine ml_aload_n (pc := 95) dX12_evens_95 rfl mm_get_0 ?_
  refine mb_gr (pc := 96) dX12_evens_96 fl_X12_127 hr (fun c1 hr => ?_)
  refine ml_iload (pc := 99) dX12_evens_99 (mm_get_s (mm_get_s (mm_get_s (mm_get_s (mm_get_s mm_get_0))))) ?_
  refine ml_iload (pc := 101) dX12_evens_101 (mm_get_s (mm_get_s (mm_get_s (mm_get_s (mm_get_s (mm_get_s mm_get_0)))))) ?_
  refine ml_iload_n (pc := 103) dX12_evens_103 rfl (mm_get_s mm_get_0) ?_
  refine mg_iconst (pc := 104) dX12_evens_104 kc_2 ?_
  refine mg_iand (pc := 105) dX12_evens_105 ?_
  refine mg_iconst (pc := 106) dX12_evens_106 kc_2 ?_
  refine mb_icmp_ne (pc := 107) 114 dX12_evens_107 rfl hr (fun hr => ?_) (fun hr => ?_)
  · refine mg_iconst (pc := 114) dX12_evens_114 kc_0 ?_
    exact mg_weak (mm_le_s (mm_le_s (mm_le_s (mm_le_s (mm_le_n (mm_le_n (mm_le_n mm_le_0))))))) (X12_evens_b115_ok hz hd h0 hk2 hr)
  · refine mg_iconst (pc := 110) dX12_evens_110 kc_1 ?_
    refine mg_goto (pc := 111) 115 dX12_evens_111 rfl ?_
    exact mg_weak (mm_le_s (mm_le_s (mm_le_s (mm_le_s (mm_le_n (mm_le_n (mm_le_n mm_le_0))))))) (X12_evens_b115_ok hz hd h0 hk2 hr)
def X12_evens_b58 (e : mm_E) (k2 : Int32 → mm_V → Option (Int32 × mm_V)) (a0 : Nat) (i1 : Int32) (i2 : Int32) (i3 : Int32) (i4 : Int32) (t0 : Int32) (m : mm_V) : Option (Int32 × mm_V) := if i2 = 0 then ((mm_gr e.1 m 12 75 a0 69).bind fun c1 => (X12_drawsAt e a0 c1 i4 t0 m).bind fun r2 => X12_evens_b92 e k2 a0 i1 i2 i3 t0 r2.1 r2.2) else ((mm_gr e.1 m 12 75 a0 69).bind fun c3 => (X12_size e c3 t0 m).bind fun r4 => (X12_draws e a0 r4.1 r4.2).bind fun r5 => X12_evens_b92 e k2 a0 i1 i2 i3 t0 r5.1 r5.2)
theorem X12_evens_b58_ok {K : mm_K} {nx : Option Nat} {e : mm_E} (hz : e.2.1 = K.2.2.2.2) {d : Nat} (hd : 5 ≤ d) {a0 : Nat} {i1 : Int32} {i2 : Int32} {i3 : Int32} {i4 : Int32} {t0 : Int32} (h0 : e.1 a0 = some (12, 75)) {k2 : Int32 → mm_V → Option (Int32 × mm_V)} (hk2 : ∀ (w3 : Int32) (m : mm_V) (r : (Int32 × mm_V)), k2 w3 m = some r → mm_G K MX12_evens d (mm_Fi e.1 nx r) 2 [some (.ref a0), some (.int i1), some (.int i2), some (.int w3), none, none, none] [] (e.1, m) nx 0 0) {m : mm_V} {r : (Int32 × mm_V)} (hr : X12_evens_b58 e k2 a0 i1 i2 i3 i4 t0 m = some r) : mm_G K MX12_evens d (mm_Fi e.1 nx r) 58 [some (.ref a0), some (.int i1), some (.int i2), some (.int i3), some (.int i4), none, none] [.int t0] (e.1, m) nx 0 0 := by
  obtain ⟨d, rfl⟩ : ∃ d', d = d' + 1 := ⟨d - 1, by omega⟩
  unfold X12_evens_b58 at hr
  refine ml_istore (pc := 58) dX12_evens_58 (Nat.le_of_ble_eq_true rfl) (mm_st1_s (mm_st1_s (mm_st1_s (mm_st1_s mm_st1_i)))) ?_
  refine ml_iload_n (pc := 60) dX12_evens_60 rfl (mm_get_s (mm_get_s mm_get_0)) ?_
  refine mb_if_eq (pc := 61) 80 dX12_evens_61 rfl hr (fun hr => ?_) (fun hr => ?_)
  · refine ml_aload_n (pc := 80) dX12_evens_80 rfl mm_get_0 ?_
    refine ml_aload_n (pc := 81) dX12_evens_81 rfl mm_get_0 ?_
    refine mb_gr (pc := 82) dX12_evens_82 fl_X12_127 hr (fun c1 hr => ?_)
    refine ml_iload (pc := 85) dX12_evens_85 (mm_get_s (mm_get_s (mm_get_s (mm_get_s mm_get_0)))) ?_
    refine ml_iload (pc := 87) dX12_evens_87 (mm_get_s (mm_get_s (mm_get_s (mm_get_s (mm_get_s mm_get_0))))) ?_
    refine mb_cVi (pc := 89) (As := [.ref c1, .int i4, .int t0]) (rest := []) dX12_evens_89 cw_X12_397 h0 hr (fun v hv => X12_drawsAt_ok hz (by omega) h0 hv) rfl (Nat.le_of_ble_eq_true rfl) (Nat.zero_le _) (Nat.zero_le _) (fun r2 hr => ?_)
    exact mg_weak (mm_le_s (mm_le_s (mm_le_s (mm_le_s (mm_le_n (mm_le_s (mm_le_n mm_le_0))))))) (X12_evens_b92_ok hz hd h0 hk2 hr)
  · refine ml_aload_n (pc := 64) dX12_evens_64 rfl mm_get_0 ?_
    refine ml_aload_n (pc := 65) dX12_evens_65 rfl mm_get_0 ?_
    refine mb_gr (pc := 66) dX12_evens_66 fl_X12_127 hr (fun c3 hr => ?_)
    refine ml_iload (pc := 69) dX12_evens_69 (mm_get_s (mm_get_s (mm_get_s (mm_get_s (mm_get_s mm_get_0))))) ?_
    refine mb_cSi (pc := 71) (As := [.ref c3, .int t0]) (rest := [.ref a0]) dX12_evens_71 cw_X12_327  hr (fun v hv => X12_size_ok hz (by omega)  hv) rfl (Nat.le_of_ble_eq_true rfl) (Nat.zero_le _) (Nat.zero_le _) (fun r4 hr => ?_)
    refine mb_cVi (pc := 74) (As := [.int r4.1]) (rest := []) dX12_evens_74 cw_X12_359 h0 hr (fun v hv => X12_draws_ok hz (by omega) h0 hv) rfl (Nat.le_of_ble_eq_true rfl) (Nat.zero_le _) (Nat.zero_le _) (fun r5 hr => ?_)
    refine mg_goto (pc := 77) 92 dX12_evens_77 rfl ?_
    exact mg_weak (mm_le_s (mm_le_s (mm_le_s (mm_le_s (mm_le_n (mm_le_s (mm_le_n mm_le_0))))))) (X12_evens_b92_ok hz hd h0 hk2 hr)
def X12_evens_L2 (e : mm_E) (a0 : Nat) (i1 : Int32) (i2 : Int32) : Nat → Int32 → mm_V → Option (Int32 × mm_V)
  | 0, _, _ => none
  | n + 1, i3, m => if (200 : Int32) ≤ i3 then (X12_evens_b124 e i3  m) else ((mm_gr e.1 m 12 75 a0 69).bind fun c1 => (X12_isOver e a0 c1 m).bind fun r2 => if ¬ r2.1 = 0 then (X12_evens_b124 e i3  r2.2) else ((mm_gr e.1 r2.2 12 75 a0 69).bind fun c3 => (mm_ai e.1 r2.2 20 c3 (0 : Int32)).bind fun x4 => if ¬ (i1 &&& (1 : Int32)) = (1 : Int32) then ((mm_gr e.1 r2.2 12 75 a0 69).bind fun c5 => (X12_nextOf e a0 c5 x4 r2.2).bind fun r6 => X12_evens_b58 e (X12_evens_L2 e a0 i1 i2 n) a0 i1 i2 i3 x4 r6.1 r6.2) else ((mm_gr e.1 r2.2 12 75 a0 69).bind fun c7 => (X12_aheadOf e a0 c7 x4 r2.2).bind fun r8 => X12_evens_b58 e (X12_evens_L2 e a0 i1 i2 n) a0 i1 i2 i3 x4 r8.1 r8.2)))
theorem X12_evens_L2_ok {K : mm_K} {nx : Option Nat} {e : mm_E} (hz : e.2.1 = K.2.2.2.2) {d : Nat} (hd : 5 ≤ d) {a0 : Nat} {i1 : Int32} {i2 : Int32} (h0 : e.1 a0 = some (12, 75)) : ∀ (n : Nat) (i3 : Int32) (m : mm_V) (r : (Int32 × mm_V)), X12_evens_L2 e a0 i1 i2 n i3 m = some r → mm_G K MX12_evens d (mm_Fi e.1 nx r) 2 [some (.ref a0), some (.int i1), some (.int i2), some (.int i3), none, none, none] [] (e.1, m) nx 0 0 := by
  obtain ⟨d, rfl⟩ : ∃ d', d = d' + 1 := ⟨d - 1, by omega⟩
  intro n
  induction n with
  | zero => intro i3 m r hr; unfold X12_evens_L2 at hr; cases hr
  | succ n ih =>
    intro i3 m r hr
    unfold X12_evens_L2 at hr
    refine ml_iload_n (pc := 2) dX12_evens_2 rfl (mm_get_s (mm_get_s (mm_get_s mm_get_0))) ?_
    refine mg_sipush (pc := 3) dX12_evens_3 ks_200 ?_
    refine mb_icmp_ge (pc := 6) 124 dX12_evens_6 rfl hr (fun hr => ?_) (fun hr => ?_)
    · exact mg_weak (mm_le_n (mm_le_n (mm_le_n (mm_le_s (mm_le_n (mm_le_n (mm_le_n mm_le_0))))))) (X12_evens_b124_ok hz hd h0 hr)
    · refine ml_aload_n (pc := 9) dX12_evens_9 rfl mm_get_0 ?_
      refine ml_aload_n (pc := 10) dX12_evens_10 rfl mm_get_0 ?_
      refine mb_gr (pc := 11) dX12_evens_11 fl_X12_127 hr (fun c1 hr => ?_)
      refine mb_cVi (pc := 14) (As := [.ref c1]) (rest := []) dX12_evens_14 cw_X12_338 h0 hr (fun v hv => X12_isOver_ok hz (by omega) h0 hv) rfl (Nat.le_of_ble_eq_true rfl) (Nat.zero_le _) (Nat.zero_le _) (fun r2 hr => ?_)
      refine mb_if_ne (pc := 17) 124 dX12_evens_17 rfl hr (fun hr => ?_) (fun hr => ?_)
      · exact mg_weak (mm_le_n (mm_le_n (mm_le_n (mm_le_s (mm_le_n (mm_le_n (mm_le_n mm_le_0))))))) (X12_evens_b124_ok hz hd h0 hr)
      · refine ml_aload_n (pc := 20) dX12_evens_20 rfl mm_get_0 ?_
        refine mb_gr (pc := 21) dX12_evens_21 fl_X12_127 hr (fun c3 hr => ?_)
        refine mg_iconst (pc := 24) dX12_evens_24 kc_0 ?_
        refine mb_ai (pc := 25) dX12_evens_25 hr (fun x4 hr => ?_)
        refine ml_istore (pc := 26) dX12_evens_26 (Nat.le_of_ble_eq_true rfl) (mm_st1_s (mm_st1_s (mm_st1_s mm_st1_i))) ?_
        refine ml_iload_n (pc := 28) dX12_evens_28 rfl (mm_get_s mm_get_0) ?_
        refine mg_iconst (pc := 29) dX12_evens_29 kc_1 ?_
        refine mg_iand (pc := 30) dX12_evens_30 ?_
        refine mg_iconst (pc := 31) dX12_evens_31 kc_1 ?_
        refine mb_icmp_ne (pc := 32) 48 dX12_evens_32 rfl hr (fun hr => ?_) (fun hr => ?_)
        · refine ml_aload_n (pc := 48) dX12_evens_48 rfl mm_get_0 ?_
          refine ml_aload_n (pc := 49) dX12_evens_49 rfl mm_get_0 ?_
          refine mb_gr (pc := 50) dX12_evens_50 fl_X12_127 hr (fun c5 hr => ?_)
          refine ml_iload (pc := 53) dX12_evens_53 (mm_get_s (mm_get_s (mm_get_s (mm_get_s mm_get_0)))) ?_
          refine mb_cVi (pc := 55) (As := [.ref c5, .int x4]) (rest := []) dX12_evens_55 cw_X12_342 h0 hr (fun v hv => X12_nextOf_ok hz (by omega) h0 hv) rfl (Nat.le_of_ble_eq_true rfl) (Nat.zero_le _) (Nat.zero_le _) (fun r6 hr => ?_)
          exact mg_weak (mm_le_s (mm_le_s (mm_le_s (mm_le_s (mm_le_s (mm_le_n (mm_le_n mm_le_0))))))) (X12_evens_b58_ok hz hd h0 ih hr)
        · refine ml_aload_n (pc := 35) dX12_evens_35 rfl mm_get_0 ?_
          refine ml_aload_n (pc := 36) dX12_evens_36 rfl mm_get_0 ?_
          refine mb_gr (pc := 37) dX12_evens_37 fl_X12_127 hr (fun c7 hr => ?_)
          refine ml_iload (pc := 40) dX12_evens_40 (mm_get_s (mm_get_s (mm_get_s (mm_get_s mm_get_0)))) ?_
          refine mb_cVi (pc := 42) (As := [.ref c7, .int x4]) (rest := []) dX12_evens_42 cw_X12_487 h0 hr (fun v hv => X12_aheadOf_ok hz (by omega) h0 hv) rfl (Nat.le_of_ble_eq_true rfl) (Nat.zero_le _) (Nat.zero_le _) (fun r8 hr => ?_)
          refine mg_goto (pc := 45) 58 dX12_evens_45 rfl ?_
          exact mg_weak (mm_le_s (mm_le_s (mm_le_s (mm_le_s (mm_le_s (mm_le_n (mm_le_n mm_le_0))))))) (X12_evens_b58_ok hz hd h0 ih hr)
def X12_evens (e : mm_E) (a0 : Nat) (i1 : Int32) (i2 : Int32) (m : mm_V) : Option (Int32 × mm_V) := X12_evens_L2 e a0 i1 i2 e.2.2 (0 : Int32) m
theorem X12_evens_ok {K : mm_K} {nx : Option Nat} {e : mm_E} (hz : e.2.1 = K.2.2.2.2) {d : Nat} (hd : 5 ≤ d) {a0 : Nat} {i1 : Int32} {i2 : Int32} (h0 : e.1 a0 = some (12, 75)) {m : mm_V} {r : (Int32 × mm_V)} (hr : X12_evens e a0 i1 i2 m = some r) : mm_Cn K MX12_evens d (mm_Fi e.1 nx r) [.ref a0, .int i1, .int i2] (e.1, m) nx := by
  obtain ⟨d, rfl⟩ : ∃ d', d = d' + 1 := ⟨d - 1, by omega⟩
  refine mm_entry (by decide) (Nat.le_of_ble_eq_true rfl) rfl (fun hok => ?_)
  unfold X12_evens at hr
  refine mg_weak (L' := [some (.ref a0), some (.int i1), some (.int i2), none, none, none, none]) (mm_le_s (mm_le_s (mm_le_s (mm_le_e (mm_le_e (mm_le_e (mm_le_e mm_le_0))))))) ?_
  refine mg_iconst (pc := 0) dX12_evens_0 kc_0 ?_
  refine ml_istore_n (pc := 1) dX12_evens_1 rfl (Nat.le_of_ble_eq_true rfl) (mm_st1_s (mm_st1_s mm_st1_i)) ?_
  exact mg_weak (mm_le_s (mm_le_s (mm_le_s (mm_le_s (mm_le_n (mm_le_n (mm_le_n mm_le_0))))))) (X12_evens_L2_ok hz hd h0 _ _ _ _ hr)
theorem dX12_evenings_0 : decode cX12_evenings 0 = .ok (.aload_n 0, 1) := by decide +kernel
theorem dX12_evenings_1 : decode cX12_evenings 1 = .ok (.iconst 0, 1) := by decide +kernel
theorem dX12_evenings_2 : decode cX12_evenings 2 = .ok (.putfield 152, 3) := by decide +kernel
theorem dX12_evenings_5 : decode cX12_evenings 5 = .ok (.aload_n 0, 1) := by decide +kernel
theorem dX12_evenings_6 : decode cX12_evenings 6 = .ok (.iload 5, 2) := by decide +kernel
theorem dX12_evenings_8 : decode cX12_evenings 8 = .ok (.bipush (-3), 2) := by decide +kernel
theorem dX12_evenings_10 : decode cX12_evenings 10 = .ok (.if_icmp .lt 16, 3) := by decide +kernel
theorem dX12_evenings_13 : decode cX12_evenings 13 = .ok (.iload 5, 2) := by decide +kernel
theorem dX12_evenings_15 : decode cX12_evenings 15 = .ok (.aload_n 0, 1) := by decide +kernel
theorem dX12_evenings_16 : decode cX12_evenings 16 = .ok (.getfield 7, 3) := by decide +kernel
theorem dX12_evenings_19 : decode cX12_evenings 19 = .ok (.if_icmp .ge 7, 3) := by decide +kernel
theorem dX12_evenings_22 : decode cX12_evenings 22 = .ok (.iconst 1, 1) := by decide +kernel
theorem dX12_evenings_23 : decode cX12_evenings 23 = .ok (.goto 4, 3) := by decide +kernel
theorem dX12_evenings_26 : decode cX12_evenings 26 = .ok (.iconst 0, 1) := by decide +kernel
theorem dX12_evenings_27 : decode cX12_evenings 27 = .ok (.iconst 1, 1) := by decide +kernel
theorem dX12_evenings_28 : decode cX12_evenings 28 = .ok (.invokevirtual 306, 3) := by decide +kernel
theorem dX12_evenings_31 : decode cX12_evenings 31 = .ok (.ifCond .eq 35, 3) := by decide +kernel
theorem dX12_evenings_34 : decode cX12_evenings 34 = .ok (.aload_n 0, 1) := by decide +kernel
theorem dX12_evenings_35 : decode cX12_evenings 35 = .ok (.iload_n 2, 1) := by decide +kernel
theorem dX12_evenings_36 : decode cX12_evenings 36 = .ok (.iconst 0, 1) := by decide +kernel
theorem dX12_evenings_37 : decode cX12_evenings 37 = .ok (.bipush 60, 2) := by decide +kernel
theorem dX12_evenings_39 : decode cX12_evenings 39 = .ok (.invokestatic 368, 3) := by decide +kernel
theorem dX12_evenings_42 : decode cX12_evenings 42 = .ok (.ifCond .eq 16, 3) := by decide +kernel
theorem dX12_evenings_45 : decode cX12_evenings 45 = .ok (.iload_n 3, 1) := by decide +kernel
theorem dX12_evenings_46 : decode cX12_evenings 46 = .ok (.iconst 0, 1) := by decide +kernel
theorem dX12_evenings_47 : decode cX12_evenings 47 = .ok (.iconst 3, 1) := by decide +kernel
theorem dX12_evenings_48 : decode cX12_evenings 48 = .ok (.invokestatic 368, 3) := by decide +kernel
theorem dX12_evenings_51 : decode cX12_evenings 51 = .ok (.ifCond .eq 7, 3) := by decide +kernel
theorem dX12_evenings_54 : decode cX12_evenings 54 = .ok (.iconst 1, 1) := by decide +kernel
theorem dX12_evenings_55 : decode cX12_evenings 55 = .ok (.goto 4, 3) := by decide +kernel
theorem dX12_evenings_58 : decode cX12_evenings 58 = .ok (.iconst 0, 1) := by decide +kernel
theorem dX12_evenings_59 : decode cX12_evenings 59 = .ok (.iconst 2, 1) := by decide +kernel
theorem dX12_evenings_60 : decode cX12_evenings 60 = .ok (.invokevirtual 306, 3) := by decide +kernel
theorem dX12_evenings_63 : decode cX12_evenings 63 = .ok (.ifCond .ne 5, 3) := by decide +kernel
theorem dX12_evenings_66 : decode cX12_evenings 66 = .ok (.iconst 0, 1) := by decide +kernel
theorem dX12_evenings_67 : decode cX12_evenings 67 = .ok (.ireturn, 1) := by decide +kernel
theorem dX12_evenings_68 : decode cX12_evenings 68 = .ok (.iconst 0, 1) := by decide +kernel
theorem dX12_evenings_69 : decode cX12_evenings 69 = .ok (.istore 6, 2) := by decide +kernel
theorem dX12_evenings_71 : decode cX12_evenings 71 = .ok (.iload 6, 2) := by decide +kernel
theorem dX12_evenings_73 : decode cX12_evenings 73 = .ok (.bipush 6, 2) := by decide +kernel
theorem dX12_evenings_75 : decode cX12_evenings 75 = .ok (.if_icmp .ge 17, 3) := by decide +kernel
theorem dX12_evenings_78 : decode cX12_evenings 78 = .ok (.aload_n 0, 1) := by decide +kernel
theorem dX12_evenings_79 : decode cX12_evenings 79 = .ok (.getfield 130, 3) := by decide +kernel
theorem dX12_evenings_82 : decode cX12_evenings 82 = .ok (.iload 6, 2) := by decide +kernel
theorem dX12_evenings_84 : decode cX12_evenings 84 = .ok (.iconst 0, 1) := by decide +kernel
theorem dX12_evenings_85 : decode cX12_evenings 85 = .ok (.iastore, 1) := by decide +kernel
theorem dX12_evenings_86 : decode cX12_evenings 86 = .ok (.iinc 6 1, 3) := by decide +kernel
theorem dX12_evenings_89 : decode cX12_evenings 89 = .ok (.goto (-18), 3) := by decide +kernel
theorem dX12_evenings_92 : decode cX12_evenings 92 = .ok (.iconst 0, 1) := by decide +kernel
theorem dX12_evenings_93 : decode cX12_evenings 93 = .ok (.istore 6, 2) := by decide +kernel
theorem dX12_evenings_95 : decode cX12_evenings 95 = .ok (.iconst 0, 1) := by decide +kernel
theorem dX12_evenings_96 : decode cX12_evenings 96 = .ok (.istore 7, 2) := by decide +kernel
theorem dX12_evenings_98 : decode cX12_evenings 98 = .ok (.iconst 0, 1) := by decide +kernel
theorem dX12_evenings_99 : decode cX12_evenings 99 = .ok (.istore 8, 2) := by decide +kernel
theorem dX12_evenings_101 : decode cX12_evenings 101 = .ok (.iload 8, 2) := by decide +kernel
theorem dX12_evenings_103 : decode cX12_evenings 103 = .ok (.iload_n 2, 1) := by decide +kernel
theorem dX12_evenings_104 : decode cX12_evenings 104 = .ok (.if_icmp .ge 79, 3) := by decide +kernel
theorem dX12_evenings_107 : decode cX12_evenings 107 = .ok (.aload_n 0, 1) := by decide +kernel
theorem dX12_evenings_108 : decode cX12_evenings 108 = .ok (.iload_n 1, 1) := by decide +kernel
theorem dX12_evenings_109 : decode cX12_evenings 109 = .ok (.iload 8, 2) := by decide +kernel
theorem dX12_evenings_111 : decode cX12_evenings 111 = .ok (.iadd, 1) := by decide +kernel
theorem dX12_evenings_112 : decode cX12_evenings 112 = .ok (.aload_n 0, 1) := by decide +kernel
theorem dX12_evenings_113 : decode cX12_evenings 113 = .ok (.getfield 127, 3) := by decide +kernel
theorem dX12_evenings_116 : decode cX12_evenings 116 = .ok (.invokevirtual 145, 3) := by decide +kernel
theorem dX12_evenings_119 : decode cX12_evenings 119 = .ok (.aload_n 0, 1) := by decide +kernel
theorem dX12_evenings_120 : decode cX12_evenings 120 = .ok (.iload_n 3, 1) := by decide +kernel
theorem dX12_evenings_121 : decode cX12_evenings 121 = .ok (.iload 4, 2) := by decide +kernel
theorem dX12_evenings_123 : decode cX12_evenings 123 = .ok (.invokevirtual 490, 3) := by decide +kernel
theorem dX12_evenings_126 : decode cX12_evenings 126 = .ok (.istore 9, 2) := by decide +kernel
theorem dX12_evenings_128 : decode cX12_evenings 128 = .ok (.iload 9, 2) := by decide +kernel
theorem dX12_evenings_130 : decode cX12_evenings 130 = .ok (.iload 7, 2) := by decide +kernel
theorem dX12_evenings_132 : decode cX12_evenings 132 = .ok (.if_icmp .le 8, 3) := by decide +kernel
theorem dX12_evenings_135 : decode cX12_evenings 135 = .ok (.iload 9, 2) := by decide +kernel
theorem dX12_evenings_137 : decode cX12_evenings 137 = .ok (.goto 5, 3) := by decide +kernel
theorem dX12_evenings_140 : decode cX12_evenings 140 = .ok (.iload 7, 2) := by decide +kernel
theorem dX12_evenings_142 : decode cX12_evenings 142 = .ok (.istore 7, 2) := by decide +kernel
theorem dX12_evenings_144 : decode cX12_evenings 144 = .ok (.aload_n 0, 1) := by decide +kernel
theorem dX12_evenings_145 : decode cX12_evenings 145 = .ok (.aload_n 0, 1) := by decide +kernel
theorem dX12_evenings_146 : decode cX12_evenings 146 = .ok (.getfield 127, 3) := by decide +kernel
theorem dX12_evenings_149 : decode cX12_evenings 149 = .ok (.invokevirtual 434, 3) := by decide +kernel
theorem dX12_evenings_152 : decode cX12_evenings 152 = .ok (.istore 10, 2) := by decide +kernel
theorem dX12_evenings_154 : decode cX12_evenings 154 = .ok (.iload 10, 2) := by decide +kernel
theorem dX12_evenings_156 : decode cX12_evenings 156 = .ok (.iconst (-1), 1) := by decide +kernel
theorem dX12_evenings_157 : decode cX12_evenings 157 = .ok (.if_icmp .ne 9, 3) := by decide +kernel
theorem dX12_evenings_160 : decode cX12_evenings 160 = .ok (.iinc 6 1, 3) := by decide +kernel
theorem dX12_evenings_163 : decode cX12_evenings 163 = .ok (.goto 14, 3) := by decide +kernel
theorem dX12_evenings_166 : decode cX12_evenings 166 = .ok (.aload_n 0, 1) := by decide +kernel
theorem dX12_evenings_167 : decode cX12_evenings 167 = .ok (.getfield 130, 3) := by decide +kernel
theorem dX12_evenings_170 : decode cX12_evenings 170 = .ok (.iload 10, 2) := by decide +kernel
theorem dX12_evenings_172 : decode cX12_evenings 172 = .ok (.dup2, 1) := by decide +kernel
theorem dX12_evenings_173 : decode cX12_evenings 173 = .ok (.iaload, 1) := by decide +kernel
theorem dX12_evenings_174 : decode cX12_evenings 174 = .ok (.iconst 1, 1) := by decide +kernel
theorem dX12_evenings_175 : decode cX12_evenings 175 = .ok (.iadd, 1) := by decide +kernel
theorem dX12_evenings_176 : decode cX12_evenings 176 = .ok (.iastore, 1) := by decide +kernel
theorem dX12_evenings_177 : decode cX12_evenings 177 = .ok (.iinc 8 1, 3) := by decide +kernel
theorem dX12_evenings_180 : decode cX12_evenings 180 = .ok (.goto (-79), 3) := by decide +kernel
theorem dX12_evenings_183 : decode cX12_evenings 183 = .ok (.iload 5, 2) := by decide +kernel
theorem dX12_evenings_185 : decode cX12_evenings 185 = .ok (.ifCond .lt 11, 3) := by decide +kernel
theorem dX12_evenings_188 : decode cX12_evenings 188 = .ok (.aload_n 0, 1) := by decide +kernel
theorem dX12_evenings_189 : decode cX12_evenings 189 = .ok (.getfield 130, 3) := by decide +kernel
theorem dX12_evenings_192 : decode cX12_evenings 192 = .ok (.iload 5, 2) := by decide +kernel
theorem dX12_evenings_194 : decode cX12_evenings 194 = .ok (.iaload, 1) := by decide +kernel
theorem dX12_evenings_195 : decode cX12_evenings 195 = .ok (.ireturn, 1) := by decide +kernel
theorem dX12_evenings_196 : decode cX12_evenings 196 = .ok (.iload 5, 2) := by decide +kernel
theorem dX12_evenings_198 : decode cX12_evenings 198 = .ok (.bipush (-3), 2) := by decide +kernel
theorem dX12_evenings_200 : decode cX12_evenings 200 = .ok (.if_icmp .le 17, 3) := by decide +kernel
theorem dX12_evenings_203 : decode cX12_evenings 203 = .ok (.iload 5, 2) := by decide +kernel
theorem dX12_evenings_205 : decode cX12_evenings 205 = .ok (.iconst (-1), 1) := by decide +kernel
theorem dX12_evenings_206 : decode cX12_evenings 206 = .ok (.if_icmp .ne 8, 3) := by decide +kernel
theorem dX12_evenings_209 : decode cX12_evenings 209 = .ok (.iload 6, 2) := by decide +kernel
theorem dX12_evenings_211 : decode cX12_evenings 211 = .ok (.goto 5, 3) := by decide +kernel
theorem dX12_evenings_214 : decode cX12_evenings 214 = .ok (.iload 7, 2) := by decide +kernel
theorem dX12_evenings_216 : decode cX12_evenings 216 = .ok (.ireturn, 1) := by decide +kernel
theorem dX12_evenings_217 : decode cX12_evenings 217 = .ok (.iconst 0, 1) := by decide +kernel
theorem dX12_evenings_218 : decode cX12_evenings 218 = .ok (.istore 8, 2) := by decide +kernel
theorem dX12_evenings_220 : decode cX12_evenings 220 = .ok (.aload_n 0, 1) := by decide +kernel
theorem dX12_evenings_221 : decode cX12_evenings 221 = .ok (.getfield 130, 3) := by decide +kernel
theorem dX12_evenings_224 : decode cX12_evenings 224 = .ok (.iconst 0, 1) := by decide +kernel
theorem dX12_evenings_225 : decode cX12_evenings 225 = .ok (.iaload, 1) := by decide +kernel
theorem dX12_evenings_226 : decode cX12_evenings 226 = .ok (.istore 9, 2) := by decide +kernel
theorem dX12_evenings_228 : decode cX12_evenings 228 = .ok (.iconst 0, 1) := by decide +kernel
theorem dX12_evenings_229 : decode cX12_evenings 229 = .ok (.istore 10, 2) := by decide +kernel
theorem dX12_evenings_231 : decode cX12_evenings 231 = .ok (.iload 10, 2) := by decide +kernel
theorem dX12_evenings_233 : decode cX12_evenings 233 = .ok (.aload_n 0, 1) := by decide +kernel
theorem dX12_evenings_234 : decode cX12_evenings 234 = .ok (.getfield 7, 3) := by decide +kernel
theorem dX12_evenings_237 : decode cX12_evenings 237 = .ok (.if_icmp .ge 61, 3) := by decide +kernel
theorem dX12_evenings_240 : decode cX12_evenings 240 = .ok (.aload_n 0, 1) := by decide +kernel
theorem dX12_evenings_241 : decode cX12_evenings 241 = .ok (.getfield 130, 3) := by decide +kernel
theorem dX12_evenings_244 : decode cX12_evenings 244 = .ok (.iload 10, 2) := by decide +kernel
theorem dX12_evenings_246 : decode cX12_evenings 246 = .ok (.iaload, 1) := by decide +kernel
theorem dX12_evenings_247 : decode cX12_evenings 247 = .ok (.iload 8, 2) := by decide +kernel
theorem dX12_evenings_249 : decode cX12_evenings 249 = .ok (.if_icmp .le 13, 3) := by decide +kernel
theorem dX12_evenings_252 : decode cX12_evenings 252 = .ok (.aload_n 0, 1) := by decide +kernel
theorem dX12_evenings_253 : decode cX12_evenings 253 = .ok (.getfield 130, 3) := by decide +kernel
theorem dX12_evenings_256 : decode cX12_evenings 256 = .ok (.iload 10, 2) := by decide +kernel
theorem dX12_evenings_258 : decode cX12_evenings 258 = .ok (.iaload, 1) := by decide +kernel
theorem dX12_evenings_259 : decode cX12_evenings 259 = .ok (.goto 5, 3) := by decide +kernel
theorem dX12_evenings_262 : decode cX12_evenings 262 = .ok (.iload 8, 2) := by decide +kernel
theorem dX12_evenings_264 : decode cX12_evenings 264 = .ok (.istore 8, 2) := by decide +kernel
theorem dX12_evenings_266 : decode cX12_evenings 266 = .ok (.aload_n 0, 1) := by decide +kernel
theorem dX12_evenings_267 : decode cX12_evenings 267 = .ok (.getfield 130, 3) := by decide +kernel
theorem dX12_evenings_270 : decode cX12_evenings 270 = .ok (.iload 10, 2) := by decide +kernel
theorem dX12_evenings_272 : decode cX12_evenings 272 = .ok (.iaload, 1) := by decide +kernel
theorem dX12_evenings_273 : decode cX12_evenings 273 = .ok (.iload 9, 2) := by decide +kernel
theorem dX12_evenings_275 : decode cX12_evenings 275 = .ok (.if_icmp .ge 13, 3) := by decide +kernel
theorem dX12_evenings_278 : decode cX12_evenings 278 = .ok (.aload_n 0, 1) := by decide +kernel
theorem dX12_evenings_279 : decode cX12_evenings 279 = .ok (.getfield 130, 3) := by decide +kernel
theorem dX12_evenings_282 : decode cX12_evenings 282 = .ok (.iload 10, 2) := by decide +kernel
theorem dX12_evenings_284 : decode cX12_evenings 284 = .ok (.iaload, 1) := by decide +kernel
theorem dX12_evenings_285 : decode cX12_evenings 285 = .ok (.goto 5, 3) := by decide +kernel
theorem dX12_evenings_288 : decode cX12_evenings 288 = .ok (.iload 9, 2) := by decide +kernel
theorem dX12_evenings_290 : decode cX12_evenings 290 = .ok (.istore 9, 2) := by decide +kernel
theorem dX12_evenings_292 : decode cX12_evenings 292 = .ok (.iinc 10 1, 3) := by decide +kernel
theorem dX12_evenings_295 : decode cX12_evenings 295 = .ok (.goto (-64), 3) := by decide +kernel
theorem dX12_evenings_298 : decode cX12_evenings 298 = .ok (.iload 8, 2) := by decide +kernel
theorem dX12_evenings_300 : decode cX12_evenings 300 = .ok (.iload 9, 2) := by decide +kernel
theorem dX12_evenings_302 : decode cX12_evenings 302 = .ok (.isub, 1) := by decide +kernel
theorem dX12_evenings_303 : decode cX12_evenings 303 = .ok (.ireturn, 1) := by decide +kernel
def X12_evenings_b290 (e : mm_E) (k231 : Int32 → Int32 → Int32 → mm_V → Option (Int32 × mm_V)) (a0 : Nat) (i8 : Int32) (i10 : Int32) (t0 : Int32) (m : mm_V) : Option (Int32 × mm_V) := k231 i8 t0 (i10 + 1) m
theorem X12_evenings_b290_ok {K : mm_K} {nx : Option Nat} {e : mm_E} (hz : e.2.1 = K.2.2.2.2) {d : Nat} (hd : 6 ≤ d) {a0 : Nat} {i8 : Int32} {i10 : Int32} {t0 : Int32} (h0 : e.1 a0 = some (12, 75)) {k231 : Int32 → Int32 → Int32 → mm_V → Option (Int32 × mm_V)} (hk231 : ∀ (w8 : Int32) (w9 : Int32) (w10 : Int32) (m : mm_V) (r : (Int32 × mm_V)), k231 w8 w9 w10 m = some r → mm_G K MX12_evenings d (mm_Fi e.1 nx r) 231 [some (.ref a0), none, none, none, none, none, none, none, some (.int w8), some (.int w9), some (.int w10)] [] (e.1, m) nx 0 0) {m : mm_V} {r : (Int32 × mm_V)} (hr : X12_evenings_b290 e k231 a0 i8 i10 t0 m = some r) : mm_G K MX12_evenings d (mm_Fi e.1 nx r) 290 [some (.ref a0), none, none, none, none, none, none, none, some (.int i8), none, some (.int i10)] [.int t0] (e.1, m) nx 0 0 := by
  obtain ⟨d, rfl⟩ : ∃ d', d = d' + 1 := ⟨d - 1, by omega⟩
  unfold X12_evenings_b290 at hr
  refine ml_istore (pc := 290) dX12_evenings_290 (Nat.le_of_ble_eq_true rfl) (mm_st1_s (mm_st1_s (mm_st1_s (mm_st1_s (mm_st1_s (mm_st1_s (mm_st1_s (mm_st1_s mm_st1_i)))))))) ?_
  refine ml_iinc (pc := 292) dX12_evenings_292 (mm_get_s (mm_get_s (mm_get_s (mm_get_s (mm_get_s (mm_get_s (mm_get_s (mm_get_s (mm_get_s (mm_get_s mm_get_0)))))))))) (congrArg (fun z => i10 + z) kc_1) (Nat.le_of_ble_eq_true rfl) (mm_st1_s (mm_st1_s (mm_st1_s (mm_st1_s (mm_st1_s (mm_st1_s (mm_st1_s (mm_st1_s (mm_st1_s mm_st1_i))))))))) ?_
  refine mg_goto (pc := 295) 231 dX12_evenings_295 rfl ?_
  exact mg_weak (mm_le_s (mm_le_n (mm_le_n (mm_le_n (mm_le_n (mm_le_n (mm_le_n (mm_le_n (mm_le_s (mm_le_s (mm_le_s mm_le_0))))))))))) (hk231 _ _ _ _ _ hr)
def X12_evenings_b264 (e : mm_E) (k231 : Int32 → Int32 → Int32 → mm_V → Option (Int32 × mm_V)) (a0 : Nat) (i9 : Int32) (i10 : Int32) (t0 : Int32) (m : mm_V) : Option (Int32 × mm_V) := (mm_gr e.1 m 12 75 a0 70).bind fun c1 => (mm_ai e.1 m 20 c1 i10).bind fun x2 => if i9 ≤ x2 then (X12_evenings_b290 e k231 a0 t0 i10 i9 m) else ((mm_gr e.1 m 12 75 a0 70).bind fun c3 => (mm_ai e.1 m 20 c3 i10).bind fun x4 => X12_evenings_b290 e k231 a0 t0 i10 x4 m)
theorem X12_evenings_b264_ok {K : mm_K} {nx : Option Nat} {e : mm_E} (hz : e.2.1 = K.2.2.2.2) {d : Nat} (hd : 6 ≤ d) {a0 : Nat} {i9 : Int32} {i10 : Int32} {t0 : Int32} (h0 : e.1 a0 = some (12, 75)) {k231 : Int32 → Int32 → Int32 → mm_V → Option (Int32 × mm_V)} (hk231 : ∀ (w8 : Int32) (w9 : Int32) (w10 : Int32) (m : mm_V) (r : (Int32 × mm_V)), k231 w8 w9 w10 m = some r → mm_G K MX12_evenings d (mm_Fi e.1 nx r) 231 [some (.ref a0), none, none, none, none, none, none, none, some (.int w8), some (.int w9), some (.int w10)] [] (e.1, m) nx 0 0) {m : mm_V} {r : (Int32 × mm_V)} (hr : X12_evenings_b264 e k231 a0 i9 i10 t0 m = some r) : mm_G K MX12_evenings d (mm_Fi e.1 nx r) 264 [some (.ref a0), none, none, none, none, none, none, none, none, some (.int i9), some (.int i10)] [.int t0] (e.1, m) nx 0 0 := by
  obtain ⟨d, rfl⟩ : ∃ d', d = d' + 1 := ⟨d - 1, by omega⟩
  unfold X12_evenings_b264 at hr
  refine ml_istore (pc := 264) dX12_evenings_264 (Nat.le_of_ble_eq_true rfl) (mm_st1_s (mm_st1_s (mm_st1_s (mm_st1_s (mm_st1_s (mm_st1_s (mm_st1_s mm_st1_n))))))) ?_
  refine ml_aload_n (pc := 266) dX12_evenings_266 rfl mm_get_0 ?_
  refine mb_gr (pc := 267) dX12_evenings_267 fl_X12_130 hr (fun c1 hr => ?_)
  refine ml_iload (pc := 270) dX12_evenings_270 (mm_get_s (mm_get_s (mm_get_s (mm_get_s (mm_get_s (mm_get_s (mm_get_s (mm_get_s (mm_get_s (mm_get_s mm_get_0)))))))))) ?_
  refine mb_ai (pc := 272) dX12_evenings_272 hr (fun x2 hr => ?_)
  refine ml_iload (pc := 273) dX12_evenings_273 (mm_get_s (mm_get_s (mm_get_s (mm_get_s (mm_get_s (mm_get_s (mm_get_s (mm_get_s (mm_get_s mm_get_0))))))))) ?_
  refine mb_icmp_ge (pc := 275) 288 dX12_evenings_275 rfl hr (fun hr => ?_) (fun hr => ?_)
  · refine ml_iload (pc := 288) dX12_evenings_288 (mm_get_s (mm_get_s (mm_get_s (mm_get_s (mm_get_s (mm_get_s (mm_get_s (mm_get_s (mm_get_s mm_get_0))))))))) ?_
    exact mg_weak (mm_le_s (mm_le_n (mm_le_n (mm_le_n (mm_le_n (mm_le_n (mm_le_n (mm_le_n (mm_le_s (mm_le_n (mm_le_s mm_le_0))))))))))) (X12_evenings_b290_ok hz hd h0 hk231 hr)
  · refine ml_aload_n (pc := 278) dX12_evenings_278 rfl mm_get_0 ?_
    refine mb_gr (pc := 279) dX12_evenings_279 fl_X12_130 hr (fun c3 hr => ?_)
    refine ml_iload (pc := 282) dX12_evenings_282 (mm_get_s (mm_get_s (mm_get_s (mm_get_s (mm_get_s (mm_get_s (mm_get_s (mm_get_s (mm_get_s (mm_get_s mm_get_0)))))))))) ?_
    refine mb_ai (pc := 284) dX12_evenings_284 hr (fun x4 hr => ?_)
    refine mg_goto (pc := 285) 290 dX12_evenings_285 rfl ?_
    exact mg_weak (mm_le_s (mm_le_n (mm_le_n (mm_le_n (mm_le_n (mm_le_n (mm_le_n (mm_le_n (mm_le_s (mm_le_n (mm_le_s mm_le_0))))))))))) (X12_evenings_b290_ok hz hd h0 hk231 hr)
def X12_evenings_L231 (e : mm_E) (a0 : Nat) : Nat → Int32 → Int32 → Int32 → mm_V → Option (Int32 × mm_V)
  | 0, _, _, _, _ => none
  | n + 1, i8, i9, i10, m => (mm_gi e.1 m 12 75 a0 1).bind fun x1 => if x1 ≤ i10 then (some ((i8 - i9), m)) else ((mm_gr e.1 m 12 75 a0 70).bind fun c2 => (mm_ai e.1 m 20 c2 i10).bind fun x3 => if x3 ≤ i8 then (X12_evenings_b264 e (X12_evenings_L231 e a0 n) a0 i9 i10 i8 m) else ((mm_gr e.1 m 12 75 a0 70).bind fun c4 => (mm_ai e.1 m 20 c4 i10).bind fun x5 => X12_evenings_b264 e (X12_evenings_L231 e a0 n) a0 i9 i10 x5 m))
theorem X12_evenings_L231_ok {K : mm_K} {nx : Option Nat} {e : mm_E} (hz : e.2.1 = K.2.2.2.2) {d : Nat} (hd : 6 ≤ d) {a0 : Nat} (h0 : e.1 a0 = some (12, 75)) : ∀ (n : Nat) (i8 : Int32) (i9 : Int32) (i10 : Int32) (m : mm_V) (r : (Int32 × mm_V)), X12_evenings_L231 e a0 n i8 i9 i10 m = some r → mm_G K MX12_evenings d (mm_Fi e.1 nx r) 231 [some (.ref a0), none, none, none, none, none, none, none, some (.int i8), some (.int i9), some (.int i10)] [] (e.1, m) nx 0 0 := by
  obtain ⟨d, rfl⟩ : ∃ d', d = d' + 1 := ⟨d - 1, by omega⟩
  intro n
  induction n with
  | zero => intro i8 i9 i10 m r hr; unfold X12_evenings_L231 at hr; cases hr
  | succ n ih =>
    intro i8 i9 i10 m r hr
    unfold X12_evenings_L231 at hr
    refine ml_iload (pc := 231) dX12_evenings_231 (mm_get_s (mm_get_s (mm_get_s (mm_get_s (mm_get_s (mm_get_s (mm_get_s (mm_get_s (mm_get_s (mm_get_s mm_get_0)))))))))) ?_
    refine ml_aload_n (pc := 233) dX12_evenings_233 rfl mm_get_0 ?_
    refine mb_gi (pc := 234) dX12_evenings_234 fl_X12_7 hr (fun x1 hr => ?_)
    refine mb_icmp_ge (pc := 237) 298 dX12_evenings_237 rfl hr (fun hr => ?_) (fun hr => ?_)
    · refine ml_iload (pc := 298) dX12_evenings_298 (mm_get_s (mm_get_s (mm_get_s (mm_get_s (mm_get_s (mm_get_s (mm_get_s (mm_get_s mm_get_0)))))))) ?_
      refine ml_iload (pc := 300) dX12_evenings_300 (mm_get_s (mm_get_s (mm_get_s (mm_get_s (mm_get_s (mm_get_s (mm_get_s (mm_get_s (mm_get_s mm_get_0))))))))) ?_
      refine mg_isub (pc := 302) dX12_evenings_302 ?_
      exact mb_iret dX12_evenings_303 rfl hr
    · refine ml_aload_n (pc := 240) dX12_evenings_240 rfl mm_get_0 ?_
      refine mb_gr (pc := 241) dX12_evenings_241 fl_X12_130 hr (fun c2 hr => ?_)
      refine ml_iload (pc := 244) dX12_evenings_244 (mm_get_s (mm_get_s (mm_get_s (mm_get_s (mm_get_s (mm_get_s (mm_get_s (mm_get_s (mm_get_s (mm_get_s mm_get_0)))))))))) ?_
      refine mb_ai (pc := 246) dX12_evenings_246 hr (fun x3 hr => ?_)
      refine ml_iload (pc := 247) dX12_evenings_247 (mm_get_s (mm_get_s (mm_get_s (mm_get_s (mm_get_s (mm_get_s (mm_get_s (mm_get_s mm_get_0)))))))) ?_
      refine mb_icmp_le (pc := 249) 262 dX12_evenings_249 rfl hr (fun hr => ?_) (fun hr => ?_)
      · refine ml_iload (pc := 262) dX12_evenings_262 (mm_get_s (mm_get_s (mm_get_s (mm_get_s (mm_get_s (mm_get_s (mm_get_s (mm_get_s mm_get_0)))))))) ?_
        exact mg_weak (mm_le_s (mm_le_n (mm_le_n (mm_le_n (mm_le_n (mm_le_n (mm_le_n (mm_le_n (mm_le_n (mm_le_s (mm_le_s mm_le_0))))))))))) (X12_evenings_b264_ok hz hd h0 ih hr)
      · refine ml_aload_n (pc := 252) dX12_evenings_252 rfl mm_get_0 ?_
        refine mb_gr (pc := 253) dX12_evenings_253 fl_X12_130 hr (fun c4 hr => ?_)
        refine ml_iload (pc := 256) dX12_evenings_256 (mm_get_s (mm_get_s (mm_get_s (mm_get_s (mm_get_s (mm_get_s (mm_get_s (mm_get_s (mm_get_s (mm_get_s mm_get_0)))))))))) ?_
        refine mb_ai (pc := 258) dX12_evenings_258 hr (fun x5 hr => ?_)
        refine mg_goto (pc := 259) 264 dX12_evenings_259 rfl ?_
        exact mg_weak (mm_le_s (mm_le_n (mm_le_n (mm_le_n (mm_le_n (mm_le_n (mm_le_n (mm_le_n (mm_le_n (mm_le_s (mm_le_s mm_le_0))))))))))) (X12_evenings_b264_ok hz hd h0 ih hr)
def X12_evenings_b216 (e : mm_E) (t0 : Int32) (m : mm_V) : Option (Int32 × mm_V) := some (t0, m)
theorem X12_evenings_b216_ok {K : mm_K} {nx : Option Nat} {e : mm_E} (hz : e.2.1 = K.2.2.2.2) {d : Nat} (hd : 6 ≤ d) {t0 : Int32} {a0 : Nat} (h0 : e.1 a0 = some (12, 75)) {m : mm_V} {r : (Int32 × mm_V)} (hr : X12_evenings_b216 e t0 m = some r) : mm_G K MX12_evenings d (mm_Fi e.1 nx r) 216 [none, none, none, none, none, none, none, none, none, none, none] [.int t0] (e.1, m) nx 0 0 := by
  obtain ⟨d, rfl⟩ : ∃ d', d = d' + 1 := ⟨d - 1, by omega⟩
  unfold X12_evenings_b216 at hr
  exact mb_iret dX12_evenings_216 rfl hr
def X12_evenings_b177 (e : mm_E) (k101 : Int32 → Int32 → Int32 → mm_V → Option (Int32 × mm_V)) (a0 : Nat) (i1 : Int32) (i2 : Int32) (i3 : Int32) (i4 : Int32) (i5 : Int32) (i6 : Int32) (i7 : Int32) (i8 : Int32) (m : mm_V) : Option (Int32 × mm_V) := k101 i6 i7 (i8 + 1) m
theorem X12_evenings_b177_ok {K : mm_K} {nx : Option Nat} {e : mm_E} (hz : e.2.1 = K.2.2.2.2) {d : Nat} (hd : 6 ≤ d) {a0 : Nat} {i1 : Int32} {i2 : Int32} {i3 : Int32} {i4 : Int32} {i5 : Int32} {i6 : Int32} {i7 : Int32} {i8 : Int32} (h0 : e.1 a0 = some (12, 75)) {k101 : Int32 → Int32 → Int32 → mm_V → Option (Int32 × mm_V)} (hk101 : ∀ (w6 : Int32) (w7 : Int32) (w8 : Int32) (m : mm_V) (r : (Int32 × mm_V)), k101 w6 w7 w8 m = some r → mm_G K MX12_evenings d (mm_Fi e.1 nx r) 101 [some (.ref a0), some (.int i1), some (.int i2), some (.int i3), some (.int i4), some (.int i5), some (.int w6), some (.int w7), some (.int w8), none, none] [] (e.1, m) nx 0 0) {m : mm_V} {r : (Int32 × mm_V)} (hr : X12_evenings_b177 e k101 a0 i1 i2 i3 i4 i5 i6 i7 i8 m = some r) : mm_G K MX12_evenings d (mm_Fi e.1 nx r) 177 [some (.ref a0), some (.int i1), some (.int i2), some (.int i3), some (.int i4), some (.int i5), some (.int i6), some (.int i7), some (.int i8), none, none] [] (e.1, m) nx 0 0 := by
  obtain ⟨d, rfl⟩ : ∃ d', d = d' + 1 := ⟨d - 1, by omega⟩
  unfold X12_evenings_b177 at hr
  refine ml_iinc (pc := 177) dX12_evenings_177 (mm_get_s (mm_get_s (mm_get_s (mm_get_s (mm_get_s (mm_get_s (mm_get_s (mm_get_s mm_get_0)))))))) (congrArg (fun z => i8 + z) kc_1) (Nat.le_of_ble_eq_true rfl) (mm_st1_s (mm_st1_s (mm_st1_s (mm_st1_s (mm_st1_s (mm_st1_s (mm_st1_s mm_st1_i))))))) ?_
  refine mg_goto (pc := 180) 101 dX12_evenings_180 rfl ?_
  exact mg_weak (mm_le_s (mm_le_s (mm_le_s (mm_le_s (mm_le_s (mm_le_s (mm_le_s (mm_le_s (mm_le_s (mm_le_n (mm_le_n mm_le_0))))))))))) (hk101 _ _ _ _ _ hr)
def X12_evenings_b142 (e : mm_E) (k101 : Int32 → Int32 → Int32 → mm_V → Option (Int32 × mm_V)) (a0 : Nat) (i1 : Int32) (i2 : Int32) (i3 : Int32) (i4 : Int32) (i5 : Int32) (i6 : Int32) (i8 : Int32) (t0 : Int32) (m : mm_V) : Option (Int32 × mm_V) := (mm_gr e.1 m 12 75 a0 69).bind fun c1 => (X12_loser e a0 c1 m).bind fun r2 => if ¬ r2.1 = (-1 : Int32) then ((mm_gr e.1 r2.2 12 75 a0 70).bind fun c3 => (mm_ai e.1 r2.2 20 c3 r2.1).bind fun x4 => (mm_si e.1 r2.2 c3 r2.1 (x4 + (1 : Int32))).bind fun m5 => X12_evenings_b177 e k101 a0 i1 i2 i3 i4 i5 i6 t0 i8  m5) else (X12_evenings_b177 e k101 a0 i1 i2 i3 i4 i5 (i6 + 1) t0 i8  r2.2)
theorem X12_evenings_b142_ok {K : mm_K} {nx : Option Nat} {e : mm_E} (hz : e.2.1 = K.2.2.2.2) {d : Nat} (hd : 6 ≤ d) {a0 : Nat} {i1 : Int32} {i2 : Int32} {i3 : Int32} {i4 : Int32} {i5 : Int32} {i6 : Int32} {i8 : Int32} {t0 : Int32} (h0 : e.1 a0 = some (12, 75)) {k101 : Int32 → Int32 → Int32 → mm_V → Option (Int32 × mm_V)} (hk101 : ∀ (w6 : Int32) (w7 : Int32) (w8 : Int32) (m : mm_V) (r : (Int32 × mm_V)), k101 w6 w7 w8 m = some r → mm_G K MX12_evenings d (mm_Fi e.1 nx r) 101 [some (.ref a0), some (.int i1), some (.int i2), some (.int i3), some (.int i4), some (.int i5), some (.int w6), some (.int w7), some (.int w8), none, none] [] (e.1, m) nx 0 0) {m : mm_V} {r : (Int32 × mm_V)} (hr : X12_evenings_b142 e k101 a0 i1 i2 i3 i4 i5 i6 i8 t0 m = some r) : mm_G K MX12_evenings d (mm_Fi e.1 nx r) 142 [some (.ref a0), some (.int i1), some (.int i2), some (.int i3), some (.int i4), some (.int i5), some (.int i6), none, some (.int i8), none, none] [.int t0] (e.1, m) nx 0 0 := by
  obtain ⟨d, rfl⟩ : ∃ d', d = d' + 1 := ⟨d - 1, by omega⟩
  unfold X12_evenings_b142 at hr
  refine ml_istore (pc := 142) dX12_evenings_142 (Nat.le_of_ble_eq_true rfl) (mm_st1_s (mm_st1_s (mm_st1_s (mm_st1_s (mm_st1_s (mm_st1_s mm_st1_i)))))) ?_
  refine ml_aload_n (pc := 144) dX12_evenings_144 rfl mm_get_0 ?_
  refine ml_aload_n (pc := 145) dX12_evenings_145 rfl mm_get_0 ?_
  refine mb_gr (pc := 146) dX12_evenings_146 fl_X12_127 hr (fun c1 hr => ?_)
  refine mb_cVi (pc := 149) (As := [.ref c1]) (rest := []) dX12_evenings_149 cw_X12_434 h0 hr (fun v hv => X12_loser_ok hz (by omega) h0 hv) rfl (Nat.le_of_ble_eq_true rfl) (Nat.zero_le _) (Nat.zero_le _) (fun r2 hr => ?_)
  refine ml_istore (pc := 152) dX12_evenings_152 (Nat.le_of_ble_eq_true rfl) (mm_st1_s (mm_st1_s (mm_st1_s (mm_st1_s (mm_st1_s (mm_st1_s (mm_st1_s (mm_st1_s (mm_st1_s mm_st1_n))))))))) ?_
  refine ml_iload (pc := 154) dX12_evenings_154 (mm_get_s (mm_get_s (mm_get_s (mm_get_s (mm_get_s (mm_get_s (mm_get_s (mm_get_s (mm_get_s (mm_get_s mm_get_0)))))))))) ?_
  refine mg_iconst (pc := 156) dX12_evenings_156 kc_m1 ?_
  refine mb_icmp_ne (pc := 157) 166 dX12_evenings_157 rfl hr (fun hr => ?_) (fun hr => ?_)
  · refine ml_aload_n (pc := 166) dX12_evenings_166 rfl mm_get_0 ?_
    refine mb_gr (pc := 167) dX12_evenings_167 fl_X12_130 hr (fun c3 hr => ?_)
    refine ml_iload (pc := 170) dX12_evenings_170 (mm_get_s (mm_get_s (mm_get_s (mm_get_s (mm_get_s (mm_get_s (mm_get_s (mm_get_s (mm_get_s (mm_get_s mm_get_0)))))))))) ?_
    refine mg_dup2 (pc := 172) dX12_evenings_172 rfl rfl ?_
    refine mb_ai (pc := 173) dX12_evenings_173 hr (fun x4 hr => ?_)
    refine mg_iconst (pc := 174) dX12_evenings_174 kc_1 ?_
    refine mg_iadd (pc := 175) dX12_evenings_175 ?_
    refine mb_si (pc := 176) dX12_evenings_176 hr (fun m5 hr => ?_)
    exact mg_weak (mm_le_s (mm_le_s (mm_le_s (mm_le_s (mm_le_s (mm_le_s (mm_le_s (mm_le_s (mm_le_s (mm_le_n (mm_le_n mm_le_0))))))))))) (X12_evenings_b177_ok hz hd h0 hk101 hr)
  · refine ml_iinc (pc := 160) dX12_evenings_160 (mm_get_s (mm_get_s (mm_get_s (mm_get_s (mm_get_s (mm_get_s mm_get_0)))))) (congrArg (fun z => i6 + z) kc_1) (Nat.le_of_ble_eq_true rfl) (mm_st1_s (mm_st1_s (mm_st1_s (mm_st1_s (mm_st1_s mm_st1_i))))) ?_
    refine mg_goto (pc := 163) 177 dX12_evenings_163 rfl ?_
    exact mg_weak (mm_le_s (mm_le_s (mm_le_s (mm_le_s (mm_le_s (mm_le_s (mm_le_s (mm_le_s (mm_le_s (mm_le_n (mm_le_n mm_le_0))))))))))) (X12_evenings_b177_ok hz hd h0 hk101 hr)
def X12_evenings_L101 (e : mm_E) (a0 : Nat) (i1 : Int32) (i2 : Int32) (i3 : Int32) (i4 : Int32) (i5 : Int32) : Nat → Int32 → Int32 → Int32 → mm_V → Option (Int32 × mm_V)
  | 0, _, _, _, _ => none
  | n + 1, i6, i7, i8, m => if i2 ≤ i8 then (if i5 < 0 then (if i5 ≤ (-3 : Int32) then ((mm_gr e.1 m 12 75 a0 70).bind fun c1 => (mm_ai e.1 m 20 c1 (0 : Int32)).bind fun x2 => X12_evenings_L231 e a0 e.2.2 (0 : Int32) x2 (0 : Int32) m) else (if ¬ i5 = (-1 : Int32) then (X12_evenings_b216 e  i7 m) else (X12_evenings_b216 e  i6 m))) else ((mm_gr e.1 m 12 75 a0 70).bind fun c3 => (mm_ai e.1 m 20 c3 i5).bind fun x4 => some (x4, m))) else ((mm_gr e.1 m 12 75 a0 69).bind fun c5 => (X12_deals e a0 (i1 + i8) c5 m).bind fun r6 => (X12_evens e a0 i3 i4 r6).bind fun r7 => if r7.1 ≤ i7 then (X12_evenings_b142 e (X12_evenings_L101 e a0 i1 i2 i3 i4 i5 n) a0 i1 i2 i3 i4 i5 i6 i8 i7 r7.2) else (X12_evenings_b142 e (X12_evenings_L101 e a0 i1 i2 i3 i4 i5 n) a0 i1 i2 i3 i4 i5 i6 i8 r7.1 r7.2))
theorem X12_evenings_L101_ok {K : mm_K} {nx : Option Nat} {e : mm_E} (hz : e.2.1 = K.2.2.2.2) {d : Nat} (hd : 6 ≤ d) {a0 : Nat} {i1 : Int32} {i2 : Int32} {i3 : Int32} {i4 : Int32} {i5 : Int32} (h0 : e.1 a0 = some (12, 75)) : ∀ (n : Nat) (i6 : Int32) (i7 : Int32) (i8 : Int32) (m : mm_V) (r : (Int32 × mm_V)), X12_evenings_L101 e a0 i1 i2 i3 i4 i5 n i6 i7 i8 m = some r → mm_G K MX12_evenings d (mm_Fi e.1 nx r) 101 [some (.ref a0), some (.int i1), some (.int i2), some (.int i3), some (.int i4), some (.int i5), some (.int i6), some (.int i7), some (.int i8), none, none] [] (e.1, m) nx 0 0 := by
  obtain ⟨d, rfl⟩ : ∃ d', d = d' + 1 := ⟨d - 1, by omega⟩
  intro n
  induction n with
  | zero => intro i6 i7 i8 m r hr; unfold X12_evenings_L101 at hr; cases hr
  | succ n ih =>
    intro i6 i7 i8 m r hr
    unfold X12_evenings_L101 at hr
    refine ml_iload (pc := 101) dX12_evenings_101 (mm_get_s (mm_get_s (mm_get_s (mm_get_s (mm_get_s (mm_get_s (mm_get_s (mm_get_s mm_get_0)))))))) ?_
    refine ml_iload_n (pc := 103) dX12_evenings_103 rfl (mm_get_s (mm_get_s mm_get_0)) ?_
    refine mb_icmp_ge (pc := 104) 183 dX12_evenings_104 rfl hr (fun hr => ?_) (fun hr => ?_)
    · refine ml_iload (pc := 183) dX12_evenings_183 (mm_get_s (mm_get_s (mm_get_s (mm_get_s (mm_get_s mm_get_0))))) ?_
      refine mb_if_lt (pc := 185) 196 dX12_evenings_185 rfl hr (fun hr => ?_) (fun hr => ?_)
      · refine ml_iload (pc := 196) dX12_evenings_196 (mm_get_s (mm_get_s (mm_get_s (mm_get_s (mm_get_s mm_get_0))))) ?_
        refine mg_bipush (pc := 198) dX12_evenings_198 kb_m3 ?_
        refine mb_icmp_le (pc := 200) 217 dX12_evenings_200 rfl hr (fun hr => ?_) (fun hr => ?_)
        · refine mg_iconst (pc := 217) dX12_evenings_217 kc_0 ?_
          refine ml_istore (pc := 218) dX12_evenings_218 (Nat.le_of_ble_eq_true rfl) (mm_st1_s (mm_st1_s (mm_st1_s (mm_st1_s (mm_st1_s (mm_st1_s (mm_st1_s mm_st1_i))))))) ?_
          refine ml_aload_n (pc := 220) dX12_evenings_220 rfl mm_get_0 ?_
          refine mb_gr (pc := 221) dX12_evenings_221 fl_X12_130 hr (fun c1 hr => ?_)
          refine mg_iconst (pc := 224) dX12_evenings_224 kc_0 ?_
          refine mb_ai (pc := 225) dX12_evenings_225 hr (fun x2 hr => ?_)
          refine ml_istore (pc := 226) dX12_evenings_226 (Nat.le_of_ble_eq_true rfl) (mm_st1_s (mm_st1_s (mm_st1_s (mm_st1_s (mm_st1_s (mm_st1_s (mm_st1_s (mm_st1_s mm_st1_i)))))))) ?_
          refine mg_iconst (pc := 228) dX12_evenings_228 kc_0 ?_
          refine ml_istore (pc := 229) dX12_evenings_229 (Nat.le_of_ble_eq_true rfl) (mm_st1_s (mm_st1_s (mm_st1_s (mm_st1_s (mm_st1_s (mm_st1_s (mm_st1_s (mm_st1_s (mm_st1_s mm_st1_i))))))))) ?_
          exact mg_weak (mm_le_s (mm_le_n (mm_le_n (mm_le_n (mm_le_n (mm_le_n (mm_le_n (mm_le_n (mm_le_s (mm_le_s (mm_le_s mm_le_0))))))))))) (X12_evenings_L231_ok hz hd h0 _ _ _ _ _ _ hr)
        · refine ml_iload (pc := 203) dX12_evenings_203 (mm_get_s (mm_get_s (mm_get_s (mm_get_s (mm_get_s mm_get_0))))) ?_
          refine mg_iconst (pc := 205) dX12_evenings_205 kc_m1 ?_
          refine mb_icmp_ne (pc := 206) 214 dX12_evenings_206 rfl hr (fun hr => ?_) (fun hr => ?_)
          · refine ml_iload (pc := 214) dX12_evenings_214 (mm_get_s (mm_get_s (mm_get_s (mm_get_s (mm_get_s (mm_get_s (mm_get_s mm_get_0))))))) ?_
            exact mg_weak (mm_le_n (mm_le_n (mm_le_n (mm_le_n (mm_le_n (mm_le_n (mm_le_n (mm_le_n (mm_le_n (mm_le_n (mm_le_n mm_le_0))))))))))) (X12_evenings_b216_ok hz hd h0 hr)
          · refine ml_iload (pc := 209) dX12_evenings_209 (mm_get_s (mm_get_s (mm_get_s (mm_get_s (mm_get_s (mm_get_s mm_get_0)))))) ?_
            refine mg_goto (pc := 211) 216 dX12_evenings_211 rfl ?_
            exact mg_weak (mm_le_n (mm_le_n (mm_le_n (mm_le_n (mm_le_n (mm_le_n (mm_le_n (mm_le_n (mm_le_n (mm_le_n (mm_le_n mm_le_0))))))))))) (X12_evenings_b216_ok hz hd h0 hr)
      · refine ml_aload_n (pc := 188) dX12_evenings_188 rfl mm_get_0 ?_
        refine mb_gr (pc := 189) dX12_evenings_189 fl_X12_130 hr (fun c3 hr => ?_)
        refine ml_iload (pc := 192) dX12_evenings_192 (mm_get_s (mm_get_s (mm_get_s (mm_get_s (mm_get_s mm_get_0))))) ?_
        refine mb_ai (pc := 194) dX12_evenings_194 hr (fun x4 hr => ?_)
        exact mb_iret dX12_evenings_195 rfl hr
    · refine ml_aload_n (pc := 107) dX12_evenings_107 rfl mm_get_0 ?_
      refine ml_iload_n (pc := 108) dX12_evenings_108 rfl (mm_get_s mm_get_0) ?_
      refine ml_iload (pc := 109) dX12_evenings_109 (mm_get_s (mm_get_s (mm_get_s (mm_get_s (mm_get_s (mm_get_s (mm_get_s (mm_get_s mm_get_0)))))))) ?_
      refine mg_iadd (pc := 111) dX12_evenings_111 ?_
      refine ml_aload_n (pc := 112) dX12_evenings_112 rfl mm_get_0 ?_
      refine mb_gr (pc := 113) dX12_evenings_113 fl_X12_127 hr (fun c5 hr => ?_)
      refine mb_cVv (pc := 116) (As := [.int (i1 + i8), .ref c5]) (rest := []) dX12_evenings_116 cw_X12_145 h0 hr (fun v hv => X12_deals_ok hz (by omega) h0 hv) rfl (Nat.le_of_ble_eq_true rfl) (Nat.zero_le _) (Nat.zero_le _) (fun r6 hr => ?_)
      refine ml_aload_n (pc := 119) dX12_evenings_119 rfl mm_get_0 ?_
      refine ml_iload_n (pc := 120) dX12_evenings_120 rfl (mm_get_s (mm_get_s (mm_get_s mm_get_0))) ?_
      refine ml_iload (pc := 121) dX12_evenings_121 (mm_get_s (mm_get_s (mm_get_s (mm_get_s mm_get_0)))) ?_
      refine mb_cVi (pc := 123) (As := [.int i3, .int i4]) (rest := []) dX12_evenings_123 cw_X12_490 h0 hr (fun v hv => X12_evens_ok hz (by omega) h0 hv) rfl (Nat.le_of_ble_eq_true rfl) (Nat.zero_le _) (Nat.zero_le _) (fun r7 hr => ?_)
      refine ml_istore (pc := 126) dX12_evenings_126 (Nat.le_of_ble_eq_true rfl) (mm_st1_s (mm_st1_s (mm_st1_s (mm_st1_s (mm_st1_s (mm_st1_s (mm_st1_s (mm_st1_s mm_st1_i)))))))) ?_
      refine ml_iload (pc := 128) dX12_evenings_128 (mm_get_s (mm_get_s (mm_get_s (mm_get_s (mm_get_s (mm_get_s (mm_get_s (mm_get_s (mm_get_s mm_get_0))))))))) ?_
      refine ml_iload (pc := 130) dX12_evenings_130 (mm_get_s (mm_get_s (mm_get_s (mm_get_s (mm_get_s (mm_get_s (mm_get_s mm_get_0))))))) ?_
      refine mb_icmp_le (pc := 132) 140 dX12_evenings_132 rfl hr (fun hr => ?_) (fun hr => ?_)
      · refine ml_iload (pc := 140) dX12_evenings_140 (mm_get_s (mm_get_s (mm_get_s (mm_get_s (mm_get_s (mm_get_s (mm_get_s mm_get_0))))))) ?_
        exact mg_weak (mm_le_s (mm_le_s (mm_le_s (mm_le_s (mm_le_s (mm_le_s (mm_le_s (mm_le_n (mm_le_s (mm_le_n (mm_le_n mm_le_0))))))))))) (X12_evenings_b142_ok hz hd h0 ih hr)
      · refine ml_iload (pc := 135) dX12_evenings_135 (mm_get_s (mm_get_s (mm_get_s (mm_get_s (mm_get_s (mm_get_s (mm_get_s (mm_get_s (mm_get_s mm_get_0))))))))) ?_
        refine mg_goto (pc := 137) 142 dX12_evenings_137 rfl ?_
        exact mg_weak (mm_le_s (mm_le_s (mm_le_s (mm_le_s (mm_le_s (mm_le_s (mm_le_s (mm_le_n (mm_le_s (mm_le_n (mm_le_n mm_le_0))))))))))) (X12_evenings_b142_ok hz hd h0 ih hr)
def X12_evenings_L71 (e : mm_E) (a0 : Nat) (i1 : Int32) (i2 : Int32) (i3 : Int32) (i4 : Int32) (i5 : Int32) : Nat → Int32 → mm_V → Option (Int32 × mm_V)
  | 0, _, _ => none
  | n + 1, i6, m => if (6 : Int32) ≤ i6 then (X12_evenings_L101 e a0 i1 i2 i3 i4 i5 e.2.2 (0 : Int32) (0 : Int32) (0 : Int32) m) else ((mm_gr e.1 m 12 75 a0 70).bind fun c1 => (mm_si e.1 m c1 i6 (0 : Int32)).bind fun m2 => X12_evenings_L71 e a0 i1 i2 i3 i4 i5 n (i6 + 1) m2)
theorem X12_evenings_L71_ok {K : mm_K} {nx : Option Nat} {e : mm_E} (hz : e.2.1 = K.2.2.2.2) {d : Nat} (hd : 6 ≤ d) {a0 : Nat} {i1 : Int32} {i2 : Int32} {i3 : Int32} {i4 : Int32} {i5 : Int32} (h0 : e.1 a0 = some (12, 75)) : ∀ (n : Nat) (i6 : Int32) (m : mm_V) (r : (Int32 × mm_V)), X12_evenings_L71 e a0 i1 i2 i3 i4 i5 n i6 m = some r → mm_G K MX12_evenings d (mm_Fi e.1 nx r) 71 [some (.ref a0), some (.int i1), some (.int i2), some (.int i3), some (.int i4), some (.int i5), some (.int i6), none, none, none, none] [] (e.1, m) nx 0 0 := by
  obtain ⟨d, rfl⟩ : ∃ d', d = d' + 1 := ⟨d - 1, by omega⟩
  intro n
  induction n with
  | zero => intro i6 m r hr; unfold X12_evenings_L71 at hr; cases hr
  | succ n ih =>
    intro i6 m r hr
    unfold X12_evenings_L71 at hr
    refine ml_iload (pc := 71) dX12_evenings_71 (mm_get_s (mm_get_s (mm_get_s (mm_get_s (mm_get_s (mm_get_s mm_get_0)))))) ?_
    refine mg_bipush (pc := 73) dX12_evenings_73 kb_6 ?_
    refine mb_icmp_ge (pc := 75) 92 dX12_evenings_75 rfl hr (fun hr => ?_) (fun hr => ?_)
    · refine mg_iconst (pc := 92) dX12_evenings_92 kc_0 ?_
      refine ml_istore (pc := 93) dX12_evenings_93 (Nat.le_of_ble_eq_true rfl) (mm_st1_s (mm_st1_s (mm_st1_s (mm_st1_s (mm_st1_s mm_st1_i))))) ?_
      refine mg_iconst (pc := 95) dX12_evenings_95 kc_0 ?_
      refine ml_istore (pc := 96) dX12_evenings_96 (Nat.le_of_ble_eq_true rfl) (mm_st1_s (mm_st1_s (mm_st1_s (mm_st1_s (mm_st1_s (mm_st1_s mm_st1_i)))))) ?_
      refine mg_iconst (pc := 98) dX12_evenings_98 kc_0 ?_
      refine ml_istore (pc := 99) dX12_evenings_99 (Nat.le_of_ble_eq_true rfl) (mm_st1_s (mm_st1_s (mm_st1_s (mm_st1_s (mm_st1_s (mm_st1_s (mm_st1_s mm_st1_i))))))) ?_
      exact mg_weak (mm_le_s (mm_le_s (mm_le_s (mm_le_s (mm_le_s (mm_le_s (mm_le_s (mm_le_s (mm_le_s (mm_le_n (mm_le_n mm_le_0))))))))))) (X12_evenings_L101_ok hz hd h0 _ _ _ _ _ _ hr)
    · refine ml_aload_n (pc := 78) dX12_evenings_78 rfl mm_get_0 ?_
      refine mb_gr (pc := 79) dX12_evenings_79 fl_X12_130 hr (fun c1 hr => ?_)
      refine ml_iload (pc := 82) dX12_evenings_82 (mm_get_s (mm_get_s (mm_get_s (mm_get_s (mm_get_s (mm_get_s mm_get_0)))))) ?_
      refine mg_iconst (pc := 84) dX12_evenings_84 kc_0 ?_
      refine mb_si (pc := 85) dX12_evenings_85 hr (fun m2 hr => ?_)
      refine ml_iinc (pc := 86) dX12_evenings_86 (mm_get_s (mm_get_s (mm_get_s (mm_get_s (mm_get_s (mm_get_s mm_get_0)))))) (congrArg (fun z => i6 + z) kc_1) (Nat.le_of_ble_eq_true rfl) (mm_st1_s (mm_st1_s (mm_st1_s (mm_st1_s (mm_st1_s mm_st1_i))))) ?_
      refine mg_goto (pc := 89) 71 dX12_evenings_89 rfl ?_
      exact mg_weak (mm_le_s (mm_le_s (mm_le_s (mm_le_s (mm_le_s (mm_le_s (mm_le_s (mm_le_n (mm_le_n (mm_le_n (mm_le_n mm_le_0))))))))))) (ih _ _ _ hr)
def X12_evenings_b66 (e : mm_E) (m : mm_V) : Option (Int32 × mm_V) := some ((0 : Int32), m)
theorem X12_evenings_b66_ok {K : mm_K} {nx : Option Nat} {e : mm_E} (hz : e.2.1 = K.2.2.2.2) {d : Nat} (hd : 6 ≤ d) {a0 : Nat} (h0 : e.1 a0 = some (12, 75)) {m : mm_V} {r : (Int32 × mm_V)} (hr : X12_evenings_b66 e m = some r) : mm_G K MX12_evenings d (mm_Fi e.1 nx r) 66 [none, none, none, none, none, none, none, none, none, none, none] [] (e.1, m) nx 0 0 := by
  obtain ⟨d, rfl⟩ : ∃ d', d = d' + 1 := ⟨d - 1, by omega⟩
  unfold X12_evenings_b66 at hr
  refine mg_iconst (pc := 66) dX12_evenings_66 kc_0 ?_
  exact mb_iret dX12_evenings_67 rfl hr
def X12_evenings_b59 (e : mm_E) (a0 : Nat) (i1 : Int32) (i2 : Int32) (i3 : Int32) (i4 : Int32) (i5 : Int32) (t0 : Nat) (t1 : Int32) (m : mm_V) : Option (Int32 × mm_V) := if e.1 t0 = some (12, 75) then ((X12_right e t0 t1 (2 : Int32) m).bind fun r1 => if ¬ r1.1 = 0 then (X12_evenings_L71 e a0 i1 i2 i3 i4 i5 e.2.2 (0 : Int32) r1.2) else (X12_evenings_b66 e   r1.2)) else none
theorem X12_evenings_b59_ok {K : mm_K} {nx : Option Nat} {e : mm_E} (hz : e.2.1 = K.2.2.2.2) {d : Nat} (hd : 6 ≤ d) {a0 : Nat} {i1 : Int32} {i2 : Int32} {i3 : Int32} {i4 : Int32} {i5 : Int32} {t0 : Nat} {t1 : Int32} (h0 : e.1 a0 = some (12, 75)) {m : mm_V} {r : (Int32 × mm_V)} (hr : X12_evenings_b59 e a0 i1 i2 i3 i4 i5 t0 t1 m = some r) : mm_G K MX12_evenings d (mm_Fi e.1 nx r) 59 [some (.ref a0), some (.int i1), some (.int i2), some (.int i3), some (.int i4), some (.int i5), none, none, none, none, none] [.int t1, .ref t0] (e.1, m) nx 0 0 := by
  obtain ⟨d, rfl⟩ : ∃ d', d = d' + 1 := ⟨d - 1, by omega⟩
  unfold X12_evenings_b59 at hr
  refine mg_iconst (pc := 59) dX12_evenings_59 kc_2 ?_
  refine mb_ck hr (fun hb2 hr => ?_)
  refine mb_cVi (pc := 60) (As := [.int t1, .int (2 : Int32)]) (rest := []) dX12_evenings_60 cw_X12_306 hb2 hr (fun v hv => X12_right_ok hz (by omega) hb2 hv) rfl (Nat.le_of_ble_eq_true rfl) (Nat.zero_le _) (Nat.zero_le _) (fun r1 hr => ?_)
  refine mb_if_ne (pc := 63) 68 dX12_evenings_63 rfl hr (fun hr => ?_) (fun hr => ?_)
  · refine mg_iconst (pc := 68) dX12_evenings_68 kc_0 ?_
    refine ml_istore (pc := 69) dX12_evenings_69 (Nat.le_of_ble_eq_true rfl) (mm_st1_s (mm_st1_s (mm_st1_s (mm_st1_s (mm_st1_s mm_st1_i))))) ?_
    exact mg_weak (mm_le_s (mm_le_s (mm_le_s (mm_le_s (mm_le_s (mm_le_s (mm_le_s (mm_le_n (mm_le_n (mm_le_n (mm_le_n mm_le_0))))))))))) (X12_evenings_L71_ok hz hd h0 _ _ _ _ hr)
  · exact mg_weak (mm_le_n (mm_le_n (mm_le_n (mm_le_n (mm_le_n (mm_le_n (mm_le_n (mm_le_n (mm_le_n (mm_le_n (mm_le_n mm_le_0))))))))))) (X12_evenings_b66_ok hz hd h0 hr)
def X12_evenings_b58 (e : mm_E) (a0 : Nat) (i1 : Int32) (i2 : Int32) (i3 : Int32) (i4 : Int32) (i5 : Int32) (t0 : Nat) (m : mm_V) : Option (Int32 × mm_V) := X12_evenings_b59 e a0 i1 i2 i3 i4 i5 t0 (0 : Int32) m
theorem X12_evenings_b58_ok {K : mm_K} {nx : Option Nat} {e : mm_E} (hz : e.2.1 = K.2.2.2.2) {d : Nat} (hd : 6 ≤ d) {a0 : Nat} {i1 : Int32} {i2 : Int32} {i3 : Int32} {i4 : Int32} {i5 : Int32} {t0 : Nat} (h0 : e.1 a0 = some (12, 75)) {m : mm_V} {r : (Int32 × mm_V)} (hr : X12_evenings_b58 e a0 i1 i2 i3 i4 i5 t0 m = some r) : mm_G K MX12_evenings d (mm_Fi e.1 nx r) 58 [some (.ref a0), some (.int i1), some (.int i2), some (.int i3), some (.int i4), some (.int i5), none, none, none, none, none] [.ref t0] (e.1, m) nx 0 0 := by
  obtain ⟨d, rfl⟩ : ∃ d', d = d' + 1 := ⟨d - 1, by omega⟩
  unfold X12_evenings_b58 at hr
  refine mg_iconst (pc := 58) dX12_evenings_58 kc_0 ?_
  exact mg_weak (mm_le_s (mm_le_s (mm_le_s (mm_le_s (mm_le_s (mm_le_s (mm_le_n (mm_le_n (mm_le_n (mm_le_n (mm_le_n mm_le_0))))))))))) (X12_evenings_b59_ok hz hd h0 hr)
def X12_evenings_b27 (e : mm_E) (a0 : Nat) (i1 : Int32) (i2 : Int32) (i3 : Int32) (i4 : Int32) (i5 : Int32) (t0 : Nat) (t1 : Int32) (m : mm_V) : Option (Int32 × mm_V) := if e.1 t0 = some (12, 75) then ((X12_right e t0 t1 (1 : Int32) m).bind fun r1 => if r1.1 = 0 then (X12_evenings_b66 e   r1.2) else ((X12_within e i2 (0 : Int32) (60 : Int32) r1.2).bind fun r3 => if r3.1 = 0 then (X12_evenings_b58 e a0 i1 i2 i3 i4 i5 a0 r3.2) else ((X12_within e i3 (0 : Int32) (3 : Int32) r3.2).bind fun r4 => if r4.1 = 0 then (X12_evenings_b58 e a0 i1 i2 i3 i4 i5 a0 r4.2) else (X12_evenings_b59 e a0 i1 i2 i3 i4 i5 a0 (1 : Int32) r4.2)))) else none
theorem X12_evenings_b27_ok {K : mm_K} {nx : Option Nat} {e : mm_E} (hz : e.2.1 = K.2.2.2.2) {d : Nat} (hd : 6 ≤ d) {a0 : Nat} {i1 : Int32} {i2 : Int32} {i3 : Int32} {i4 : Int32} {i5 : Int32} {t0 : Nat} {t1 : Int32} (h0 : e.1 a0 = some (12, 75)) {m : mm_V} {r : (Int32 × mm_V)} (hr : X12_evenings_b27 e a0 i1 i2 i3 i4 i5 t0 t1 m = some r) : mm_G K MX12_evenings d (mm_Fi e.1 nx r) 27 [some (.ref a0), some (.int i1), some (.int i2), some (.int i3), some (.int i4), some (.int i5), none, none, none, none, none] [.int t1, .ref t0] (e.1, m) nx 0 0 := by
  obtain ⟨d, rfl⟩ : ∃ d', d = d' + 1 := ⟨d - 1, by omega⟩
  unfold X12_evenings_b27 at hr
  refine mg_iconst (pc := 27) dX12_evenings_27 kc_1 ?_
  refine mb_ck hr (fun hb2 hr => ?_)
  refine mb_cVi (pc := 28) (As := [.int t1, .int (1 : Int32)]) (rest := []) dX12_evenings_28 cw_X12_306 hb2 hr (fun v hv => X12_right_ok hz (by omega) hb2 hv) rfl (Nat.le_of_ble_eq_true rfl) (Nat.zero_le _) (Nat.zero_le _) (fun r1 hr => ?_)
  refine mb_if_eq (pc := 31) 66 dX12_evenings_31 rfl hr (fun hr => ?_) (fun hr => ?_)
  · exact mg_weak (mm_le_n (mm_le_n (mm_le_n (mm_le_n (mm_le_n (mm_le_n (mm_le_n (mm_le_n (mm_le_n (mm_le_n (mm_le_n mm_le_0))))))))))) (X12_evenings_b66_ok hz hd h0 hr)
  · refine ml_aload_n (pc := 34) dX12_evenings_34 rfl mm_get_0 ?_
    refine ml_iload_n (pc := 35) dX12_evenings_35 rfl (mm_get_s (mm_get_s mm_get_0)) ?_
    refine mg_iconst (pc := 36) dX12_evenings_36 kc_0 ?_
    refine mg_bipush (pc := 37) dX12_evenings_37 kb_60 ?_
    refine mb_cSi (pc := 39) (As := [.int i2, .int (0 : Int32), .int (60 : Int32)]) (rest := [.ref a0]) dX12_evenings_39 cw_X12_368  hr (fun v hv => X12_within_ok hz (by omega)  hv) rfl (Nat.le_of_ble_eq_true rfl) (Nat.zero_le _) (Nat.zero_le _) (fun r3 hr => ?_)
    refine mb_if_eq (pc := 42) 58 dX12_evenings_42 rfl hr (fun hr => ?_) (fun hr => ?_)
    · exact mg_weak (mm_le_s (mm_le_s (mm_le_s (mm_le_s (mm_le_s (mm_le_s (mm_le_n (mm_le_n (mm_le_n (mm_le_n (mm_le_n mm_le_0))))))))))) (X12_evenings_b58_ok hz hd h0 hr)
    · refine ml_iload_n (pc := 45) dX12_evenings_45 rfl (mm_get_s (mm_get_s (mm_get_s mm_get_0))) ?_
      refine mg_iconst (pc := 46) dX12_evenings_46 kc_0 ?_
      refine mg_iconst (pc := 47) dX12_evenings_47 kc_3 ?_
      refine mb_cSi (pc := 48) (As := [.int i3, .int (0 : Int32), .int (3 : Int32)]) (rest := [.ref a0]) dX12_evenings_48 cw_X12_368  hr (fun v hv => X12_within_ok hz (by omega)  hv) rfl (Nat.le_of_ble_eq_true rfl) (Nat.zero_le _) (Nat.zero_le _) (fun r4 hr => ?_)
      refine mb_if_eq (pc := 51) 58 dX12_evenings_51 rfl hr (fun hr => ?_) (fun hr => ?_)
      · exact mg_weak (mm_le_s (mm_le_s (mm_le_s (mm_le_s (mm_le_s (mm_le_s (mm_le_n (mm_le_n (mm_le_n (mm_le_n (mm_le_n mm_le_0))))))))))) (X12_evenings_b58_ok hz hd h0 hr)
      · refine mg_iconst (pc := 54) dX12_evenings_54 kc_1 ?_
        refine mg_goto (pc := 55) 59 dX12_evenings_55 rfl ?_
        exact mg_weak (mm_le_s (mm_le_s (mm_le_s (mm_le_s (mm_le_s (mm_le_s (mm_le_n (mm_le_n (mm_le_n (mm_le_n (mm_le_n mm_le_0))))))))))) (X12_evenings_b59_ok hz hd h0 hr)
def X12_evenings_b26 (e : mm_E) (a0 : Nat) (i1 : Int32) (i2 : Int32) (i3 : Int32) (i4 : Int32) (i5 : Int32) (t0 : Nat) (m : mm_V) : Option (Int32 × mm_V) := X12_evenings_b27 e a0 i1 i2 i3 i4 i5 t0 (0 : Int32) m
theorem X12_evenings_b26_ok {K : mm_K} {nx : Option Nat} {e : mm_E} (hz : e.2.1 = K.2.2.2.2) {d : Nat} (hd : 6 ≤ d) {a0 : Nat} {i1 : Int32} {i2 : Int32} {i3 : Int32} {i4 : Int32} {i5 : Int32} {t0 : Nat} (h0 : e.1 a0 = some (12, 75)) {m : mm_V} {r : (Int32 × mm_V)} (hr : X12_evenings_b26 e a0 i1 i2 i3 i4 i5 t0 m = some r) : mm_G K MX12_evenings d (mm_Fi e.1 nx r) 26 [some (.ref a0), some (.int i1), some (.int i2), some (.int i3), some (.int i4), some (.int i5), none, none, none, none, none] [.ref t0] (e.1, m) nx 0 0 := by
  obtain ⟨d, rfl⟩ : ∃ d', d = d' + 1 := ⟨d - 1, by omega⟩
  unfold X12_evenings_b26 at hr
  refine mg_iconst (pc := 26) dX12_evenings_26 kc_0 ?_
  exact mg_weak (mm_le_s (mm_le_s (mm_le_s (mm_le_s (mm_le_s (mm_le_s (mm_le_n (mm_le_n (mm_le_n (mm_le_n (mm_le_n mm_le_0))))))))))) (X12_evenings_b27_ok hz hd h0 hr)
def X12_evenings (e : mm_E) (a0 : Nat) (i1 : Int32) (i2 : Int32) (i3 : Int32) (i4 : Int32) (i5 : Int32) (m : mm_V) : Option (Int32 × mm_V) := (mm_pf e.1 m 12 75 a0 0 (.int (0 : Int32))).bind fun m1 => if i5 < (-3 : Int32) then (X12_evenings_b26 e a0 i1 i2 i3 i4 i5 a0 m1) else ((mm_gi e.1 m1 12 75 a0 1).bind fun x2 => if x2 ≤ i5 then (X12_evenings_b26 e a0 i1 i2 i3 i4 i5 a0 m1) else (X12_evenings_b27 e a0 i1 i2 i3 i4 i5 a0 (1 : Int32) m1))
theorem X12_evenings_ok {K : mm_K} {nx : Option Nat} {e : mm_E} (hz : e.2.1 = K.2.2.2.2) {d : Nat} (hd : 6 ≤ d) {a0 : Nat} {i1 : Int32} {i2 : Int32} {i3 : Int32} {i4 : Int32} {i5 : Int32} (h0 : e.1 a0 = some (12, 75)) {m : mm_V} {r : (Int32 × mm_V)} (hr : X12_evenings e a0 i1 i2 i3 i4 i5 m = some r) : mm_Cn K MX12_evenings d (mm_Fi e.1 nx r) [.ref a0, .int i1, .int i2, .int i3, .int i4, .int i5] (e.1, m) nx := by
  obtain ⟨d, rfl⟩ : ∃ d', d = d' + 1 := ⟨d - 1, by omega⟩
  refine mm_entry (by decide) (Nat.le_of_ble_eq_true rfl) rfl (fun hok => ?_)
  unfold X12_evenings at hr
  refine mg_weak (L' := [some (.ref a0), some (.int i1), some (.int i2), some (.int i3), some (.int i4), some (.int i5), none, none, none, none, none]) (mm_le_s (mm_le_s (mm_le_s (mm_le_s (mm_le_s (mm_le_s (mm_le_e (mm_le_e (mm_le_e (mm_le_e (mm_le_e mm_le_0))))))))))) ?_
  refine ml_aload_n (pc := 0) dX12_evenings_0 rfl mm_get_0 ?_
  refine mg_iconst (pc := 1) dX12_evenings_1 kc_0 ?_
  refine mb_pi (pc := 2) dX12_evenings_2 fp_X12_152 hr (fun m1 hr => ?_)
  refine ml_aload_n (pc := 5) dX12_evenings_5 rfl mm_get_0 ?_
  refine ml_iload (pc := 6) dX12_evenings_6 (mm_get_s (mm_get_s (mm_get_s (mm_get_s (mm_get_s mm_get_0))))) ?_
  refine mg_bipush (pc := 8) dX12_evenings_8 kb_m3 ?_
  refine mb_icmp_lt (pc := 10) 26 dX12_evenings_10 rfl hr (fun hr => ?_) (fun hr => ?_)
  · exact mg_weak (mm_le_s (mm_le_s (mm_le_s (mm_le_s (mm_le_s (mm_le_s (mm_le_n (mm_le_n (mm_le_n (mm_le_n (mm_le_n mm_le_0))))))))))) (X12_evenings_b26_ok hz hd h0 hr)
  · refine ml_iload (pc := 13) dX12_evenings_13 (mm_get_s (mm_get_s (mm_get_s (mm_get_s (mm_get_s mm_get_0))))) ?_
    refine ml_aload_n (pc := 15) dX12_evenings_15 rfl mm_get_0 ?_
    refine mb_gi (pc := 16) dX12_evenings_16 fl_X12_7 hr (fun x2 hr => ?_)
    refine mb_icmp_ge (pc := 19) 26 dX12_evenings_19 rfl hr (fun hr => ?_) (fun hr => ?_)
    · exact mg_weak (mm_le_s (mm_le_s (mm_le_s (mm_le_s (mm_le_s (mm_le_s (mm_le_n (mm_le_n (mm_le_n (mm_le_n (mm_le_n mm_le_0))))))))))) (X12_evenings_b26_ok hz hd h0 hr)
    · refine mg_iconst (pc := 22) dX12_evenings_22 kc_1 ?_
      refine mg_goto (pc := 23) 27 dX12_evenings_23 rfl ?_
      exact mg_weak (mm_le_s (mm_le_s (mm_le_s (mm_le_s (mm_le_s (mm_le_s (mm_le_n (mm_le_n (mm_le_n (mm_le_n (mm_le_n mm_le_0))))))))))) (X12_evenings_b27_ok hz hd h0 hr)
theorem dX12_image_0 : decode cX12_image 0 = .ok (.aload_n 0, 1) := by decide +kernel
theorem dX12_image_1 : decode cX12_image 1 = .ok (.iconst 0, 1) := by decide +kernel
theorem dX12_image_2 : decode cX12_image 2 = .ok (.putfield 152, 3) := by decide +kernel
theorem dX12_image_5 : decode cX12_image 5 = .ok (.aload_n 0, 1) := by decide +kernel
theorem dX12_image_6 : decode cX12_image 6 = .ok (.iconst 1, 1) := by decide +kernel
theorem dX12_image_7 : decode cX12_image 7 = .ok (.putfield 324, 3) := by decide +kernel
theorem dX12_image_10 : decode cX12_image 10 = .ok (.aload_n 0, 1) := by decide +kernel
theorem dX12_image_11 : decode cX12_image 11 = .ok (.aload_n 0, 1) := by decide +kernel
theorem dX12_image_12 : decode cX12_image 12 = .ok (.getfield 365, 3) := by decide +kernel
theorem dX12_image_15 : decode cX12_image 15 = .ok (.putfield 494, 3) := by decide +kernel
theorem dX12_image_18 : decode cX12_image 18 = .ok (.aload_n 0, 1) := by decide +kernel
theorem dX12_image_19 : decode cX12_image 19 = .ok (.aload_n 0, 1) := by decide +kernel
theorem dX12_image_20 : decode cX12_image 20 = .ok (.getfield 60, 3) := by decide +kernel
theorem dX12_image_23 : decode cX12_image 23 = .ok (.aload_n 0, 1) := by decide +kernel
theorem dX12_image_24 : decode cX12_image 24 = .ok (.getfield 133, 3) := by decide +kernel
theorem dX12_image_27 : decode cX12_image 27 = .ok (.invokevirtual 316, 3) := by decide +kernel
theorem dX12_image_30 : decode cX12_image 30 = .ok (.aload_n 0, 1) := by decide +kernel
theorem dX12_image_31 : decode cX12_image 31 = .ok (.aload_n 0, 1) := by decide +kernel
theorem dX12_image_32 : decode cX12_image 32 = .ok (.getfield 75, 3) := by decide +kernel
theorem dX12_image_35 : decode cX12_image 35 = .ok (.aload_n 0, 1) := by decide +kernel
theorem dX12_image_36 : decode cX12_image 36 = .ok (.getfield 136, 3) := by decide +kernel
theorem dX12_image_39 : decode cX12_image 39 = .ok (.invokevirtual 316, 3) := by decide +kernel
theorem dX12_image_42 : decode cX12_image 42 = .ok (.return_, 1) := by decide +kernel
def X12_image (e : mm_E) (a0 : Nat) (m : mm_V) : Option mm_V := (mm_pf e.1 m 12 75 a0 0 (.int (0 : Int32))).bind fun m1 => (mm_pz e.1 m1 12 75 a0 71 (1 : Int32)).bind fun m2 => (mm_gi e.1 m2 12 75 a0 48).bind fun x3 => (mm_pf e.1 m2 12 75 a0 72 (.int x3)).bind fun m4 => (mm_gr e.1 m4 12 75 a0 39).bind fun c5 => (mm_gr e.1 m4 12 75 a0 73).bind fun c6 => (X12_copies e a0 c5 c6 m4).bind fun r7 => (mm_gr e.1 r7 12 75 a0 49).bind fun c8 => (mm_gr e.1 r7 12 75 a0 74).bind fun c9 => (X12_copies e a0 c8 c9 r7).bind fun r10 => some r10
theorem X12_image_ok {K : mm_K} {nx : Option Nat} {e : mm_E} (hz : e.2.1 = K.2.2.2.2) {d : Nat} (hd : 1 ≤ d) {a0 : Nat} (h0 : e.1 a0 = some (12, 75)) {m : mm_V} {r : mm_V} (hr : X12_image e a0 m = some r) : mm_Cn K MX12_image d (mm_Fv e.1 nx r) [.ref a0] (e.1, m) nx := by
  obtain ⟨d, rfl⟩ : ∃ d', d = d' + 1 := ⟨d - 1, by omega⟩
  refine mm_entry (by decide) (Nat.le_of_ble_eq_true rfl) rfl (fun hok => ?_)
  unfold X12_image at hr
  refine mg_weak (L' := [some (.ref a0)]) (mm_le_s mm_le_0) ?_
  refine ml_aload_n (pc := 0) dX12_image_0 rfl mm_get_0 ?_
  refine mg_iconst (pc := 1) dX12_image_1 kc_0 ?_
  refine mb_pi (pc := 2) dX12_image_2 fp_X12_152 hr (fun m1 hr => ?_)
  refine ml_aload_n (pc := 5) dX12_image_5 rfl mm_get_0 ?_
  refine mg_iconst (pc := 6) dX12_image_6 kc_1 ?_
  refine mb_pz (pc := 7) dX12_image_7 fp_X12_324 hr (fun m2 hr => ?_)
  refine ml_aload_n (pc := 10) dX12_image_10 rfl mm_get_0 ?_
  refine ml_aload_n (pc := 11) dX12_image_11 rfl mm_get_0 ?_
  refine mb_gi (pc := 12) dX12_image_12 fl_X12_365 hr (fun x3 hr => ?_)
  refine mb_pi (pc := 15) dX12_image_15 fp_X12_494 hr (fun m4 hr => ?_)
  refine ml_aload_n (pc := 18) dX12_image_18 rfl mm_get_0 ?_
  refine ml_aload_n (pc := 19) dX12_image_19 rfl mm_get_0 ?_
  refine mb_gr (pc := 20) dX12_image_20 fl_X12_60 hr (fun c5 hr => ?_)
  refine ml_aload_n (pc := 23) dX12_image_23 rfl mm_get_0 ?_
  refine mb_gr (pc := 24) dX12_image_24 fl_X12_133 hr (fun c6 hr => ?_)
  refine mb_cVv (pc := 27) (As := [.ref c5, .ref c6]) (rest := []) dX12_image_27 cw_X12_316 h0 hr (fun v hv => X12_copies_ok hz (by omega) h0 hv) rfl (Nat.le_of_ble_eq_true rfl) (Nat.zero_le _) (Nat.zero_le _) (fun r7 hr => ?_)
  refine ml_aload_n (pc := 30) dX12_image_30 rfl mm_get_0 ?_
  refine ml_aload_n (pc := 31) dX12_image_31 rfl mm_get_0 ?_
  refine mb_gr (pc := 32) dX12_image_32 fl_X12_75 hr (fun c8 hr => ?_)
  refine ml_aload_n (pc := 35) dX12_image_35 rfl mm_get_0 ?_
  refine mb_gr (pc := 36) dX12_image_36 fl_X12_136 hr (fun c9 hr => ?_)
  refine mb_cVv (pc := 39) (As := [.ref c8, .ref c9]) (rest := []) dX12_image_39 cw_X12_316 h0 hr (fun v hv => X12_copies_ok hz (by omega) h0 hv) rfl (Nat.le_of_ble_eq_true rfl) (Nat.zero_le _) (Nat.zero_le _) (fun r10 hr => ?_)
  exact mb_vret dX12_image_42 rfl hr
theorem dX12_restore_0 : decode cX12_restore 0 = .ok (.aload_n 0, 1) := by decide +kernel
theorem dX12_restore_1 : decode cX12_restore 1 = .ok (.iconst 0, 1) := by decide +kernel
theorem dX12_restore_2 : decode cX12_restore 2 = .ok (.putfield 152, 3) := by decide +kernel
theorem dX12_restore_5 : decode cX12_restore 5 = .ok (.aload_n 0, 1) := by decide +kernel
theorem dX12_restore_6 : decode cX12_restore 6 = .ok (.getfield 324, 3) := by decide +kernel
theorem dX12_restore_9 : decode cX12_restore 9 = .ok (.ifCond .ne 5, 3) := by decide +kernel
theorem dX12_restore_12 : decode cX12_restore 12 = .ok (.iconst 0, 1) := by decide +kernel
theorem dX12_restore_13 : decode cX12_restore 13 = .ok (.ireturn, 1) := by decide +kernel
theorem dX12_restore_14 : decode cX12_restore 14 = .ok (.aload_n 0, 1) := by decide +kernel
theorem dX12_restore_15 : decode cX12_restore 15 = .ok (.aload_n 0, 1) := by decide +kernel
theorem dX12_restore_16 : decode cX12_restore 16 = .ok (.getfield 494, 3) := by decide +kernel
theorem dX12_restore_19 : decode cX12_restore 19 = .ok (.putfield 365, 3) := by decide +kernel
theorem dX12_restore_22 : decode cX12_restore 22 = .ok (.aload_n 0, 1) := by decide +kernel
theorem dX12_restore_23 : decode cX12_restore 23 = .ok (.aload_n 0, 1) := by decide +kernel
theorem dX12_restore_24 : decode cX12_restore 24 = .ok (.getfield 133, 3) := by decide +kernel
theorem dX12_restore_27 : decode cX12_restore 27 = .ok (.aload_n 0, 1) := by decide +kernel
theorem dX12_restore_28 : decode cX12_restore 28 = .ok (.getfield 60, 3) := by decide +kernel
theorem dX12_restore_31 : decode cX12_restore 31 = .ok (.invokevirtual 316, 3) := by decide +kernel
theorem dX12_restore_34 : decode cX12_restore 34 = .ok (.aload_n 0, 1) := by decide +kernel
theorem dX12_restore_35 : decode cX12_restore 35 = .ok (.aload_n 0, 1) := by decide +kernel
theorem dX12_restore_36 : decode cX12_restore 36 = .ok (.getfield 136, 3) := by decide +kernel
theorem dX12_restore_39 : decode cX12_restore 39 = .ok (.aload_n 0, 1) := by decide +kernel
theorem dX12_restore_40 : decode cX12_restore 40 = .ok (.getfield 75, 3) := by decide +kernel
theorem dX12_restore_43 : decode cX12_restore 43 = .ok (.invokevirtual 316, 3) := by decide +kernel
theorem dX12_restore_46 : decode cX12_restore 46 = .ok (.iconst 1, 1) := by decide +kernel
theorem dX12_restore_47 : decode cX12_restore 47 = .ok (.ireturn, 1) := by decide +kernel
def X12_restore (e : mm_E) (a0 : Nat) (m : mm_V) : Option (Int32 × mm_V) := (mm_pf e.1 m 12 75 a0 0 (.int (0 : Int32))).bind fun m1 => (mm_gi e.1 m1 12 75 a0 71).bind fun x2 => if ¬ x2 = 0 then ((mm_gi e.1 m1 12 75 a0 72).bind fun x3 => (mm_pf e.1 m1 12 75 a0 48 (.int x3)).bind fun m4 => (mm_gr e.1 m4 12 75 a0 73).bind fun c5 => (mm_gr e.1 m4 12 75 a0 39).bind fun c6 => (X12_copies e a0 c5 c6 m4).bind fun r7 => (mm_gr e.1 r7 12 75 a0 74).bind fun c8 => (mm_gr e.1 r7 12 75 a0 49).bind fun c9 => (X12_copies e a0 c8 c9 r7).bind fun r10 => mm_rz (1 : Int32) r10) else (mm_rz (0 : Int32) m1)
theorem X12_restore_ok {K : mm_K} {nx : Option Nat} {e : mm_E} (hz : e.2.1 = K.2.2.2.2) {d : Nat} (hd : 1 ≤ d) {a0 : Nat} (h0 : e.1 a0 = some (12, 75)) {m : mm_V} {r : (Int32 × mm_V)} (hr : X12_restore e a0 m = some r) : mm_Cn K MX12_restore d (mm_Fi e.1 nx r) [.ref a0] (e.1, m) nx := by
  obtain ⟨d, rfl⟩ : ∃ d', d = d' + 1 := ⟨d - 1, by omega⟩
  refine mm_entry (by decide) (Nat.le_of_ble_eq_true rfl) rfl (fun hok => ?_)
  unfold X12_restore at hr
  refine mg_weak (L' := [some (.ref a0)]) (mm_le_s mm_le_0) ?_
  refine ml_aload_n (pc := 0) dX12_restore_0 rfl mm_get_0 ?_
  refine mg_iconst (pc := 1) dX12_restore_1 kc_0 ?_
  refine mb_pi (pc := 2) dX12_restore_2 fp_X12_152 hr (fun m1 hr => ?_)
  refine ml_aload_n (pc := 5) dX12_restore_5 rfl mm_get_0 ?_
  refine mb_gi (pc := 6) dX12_restore_6 fl_X12_324 hr (fun x2 hr => ?_)
  refine mb_if_ne (pc := 9) 14 dX12_restore_9 rfl hr (fun hr => ?_) (fun hr => ?_)
  · refine ml_aload_n (pc := 14) dX12_restore_14 rfl mm_get_0 ?_
    refine ml_aload_n (pc := 15) dX12_restore_15 rfl mm_get_0 ?_
    refine mb_gi (pc := 16) dX12_restore_16 fl_X12_494 hr (fun x3 hr => ?_)
    refine mb_pi (pc := 19) dX12_restore_19 fp_X12_365 hr (fun m4 hr => ?_)
    refine ml_aload_n (pc := 22) dX12_restore_22 rfl mm_get_0 ?_
    refine ml_aload_n (pc := 23) dX12_restore_23 rfl mm_get_0 ?_
    refine mb_gr (pc := 24) dX12_restore_24 fl_X12_133 hr (fun c5 hr => ?_)
    refine ml_aload_n (pc := 27) dX12_restore_27 rfl mm_get_0 ?_
    refine mb_gr (pc := 28) dX12_restore_28 fl_X12_60 hr (fun c6 hr => ?_)
    refine mb_cVv (pc := 31) (As := [.ref c5, .ref c6]) (rest := []) dX12_restore_31 cw_X12_316 h0 hr (fun v hv => X12_copies_ok hz (by omega) h0 hv) rfl (Nat.le_of_ble_eq_true rfl) (Nat.zero_le _) (Nat.zero_le _) (fun r7 hr => ?_)
    refine ml_aload_n (pc := 34) dX12_restore_34 rfl mm_get_0 ?_
    refine ml_aload_n (pc := 35) dX12_restore_35 rfl mm_get_0 ?_
    refine mb_gr (pc := 36) dX12_restore_36 fl_X12_136 hr (fun c8 hr => ?_)
    refine ml_aload_n (pc := 39) dX12_restore_39 rfl mm_get_0 ?_
    refine mb_gr (pc := 40) dX12_restore_40 fl_X12_75 hr (fun c9 hr => ?_)
    refine mb_cVv (pc := 43) (As := [.ref c8, .ref c9]) (rest := []) dX12_restore_43 cw_X12_316 h0 hr (fun v hv => X12_copies_ok hz (by omega) h0 hv) rfl (Nat.le_of_ble_eq_true rfl) (Nat.zero_le _) (Nat.zero_le _) (fun r10 hr => ?_)
    refine mg_iconst (pc := 46) dX12_restore_46 kc_1 ?_
    exact mb_zret dX12_restore_47 rfl hr
  · refine mg_iconst (pc := 12) dX12_restore_12 kc_0 ?_
    exact mb_zret dX12_restore_13 rfl hr
