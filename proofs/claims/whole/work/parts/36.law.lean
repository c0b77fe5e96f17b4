abbrev ML_law : mm_M := (yL_law, cL_law, 8, some .boolean, [])
theorem kc_6 : Int32.ofInt (6) = (6 : Int32) := by decide
theorem tw_706 : Cond.methodLink "SootQueenLaw" 178 ⟨"SootQueen", "restore", "()Z"⟩ ∈ lw_tbl := List.mem_append_right _ (List.mem_of_getElem? (i := 706) (by decide +kernel))
theorem tw_709 : Cond.code ⟨"SootQueen", "restore", "()Z"⟩ prog_1_method_27_code 1 (some .boolean) ∈ lw_tbl := List.mem_append_right _ (List.mem_of_getElem? (i := 709) (by decide +kernel))
theorem tw_707 : Cond.instanceMethod ⟨"SootQueen", "restore", "()Z"⟩ ∈ lw_tbl := List.mem_append_right _ (List.mem_of_getElem? (i := 707) (by decide +kernel))
theorem tw_708 : Cond.selects "SootQueen" ⟨"SootQueen", "restore", "()Z"⟩ ⟨"SootQueen", "restore", "()Z"⟩ ∈ lw_tbl := List.mem_append_right _ (List.mem_of_getElem? (i := 708) (by decide +kernel))
theorem cw_L_178 : mm_CV RL 178 MX11_restore 11 0 := ⟨⟨Or.inl tw_706, tw_709, tw_1, ⟨by decide, by decide⟩, by decide +kernel, by decide⟩, tw_707, by decide, (RX11, TX11, 19), rfl, tw_708⟩
theorem tw_1967 : Cond.methodLink "SootQueenLaw" 182 ⟨"SootQueenModel", "restore", "()Z"⟩ ∈ lw_tbl := List.mem_append_right _ (List.mem_of_getElem? (i := 1967) (by decide +kernel))
theorem tw_1970 : Cond.code ⟨"SootQueenModel", "restore", "()Z"⟩ prog_14_method_101_code 1 (some .boolean) ∈ lw_tbl := List.mem_append_right _ (List.mem_of_getElem? (i := 1970) (by decide +kernel))
theorem tw_1968 : Cond.instanceMethod ⟨"SootQueenModel", "restore", "()Z"⟩ ∈ lw_tbl := List.mem_append_right _ (List.mem_of_getElem? (i := 1968) (by decide +kernel))
theorem tw_1969 : Cond.selects "SootQueenModel" ⟨"SootQueenModel", "restore", "()Z"⟩ ⟨"SootQueenModel", "restore", "()Z"⟩ ∈ lw_tbl := List.mem_append_right _ (List.mem_of_getElem? (i := 1969) (by decide +kernel))
theorem cw_L_182 : mm_CV RL 182 MX12_restore 12 0 := ⟨⟨Or.inl tw_1967, tw_1970, tw_14, ⟨by decide, by decide⟩, by decide +kernel, by decide⟩, tw_1968, by decide, (RX12, TX12, 75), rfl, tw_1969⟩
theorem tw_694 : Cond.methodLink "SootQueenLaw" 174 ⟨"SootQueen", "image", "()V"⟩ ∈ lw_tbl := List.mem_append_right _ (List.mem_of_getElem? (i := 694) (by decide +kernel))
theorem tw_697 : Cond.code ⟨"SootQueen", "image", "()V"⟩ prog_1_method_26_code 1 none ∈ lw_tbl := List.mem_append_right _ (List.mem_of_getElem? (i := 697) (by decide +kernel))
theorem tw_695 : Cond.instanceMethod ⟨"SootQueen", "image", "()V"⟩ ∈ lw_tbl := List.mem_append_right _ (List.mem_of_getElem? (i := 695) (by decide +kernel))
theorem tw_696 : Cond.selects "SootQueen" ⟨"SootQueen", "image", "()V"⟩ ⟨"SootQueen", "image", "()V"⟩ ∈ lw_tbl := List.mem_append_right _ (List.mem_of_getElem? (i := 696) (by decide +kernel))
theorem cw_L_174 : mm_CV RL 174 MX11_image 11 0 := ⟨⟨Or.inl tw_694, tw_697, tw_1, ⟨by decide, by decide⟩, by decide +kernel, by decide⟩, tw_695, by decide, (RX11, TX11, 19), rfl, tw_696⟩
theorem tw_1963 : Cond.methodLink "SootQueenLaw" 177 ⟨"SootQueenModel", "image", "()V"⟩ ∈ lw_tbl := List.mem_append_right _ (List.mem_of_getElem? (i := 1963) (by decide +kernel))
theorem tw_1966 : Cond.code ⟨"SootQueenModel", "image", "()V"⟩ prog_14_method_100_code 1 none ∈ lw_tbl := List.mem_append_right _ (List.mem_of_getElem? (i := 1966) (by decide +kernel))
theorem tw_1964 : Cond.instanceMethod ⟨"SootQueenModel", "image", "()V"⟩ ∈ lw_tbl := List.mem_append_right _ (List.mem_of_getElem? (i := 1964) (by decide +kernel))
theorem tw_1965 : Cond.selects "SootQueenModel" ⟨"SootQueenModel", "image", "()V"⟩ ⟨"SootQueenModel", "image", "()V"⟩ ∈ lw_tbl := List.mem_append_right _ (List.mem_of_getElem? (i := 1965) (by decide +kernel))
theorem cw_L_177 : mm_CV RL 177 MX12_image 12 0 := ⟨⟨Or.inl tw_1963, tw_1966, tw_14, ⟨by decide, by decide⟩, by decide +kernel, by decide⟩, tw_1964, by decide, (RX12, TX12, 75), rfl, tw_1965⟩
theorem tw_1340 : Cond.methodLink "SootQueenLaw" 171 ⟨"SootQueenLaw", "face", "(LSootQueen;III[J)I"⟩ ∈ lw_tbl := List.mem_append_right _ (List.mem_of_getElem? (i := 1340) (by decide +kernel))
theorem tw_1342 : Cond.codeWith ML_face.1 ML_face.2.1 ML_face.2.2.1 ML_face.2.2.2.1 ML_face.2.2.2.2 ∈ lw_tbl := List.mem_append_right _ (List.mem_of_getElem? (i := 1342) (by decide +kernel))
theorem tw_0 : Cond.initialized "SootQueenLaw" ∈ lw_tbl := List.mem_append_right _ (List.mem_of_getElem? (i := 0) (by decide +kernel))
theorem tw_1341 : Cond.static ⟨"SootQueenLaw", "face", "(LSootQueen;III[J)I"⟩ ∈ lw_tbl := List.mem_append_right _ (List.mem_of_getElem? (i := 1341) (by decide +kernel))
theorem cx_171 : mm_CSW RL 171 ML_face 5 := ⟨tw_1340, tw_1342, tw_0, ⟨by decide, by decide⟩, by decide +kernel, by decide, tw_1341⟩
theorem tw_1926 : Cond.methodLink "SootQueenLaw" 173 ⟨"SootQueenModel", "face", "(III)I"⟩ ∈ lw_tbl := List.mem_append_right _ (List.mem_of_getElem? (i := 1926) (by decide +kernel))
theorem tw_1929 : Cond.code ⟨"SootQueenModel", "face", "(III)I"⟩ prog_14_method_92_code 5 (some .int) ∈ lw_tbl := List.mem_append_right _ (List.mem_of_getElem? (i := 1929) (by decide +kernel))
theorem tw_1927 : Cond.instanceMethod ⟨"SootQueenModel", "face", "(III)I"⟩ ∈ lw_tbl := List.mem_append_right _ (List.mem_of_getElem? (i := 1927) (by decide +kernel))
theorem tw_1928 : Cond.selects "SootQueenModel" ⟨"SootQueenModel", "face", "(III)I"⟩ ⟨"SootQueenModel", "face", "(III)I"⟩ ∈ lw_tbl := List.mem_append_right _ (List.mem_of_getElem? (i := 1928) (by decide +kernel))
theorem cw_L_173 : mm_CV RL 173 MX12_face 12 3 := ⟨⟨Or.inl tw_1926, tw_1929, tw_14, ⟨by decide, by decide⟩, by decide +kernel, by decide⟩, tw_1927, by decide, (RX12, TX12, 75), rfl, tw_1928⟩
theorem tw_1629 : Cond.methodLink "SootQueenLaw" 96 ⟨"SootQueenModel", "thrown", "()I"⟩ ∈ lw_tbl := List.mem_append_right _ (List.mem_of_getElem? (i := 1629) (by decide +kernel))
theorem tw_1632 : Cond.code ⟨"SootQueenModel", "thrown", "()I"⟩ prog_14_method_2_code 1 (some .int) ∈ lw_tbl := List.mem_append_right _ (List.mem_of_getElem? (i := 1632) (by decide +kernel))
theorem tw_1630 : Cond.instanceMethod ⟨"SootQueenModel", "thrown", "()I"⟩ ∈ lw_tbl := List.mem_append_right _ (List.mem_of_getElem? (i := 1630) (by decide +kernel))
theorem tw_1631 : Cond.selects "SootQueenModel" ⟨"SootQueenModel", "thrown", "()I"⟩ ⟨"SootQueenModel", "thrown", "()I"⟩ ∈ lw_tbl := List.mem_append_right _ (List.mem_of_getElem? (i := 1631) (by decide +kernel))
theorem cw_L_96 : mm_CV RL 96 MX12_thrown 12 0 := ⟨⟨Or.inl tw_1629, tw_1632, tw_14, ⟨by decide, by decide⟩, by decide +kernel, by decide⟩, tw_1630, by decide, (RX12, TX12, 75), rfl, tw_1631⟩
theorem tw_1324 : Cond.methodLink "SootQueenLaw" 168 ⟨"SootQueenLaw", "habit", "(LSootQueen;II[J)I"⟩ ∈ lw_tbl := List.mem_append_right _ (List.mem_of_getElem? (i := 1324) (by decide +kernel))
theorem tw_1326 : Cond.codeWith ML_habit.1 ML_habit.2.1 ML_habit.2.2.1 ML_habit.2.2.2.1 ML_habit.2.2.2.2 ∈ lw_tbl := List.mem_append_right _ (List.mem_of_getElem? (i := 1326) (by decide +kernel))
theorem tw_1325 : Cond.static ⟨"SootQueenLaw", "habit", "(LSootQueen;II[J)I"⟩ ∈ lw_tbl := List.mem_append_right _ (List.mem_of_getElem? (i := 1325) (by decide +kernel))
theorem cx_168 : mm_CSW RL 168 ML_habit 4 := ⟨tw_1324, tw_1326, tw_0, ⟨by decide, by decide⟩, by decide +kernel, by decide, tw_1325⟩
theorem tw_1918 : Cond.methodLink "SootQueenLaw" 170 ⟨"SootQueenModel", "habit", "(II)I"⟩ ∈ lw_tbl := List.mem_append_right _ (List.mem_of_getElem? (i := 1918) (by decide +kernel))
theorem tw_1921 : Cond.code ⟨"SootQueenModel", "habit", "(II)I"⟩ prog_14_method_91_code 5 (some .int) ∈ lw_tbl := List.mem_append_right _ (List.mem_of_getElem? (i := 1921) (by decide +kernel))
theorem tw_1919 : Cond.instanceMethod ⟨"SootQueenModel", "habit", "(II)I"⟩ ∈ lw_tbl := List.mem_append_right _ (List.mem_of_getElem? (i := 1919) (by decide +kernel))
theorem tw_1920 : Cond.selects "SootQueenModel" ⟨"SootQueenModel", "habit", "(II)I"⟩ ⟨"SootQueenModel", "habit", "(II)I"⟩ ∈ lw_tbl := List.mem_append_right _ (List.mem_of_getElem? (i := 1920) (by decide +kernel))
theorem cw_L_170 : mm_CV RL 170 MX12_habit 12 2 := ⟨⟨Or.inl tw_1918, tw_1921, tw_14, ⟨by decide, by decide⟩, by decide +kernel, by decide⟩, tw_1919, by decide, (RX12, TX12, 75), rfl, tw_1920⟩
theorem tw_1317 : Cond.methodLink "SootQueenLaw" 165 ⟨"SootQueenLaw", "rank", "(LSootQueen;I[J)I"⟩ ∈ lw_tbl := List.mem_append_right _ (List.mem_of_getElem? (i := 1317) (by decide +kernel))
theorem tw_1319 : Cond.codeWith ML_rank.1 ML_rank.2.1 ML_rank.2.2.1 ML_rank.2.2.2.1 ML_rank.2.2.2.2 ∈ lw_tbl := List.mem_append_right _ (List.mem_of_getElem? (i := 1319) (by decide +kernel))
theorem tw_1318 : Cond.static ⟨"SootQueenLaw", "rank", "(LSootQueen;I[J)I"⟩ ∈ lw_tbl := List.mem_append_right _ (List.mem_of_getElem? (i := 1318) (by decide +kernel))
theorem cx_165 : mm_CSW RL 165 ML_rank 3 := ⟨tw_1317, tw_1319, tw_0, ⟨by decide, by decide⟩, by decide +kernel, by decide, tw_1318⟩
theorem tw_1865 : Cond.methodLink "SootQueenLaw" 167 ⟨"SootQueenModel", "rank", "(I)I"⟩ ∈ lw_tbl := List.mem_append_right _ (List.mem_of_getElem? (i := 1865) (by decide +kernel))
theorem tw_1868 : Cond.code ⟨"SootQueenModel", "rank", "(I)I"⟩ prog_14_method_77_code 4 (some .int) ∈ lw_tbl := List.mem_append_right _ (List.mem_of_getElem? (i := 1868) (by decide +kernel))
theorem tw_1866 : Cond.instanceMethod ⟨"SootQueenModel", "rank", "(I)I"⟩ ∈ lw_tbl := List.mem_append_right _ (List.mem_of_getElem? (i := 1866) (by decide +kernel))
theorem tw_1867 : Cond.selects "SootQueenModel" ⟨"SootQueenModel", "rank", "(I)I"⟩ ⟨"SootQueenModel", "rank", "(I)I"⟩ ∈ lw_tbl := List.mem_append_right _ (List.mem_of_getElem? (i := 1867) (by decide +kernel))
theorem cw_L_167 : mm_CV RL 167 MX12_rank 12 1 := ⟨⟨Or.inl tw_1865, tw_1868, tw_14, ⟨by decide, by decide⟩, by decide +kernel, by decide⟩, tw_1866, by decide, (RX12, TX12, 75), rfl, tw_1867⟩
theorem tw_1306 : Cond.methodLink "SootQueenLaw" 162 ⟨"SootQueenLaw", "isOut", "(LSootQueen;I[J)I"⟩ ∈ lw_tbl := List.mem_append_right _ (List.mem_of_getElem? (i := 1306) (by decide +kernel))
theorem tw_1308 : Cond.codeWith ML_isOut.1 ML_isOut.2.1 ML_isOut.2.2.1 ML_isOut.2.2.2.1 ML_isOut.2.2.2.2 ∈ lw_tbl := List.mem_append_right _ (List.mem_of_getElem? (i := 1308) (by decide +kernel))
theorem tw_1307 : Cond.static ⟨"SootQueenLaw", "isOut", "(LSootQueen;I[J)I"⟩ ∈ lw_tbl := List.mem_append_right _ (List.mem_of_getElem? (i := 1307) (by decide +kernel))
theorem cx_162 : mm_CSW RL 162 ML_isOut 3 := ⟨tw_1306, tw_1308, tw_0, ⟨by decide, by decide⟩, by decide +kernel, by decide, tw_1307⟩
theorem tw_1861 : Cond.methodLink "SootQueenLaw" 164 ⟨"SootQueenModel", "isOut", "(I)I"⟩ ∈ lw_tbl := List.mem_append_right _ (List.mem_of_getElem? (i := 1861) (by decide +kernel))
theorem tw_1864 : Cond.code ⟨"SootQueenModel", "isOut", "(I)I"⟩ prog_14_method_76_code 2 (some .int) ∈ lw_tbl := List.mem_append_right _ (List.mem_of_getElem? (i := 1864) (by decide +kernel))
theorem tw_1862 : Cond.instanceMethod ⟨"SootQueenModel", "isOut", "(I)I"⟩ ∈ lw_tbl := List.mem_append_right _ (List.mem_of_getElem? (i := 1862) (by decide +kernel))
theorem tw_1863 : Cond.selects "SootQueenModel" ⟨"SootQueenModel", "isOut", "(I)I"⟩ ⟨"SootQueenModel", "isOut", "(I)I"⟩ ∈ lw_tbl := List.mem_append_right _ (List.mem_of_getElem? (i := 1863) (by decide +kernel))
theorem cw_L_164 : mm_CV RL 164 MX12_isOut 12 1 := ⟨⟨Or.inl tw_1861, tw_1864, tw_14, ⟨by decide, by decide⟩, by decide +kernel, by decide⟩, tw_1862, by decide, (RX12, TX12, 75), rfl, tw_1863⟩
theorem tw_1295 : Cond.methodLink "SootQueenLaw" 159 ⟨"SootQueenLaw", "wouldLose", "(LSootQueen;I[J)I"⟩ ∈ lw_tbl := List.mem_append_right _ (List.mem_of_getElem? (i := 1295) (by decide +kernel))
theorem tw_1297 : Cond.codeWith ML_wouldLose.1 ML_wouldLose.2.1 ML_wouldLose.2.2.1 ML_wouldLose.2.2.2.1 ML_wouldLose.2.2.2.2 ∈ lw_tbl := List.mem_append_right _ (List.mem_of_getElem? (i := 1297) (by decide +kernel))
theorem tw_1296 : Cond.static ⟨"SootQueenLaw", "wouldLose", "(LSootQueen;I[J)I"⟩ ∈ lw_tbl := List.mem_append_right _ (List.mem_of_getElem? (i := 1296) (by decide +kernel))
theorem cx_159 : mm_CSW RL 159 ML_wouldLose 3 := ⟨tw_1295, tw_1297, tw_0, ⟨by decide, by decide⟩, by decide +kernel, by decide, tw_1296⟩
theorem tw_1857 : Cond.methodLink "SootQueenLaw" 161 ⟨"SootQueenModel", "wouldLose", "(I)I"⟩ ∈ lw_tbl := List.mem_append_right _ (List.mem_of_getElem? (i := 1857) (by decide +kernel))
theorem tw_1860 : Cond.code ⟨"SootQueenModel", "wouldLose", "(I)I"⟩ prog_14_method_75_code 8 (some .int) ∈ lw_tbl := List.mem_append_right _ (List.mem_of_getElem? (i := 1860) (by decide +kernel))
theorem tw_1858 : Cond.instanceMethod ⟨"SootQueenModel", "wouldLose", "(I)I"⟩ ∈ lw_tbl := List.mem_append_right _ (List.mem_of_getElem? (i := 1858) (by decide +kernel))
theorem tw_1859 : Cond.selects "SootQueenModel" ⟨"SootQueenModel", "wouldLose", "(I)I"⟩ ⟨"SootQueenModel", "wouldLose", "(I)I"⟩ ∈ lw_tbl := List.mem_append_right _ (List.mem_of_getElem? (i := 1859) (by decide +kernel))
theorem cw_L_161 : mm_CV RL 161 MX12_wouldLose 12 1 := ⟨⟨Or.inl tw_1857, tw_1860, tw_14, ⟨by decide, by decide⟩, by decide +kernel, by decide⟩, tw_1858, by decide, (RX12, TX12, 75), rfl, tw_1859⟩
theorem tw_1951 : Cond.methodLink "SootQueenLaw" 158 ⟨"SootQueenModel", "evenings", "(IIIZI)I"⟩ ∈ lw_tbl := List.mem_append_right _ (List.mem_of_getElem? (i := 1951) (by decide +kernel))
theorem tw_1954 : Cond.code ⟨"SootQueenModel", "evenings", "(IIIZI)I"⟩ prog_14_method_99_code 11 (some .int) ∈ lw_tbl := List.mem_append_right _ (List.mem_of_getElem? (i := 1954) (by decide +kernel))
theorem tw_1952 : Cond.instanceMethod ⟨"SootQueenModel", "evenings", "(IIIZI)I"⟩ ∈ lw_tbl := List.mem_append_right _ (List.mem_of_getElem? (i := 1952) (by decide +kernel))
theorem tw_1953 : Cond.selects "SootQueenModel" ⟨"SootQueenModel", "evenings", "(IIIZI)I"⟩ ⟨"SootQueenModel", "evenings", "(IIIZI)I"⟩ ∈ lw_tbl := List.mem_append_right _ (List.mem_of_getElem? (i := 1953) (by decide +kernel))
theorem cw_L_158 : mm_CV RL 158 MX12_evenings 12 5 := ⟨⟨Or.inl tw_1951, tw_1954, tw_14, ⟨by decide, by decide⟩, by decide +kernel, by decide⟩, tw_1952, by decide, (RX12, TX12, 75), rfl, tw_1953⟩
theorem tw_1281 : Cond.methodLink "SootQueenLaw" 155 ⟨"SootQueenLaw", "evenings", "(LSootQueen;IIIZI[J)I"⟩ ∈ lw_tbl := List.mem_append_right _ (List.mem_of_getElem? (i := 1281) (by decide +kernel))
theorem tw_1283 : Cond.codeWith ML_evenings.1 ML_evenings.2.1 ML_evenings.2.2.1 ML_evenings.2.2.2.1 ML_evenings.2.2.2.2 ∈ lw_tbl := List.mem_append_right _ (List.mem_of_getElem? (i := 1283) (by decide +kernel))
theorem tw_1282 : Cond.static ⟨"SootQueenLaw", "evenings", "(LSootQueen;IIIZI[J)I"⟩ ∈ lw_tbl := List.mem_append_right _ (List.mem_of_getElem? (i := 1282) (by decide +kernel))
theorem cx_155 : mm_CSW RL 155 ML_evenings 7 := ⟨tw_1281, tw_1283, tw_0, ⟨by decide, by decide⟩, by decide +kernel, by decide, tw_1282⟩
theorem tw_1237 : Cond.methodLink "SootQueenLaw" 152 ⟨"SootQueenLaw", "seats", "(LSootQueen;II[J)I"⟩ ∈ lw_tbl := List.mem_append_right _ (List.mem_of_getElem? (i := 1237) (by decide +kernel))
theorem tw_1239 : Cond.codeWith ML_seats.1 ML_seats.2.1 ML_seats.2.2.1 ML_seats.2.2.2.1 ML_seats.2.2.2.2 ∈ lw_tbl := List.mem_append_right _ (List.mem_of_getElem? (i := 1239) (by decide +kernel))
theorem tw_1238 : Cond.static ⟨"SootQueenLaw", "seats", "(LSootQueen;II[J)I"⟩ ∈ lw_tbl := List.mem_append_right _ (List.mem_of_getElem? (i := 1238) (by decide +kernel))
theorem cx_152 : mm_CSW RL 152 ML_seats 4 := ⟨tw_1237, tw_1239, tw_0, ⟨by decide, by decide⟩, by decide +kernel, by decide, tw_1238⟩
theorem tw_1931 : Cond.methodLink "SootQueenLaw" 154 ⟨"SootQueenModel", "seats", "(II)I"⟩ ∈ lw_tbl := List.mem_append_right _ (List.mem_of_getElem? (i := 1931) (by decide +kernel))
theorem tw_1934 : Cond.code ⟨"SootQueenModel", "seats", "(II)I"⟩ prog_14_method_97_code 9 (some .int) ∈ lw_tbl := List.mem_append_right _ (List.mem_of_getElem? (i := 1934) (by decide +kernel))
theorem tw_1932 : Cond.instanceMethod ⟨"SootQueenModel", "seats", "(II)I"⟩ ∈ lw_tbl := List.mem_append_right _ (List.mem_of_getElem? (i := 1932) (by decide +kernel))
theorem tw_1933 : Cond.selects "SootQueenModel" ⟨"SootQueenModel", "seats", "(II)I"⟩ ⟨"SootQueenModel", "seats", "(II)I"⟩ ∈ lw_tbl := List.mem_append_right _ (List.mem_of_getElem? (i := 1933) (by decide +kernel))
theorem cw_L_154 : mm_CV RL 154 MX12_seats 12 2 := ⟨⟨Or.inl tw_1931, tw_1934, tw_14, ⟨by decide, by decide⟩, by decide +kernel, by decide⟩, tw_1932, by decide, (RX12, TX12, 75), rfl, tw_1933⟩
theorem tw_1226 : Cond.methodLink "SootQueenLaw" 149 ⟨"SootQueenLaw", "choose", "(LSootQueen;II[J)I"⟩ ∈ lw_tbl := List.mem_append_right _ (List.mem_of_getElem? (i := 1226) (by decide +kernel))
theorem tw_1228 : Cond.codeWith ML_choose.1 ML_choose.2.1 ML_choose.2.2.1 ML_choose.2.2.2.1 ML_choose.2.2.2.2 ∈ lw_tbl := List.mem_append_right _ (List.mem_of_getElem? (i := 1228) (by decide +kernel))
theorem tw_1227 : Cond.static ⟨"SootQueenLaw", "choose", "(LSootQueen;II[J)I"⟩ ∈ lw_tbl := List.mem_append_right _ (List.mem_of_getElem? (i := 1227) (by decide +kernel))
theorem cx_149 : mm_CSW RL 149 ML_choose 4 := ⟨tw_1226, tw_1228, tw_0, ⟨by decide, by decide⟩, by decide +kernel, by decide, tw_1227⟩
theorem tw_1906 : Cond.methodLink "SootQueenLaw" 151 ⟨"SootQueenModel", "choose", "(II)I"⟩ ∈ lw_tbl := List.mem_append_right _ (List.mem_of_getElem? (i := 1906) (by decide +kernel))
theorem tw_1909 : Cond.code ⟨"SootQueenModel", "choose", "(II)I"⟩ prog_14_method_87_code 5 (some .int) ∈ lw_tbl := List.mem_append_right _ (List.mem_of_getElem? (i := 1909) (by decide +kernel))
theorem tw_1907 : Cond.instanceMethod ⟨"SootQueenModel", "choose", "(II)I"⟩ ∈ lw_tbl := List.mem_append_right _ (List.mem_of_getElem? (i := 1907) (by decide +kernel))
theorem tw_1908 : Cond.selects "SootQueenModel" ⟨"SootQueenModel", "choose", "(II)I"⟩ ⟨"SootQueenModel", "choose", "(II)I"⟩ ∈ lw_tbl := List.mem_append_right _ (List.mem_of_getElem? (i := 1908) (by decide +kernel))
theorem cw_L_151 : mm_CV RL 151 MX12_choose 12 2 := ⟨⟨Or.inl tw_1906, tw_1909, tw_14, ⟨by decide, by decide⟩, by decide +kernel, by decide⟩, tw_1907, by decide, (RX12, TX12, 75), rfl, tw_1908⟩
theorem tw_1219 : Cond.methodLink "SootQueenLaw" 146 ⟨"SootQueenLaw", "hold", "(LSootQueen;III[J)I"⟩ ∈ lw_tbl := List.mem_append_right _ (List.mem_of_getElem? (i := 1219) (by decide +kernel))
theorem tw_1221 : Cond.codeWith ML_hold.1 ML_hold.2.1 ML_hold.2.2.1 ML_hold.2.2.2.1 ML_hold.2.2.2.2 ∈ lw_tbl := List.mem_append_right _ (List.mem_of_getElem? (i := 1221) (by decide +kernel))
theorem tw_1220 : Cond.static ⟨"SootQueenLaw", "hold", "(LSootQueen;III[J)I"⟩ ∈ lw_tbl := List.mem_append_right _ (List.mem_of_getElem? (i := 1220) (by decide +kernel))
theorem cx_146 : mm_CSW RL 146 ML_hold 5 := ⟨tw_1219, tw_1221, tw_0, ⟨by decide, by decide⟩, by decide +kernel, by decide, tw_1220⟩
theorem tw_1914 : Cond.methodLink "SootQueenLaw" 148 ⟨"SootQueenModel", "hold", "(III)I"⟩ ∈ lw_tbl := List.mem_append_right _ (List.mem_of_getElem? (i := 1914) (by decide +kernel))
theorem tw_1917 : Cond.code ⟨"SootQueenModel", "hold", "(III)I"⟩ prog_14_method_89_code 7 (some .int) ∈ lw_tbl := List.mem_append_right _ (List.mem_of_getElem? (i := 1917) (by decide +kernel))
theorem tw_1915 : Cond.instanceMethod ⟨"SootQueenModel", "hold", "(III)I"⟩ ∈ lw_tbl := List.mem_append_right _ (List.mem_of_getElem? (i := 1915) (by decide +kernel))
theorem tw_1916 : Cond.selects "SootQueenModel" ⟨"SootQueenModel", "hold", "(III)I"⟩ ⟨"SootQueenModel", "hold", "(III)I"⟩ ∈ lw_tbl := List.mem_append_right _ (List.mem_of_getElem? (i := 1916) (by decide +kernel))
theorem cw_L_148 : mm_CV RL 148 MX12_hold 12 3 := ⟨⟨Or.inl tw_1914, tw_1917, tw_14, ⟨by decide, by decide⟩, by decide +kernel, by decide⟩, tw_1915, by decide, (RX12, TX12, 75), rfl, tw_1916⟩
theorem tw_1212 : Cond.methodLink "SootQueenLaw" 143 ⟨"SootQueenLaw", "peeped", "(LSootQueen;II[J)I"⟩ ∈ lw_tbl := List.mem_append_right _ (List.mem_of_getElem? (i := 1212) (by decide +kernel))
theorem tw_1214 : Cond.codeWith ML_peeped.1 ML_peeped.2.1 ML_peeped.2.2.1 ML_peeped.2.2.2.1 ML_peeped.2.2.2.2 ∈ lw_tbl := List.mem_append_right _ (List.mem_of_getElem? (i := 1214) (by decide +kernel))
theorem tw_1213 : Cond.static ⟨"SootQueenLaw", "peeped", "(LSootQueen;II[J)I"⟩ ∈ lw_tbl := List.mem_append_right _ (List.mem_of_getElem? (i := 1213) (by decide +kernel))
theorem cx_143 : mm_CSW RL 143 ML_peeped 4 := ⟨tw_1212, tw_1214, tw_0, ⟨by decide, by decide⟩, by decide +kernel, by decide, tw_1213⟩
theorem tw_1910 : Cond.methodLink "SootQueenLaw" 145 ⟨"SootQueenModel", "peeped", "(II)J"⟩ ∈ lw_tbl := List.mem_append_right _ (List.mem_of_getElem? (i := 1910) (by decide +kernel))
theorem tw_1913 : Cond.code ⟨"SootQueenModel", "peeped", "(II)J"⟩ prog_14_method_88_code 10 (some .long) ∈ lw_tbl := List.mem_append_right _ (List.mem_of_getElem? (i := 1913) (by decide +kernel))
theorem tw_1911 : Cond.instanceMethod ⟨"SootQueenModel", "peeped", "(II)J"⟩ ∈ lw_tbl := List.mem_append_right _ (List.mem_of_getElem? (i := 1911) (by decide +kernel))
theorem tw_1912 : Cond.selects "SootQueenModel" ⟨"SootQueenModel", "peeped", "(II)J"⟩ ⟨"SootQueenModel", "peeped", "(II)J"⟩ ∈ lw_tbl := List.mem_append_right _ (List.mem_of_getElem? (i := 1912) (by decide +kernel))
theorem cw_L_145 : mm_CV RL 145 MX12_peeped 12 2 := ⟨⟨Or.inl tw_1910, tw_1913, tw_14, ⟨by decide, by decide⟩, by decide +kernel, by decide⟩, tw_1911, by decide, (RX12, TX12, 75), rfl, tw_1912⟩
theorem tw_1157 : Cond.methodLink "SootQueenLaw" 140 ⟨"SootQueenLaw", "belief", "(LSootQueen;II[J)I"⟩ ∈ lw_tbl := List.mem_append_right _ (List.mem_of_getElem? (i := 1157) (by decide +kernel))
theorem tw_1159 : Cond.codeWith ML_belief.1 ML_belief.2.1 ML_belief.2.2.1 ML_belief.2.2.2.1 ML_belief.2.2.2.2 ∈ lw_tbl := List.mem_append_right _ (List.mem_of_getElem? (i := 1159) (by decide +kernel))
theorem tw_1158 : Cond.static ⟨"SootQueenLaw", "belief", "(LSootQueen;II[J)I"⟩ ∈ lw_tbl := List.mem_append_right _ (List.mem_of_getElem? (i := 1158) (by decide +kernel))
theorem cx_140 : mm_CSW RL 140 ML_belief 4 := ⟨tw_1157, tw_1159, tw_0, ⟨by decide, by decide⟩, by decide +kernel, by decide, tw_1158⟩
theorem tw_1886 : Cond.methodLink "SootQueenLaw" 142 ⟨"SootQueenModel", "belief", "(II)I"⟩ ∈ lw_tbl := List.mem_append_right _ (List.mem_of_getElem? (i := 1886) (by decide +kernel))
theorem tw_1889 : Cond.code ⟨"SootQueenModel", "belief", "(II)I"⟩ prog_14_method_86_code 3 (some .int) ∈ lw_tbl := List.mem_append_right _ (List.mem_of_getElem? (i := 1889) (by decide +kernel))
theorem tw_1887 : Cond.instanceMethod ⟨"SootQueenModel", "belief", "(II)I"⟩ ∈ lw_tbl := List.mem_append_right _ (List.mem_of_getElem? (i := 1887) (by decide +kernel))
theorem tw_1888 : Cond.selects "SootQueenModel" ⟨"SootQueenModel", "belief", "(II)I"⟩ ⟨"SootQueenModel", "belief", "(II)I"⟩ ∈ lw_tbl := List.mem_append_right _ (List.mem_of_getElem? (i := 1888) (by decide +kernel))
theorem cw_L_142 : mm_CV RL 142 MX12_belief 12 2 := ⟨⟨Or.inl tw_1886, tw_1889, tw_14, ⟨by decide, by decide⟩, by decide +kernel, by decide⟩, tw_1887, by decide, (RX12, TX12, 75), rfl, tw_1888⟩
theorem tw_1881 : Cond.methodLink "SootQueenLaw" 139 ⟨"SootQueenModel", "two", "(IZI)J"⟩ ∈ lw_tbl := List.mem_append_right _ (List.mem_of_getElem? (i := 1881) (by decide +kernel))
theorem tw_1884 : Cond.code ⟨"SootQueenModel", "two", "(IZI)J"⟩ prog_14_method_81_code 14 (some .long) ∈ lw_tbl := List.mem_append_right _ (List.mem_of_getElem? (i := 1884) (by decide +kernel))
theorem tw_1882 : Cond.instanceMethod ⟨"SootQueenModel", "two", "(IZI)J"⟩ ∈ lw_tbl := List.mem_append_right _ (List.mem_of_getElem? (i := 1882) (by decide +kernel))
theorem tw_1883 : Cond.selects "SootQueenModel" ⟨"SootQueenModel", "two", "(IZI)J"⟩ ⟨"SootQueenModel", "two", "(IZI)J"⟩ ∈ lw_tbl := List.mem_append_right _ (List.mem_of_getElem? (i := 1883) (by decide +kernel))
theorem cw_L_139 : mm_CV RL 139 MX12_two 12 3 := ⟨⟨Or.inl tw_1881, tw_1884, tw_14, ⟨by decide, by decide⟩, by decide +kernel, by decide⟩, tw_1882, by decide, (RX12, TX12, 75), rfl, tw_1883⟩
theorem tw_1143 : Cond.methodLink "SootQueenLaw" 136 ⟨"SootQueenLaw", "two", "(LSootQueen;IZI[J)I"⟩ ∈ lw_tbl := List.mem_append_right _ (List.mem_of_getElem? (i := 1143) (by decide +kernel))
theorem tw_1145 : Cond.codeWith ML_two.1 ML_two.2.1 ML_two.2.2.1 ML_two.2.2.2.1 ML_two.2.2.2.2 ∈ lw_tbl := List.mem_append_right _ (List.mem_of_getElem? (i := 1145) (by decide +kernel))
theorem tw_1144 : Cond.static ⟨"SootQueenLaw", "two", "(LSootQueen;IZI[J)I"⟩ ∈ lw_tbl := List.mem_append_right _ (List.mem_of_getElem? (i := 1144) (by decide +kernel))
theorem cx_136 : mm_CSW RL 136 ML_two 5 := ⟨tw_1143, tw_1145, tw_0, ⟨by decide, by decide⟩, by decide +kernel, by decide, tw_1144⟩
theorem tw_1115 : Cond.methodLink "SootQueenLaw" 132 ⟨"SootQueenLaw", "blind", "(LSootQueen;III[J)I"⟩ ∈ lw_tbl := List.mem_append_right _ (List.mem_of_getElem? (i := 1115) (by decide +kernel))
theorem tw_1117 : Cond.codeWith ML_blind.1 ML_blind.2.1 ML_blind.2.2.1 ML_blind.2.2.2.1 ML_blind.2.2.2.2 ∈ lw_tbl := List.mem_append_right _ (List.mem_of_getElem? (i := 1117) (by decide +kernel))
theorem tw_1116 : Cond.static ⟨"SootQueenLaw", "blind", "(LSootQueen;III[J)I"⟩ ∈ lw_tbl := List.mem_append_right _ (List.mem_of_getElem? (i := 1116) (by decide +kernel))
theorem cx_132 : mm_CSW RL 132 ML_blind 5 := ⟨tw_1115, tw_1117, tw_0, ⟨by decide, by decide⟩, by decide +kernel, by decide, tw_1116⟩
theorem tw_1869 : Cond.methodLink "SootQueenLaw" 135 ⟨"SootQueenModel", "blind", "(III)J"⟩ ∈ lw_tbl := List.mem_append_right _ (List.mem_of_getElem? (i := 1869) (by decide +kernel))
theorem tw_1872 : Cond.code ⟨"SootQueenModel", "blind", "(III)J"⟩ prog_14_method_80_code 12 (some .long) ∈ lw_tbl := List.mem_append_right _ (List.mem_of_getElem? (i := 1872) (by decide +kernel))
theorem tw_1870 : Cond.instanceMethod ⟨"SootQueenModel", "blind", "(III)J"⟩ ∈ lw_tbl := List.mem_append_right _ (List.mem_of_getElem? (i := 1870) (by decide +kernel))
theorem tw_1871 : Cond.selects "SootQueenModel" ⟨"SootQueenModel", "blind", "(III)J"⟩ ⟨"SootQueenModel", "blind", "(III)J"⟩ ∈ lw_tbl := List.mem_append_right _ (List.mem_of_getElem? (i := 1871) (by decide +kernel))
theorem cw_L_135 : mm_CV RL 135 MX12_blind 12 3 := ⟨⟨Or.inl tw_1869, tw_1872, tw_14, ⟨by decide, by decide⟩, by decide +kernel, by decide⟩, tw_1870, by decide, (RX12, TX12, 75), rfl, tw_1871⟩
theorem tw_1853 : Cond.methodLink "SootQueenLaw" 131 ⟨"SootQueenModel", "has", "(IZ)I"⟩ ∈ lw_tbl := List.mem_append_right _ (List.mem_of_getElem? (i := 1853) (by decide +kernel))
theorem tw_1856 : Cond.code ⟨"SootQueenModel", "has", "(IZ)I"⟩ prog_14_method_74_code 3 (some .int) ∈ lw_tbl := List.mem_append_right _ (List.mem_of_getElem? (i := 1856) (by decide +kernel))
theorem tw_1854 : Cond.instanceMethod ⟨"SootQueenModel", "has", "(IZ)I"⟩ ∈ lw_tbl := List.mem_append_right _ (List.mem_of_getElem? (i := 1854) (by decide +kernel))
theorem tw_1855 : Cond.selects "SootQueenModel" ⟨"SootQueenModel", "has", "(IZ)I"⟩ ⟨"SootQueenModel", "has", "(IZ)I"⟩ ∈ lw_tbl := List.mem_append_right _ (List.mem_of_getElem? (i := 1855) (by decide +kernel))
theorem cw_L_131 : mm_CV RL 131 MX12_has 12 2 := ⟨⟨Or.inl tw_1853, tw_1856, tw_14, ⟨by decide, by decide⟩, by decide +kernel, by decide⟩, tw_1854, by decide, (RX12, TX12, 75), rfl, tw_1855⟩
theorem tw_1104 : Cond.methodLink "SootQueenLaw" 128 ⟨"SootQueenLaw", "has", "(LSootQueen;IZ[J)I"⟩ ∈ lw_tbl := List.mem_append_right _ (List.mem_of_getElem? (i := 1104) (by decide +kernel))
theorem tw_1106 : Cond.codeWith ML_has.1 ML_has.2.1 ML_has.2.2.1 ML_has.2.2.2.1 ML_has.2.2.2.2 ∈ lw_tbl := List.mem_append_right _ (List.mem_of_getElem? (i := 1106) (by decide +kernel))
theorem tw_1105 : Cond.static ⟨"SootQueenLaw", "has", "(LSootQueen;IZ[J)I"⟩ ∈ lw_tbl := List.mem_append_right _ (List.mem_of_getElem? (i := 1105) (by decide +kernel))
theorem cx_128 : mm_CSW RL 128 ML_has 4 := ⟨tw_1104, tw_1106, tw_0, ⟨by decide, by decide⟩, by decide +kernel, by decide, tw_1105⟩
theorem tw_1072 : Cond.methodLink "SootQueenLaw" 125 ⟨"SootQueenLaw", "ends", "(LSootQueen;I[J)I"⟩ ∈ lw_tbl := List.mem_append_right _ (List.mem_of_getElem? (i := 1072) (by decide +kernel))
theorem tw_1074 : Cond.codeWith ML_ends.1 ML_ends.2.1 ML_ends.2.2.1 ML_ends.2.2.2.1 ML_ends.2.2.2.2 ∈ lw_tbl := List.mem_append_right _ (List.mem_of_getElem? (i := 1074) (by decide +kernel))
theorem tw_1073 : Cond.static ⟨"SootQueenLaw", "ends", "(LSootQueen;I[J)I"⟩ ∈ lw_tbl := List.mem_append_right _ (List.mem_of_getElem? (i := 1073) (by decide +kernel))
theorem cx_125 : mm_CSW RL 125 ML_ends 3 := ⟨tw_1072, tw_1074, tw_0, ⟨by decide, by decide⟩, by decide +kernel, by decide, tw_1073⟩
theorem tw_1833 : Cond.methodLink "SootQueenLaw" 127 ⟨"SootQueenModel", "ends", "(I)I"⟩ ∈ lw_tbl := List.mem_append_right _ (List.mem_of_getElem? (i := 1833) (by decide +kernel))
theorem tw_1836 : Cond.code ⟨"SootQueenModel", "ends", "(I)I"⟩ prog_14_method_73_code 2 (some .int) ∈ lw_tbl := List.mem_append_right _ (List.mem_of_getElem? (i := 1836) (by decide +kernel))
theorem tw_1834 : Cond.instanceMethod ⟨"SootQueenModel", "ends", "(I)I"⟩ ∈ lw_tbl := List.mem_append_right _ (List.mem_of_getElem? (i := 1834) (by decide +kernel))
theorem tw_1835 : Cond.selects "SootQueenModel" ⟨"SootQueenModel", "ends", "(I)I"⟩ ⟨"SootQueenModel", "ends", "(I)I"⟩ ∈ lw_tbl := List.mem_append_right _ (List.mem_of_getElem? (i := 1835) (by decide +kernel))
theorem cw_L_127 : mm_CV RL 127 MX12_ends 12 1 := ⟨⟨Or.inl tw_1833, tw_1836, tw_14, ⟨by decide, by decide⟩, by decide +kernel, by decide⟩, tw_1834, by decide, (RX12, TX12, 75), rfl, tw_1835⟩
theorem tw_681 : Cond.methodLink "SootQueenLaw" 121 ⟨"SootQueen", "undo", "()I"⟩ ∈ lw_tbl := List.mem_append_right _ (List.mem_of_getElem? (i := 681) (by decide +kernel))
theorem tw_684 : Cond.code ⟨"SootQueen", "undo", "()I"⟩ prog_1_method_10_code 1 (some .int) ∈ lw_tbl := List.mem_append_right _ (List.mem_of_getElem? (i := 684) (by decide +kernel))
theorem tw_682 : Cond.instanceMethod ⟨"SootQueen", "undo", "()I"⟩ ∈ lw_tbl := List.mem_append_right _ (List.mem_of_getElem? (i := 682) (by decide +kernel))
theorem tw_683 : Cond.selects "SootQueen" ⟨"SootQueen", "undo", "()I"⟩ ⟨"SootQueen", "undo", "()I"⟩ ∈ lw_tbl := List.mem_append_right _ (List.mem_of_getElem? (i := 683) (by decide +kernel))
theorem cw_L_121 : mm_CV RL 121 MX11_undo 11 0 := ⟨⟨Or.inl tw_681, tw_684, tw_1, ⟨by decide, by decide⟩, by decide +kernel, by decide⟩, tw_682, by decide, (RX11, TX11, 19), rfl, tw_683⟩
theorem tw_1825 : Cond.methodLink "SootQueenLaw" 124 ⟨"SootQueenModel", "undo", "()I"⟩ ∈ lw_tbl := List.mem_append_right _ (List.mem_of_getElem? (i := 1825) (by decide +kernel))
theorem tw_1828 : Cond.code ⟨"SootQueenModel", "undo", "()I"⟩ prog_14_method_69_code 2 (some .int) ∈ lw_tbl := List.mem_append_right _ (List.mem_of_getElem? (i := 1828) (by decide +kernel))
theorem tw_1826 : Cond.instanceMethod ⟨"SootQueenModel", "undo", "()I"⟩ ∈ lw_tbl := List.mem_append_right _ (List.mem_of_getElem? (i := 1826) (by decide +kernel))
theorem tw_1827 : Cond.selects "SootQueenModel" ⟨"SootQueenModel", "undo", "()I"⟩ ⟨"SootQueenModel", "undo", "()I"⟩ ∈ lw_tbl := List.mem_append_right _ (List.mem_of_getElem? (i := 1827) (by decide +kernel))
theorem cw_L_124 : mm_CV RL 124 MX12_undo 12 0 := ⟨⟨Or.inl tw_1825, tw_1828, tw_14, ⟨by decide, by decide⟩, by decide +kernel, by decide⟩, tw_1826, by decide, (RX12, TX12, 75), rfl, tw_1827⟩
theorem tw_1057 : Cond.methodLink "SootQueenLaw" 118 ⟨"SootQueenLaw", "play", "(LSootQueen;I[J)I"⟩ ∈ lw_tbl := List.mem_append_right _ (List.mem_of_getElem? (i := 1057) (by decide +kernel))
theorem tw_1059 : Cond.codeWith ML_play.1 ML_play.2.1 ML_play.2.2.1 ML_play.2.2.2.1 ML_play.2.2.2.2 ∈ lw_tbl := List.mem_append_right _ (List.mem_of_getElem? (i := 1059) (by decide +kernel))
theorem tw_1058 : Cond.static ⟨"SootQueenLaw", "play", "(LSootQueen;I[J)I"⟩ ∈ lw_tbl := List.mem_append_right _ (List.mem_of_getElem? (i := 1058) (by decide +kernel))
theorem cx_118 : mm_CSW RL 118 ML_play 3 := ⟨tw_1057, tw_1059, tw_0, ⟨by decide, by decide⟩, by decide +kernel, by decide, tw_1058⟩
theorem tw_1821 : Cond.methodLink "SootQueenLaw" 120 ⟨"SootQueenModel", "play", "(I)I"⟩ ∈ lw_tbl := List.mem_append_right _ (List.mem_of_getElem? (i := 1821) (by decide +kernel))
theorem tw_1824 : Cond.code ⟨"SootQueenModel", "play", "(I)I"⟩ prog_14_method_68_code 3 (some .int) ∈ lw_tbl := List.mem_append_right _ (List.mem_of_getElem? (i := 1824) (by decide +kernel))
theorem tw_1822 : Cond.instanceMethod ⟨"SootQueenModel", "play", "(I)I"⟩ ∈ lw_tbl := List.mem_append_right _ (List.mem_of_getElem? (i := 1822) (by decide +kernel))
theorem tw_1823 : Cond.selects "SootQueenModel" ⟨"SootQueenModel", "play", "(I)I"⟩ ⟨"SootQueenModel", "play", "(I)I"⟩ ∈ lw_tbl := List.mem_append_right _ (List.mem_of_getElem? (i := 1823) (by decide +kernel))
theorem cw_L_120 : mm_CV RL 120 MX12_play 12 1 := ⟨⟨Or.inl tw_1821, tw_1824, tw_14, ⟨by decide, by decide⟩, by decide +kernel, by decide⟩, tw_1822, by decide, (RX12, TX12, 75), rfl, tw_1823⟩
theorem tw_610 : Cond.methodLink "SootQueenLaw" 114 ⟨"SootQueen", "draw", "(I)I"⟩ ∈ lw_tbl := List.mem_append_right _ (List.mem_of_getElem? (i := 610) (by decide +kernel))
theorem tw_613 : Cond.code ⟨"SootQueen", "draw", "(I)I"⟩ prog_1_method_8_code 3 (some .int) ∈ lw_tbl := List.mem_append_right _ (List.mem_of_getElem? (i := 613) (by decide +kernel))
theorem tw_611 : Cond.instanceMethod ⟨"SootQueen", "draw", "(I)I"⟩ ∈ lw_tbl := List.mem_append_right _ (List.mem_of_getElem? (i := 611) (by decide +kernel))
theorem tw_612 : Cond.selects "SootQueen" ⟨"SootQueen", "draw", "(I)I"⟩ ⟨"SootQueen", "draw", "(I)I"⟩ ∈ lw_tbl := List.mem_append_right _ (List.mem_of_getElem? (i := 612) (by decide +kernel))
theorem cw_L_114 : mm_CV RL 114 MX11_draw 11 1 := ⟨⟨Or.inl tw_610, tw_613, tw_1, ⟨by decide, by decide⟩, by decide +kernel, by decide⟩, tw_611, by decide, (RX11, TX11, 19), rfl, tw_612⟩
theorem tw_1805 : Cond.methodLink "SootQueenLaw" 117 ⟨"SootQueenModel", "draw", "(I)I"⟩ ∈ lw_tbl := List.mem_append_right _ (List.mem_of_getElem? (i := 1805) (by decide +kernel))
theorem tw_1808 : Cond.code ⟨"SootQueenModel", "draw", "(I)I"⟩ prog_14_method_67_code 2 (some .int) ∈ lw_tbl := List.mem_append_right _ (List.mem_of_getElem? (i := 1808) (by decide +kernel))
theorem tw_1806 : Cond.instanceMethod ⟨"SootQueenModel", "draw", "(I)I"⟩ ∈ lw_tbl := List.mem_append_right _ (List.mem_of_getElem? (i := 1806) (by decide +kernel))
theorem tw_1807 : Cond.selects "SootQueenModel" ⟨"SootQueenModel", "draw", "(I)I"⟩ ⟨"SootQueenModel", "draw", "(I)I"⟩ ∈ lw_tbl := List.mem_append_right _ (List.mem_of_getElem? (i := 1807) (by decide +kernel))
theorem cw_L_117 : mm_CV RL 117 MX12_draw 12 1 := ⟨⟨Or.inl tw_1805, tw_1808, tw_14, ⟨by decide, by decide⟩, by decide +kernel, by decide⟩, tw_1806, by decide, (RX12, TX12, 75), rfl, tw_1807⟩
theorem tw_1041 : Cond.methodLink "SootQueenLaw" 111 ⟨"SootQueenLaw", "person", "(LSootQueen;II[J)I"⟩ ∈ lw_tbl := List.mem_append_right _ (List.mem_of_getElem? (i := 1041) (by decide +kernel))
theorem tw_1043 : Cond.codeWith ML_person.1 ML_person.2.1 ML_person.2.2.1 ML_person.2.2.2.1 ML_person.2.2.2.2 ∈ lw_tbl := List.mem_append_right _ (List.mem_of_getElem? (i := 1043) (by decide +kernel))
theorem tw_1042 : Cond.static ⟨"SootQueenLaw", "person", "(LSootQueen;II[J)I"⟩ ∈ lw_tbl := List.mem_append_right _ (List.mem_of_getElem? (i := 1042) (by decide +kernel))
theorem cx_111 : mm_CSW RL 111 ML_person 4 := ⟨tw_1041, tw_1043, tw_0, ⟨by decide, by decide⟩, by decide +kernel, by decide, tw_1042⟩
theorem tw_1779 : Cond.methodLink "SootQueenLaw" 113 ⟨"SootQueenModel", "person", "(II)I"⟩ ∈ lw_tbl := List.mem_append_right _ (List.mem_of_getElem? (i := 1779) (by decide +kernel))
theorem tw_1782 : Cond.code ⟨"SootQueenModel", "person", "(II)I"⟩ prog_14_method_62_code 4 (some .int) ∈ lw_tbl := List.mem_append_right _ (List.mem_of_getElem? (i := 1782) (by decide +kernel))
theorem tw_1780 : Cond.instanceMethod ⟨"SootQueenModel", "person", "(II)I"⟩ ∈ lw_tbl := List.mem_append_right _ (List.mem_of_getElem? (i := 1780) (by decide +kernel))
theorem tw_1781 : Cond.selects "SootQueenModel" ⟨"SootQueenModel", "person", "(II)I"⟩ ⟨"SootQueenModel", "person", "(II)I"⟩ ∈ lw_tbl := List.mem_append_right _ (List.mem_of_getElem? (i := 1781) (by decide +kernel))
theorem cw_L_113 : mm_CV RL 113 MX12_person 12 2 := ⟨⟨Or.inl tw_1779, tw_1782, tw_14, ⟨by decide, by decide⟩, by decide +kernel, by decide⟩, tw_1780, by decide, (RX12, TX12, 75), rfl, tw_1781⟩
theorem tw_1022 : Cond.methodLink "SootQueenLaw" 107 ⟨"SootQueenLaw", "fan", "(LSootQueen;II[J)I"⟩ ∈ lw_tbl := List.mem_append_right _ (List.mem_of_getElem? (i := 1022) (by decide +kernel))
theorem tw_1024 : Cond.codeWith ML_fan.1 ML_fan.2.1 ML_fan.2.2.1 ML_fan.2.2.2.1 ML_fan.2.2.2.2 ∈ lw_tbl := List.mem_append_right _ (List.mem_of_getElem? (i := 1024) (by decide +kernel))
theorem tw_1023 : Cond.static ⟨"SootQueenLaw", "fan", "(LSootQueen;II[J)I"⟩ ∈ lw_tbl := List.mem_append_right _ (List.mem_of_getElem? (i := 1023) (by decide +kernel))
theorem cx_107 : mm_CSW RL 107 ML_fan 4 := ⟨tw_1022, tw_1024, tw_0, ⟨by decide, by decide⟩, by decide +kernel, by decide, tw_1023⟩
theorem tw_1771 : Cond.methodLink "SootQueenLaw" 110 ⟨"SootQueenModel", "fan", "(II)I"⟩ ∈ lw_tbl := List.mem_append_right _ (List.mem_of_getElem? (i := 1771) (by decide +kernel))
theorem tw_1774 : Cond.code ⟨"SootQueenModel", "fan", "(II)I"⟩ prog_14_method_55_code 3 (some .int) ∈ lw_tbl := List.mem_append_right _ (List.mem_of_getElem? (i := 1774) (by decide +kernel))
theorem tw_1772 : Cond.instanceMethod ⟨"SootQueenModel", "fan", "(II)I"⟩ ∈ lw_tbl := List.mem_append_right _ (List.mem_of_getElem? (i := 1772) (by decide +kernel))
theorem tw_1773 : Cond.selects "SootQueenModel" ⟨"SootQueenModel", "fan", "(II)I"⟩ ⟨"SootQueenModel", "fan", "(II)I"⟩ ∈ lw_tbl := List.mem_append_right _ (List.mem_of_getElem? (i := 1773) (by decide +kernel))
theorem cw_L_110 : mm_CV RL 110 MX12_fan 12 2 := ⟨⟨Or.inl tw_1771, tw_1774, tw_14, ⟨by decide, by decide⟩, by decide +kernel, by decide⟩, tw_1772, by decide, (RX12, TX12, 75), rfl, tw_1773⟩
theorem tw_989 : Cond.methodLink "SootQueenLaw" 104 ⟨"SootQueenLaw", "count", "(LSootQueen;I[J)I"⟩ ∈ lw_tbl := List.mem_append_right _ (List.mem_of_getElem? (i := 989) (by decide +kernel))
theorem tw_991 : Cond.codeWith ML_count.1 ML_count.2.1 ML_count.2.2.1 ML_count.2.2.2.1 ML_count.2.2.2.2 ∈ lw_tbl := List.mem_append_right _ (List.mem_of_getElem? (i := 991) (by decide +kernel))
theorem tw_990 : Cond.static ⟨"SootQueenLaw", "count", "(LSootQueen;I[J)I"⟩ ∈ lw_tbl := List.mem_append_right _ (List.mem_of_getElem? (i := 990) (by decide +kernel))
theorem cx_104 : mm_CSW RL 104 ML_count 3 := ⟨tw_989, tw_991, tw_0, ⟨by decide, by decide⟩, by decide +kernel, by decide, tw_990⟩
theorem tw_1760 : Cond.methodLink "SootQueenLaw" 106 ⟨"SootQueenModel", "count", "(I)I"⟩ ∈ lw_tbl := List.mem_append_right _ (List.mem_of_getElem? (i := 1760) (by decide +kernel))
theorem tw_1763 : Cond.code ⟨"SootQueenModel", "count", "(I)I"⟩ prog_14_method_52_code 2 (some .int) ∈ lw_tbl := List.mem_append_right _ (List.mem_of_getElem? (i := 1763) (by decide +kernel))
theorem tw_1761 : Cond.instanceMethod ⟨"SootQueenModel", "count", "(I)I"⟩ ∈ lw_tbl := List.mem_append_right _ (List.mem_of_getElem? (i := 1761) (by decide +kernel))
theorem tw_1762 : Cond.selects "SootQueenModel" ⟨"SootQueenModel", "count", "(I)I"⟩ ⟨"SootQueenModel", "count", "(I)I"⟩ ∈ lw_tbl := List.mem_append_right _ (List.mem_of_getElem? (i := 1762) (by decide +kernel))
theorem cw_L_106 : mm_CV RL 106 MX12_count 12 1 := ⟨⟨Or.inl tw_1760, tw_1763, tw_14, ⟨by decide, by decide⟩, by decide +kernel, by decide⟩, tw_1761, by decide, (RX12, TX12, 75), rfl, tw_1762⟩
theorem tw_606 : Cond.methodLink "SootQueenLaw" 100 ⟨"SootQueen", "fault", "()I"⟩ ∈ lw_tbl := List.mem_append_right _ (List.mem_of_getElem? (i := 606) (by decide +kernel))
theorem tw_609 : Cond.code ⟨"SootQueen", "fault", "()I"⟩ prog_1_method_4_code 1 (some .int) ∈ lw_tbl := List.mem_append_right _ (List.mem_of_getElem? (i := 609) (by decide +kernel))
theorem tw_607 : Cond.instanceMethod ⟨"SootQueen", "fault", "()I"⟩ ∈ lw_tbl := List.mem_append_right _ (List.mem_of_getElem? (i := 607) (by decide +kernel))
theorem tw_608 : Cond.selects "SootQueen" ⟨"SootQueen", "fault", "()I"⟩ ⟨"SootQueen", "fault", "()I"⟩ ∈ lw_tbl := List.mem_append_right _ (List.mem_of_getElem? (i := 608) (by decide +kernel))
theorem cw_L_100 : mm_CV RL 100 MX11_fault 11 0 := ⟨⟨Or.inl tw_606, tw_609, tw_1, ⟨by decide, by decide⟩, by decide +kernel, by decide⟩, tw_607, by decide, (RX11, TX11, 19), rfl, tw_608⟩
theorem tw_1756 : Cond.methodLink "SootQueenLaw" 103 ⟨"SootQueenModel", "fault", "()I"⟩ ∈ lw_tbl := List.mem_append_right _ (List.mem_of_getElem? (i := 1756) (by decide +kernel))
theorem tw_1759 : Cond.code ⟨"SootQueenModel", "fault", "()I"⟩ prog_14_method_36_code 1 (some .int) ∈ lw_tbl := List.mem_append_right _ (List.mem_of_getElem? (i := 1759) (by decide +kernel))
theorem tw_1757 : Cond.instanceMethod ⟨"SootQueenModel", "fault", "()I"⟩ ∈ lw_tbl := List.mem_append_right _ (List.mem_of_getElem? (i := 1757) (by decide +kernel))
theorem tw_1758 : Cond.selects "SootQueenModel" ⟨"SootQueenModel", "fault", "()I"⟩ ⟨"SootQueenModel", "fault", "()I"⟩ ∈ lw_tbl := List.mem_append_right _ (List.mem_of_getElem? (i := 1758) (by decide +kernel))
theorem cw_L_103 : mm_CV RL 103 MX12_fault 12 0 := ⟨⟨Or.inl tw_1756, tw_1759, tw_14, ⟨by decide, by decide⟩, by decide +kernel, by decide⟩, tw_1757, by decide, (RX12, TX12, 75), rfl, tw_1758⟩
theorem tw_710 : Cond.methodLink "SootQueenLaw" 90 ⟨"SootQueenLaw", "table", "(LSootQueen;I[J)I"⟩ ∈ lw_tbl := List.mem_append_right _ (List.mem_of_getElem? (i := 710) (by decide +kernel))
theorem tw_712 : Cond.codeWith ML_table.1 ML_table.2.1 ML_table.2.2.1 ML_table.2.2.2.1 ML_table.2.2.2.2 ∈ lw_tbl := List.mem_append_right _ (List.mem_of_getElem? (i := 712) (by decide +kernel))
theorem tw_711 : Cond.static ⟨"SootQueenLaw", "table", "(LSootQueen;I[J)I"⟩ ∈ lw_tbl := List.mem_append_right _ (List.mem_of_getElem? (i := 711) (by decide +kernel))
theorem cx_90 : mm_CSW RL 90 ML_table 3 := ⟨tw_710, tw_712, tw_0, ⟨by decide, by decide⟩, by decide +kernel, by decide, tw_711⟩
theorem tw_1641 : Cond.methodLink "SootQueenLaw" 95 ⟨"SootQueenModel", "table", "(I)I"⟩ ∈ lw_tbl := List.mem_append_right _ (List.mem_of_getElem? (i := 1641) (by decide +kernel))
theorem tw_1644 : Cond.code ⟨"SootQueenModel", "table", "(I)I"⟩ prog_14_method_35_code 4 (some .int) ∈ lw_tbl := List.mem_append_right _ (List.mem_of_getElem? (i := 1644) (by decide +kernel))
theorem tw_1642 : Cond.instanceMethod ⟨"SootQueenModel", "table", "(I)I"⟩ ∈ lw_tbl := List.mem_append_right _ (List.mem_of_getElem? (i := 1642) (by decide +kernel))
theorem tw_1643 : Cond.selects "SootQueenModel" ⟨"SootQueenModel", "table", "(I)I"⟩ ⟨"SootQueenModel", "table", "(I)I"⟩ ∈ lw_tbl := List.mem_append_right _ (List.mem_of_getElem? (i := 1643) (by decide +kernel))
theorem cw_L_95 : mm_CV RL 95 MX12_table 12 1 := ⟨⟨Or.inl tw_1641, tw_1644, tw_14, ⟨by decide, by decide⟩, by decide +kernel, by decide⟩, tw_1642, by decide, (RX12, TX12, 75), rfl, tw_1643⟩
theorem tw_598 : Cond.methodLink "SootQueenLaw" 85 ⟨"SootQueen", "feed", "(IIIII)I"⟩ ∈ lw_tbl := List.mem_append_right _ (List.mem_of_getElem? (i := 598) (by decide +kernel))
theorem tw_601 : Cond.code ⟨"SootQueen", "feed", "(IIIII)I"⟩ prog_1_method_2_code 6 (some .int) ∈ lw_tbl := List.mem_append_right _ (List.mem_of_getElem? (i := 601) (by decide +kernel))
theorem tw_599 : Cond.instanceMethod ⟨"SootQueen", "feed", "(IIIII)I"⟩ ∈ lw_tbl := List.mem_append_right _ (List.mem_of_getElem? (i := 599) (by decide +kernel))
theorem tw_600 : Cond.selects "SootQueen" ⟨"SootQueen", "feed", "(IIIII)I"⟩ ⟨"SootQueen", "feed", "(IIIII)I"⟩ ∈ lw_tbl := List.mem_append_right _ (List.mem_of_getElem? (i := 600) (by decide +kernel))
theorem cw_L_85 : mm_CV RL 85 MX11_feed 11 5 := ⟨⟨Or.inl tw_598, tw_601, tw_1, ⟨by decide, by decide⟩, by decide +kernel, by decide⟩, tw_599, by decide, (RX11, TX11, 19), rfl, tw_600⟩
theorem tw_1633 : Cond.methodLink "SootQueenLaw" 89 ⟨"SootQueenModel", "feed", "(IIIII)I"⟩ ∈ lw_tbl := List.mem_append_right _ (List.mem_of_getElem? (i := 1633) (by decide +kernel))
theorem tw_1636 : Cond.code ⟨"SootQueenModel", "feed", "(IIIII)I"⟩ prog_14_method_6_code 6 (some .int) ∈ lw_tbl := List.mem_append_right _ (List.mem_of_getElem? (i := 1636) (by decide +kernel))
theorem tw_1634 : Cond.instanceMethod ⟨"SootQueenModel", "feed", "(IIIII)I"⟩ ∈ lw_tbl := List.mem_append_right _ (List.mem_of_getElem? (i := 1634) (by decide +kernel))
theorem tw_1635 : Cond.selects "SootQueenModel" ⟨"SootQueenModel", "feed", "(IIIII)I"⟩ ⟨"SootQueenModel", "feed", "(IIIII)I"⟩ ∈ lw_tbl := List.mem_append_right _ (List.mem_of_getElem? (i := 1635) (by decide +kernel))
theorem cw_L_89 : mm_CV RL 89 MX12_feed 12 5 := ⟨⟨Or.inl tw_1633, tw_1636, tw_14, ⟨by decide, by decide⟩, by decide +kernel, by decide⟩, tw_1634, by decide, (RX12, TX12, 75), rfl, tw_1635⟩
theorem kb_31 : (Int8.ofInt (31)).toInt32 = (31 : Int32) := by decide
theorem dL_law_0 : decode cL_law 0 = .ok (.new 8, 3) := by decide +kernel
theorem dL_law_3 : decode cL_law 3 = .ok (.dup, 1) := by decide +kernel
theorem dL_law_4 : decode cL_law 4 = .ok (.invokespecial 81, 3) := by decide +kernel
theorem dL_law_7 : decode cL_law 7 = .ok (.astore_n 1, 1) := by decide +kernel
theorem dL_law_8 : decode cL_law 8 = .ok (.new 82, 3) := by decide +kernel
theorem dL_law_11 : decode cL_law 11 = .ok (.dup, 1) := by decide +kernel
theorem dL_law_12 : decode cL_law 12 = .ok (.invokespecial 84, 3) := by decide +kernel
theorem dL_law_15 : decode cL_law 15 = .ok (.astore_n 2, 1) := by decide +kernel
theorem dL_law_16 : decode cL_law 16 = .ok (.iconst 1, 1) := by decide +kernel
theorem dL_law_17 : decode cL_law 17 = .ok (.newarray .long, 2) := by decide +kernel
theorem dL_law_19 : decode cL_law 19 = .ok (.astore_n 3, 1) := by decide +kernel
theorem dL_law_20 : decode cL_law 20 = .ok (.iconst 0, 1) := by decide +kernel
theorem dL_law_21 : decode cL_law 21 = .ok (.istore 4, 2) := by decide +kernel
theorem dL_law_23 : decode cL_law 23 = .ok (.iload 4, 2) := by decide +kernel
theorem dL_law_25 : decode cL_law 25 = .ok (.aload_n 0, 1) := by decide +kernel
theorem dL_law_26 : decode cL_law 26 = .ok (.arraylength, 1) := by decide +kernel
theorem dL_law_27 : decode cL_law 27 = .ok (.bipush 6, 2) := by decide +kernel
theorem dL_law_29 : decode cL_law 29 = .ok (.isub, 1) := by decide +kernel
theorem dL_law_30 : decode cL_law 30 = .ok (.if_icmp .gt 1689, 3) := by decide +kernel
theorem dL_law_33 : decode cL_law 33 = .ok (.aload_n 0, 1) := by decide +kernel
theorem dL_law_34 : decode cL_law 34 = .ok (.iload 4, 2) := by decide +kernel
theorem dL_law_36 : decode cL_law 36 = .ok (.iaload, 1) := by decide +kernel
theorem dL_law_37 : decode cL_law 37 = .ok (.bipush 31, 2) := by decide +kernel
theorem dL_law_39 : decode cL_law 39 = .ok (.iand, 1) := by decide +kernel
theorem dL_law_40 : decode cL_law 40 = .ok (.tableswitch 1673 0 25 #[120, 193, 249, 262, 318, 386, 454, 479, 535, 548, 604, 688, 767, 862, 930, 997, 1077, 1145, 1213, 1333, 1389, 1445, 1501, 1569, 1649, 1660], 120) := by decide +kernel
theorem dL_law_160 : decode cL_law 160 = .ok (.aload_n 1, 1) := by decide +kernel
theorem dL_law_161 : decode cL_law 161 = .ok (.aload_n 0, 1) := by decide +kernel
theorem dL_law_162 : decode cL_law 162 = .ok (.iload 4, 2) := by decide +kernel
theorem dL_law_164 : decode cL_law 164 = .ok (.iconst 1, 1) := by decide +kernel
theorem dL_law_165 : decode cL_law 165 = .ok (.iadd, 1) := by decide +kernel
theorem dL_law_166 : decode cL_law 166 = .ok (.iaload, 1) := by decide +kernel
theorem dL_law_167 : decode cL_law 167 = .ok (.aload_n 0, 1) := by decide +kernel
theorem dL_law_168 : decode cL_law 168 = .ok (.iload 4, 2) := by decide +kernel
theorem dL_law_170 : decode cL_law 170 = .ok (.iconst 2, 1) := by decide +kernel
theorem dL_law_171 : decode cL_law 171 = .ok (.iadd, 1) := by decide +kernel
theorem dL_law_172 : decode cL_law 172 = .ok (.iaload, 1) := by decide +kernel
theorem dL_law_173 : decode cL_law 173 = .ok (.aload_n 0, 1) := by decide +kernel
theorem dL_law_174 : decode cL_law 174 = .ok (.iload 4, 2) := by decide +kernel
theorem dL_law_176 : decode cL_law 176 = .ok (.iconst 3, 1) := by decide +kernel
theorem dL_law_177 : decode cL_law 177 = .ok (.iadd, 1) := by decide +kernel
theorem dL_law_178 : decode cL_law 178 = .ok (.iaload, 1) := by decide +kernel
theorem dL_law_179 : decode cL_law 179 = .ok (.aload_n 0, 1) := by decide +kernel
theorem dL_law_180 : decode cL_law 180 = .ok (.iload 4, 2) := by decide +kernel
theorem dL_law_182 : decode cL_law 182 = .ok (.iconst 4, 1) := by decide +kernel
theorem dL_law_183 : decode cL_law 183 = .ok (.iadd, 1) := by decide +kernel
theorem dL_law_184 : decode cL_law 184 = .ok (.iaload, 1) := by decide +kernel
theorem dL_law_185 : decode cL_law 185 = .ok (.aload_n 0, 1) := by decide +kernel
theorem dL_law_186 : decode cL_law 186 = .ok (.iload 4, 2) := by decide +kernel
theorem dL_law_188 : decode cL_law 188 = .ok (.iconst 5, 1) := by decide +kernel
theorem dL_law_189 : decode cL_law 189 = .ok (.iadd, 1) := by decide +kernel
theorem dL_law_190 : decode cL_law 190 = .ok (.iaload, 1) := by decide +kernel
theorem dL_law_191 : decode cL_law 191 = .ok (.invokevirtual 85, 3) := by decide +kernel
theorem dL_law_194 : decode cL_law 194 = .ok (.aload_n 2, 1) := by decide +kernel
theorem dL_law_195 : decode cL_law 195 = .ok (.aload_n 0, 1) := by decide +kernel
theorem dL_law_196 : decode cL_law 196 = .ok (.iload 4, 2) := by decide +kernel
theorem dL_law_198 : decode cL_law 198 = .ok (.iconst 1, 1) := by decide +kernel
theorem dL_law_199 : decode cL_law 199 = .ok (.iadd, 1) := by decide +kernel
theorem dL_law_200 : decode cL_law 200 = .ok (.iaload, 1) := by decide +kernel
theorem dL_law_201 : decode cL_law 201 = .ok (.aload_n 0, 1) := by decide +kernel
theorem dL_law_202 : decode cL_law 202 = .ok (.iload 4, 2) := by decide +kernel
theorem dL_law_204 : decode cL_law 204 = .ok (.iconst 2, 1) := by decide +kernel
theorem dL_law_205 : decode cL_law 205 = .ok (.iadd, 1) := by decide +kernel
theorem dL_law_206 : decode cL_law 206 = .ok (.iaload, 1) := by decide +kernel
theorem dL_law_207 : decode cL_law 207 = .ok (.aload_n 0, 1) := by decide +kernel
theorem dL_law_208 : decode cL_law 208 = .ok (.iload 4, 2) := by decide +kernel
theorem dL_law_210 : decode cL_law 210 = .ok (.iconst 3, 1) := by decide +kernel
theorem dL_law_211 : decode cL_law 211 = .ok (.iadd, 1) := by decide +kernel
theorem dL_law_212 : decode cL_law 212 = .ok (.iaload, 1) := by decide +kernel
theorem dL_law_213 : decode cL_law 213 = .ok (.aload_n 0, 1) := by decide +kernel
theorem dL_law_214 : decode cL_law 214 = .ok (.iload 4, 2) := by decide +kernel
theorem dL_law_216 : decode cL_law 216 = .ok (.iconst 4, 1) := by decide +kernel
theorem dL_law_217 : decode cL_law 217 = .ok (.iadd, 1) := by decide +kernel
theorem dL_law_218 : decode cL_law 218 = .ok (.iaload, 1) := by decide +kernel
theorem dL_law_219 : decode cL_law 219 = .ok (.aload_n 0, 1) := by decide +kernel
theorem dL_law_220 : decode cL_law 220 = .ok (.iload 4, 2) := by decide +kernel
theorem dL_law_222 : decode cL_law 222 = .ok (.iconst 5, 1) := by decide +kernel
theorem dL_law_223 : decode cL_law 223 = .ok (.iadd, 1) := by decide +kernel
theorem dL_law_224 : decode cL_law 224 = .ok (.iaload, 1) := by decide +kernel
theorem dL_law_225 : decode cL_law 225 = .ok (.invokevirtual 89, 3) := by decide +kernel
theorem dL_law_228 : decode cL_law 228 = .ok (.if_icmp .eq 1485, 3) := by decide +kernel
theorem dL_law_231 : decode cL_law 231 = .ok (.iconst 0, 1) := by decide +kernel
theorem dL_law_232 : decode cL_law 232 = .ok (.ireturn, 1) := by decide +kernel
theorem dL_law_233 : decode cL_law 233 = .ok (.aload_n 1, 1) := by decide +kernel
theorem dL_law_234 : decode cL_law 234 = .ok (.aload_n 0, 1) := by decide +kernel
theorem dL_law_235 : decode cL_law 235 = .ok (.iload 4, 2) := by decide +kernel
theorem dL_law_237 : decode cL_law 237 = .ok (.iconst 1, 1) := by decide +kernel
theorem dL_law_238 : decode cL_law 238 = .ok (.iadd, 1) := by decide +kernel
theorem dL_law_239 : decode cL_law 239 = .ok (.iaload, 1) := by decide +kernel
theorem dL_law_240 : decode cL_law 240 = .ok (.aload_n 3, 1) := by decide +kernel
theorem dL_law_241 : decode cL_law 241 = .ok (.invokestatic 90, 3) := by decide +kernel
theorem dL_law_244 : decode cL_law 244 = .ok (.istore 5, 2) := by decide +kernel
theorem dL_law_246 : decode cL_law 246 = .ok (.aload_n 2, 1) := by decide +kernel
theorem dL_law_247 : decode cL_law 247 = .ok (.aload_n 0, 1) := by decide +kernel
theorem dL_law_248 : decode cL_law 248 = .ok (.iload 4, 2) := by decide +kernel
theorem dL_law_250 : decode cL_law 250 = .ok (.iconst 1, 1) := by decide +kernel
theorem dL_law_251 : decode cL_law 251 = .ok (.iadd, 1) := by decide +kernel
theorem dL_law_252 : decode cL_law 252 = .ok (.iaload, 1) := by decide +kernel
theorem dL_law_253 : decode cL_law 253 = .ok (.invokevirtual 95, 3) := by decide +kernel
theorem dL_law_256 : decode cL_law 256 = .ok (.istore 6, 2) := by decide +kernel
theorem dL_law_258 : decode cL_law 258 = .ok (.aload_n 2, 1) := by decide +kernel
theorem dL_law_259 : decode cL_law 259 = .ok (.invokevirtual 96, 3) := by decide +kernel
theorem dL_law_262 : decode cL_law 262 = .ok (.iload 5, 2) := by decide +kernel
theorem dL_law_264 : decode cL_law 264 = .ok (.if_icmp .eq 5, 3) := by decide +kernel
theorem dL_law_267 : decode cL_law 267 = .ok (.iconst 0, 1) := by decide +kernel
theorem dL_law_268 : decode cL_law 268 = .ok (.ireturn, 1) := by decide +kernel
theorem dL_law_269 : decode cL_law 269 = .ok (.iload 5, 2) := by decide +kernel
theorem dL_law_271 : decode cL_law 271 = .ok (.ifCond .ne 15, 3) := by decide +kernel
theorem dL_law_274 : decode cL_law 274 = .ok (.aload_n 3, 1) := by decide +kernel
theorem dL_law_275 : decode cL_law 275 = .ok (.iconst 0, 1) := by decide +kernel
theorem dL_law_276 : decode cL_law 276 = .ok (.laload, 1) := by decide +kernel
theorem dL_law_277 : decode cL_law 277 = .ok (.iload 6, 2) := by decide +kernel
theorem dL_law_279 : decode cL_law 279 = .ok (.i2l, 1) := by decide +kernel
theorem dL_law_280 : decode cL_law 280 = .ok (.lcmp, 1) := by decide +kernel
theorem dL_law_281 : decode cL_law 281 = .ok (.ifCond .eq 5, 3) := by decide +kernel
theorem dL_law_284 : decode cL_law 284 = .ok (.iconst 0, 1) := by decide +kernel
theorem dL_law_285 : decode cL_law 285 = .ok (.ireturn, 1) := by decide +kernel
theorem dL_law_286 : decode cL_law 286 = .ok (.goto 1427, 3) := by decide +kernel
theorem dL_law_289 : decode cL_law 289 = .ok (.aload_n 1, 1) := by decide +kernel
theorem dL_law_290 : decode cL_law 290 = .ok (.invokevirtual 100, 3) := by decide +kernel
theorem dL_law_293 : decode cL_law 293 = .ok (.aload_n 2, 1) := by decide +kernel
theorem dL_law_294 : decode cL_law 294 = .ok (.invokevirtual 103, 3) := by decide +kernel
theorem dL_law_297 : decode cL_law 297 = .ok (.if_icmp .eq 1416, 3) := by decide +kernel
theorem dL_law_300 : decode cL_law 300 = .ok (.iconst 0, 1) := by decide +kernel
theorem dL_law_301 : decode cL_law 301 = .ok (.ireturn, 1) := by decide +kernel
theorem dL_law_302 : decode cL_law 302 = .ok (.aload_n 1, 1) := by decide +kernel
theorem dL_law_303 : decode cL_law 303 = .ok (.aload_n 0, 1) := by decide +kernel
theorem dL_law_304 : decode cL_law 304 = .ok (.iload 4, 2) := by decide +kernel
theorem dL_law_306 : decode cL_law 306 = .ok (.iconst 1, 1) := by decide +kernel
theorem dL_law_307 : decode cL_law 307 = .ok (.iadd, 1) := by decide +kernel
theorem dL_law_308 : decode cL_law 308 = .ok (.iaload, 1) := by decide +kernel
theorem dL_law_309 : decode cL_law 309 = .ok (.aload_n 3, 1) := by decide +kernel
theorem dL_law_310 : decode cL_law 310 = .ok (.invokestatic 104, 3) := by decide +kernel
theorem dL_law_313 : decode cL_law 313 = .ok (.istore 5, 2) := by decide +kernel
theorem dL_law_315 : decode cL_law 315 = .ok (.aload_n 2, 1) := by decide +kernel
theorem dL_law_316 : decode cL_law 316 = .ok (.aload_n 0, 1) := by decide +kernel
theorem dL_law_317 : decode cL_law 317 = .ok (.iload 4, 2) := by decide +kernel
theorem dL_law_319 : decode cL_law 319 = .ok (.iconst 1, 1) := by decide +kernel
theorem dL_law_320 : decode cL_law 320 = .ok (.iadd, 1) := by decide +kernel
theorem dL_law_321 : decode cL_law 321 = .ok (.iaload, 1) := by decide +kernel
theorem dL_law_322 : decode cL_law 322 = .ok (.invokevirtual 106, 3) := by decide +kernel
theorem dL_law_325 : decode cL_law 325 = .ok (.istore 6, 2) := by decide +kernel
theorem dL_law_327 : decode cL_law 327 = .ok (.aload_n 2, 1) := by decide +kernel
theorem dL_law_328 : decode cL_law 328 = .ok (.invokevirtual 96, 3) := by decide +kernel
theorem dL_law_331 : decode cL_law 331 = .ok (.iload 5, 2) := by decide +kernel
theorem dL_law_333 : decode cL_law 333 = .ok (.if_icmp .eq 5, 3) := by decide +kernel
theorem dL_law_336 : decode cL_law 336 = .ok (.iconst 0, 1) := by decide +kernel
theorem dL_law_337 : decode cL_law 337 = .ok (.ireturn, 1) := by decide +kernel
theorem dL_law_338 : decode cL_law 338 = .ok (.iload 5, 2) := by decide +kernel
theorem dL_law_340 : decode cL_law 340 = .ok (.ifCond .ne 15, 3) := by decide +kernel
theorem dL_law_343 : decode cL_law 343 = .ok (.aload_n 3, 1) := by decide +kernel
theorem dL_law_344 : decode cL_law 344 = .ok (.iconst 0, 1) := by decide +kernel
theorem dL_law_345 : decode cL_law 345 = .ok (.laload, 1) := by decide +kernel
theorem dL_law_346 : decode cL_law 346 = .ok (.iload 6, 2) := by decide +kernel
theorem dL_law_348 : decode cL_law 348 = .ok (.i2l, 1) := by decide +kernel
theorem dL_law_349 : decode cL_law 349 = .ok (.lcmp, 1) := by decide +kernel
theorem dL_law_350 : decode cL_law 350 = .ok (.ifCond .eq 5, 3) := by decide +kernel
theorem dL_law_353 : decode cL_law 353 = .ok (.iconst 0, 1) := by decide +kernel
theorem dL_law_354 : decode cL_law 354 = .ok (.ireturn, 1) := by decide +kernel
theorem dL_law_355 : decode cL_law 355 = .ok (.goto 1358, 3) := by decide +kernel
theorem dL_law_358 : decode cL_law 358 = .ok (.aload_n 1, 1) := by decide +kernel
theorem dL_law_359 : decode cL_law 359 = .ok (.aload_n 0, 1) := by decide +kernel
theorem dL_law_360 : decode cL_law 360 = .ok (.iload 4, 2) := by decide +kernel
theorem dL_law_362 : decode cL_law 362 = .ok (.iconst 1, 1) := by decide +kernel
theorem dL_law_363 : decode cL_law 363 = .ok (.iadd, 1) := by decide +kernel
theorem dL_law_364 : decode cL_law 364 = .ok (.iaload, 1) := by decide +kernel
theorem dL_law_365 : decode cL_law 365 = .ok (.aload_n 0, 1) := by decide +kernel
theorem dL_law_366 : decode cL_law 366 = .ok (.iload 4, 2) := by decide +kernel
theorem dL_law_368 : decode cL_law 368 = .ok (.iconst 2, 1) := by decide +kernel
theorem dL_law_369 : decode cL_law 369 = .ok (.iadd, 1) := by decide +kernel
theorem dL_law_370 : decode cL_law 370 = .ok (.iaload, 1) := by decide +kernel
theorem dL_law_371 : decode cL_law 371 = .ok (.aload_n 3, 1) := by decide +kernel
theorem dL_law_372 : decode cL_law 372 = .ok (.invokestatic 107, 3) := by decide +kernel
theorem dL_law_375 : decode cL_law 375 = .ok (.istore 5, 2) := by decide +kernel
theorem dL_law_377 : decode cL_law 377 = .ok (.aload_n 2, 1) := by decide +kernel
theorem dL_law_378 : decode cL_law 378 = .ok (.aload_n 0, 1) := by decide +kernel
theorem dL_law_379 : decode cL_law 379 = .ok (.iload 4, 2) := by decide +kernel
theorem dL_law_381 : decode cL_law 381 = .ok (.iconst 1, 1) := by decide +kernel
theorem dL_law_382 : decode cL_law 382 = .ok (.iadd, 1) := by decide +kernel
theorem dL_law_383 : decode cL_law 383 = .ok (.iaload, 1) := by decide +kernel
theorem dL_law_384 : decode cL_law 384 = .ok (.aload_n 0, 1) := by decide +kernel
theorem dL_law_385 : decode cL_law 385 = .ok (.iload 4, 2) := by decide +kernel
theorem dL_law_387 : decode cL_law 387 = .ok (.iconst 2, 1) := by decide +kernel
theorem dL_law_388 : decode cL_law 388 = .ok (.iadd, 1) := by decide +kernel
theorem dL_law_389 : decode cL_law 389 = .ok (.iaload, 1) := by decide +kernel
theorem dL_law_390 : decode cL_law 390 = .ok (.invokevirtual 110, 3) := by decide +kernel
theorem dL_law_393 : decode cL_law 393 = .ok (.istore 6, 2) := by decide +kernel
theorem dL_law_395 : decode cL_law 395 = .ok (.aload_n 2, 1) := by decide +kernel
theorem dL_law_396 : decode cL_law 396 = .ok (.invokevirtual 96, 3) := by decide +kernel
theorem dL_law_399 : decode cL_law 399 = .ok (.iload 5, 2) := by decide +kernel
theorem dL_law_401 : decode cL_law 401 = .ok (.if_icmp .eq 5, 3) := by decide +kernel
theorem dL_law_404 : decode cL_law 404 = .ok (.iconst 0, 1) := by decide +kernel
theorem dL_law_405 : decode cL_law 405 = .ok (.ireturn, 1) := by decide +kernel
theorem dL_law_406 : decode cL_law 406 = .ok (.iload 5, 2) := by decide +kernel
theorem dL_law_408 : decode cL_law 408 = .ok (.ifCond .ne 15, 3) := by decide +kernel
theorem dL_law_411 : decode cL_law 411 = .ok (.aload_n 3, 1) := by decide +kernel
theorem dL_law_412 : decode cL_law 412 = .ok (.iconst 0, 1) := by decide +kernel
theorem dL_law_413 : decode cL_law 413 = .ok (.laload, 1) := by decide +kernel
theorem dL_law_414 : decode cL_law 414 = .ok (.iload 6, 2) := by decide +kernel
theorem dL_law_416 : decode cL_law 416 = .ok (.i2l, 1) := by decide +kernel
theorem dL_law_417 : decode cL_law 417 = .ok (.lcmp, 1) := by decide +kernel
theorem dL_law_418 : decode cL_law 418 = .ok (.ifCond .eq 5, 3) := by decide +kernel
theorem dL_law_421 : decode cL_law 421 = .ok (.iconst 0, 1) := by decide +kernel
theorem dL_law_422 : decode cL_law 422 = .ok (.ireturn, 1) := by decide +kernel
theorem dL_law_423 : decode cL_law 423 = .ok (.goto 1290, 3) := by decide +kernel
theorem dL_law_426 : decode cL_law 426 = .ok (.aload_n 1, 1) := by decide +kernel
theorem dL_law_427 : decode cL_law 427 = .ok (.aload_n 0, 1) := by decide +kernel
theorem dL_law_428 : decode cL_law 428 = .ok (.iload 4, 2) := by decide +kernel
theorem dL_law_430 : decode cL_law 430 = .ok (.iconst 1, 1) := by decide +kernel
theorem dL_law_431 : decode cL_law 431 = .ok (.iadd, 1) := by decide +kernel
theorem dL_law_432 : decode cL_law 432 = .ok (.iaload, 1) := by decide +kernel
theorem dL_law_433 : decode cL_law 433 = .ok (.aload_n 0, 1) := by decide +kernel
theorem dL_law_434 : decode cL_law 434 = .ok (.iload 4, 2) := by decide +kernel
theorem dL_law_436 : decode cL_law 436 = .ok (.iconst 2, 1) := by decide +kernel
theorem dL_law_437 : decode cL_law 437 = .ok (.iadd, 1) := by decide +kernel
theorem dL_law_438 : decode cL_law 438 = .ok (.iaload, 1) := by decide +kernel
theorem dL_law_439 : decode cL_law 439 = .ok (.aload_n 3, 1) := by decide +kernel
theorem dL_law_440 : decode cL_law 440 = .ok (.invokestatic 111, 3) := by decide +kernel
theorem dL_law_443 : decode cL_law 443 = .ok (.istore 5, 2) := by decide +kernel
theorem dL_law_445 : decode cL_law 445 = .ok (.aload_n 2, 1) := by decide +kernel
theorem dL_law_446 : decode cL_law 446 = .ok (.aload_n 0, 1) := by decide +kernel
theorem dL_law_447 : decode cL_law 447 = .ok (.iload 4, 2) := by decide +kernel
theorem dL_law_449 : decode cL_law 449 = .ok (.iconst 1, 1) := by decide +kernel
theorem dL_law_450 : decode cL_law 450 = .ok (.iadd, 1) := by decide +kernel
theorem dL_law_451 : decode cL_law 451 = .ok (.iaload, 1) := by decide +kernel
theorem dL_law_452 : decode cL_law 452 = .ok (.aload_n 0, 1) := by decide +kernel
theorem dL_law_453 : decode cL_law 453 = .ok (.iload 4, 2) := by decide +kernel
theorem dL_law_455 : decode cL_law 455 = .ok (.iconst 2, 1) := by decide +kernel
theorem dL_law_456 : decode cL_law 456 = .ok (.iadd, 1) := by decide +kernel
theorem dL_law_457 : decode cL_law 457 = .ok (.iaload, 1) := by decide +kernel
theorem dL_law_458 : decode cL_law 458 = .ok (.invokevirtual 113, 3) := by decide +kernel
theorem dL_law_461 : decode cL_law 461 = .ok (.istore 6, 2) := by decide +kernel
theorem dL_law_463 : decode cL_law 463 = .ok (.aload_n 2, 1) := by decide +kernel
theorem dL_law_464 : decode cL_law 464 = .ok (.invokevirtual 96, 3) := by decide +kernel
theorem dL_law_467 : decode cL_law 467 = .ok (.iload 5, 2) := by decide +kernel
theorem dL_law_469 : decode cL_law 469 = .ok (.if_icmp .eq 5, 3) := by decide +kernel
theorem dL_law_472 : decode cL_law 472 = .ok (.iconst 0, 1) := by decide +kernel
theorem dL_law_473 : decode cL_law 473 = .ok (.ireturn, 1) := by decide +kernel
theorem dL_law_474 : decode cL_law 474 = .ok (.iload 5, 2) := by decide +kernel
theorem dL_law_476 : decode cL_law 476 = .ok (.ifCond .ne 15, 3) := by decide +kernel
theorem dL_law_479 : decode cL_law 479 = .ok (.aload_n 3, 1) := by decide +kernel
theorem dL_law_480 : decode cL_law 480 = .ok (.iconst 0, 1) := by decide +kernel
theorem dL_law_481 : decode cL_law 481 = .ok (.laload, 1) := by decide +kernel
theorem dL_law_482 : decode cL_law 482 = .ok (.iload 6, 2) := by decide +kernel
theorem dL_law_484 : decode cL_law 484 = .ok (.i2l, 1) := by decide +kernel
theorem dL_law_485 : decode cL_law 485 = .ok (.lcmp, 1) := by decide +kernel
theorem dL_law_486 : decode cL_law 486 = .ok (.ifCond .eq 5, 3) := by decide +kernel
theorem dL_law_489 : decode cL_law 489 = .ok (.iconst 0, 1) := by decide +kernel
theorem dL_law_490 : decode cL_law 490 = .ok (.ireturn, 1) := by decide +kernel
theorem dL_law_491 : decode cL_law 491 = .ok (.goto 1222, 3) := by decide +kernel
theorem dL_law_494 : decode cL_law 494 = .ok (.aload_n 1, 1) := by decide +kernel
theorem dL_law_495 : decode cL_law 495 = .ok (.aload_n 0, 1) := by decide +kernel
theorem dL_law_496 : decode cL_law 496 = .ok (.iload 4, 2) := by decide +kernel
theorem dL_law_498 : decode cL_law 498 = .ok (.iconst 1, 1) := by decide +kernel
theorem dL_law_499 : decode cL_law 499 = .ok (.iadd, 1) := by decide +kernel
theorem dL_law_500 : decode cL_law 500 = .ok (.iaload, 1) := by decide +kernel
theorem dL_law_501 : decode cL_law 501 = .ok (.invokevirtual 114, 3) := by decide +kernel
theorem dL_law_504 : decode cL_law 504 = .ok (.aload_n 2, 1) := by decide +kernel
theorem dL_law_505 : decode cL_law 505 = .ok (.aload_n 0, 1) := by decide +kernel
theorem dL_law_506 : decode cL_law 506 = .ok (.iload 4, 2) := by decide +kernel
theorem dL_law_508 : decode cL_law 508 = .ok (.iconst 1, 1) := by decide +kernel
theorem dL_law_509 : decode cL_law 509 = .ok (.iadd, 1) := by decide +kernel
theorem dL_law_510 : decode cL_law 510 = .ok (.iaload, 1) := by decide +kernel
theorem dL_law_511 : decode cL_law 511 = .ok (.invokevirtual 117, 3) := by decide +kernel
theorem dL_law_514 : decode cL_law 514 = .ok (.if_icmp .eq 1199, 3) := by decide +kernel
theorem dL_law_517 : decode cL_law 517 = .ok (.iconst 0, 1) := by decide +kernel
theorem dL_law_518 : decode cL_law 518 = .ok (.ireturn, 1) := by decide +kernel
theorem dL_law_519 : decode cL_law 519 = .ok (.aload_n 1, 1) := by decide +kernel
theorem dL_law_520 : decode cL_law 520 = .ok (.aload_n 0, 1) := by decide +kernel
theorem dL_law_521 : decode cL_law 521 = .ok (.iload 4, 2) := by decide +kernel
theorem dL_law_523 : decode cL_law 523 = .ok (.iconst 1, 1) := by decide +kernel
theorem dL_law_524 : decode cL_law 524 = .ok (.iadd, 1) := by decide +kernel
theorem dL_law_525 : decode cL_law 525 = .ok (.iaload, 1) := by decide +kernel
theorem dL_law_526 : decode cL_law 526 = .ok (.aload_n 3, 1) := by decide +kernel
theorem dL_law_527 : decode cL_law 527 = .ok (.invokestatic 118, 3) := by decide +kernel
theorem dL_law_530 : decode cL_law 530 = .ok (.istore 5, 2) := by decide +kernel
theorem dL_law_532 : decode cL_law 532 = .ok (.aload_n 2, 1) := by decide +kernel
theorem dL_law_533 : decode cL_law 533 = .ok (.aload_n 0, 1) := by decide +kernel
theorem dL_law_534 : decode cL_law 534 = .ok (.iload 4, 2) := by decide +kernel
theorem dL_law_536 : decode cL_law 536 = .ok (.iconst 1, 1) := by decide +kernel
theorem dL_law_537 : decode cL_law 537 = .ok (.iadd, 1) := by decide +kernel
theorem dL_law_538 : decode cL_law 538 = .ok (.iaload, 1) := by decide +kernel
theorem dL_law_539 : decode cL_law 539 = .ok (.invokevirtual 120, 3) := by decide +kernel
theorem dL_law_542 : decode cL_law 542 = .ok (.istore 6, 2) := by decide +kernel
theorem dL_law_544 : decode cL_law 544 = .ok (.aload_n 2, 1) := by decide +kernel
theorem dL_law_545 : decode cL_law 545 = .ok (.invokevirtual 96, 3) := by decide +kernel
theorem dL_law_548 : decode cL_law 548 = .ok (.iload 5, 2) := by decide +kernel
theorem dL_law_550 : decode cL_law 550 = .ok (.if_icmp .eq 5, 3) := by decide +kernel
theorem dL_law_553 : decode cL_law 553 = .ok (.iconst 0, 1) := by decide +kernel
theorem dL_law_554 : decode cL_law 554 = .ok (.ireturn, 1) := by decide +kernel
theorem dL_law_555 : decode cL_law 555 = .ok (.iload 5, 2) := by decide +kernel
theorem dL_law_557 : decode cL_law 557 = .ok (.ifCond .ne 15, 3) := by decide +kernel
theorem dL_law_560 : decode cL_law 560 = .ok (.aload_n 3, 1) := by decide +kernel
theorem dL_law_561 : decode cL_law 561 = .ok (.iconst 0, 1) := by decide +kernel
theorem dL_law_562 : decode cL_law 562 = .ok (.laload, 1) := by decide +kernel
theorem dL_law_563 : decode cL_law 563 = .ok (.iload 6, 2) := by decide +kernel
theorem dL_law_565 : decode cL_law 565 = .ok (.i2l, 1) := by decide +kernel
theorem dL_law_566 : decode cL_law 566 = .ok (.lcmp, 1) := by decide +kernel
theorem dL_law_567 : decode cL_law 567 = .ok (.ifCond .eq 5, 3) := by decide +kernel
theorem dL_law_570 : decode cL_law 570 = .ok (.iconst 0, 1) := by decide +kernel
theorem dL_law_571 : decode cL_law 571 = .ok (.ireturn, 1) := by decide +kernel
theorem dL_law_572 : decode cL_law 572 = .ok (.goto 1141, 3) := by decide +kernel
theorem dL_law_575 : decode cL_law 575 = .ok (.aload_n 1, 1) := by decide +kernel
theorem dL_law_576 : decode cL_law 576 = .ok (.invokevirtual 121, 3) := by decide +kernel
theorem dL_law_579 : decode cL_law 579 = .ok (.aload_n 2, 1) := by decide +kernel
theorem dL_law_580 : decode cL_law 580 = .ok (.invokevirtual 124, 3) := by decide +kernel
theorem dL_law_583 : decode cL_law 583 = .ok (.if_icmp .eq 1130, 3) := by decide +kernel
theorem dL_law_586 : decode cL_law 586 = .ok (.iconst 0, 1) := by decide +kernel
theorem dL_law_587 : decode cL_law 587 = .ok (.ireturn, 1) := by decide +kernel
theorem dL_law_588 : decode cL_law 588 = .ok (.aload_n 1, 1) := by decide +kernel
theorem dL_law_589 : decode cL_law 589 = .ok (.aload_n 0, 1) := by decide +kernel
theorem dL_law_590 : decode cL_law 590 = .ok (.iload 4, 2) := by decide +kernel
theorem dL_law_592 : decode cL_law 592 = .ok (.iconst 1, 1) := by decide +kernel
theorem dL_law_593 : decode cL_law 593 = .ok (.iadd, 1) := by decide +kernel
theorem dL_law_594 : decode cL_law 594 = .ok (.iaload, 1) := by decide +kernel
theorem dL_law_595 : decode cL_law 595 = .ok (.aload_n 3, 1) := by decide +kernel
theorem dL_law_596 : decode cL_law 596 = .ok (.invokestatic 125, 3) := by decide +kernel
theorem dL_law_599 : decode cL_law 599 = .ok (.istore 5, 2) := by decide +kernel
theorem dL_law_601 : decode cL_law 601 = .ok (.aload_n 2, 1) := by decide +kernel
theorem dL_law_602 : decode cL_law 602 = .ok (.aload_n 0, 1) := by decide +kernel
theorem dL_law_603 : decode cL_law 603 = .ok (.iload 4, 2) := by decide +kernel
theorem dL_law_605 : decode cL_law 605 = .ok (.iconst 1, 1) := by decide +kernel
theorem dL_law_606 : decode cL_law 606 = .ok (.iadd, 1) := by decide +kernel
theorem dL_law_607 : decode cL_law 607 = .ok (.iaload, 1) := by decide +kernel
theorem dL_law_608 : decode cL_law 608 = .ok (.invokevirtual 127, 3) := by decide +kernel
theorem dL_law_611 : decode cL_law 611 = .ok (.istore 6, 2) := by decide +kernel
theorem dL_law_613 : decode cL_law 613 = .ok (.aload_n 2, 1) := by decide +kernel
theorem dL_law_614 : decode cL_law 614 = .ok (.invokevirtual 96, 3) := by decide +kernel
theorem dL_law_617 : decode cL_law 617 = .ok (.iload 5, 2) := by decide +kernel
theorem dL_law_619 : decode cL_law 619 = .ok (.if_icmp .eq 5, 3) := by decide +kernel
theorem dL_law_622 : decode cL_law 622 = .ok (.iconst 0, 1) := by decide +kernel
theorem dL_law_623 : decode cL_law 623 = .ok (.ireturn, 1) := by decide +kernel
theorem dL_law_624 : decode cL_law 624 = .ok (.iload 5, 2) := by decide +kernel
theorem dL_law_626 : decode cL_law 626 = .ok (.ifCond .ne 15, 3) := by decide +kernel
theorem dL_law_629 : decode cL_law 629 = .ok (.aload_n 3, 1) := by decide +kernel
theorem dL_law_630 : decode cL_law 630 = .ok (.iconst 0, 1) := by decide +kernel
theorem dL_law_631 : decode cL_law 631 = .ok (.laload, 1) := by decide +kernel
theorem dL_law_632 : decode cL_law 632 = .ok (.iload 6, 2) := by decide +kernel
theorem dL_law_634 : decode cL_law 634 = .ok (.i2l, 1) := by decide +kernel
theorem dL_law_635 : decode cL_law 635 = .ok (.lcmp, 1) := by decide +kernel
theorem dL_law_636 : decode cL_law 636 = .ok (.ifCond .eq 5, 3) := by decide +kernel
theorem dL_law_639 : decode cL_law 639 = .ok (.iconst 0, 1) := by decide +kernel
theorem dL_law_640 : decode cL_law 640 = .ok (.ireturn, 1) := by decide +kernel
theorem dL_law_641 : decode cL_law 641 = .ok (.goto 1072, 3) := by decide +kernel
theorem dL_law_644 : decode cL_law 644 = .ok (.aload_n 1, 1) := by decide +kernel
theorem dL_law_645 : decode cL_law 645 = .ok (.aload_n 0, 1) := by decide +kernel
theorem dL_law_646 : decode cL_law 646 = .ok (.iload 4, 2) := by decide +kernel
theorem dL_law_648 : decode cL_law 648 = .ok (.iconst 1, 1) := by decide +kernel
theorem dL_law_649 : decode cL_law 649 = .ok (.iadd, 1) := by decide +kernel
theorem dL_law_650 : decode cL_law 650 = .ok (.iaload, 1) := by decide +kernel
theorem dL_law_651 : decode cL_law 651 = .ok (.aload_n 0, 1) := by decide +kernel
theorem dL_law_652 : decode cL_law 652 = .ok (.iload 4, 2) := by decide +kernel
theorem dL_law_654 : decode cL_law 654 = .ok (.iconst 2, 1) := by decide +kernel
theorem dL_law_655 : decode cL_law 655 = .ok (.iadd, 1) := by decide +kernel
theorem dL_law_656 : decode cL_law 656 = .ok (.iaload, 1) := by decide +kernel
theorem dL_law_657 : decode cL_law 657 = .ok (.ifCond .eq 7, 3) := by decide +kernel
theorem dL_law_660 : decode cL_law 660 = .ok (.iconst 1, 1) := by decide +kernel
theorem dL_law_661 : decode cL_law 661 = .ok (.goto 4, 3) := by decide +kernel
theorem dL_law_664 : decode cL_law 664 = .ok (.iconst 0, 1) := by decide +kernel
theorem dL_law_665 : decode cL_law 665 = .ok (.aload_n 3, 1) := by decide +kernel
theorem dL_law_666 : decode cL_law 666 = .ok (.invokestatic 128, 3) := by decide +kernel
theorem dL_law_669 : decode cL_law 669 = .ok (.istore 5, 2) := by decide +kernel
theorem dL_law_671 : decode cL_law 671 = .ok (.aload_n 2, 1) := by decide +kernel
theorem dL_law_672 : decode cL_law 672 = .ok (.aload_n 0, 1) := by decide +kernel
theorem dL_law_673 : decode cL_law 673 = .ok (.iload 4, 2) := by decide +kernel
theorem dL_law_675 : decode cL_law 675 = .ok (.iconst 1, 1) := by decide +kernel
theorem dL_law_676 : decode cL_law 676 = .ok (.iadd, 1) := by decide +kernel
theorem dL_law_677 : decode cL_law 677 = .ok (.iaload, 1) := by decide +kernel
theorem dL_law_678 : decode cL_law 678 = .ok (.aload_n 0, 1) := by decide +kernel
theorem dL_law_679 : decode cL_law 679 = .ok (.iload 4, 2) := by decide +kernel
theorem dL_law_681 : decode cL_law 681 = .ok (.iconst 2, 1) := by decide +kernel
theorem dL_law_682 : decode cL_law 682 = .ok (.iadd, 1) := by decide +kernel
theorem dL_law_683 : decode cL_law 683 = .ok (.iaload, 1) := by decide +kernel
theorem dL_law_684 : decode cL_law 684 = .ok (.ifCond .eq 7, 3) := by decide +kernel
theorem dL_law_687 : decode cL_law 687 = .ok (.iconst 1, 1) := by decide +kernel
theorem dL_law_688 : decode cL_law 688 = .ok (.goto 4, 3) := by decide +kernel
theorem dL_law_691 : decode cL_law 691 = .ok (.iconst 0, 1) := by decide +kernel
theorem dL_law_692 : decode cL_law 692 = .ok (.invokevirtual 131, 3) := by decide +kernel
theorem dL_law_695 : decode cL_law 695 = .ok (.istore 6, 2) := by decide +kernel
theorem dL_law_697 : decode cL_law 697 = .ok (.aload_n 2, 1) := by decide +kernel
theorem dL_law_698 : decode cL_law 698 = .ok (.invokevirtual 96, 3) := by decide +kernel
theorem dL_law_701 : decode cL_law 701 = .ok (.iload 5, 2) := by decide +kernel
theorem dL_law_703 : decode cL_law 703 = .ok (.if_icmp .eq 5, 3) := by decide +kernel
theorem dL_law_706 : decode cL_law 706 = .ok (.iconst 0, 1) := by decide +kernel
theorem dL_law_707 : decode cL_law 707 = .ok (.ireturn, 1) := by decide +kernel
theorem dL_law_708 : decode cL_law 708 = .ok (.iload 5, 2) := by decide +kernel
theorem dL_law_710 : decode cL_law 710 = .ok (.ifCond .ne 15, 3) := by decide +kernel
theorem dL_law_713 : decode cL_law 713 = .ok (.aload_n 3, 1) := by decide +kernel
theorem dL_law_714 : decode cL_law 714 = .ok (.iconst 0, 1) := by decide +kernel
theorem dL_law_715 : decode cL_law 715 = .ok (.laload, 1) := by decide +kernel
theorem dL_law_716 : decode cL_law 716 = .ok (.iload 6, 2) := by decide +kernel
theorem dL_law_718 : decode cL_law 718 = .ok (.i2l, 1) := by decide +kernel
theorem dL_law_719 : decode cL_law 719 = .ok (.lcmp, 1) := by decide +kernel
theorem dL_law_720 : decode cL_law 720 = .ok (.ifCond .eq 5, 3) := by decide +kernel
theorem dL_law_723 : decode cL_law 723 = .ok (.iconst 0, 1) := by decide +kernel
theorem dL_law_724 : decode cL_law 724 = .ok (.ireturn, 1) := by decide +kernel
theorem dL_law_725 : decode cL_law 725 = .ok (.goto 988, 3) := by decide +kernel
theorem dL_law_728 : decode cL_law 728 = .ok (.aload_n 1, 1) := by decide +kernel
theorem dL_law_729 : decode cL_law 729 = .ok (.aload_n 0, 1) := by decide +kernel
theorem dL_law_730 : decode cL_law 730 = .ok (.iload 4, 2) := by decide +kernel
theorem dL_law_732 : decode cL_law 732 = .ok (.iconst 1, 1) := by decide +kernel
theorem dL_law_733 : decode cL_law 733 = .ok (.iadd, 1) := by decide +kernel
theorem dL_law_734 : decode cL_law 734 = .ok (.iaload, 1) := by decide +kernel
theorem dL_law_735 : decode cL_law 735 = .ok (.aload_n 0, 1) := by decide +kernel
theorem dL_law_736 : decode cL_law 736 = .ok (.iload 4, 2) := by decide +kernel
theorem dL_law_738 : decode cL_law 738 = .ok (.iconst 2, 1) := by decide +kernel
theorem dL_law_739 : decode cL_law 739 = .ok (.iadd, 1) := by decide +kernel
theorem dL_law_740 : decode cL_law 740 = .ok (.iaload, 1) := by decide +kernel
theorem dL_law_741 : decode cL_law 741 = .ok (.aload_n 0, 1) := by decide +kernel
theorem dL_law_742 : decode cL_law 742 = .ok (.iload 4, 2) := by decide +kernel
theorem dL_law_744 : decode cL_law 744 = .ok (.iconst 3, 1) := by decide +kernel
theorem dL_law_745 : decode cL_law 745 = .ok (.iadd, 1) := by decide +kernel
theorem dL_law_746 : decode cL_law 746 = .ok (.iaload, 1) := by decide +kernel
theorem dL_law_747 : decode cL_law 747 = .ok (.aload_n 3, 1) := by decide +kernel
theorem dL_law_748 : decode cL_law 748 = .ok (.invokestatic 132, 3) := by decide +kernel
theorem dL_law_751 : decode cL_law 751 = .ok (.istore 5, 2) := by decide +kernel
theorem dL_law_753 : decode cL_law 753 = .ok (.aload_n 2, 1) := by decide +kernel
theorem dL_law_754 : decode cL_law 754 = .ok (.aload_n 0, 1) := by decide +kernel
theorem dL_law_755 : decode cL_law 755 = .ok (.iload 4, 2) := by decide +kernel
theorem dL_law_757 : decode cL_law 757 = .ok (.iconst 1, 1) := by decide +kernel
theorem dL_law_758 : decode cL_law 758 = .ok (.iadd, 1) := by decide +kernel
theorem dL_law_759 : decode cL_law 759 = .ok (.iaload, 1) := by decide +kernel
theorem dL_law_760 : decode cL_law 760 = .ok (.aload_n 0, 1) := by decide +kernel
theorem dL_law_761 : decode cL_law 761 = .ok (.iload 4, 2) := by decide +kernel
theorem dL_law_763 : decode cL_law 763 = .ok (.iconst 2, 1) := by decide +kernel
theorem dL_law_764 : decode cL_law 764 = .ok (.iadd, 1) := by decide +kernel
theorem dL_law_765 : decode cL_law 765 = .ok (.iaload, 1) := by decide +kernel
theorem dL_law_766 : decode cL_law 766 = .ok (.aload_n 0, 1) := by decide +kernel
theorem dL_law_767 : decode cL_law 767 = .ok (.iload 4, 2) := by decide +kernel
theorem dL_law_769 : decode cL_law 769 = .ok (.iconst 3, 1) := by decide +kernel
theorem dL_law_770 : decode cL_law 770 = .ok (.iadd, 1) := by decide +kernel
theorem dL_law_771 : decode cL_law 771 = .ok (.iaload, 1) := by decide +kernel
theorem dL_law_772 : decode cL_law 772 = .ok (.invokevirtual 135, 3) := by decide +kernel
theorem dL_law_775 : decode cL_law 775 = .ok (.lstore 6, 2) := by decide +kernel
theorem dL_law_777 : decode cL_law 777 = .ok (.aload_n 2, 1) := by decide +kernel
theorem dL_law_778 : decode cL_law 778 = .ok (.invokevirtual 96, 3) := by decide +kernel
theorem dL_law_781 : decode cL_law 781 = .ok (.iload 5, 2) := by decide +kernel
theorem dL_law_783 : decode cL_law 783 = .ok (.if_icmp .eq 5, 3) := by decide +kernel
theorem dL_law_786 : decode cL_law 786 = .ok (.iconst 0, 1) := by decide +kernel
theorem dL_law_787 : decode cL_law 787 = .ok (.ireturn, 1) := by decide +kernel
theorem dL_law_788 : decode cL_law 788 = .ok (.iload 5, 2) := by decide +kernel
theorem dL_law_790 : decode cL_law 790 = .ok (.ifCond .ne 14, 3) := by decide +kernel
theorem dL_law_793 : decode cL_law 793 = .ok (.aload_n 3, 1) := by decide +kernel
theorem dL_law_794 : decode cL_law 794 = .ok (.iconst 0, 1) := by decide +kernel
theorem dL_law_795 : decode cL_law 795 = .ok (.laload, 1) := by decide +kernel
theorem dL_law_796 : decode cL_law 796 = .ok (.lload 6, 2) := by decide +kernel
theorem dL_law_798 : decode cL_law 798 = .ok (.lcmp, 1) := by decide +kernel
theorem dL_law_799 : decode cL_law 799 = .ok (.ifCond .eq 5, 3) := by decide +kernel
theorem dL_law_802 : decode cL_law 802 = .ok (.iconst 0, 1) := by decide +kernel
theorem dL_law_803 : decode cL_law 803 = .ok (.ireturn, 1) := by decide +kernel
theorem dL_law_804 : decode cL_law 804 = .ok (.goto 909, 3) := by decide +kernel
theorem dL_law_807 : decode cL_law 807 = .ok (.aload_n 1, 1) := by decide +kernel
theorem dL_law_808 : decode cL_law 808 = .ok (.aload_n 0, 1) := by decide +kernel
theorem dL_law_809 : decode cL_law 809 = .ok (.iload 4, 2) := by decide +kernel
theorem dL_law_811 : decode cL_law 811 = .ok (.iconst 1, 1) := by decide +kernel
theorem dL_law_812 : decode cL_law 812 = .ok (.iadd, 1) := by decide +kernel
theorem dL_law_813 : decode cL_law 813 = .ok (.iaload, 1) := by decide +kernel
theorem dL_law_814 : decode cL_law 814 = .ok (.aload_n 0, 1) := by decide +kernel
theorem dL_law_815 : decode cL_law 815 = .ok (.iload 4, 2) := by decide +kernel
theorem dL_law_817 : decode cL_law 817 = .ok (.iconst 2, 1) := by decide +kernel
theorem dL_law_818 : decode cL_law 818 = .ok (.iadd, 1) := by decide +kernel
theorem dL_law_819 : decode cL_law 819 = .ok (.iaload, 1) := by decide +kernel
theorem dL_law_820 : decode cL_law 820 = .ok (.ifCond .eq 7, 3) := by decide +kernel
theorem dL_law_823 : decode cL_law 823 = .ok (.iconst 1, 1) := by decide +kernel
theorem dL_law_824 : decode cL_law 824 = .ok (.goto 4, 3) := by decide +kernel
theorem dL_law_827 : decode cL_law 827 = .ok (.iconst 0, 1) := by decide +kernel
theorem dL_law_828 : decode cL_law 828 = .ok (.aload_n 0, 1) := by decide +kernel
theorem dL_law_829 : decode cL_law 829 = .ok (.iload 4, 2) := by decide +kernel
theorem dL_law_831 : decode cL_law 831 = .ok (.iconst 3, 1) := by decide +kernel
theorem dL_law_832 : decode cL_law 832 = .ok (.iadd, 1) := by decide +kernel
theorem dL_law_833 : decode cL_law 833 = .ok (.iaload, 1) := by decide +kernel
theorem dL_law_834 : decode cL_law 834 = .ok (.aload_n 3, 1) := by decide +kernel
theorem dL_law_835 : decode cL_law 835 = .ok (.invokestatic 136, 3) := by decide +kernel
theorem dL_law_838 : decode cL_law 838 = .ok (.istore 5, 2) := by decide +kernel
theorem dL_law_840 : decode cL_law 840 = .ok (.aload_n 2, 1) := by decide +kernel
theorem dL_law_841 : decode cL_law 841 = .ok (.aload_n 0, 1) := by decide +kernel
theorem dL_law_842 : decode cL_law 842 = .ok (.iload 4, 2) := by decide +kernel
theorem dL_law_844 : decode cL_law 844 = .ok (.iconst 1, 1) := by decide +kernel
theorem dL_law_845 : decode cL_law 845 = .ok (.iadd, 1) := by decide +kernel
theorem dL_law_846 : decode cL_law 846 = .ok (.iaload, 1) := by decide +kernel
theorem dL_law_847 : decode cL_law 847 = .ok (.aload_n 0, 1) := by decide +kernel
theorem dL_law_848 : decode cL_law 848 = .ok (.iload 4, 2) := by decide +kernel
theorem dL_law_850 : decode cL_law 850 = .ok (.iconst 2, 1) := by decide +kernel
theorem dL_law_851 : decode cL_law 851 = .ok (.iadd, 1) := by decide +kernel
theorem dL_law_852 : decode cL_law 852 = .ok (.iaload, 1) := by decide +kernel
theorem dL_law_853 : decode cL_law 853 = .ok (.ifCond .eq 7, 3) := by decide +kernel
theorem dL_law_856 : decode cL_law 856 = .ok (.iconst 1, 1) := by decide +kernel
theorem dL_law_857 : decode cL_law 857 = .ok (.goto 4, 3) := by decide +kernel
theorem dL_law_860 : decode cL_law 860 = .ok (.iconst 0, 1) := by decide +kernel
theorem dL_law_861 : decode cL_law 861 = .ok (.aload_n 0, 1) := by decide +kernel
theorem dL_law_862 : decode cL_law 862 = .ok (.iload 4, 2) := by decide +kernel
theorem dL_law_864 : decode cL_law 864 = .ok (.iconst 3, 1) := by decide +kernel
theorem dL_law_865 : decode cL_law 865 = .ok (.iadd, 1) := by decide +kernel
theorem dL_law_866 : decode cL_law 866 = .ok (.iaload, 1) := by decide +kernel
theorem dL_law_867 : decode cL_law 867 = .ok (.invokevirtual 139, 3) := by decide +kernel
theorem dL_law_870 : decode cL_law 870 = .ok (.lstore 6, 2) := by decide +kernel
theorem dL_law_872 : decode cL_law 872 = .ok (.aload_n 2, 1) := by decide +kernel
theorem dL_law_873 : decode cL_law 873 = .ok (.invokevirtual 96, 3) := by decide +kernel
theorem dL_law_876 : decode cL_law 876 = .ok (.iload 5, 2) := by decide +kernel
theorem dL_law_878 : decode cL_law 878 = .ok (.if_icmp .eq 5, 3) := by decide +kernel
theorem dL_law_881 : decode cL_law 881 = .ok (.iconst 0, 1) := by decide +kernel
theorem dL_law_882 : decode cL_law 882 = .ok (.ireturn, 1) := by decide +kernel
theorem dL_law_883 : decode cL_law 883 = .ok (.iload 5, 2) := by decide +kernel
theorem dL_law_885 : decode cL_law 885 = .ok (.ifCond .ne 14, 3) := by decide +kernel
theorem dL_law_888 : decode cL_law 888 = .ok (.aload_n 3, 1) := by decide +kernel
theorem dL_law_889 : decode cL_law 889 = .ok (.iconst 0, 1) := by decide +kernel
theorem dL_law_890 : decode cL_law 890 = .ok (.laload, 1) := by decide +kernel
theorem dL_law_891 : decode cL_law 891 = .ok (.lload 6, 2) := by decide +kernel
theorem dL_law_893 : decode cL_law 893 = .ok (.lcmp, 1) := by decide +kernel
theorem dL_law_894 : decode cL_law 894 = .ok (.ifCond .eq 5, 3) := by decide +kernel
theorem dL_law_897 : decode cL_law 897 = .ok (.iconst 0, 1) := by decide +kernel
theorem dL_law_898 : decode cL_law 898 = .ok (.ireturn, 1) := by decide +kernel
theorem dL_law_899 : decode cL_law 899 = .ok (.goto 814, 3) := by decide +kernel
theorem dL_law_902 : decode cL_law 902 = .ok (.aload_n 1, 1) := by decide +kernel
theorem dL_law_903 : decode cL_law 903 = .ok (.aload_n 0, 1) := by decide +kernel
theorem dL_law_904 : decode cL_law 904 = .ok (.iload 4, 2) := by decide +kernel
theorem dL_law_906 : decode cL_law 906 = .ok (.iconst 1, 1) := by decide +kernel
theorem dL_law_907 : decode cL_law 907 = .ok (.iadd, 1) := by decide +kernel
theorem dL_law_908 : decode cL_law 908 = .ok (.iaload, 1) := by decide +kernel
theorem dL_law_909 : decode cL_law 909 = .ok (.aload_n 0, 1) := by decide +kernel
theorem dL_law_910 : decode cL_law 910 = .ok (.iload 4, 2) := by decide +kernel
theorem dL_law_912 : decode cL_law 912 = .ok (.iconst 2, 1) := by decide +kernel
theorem dL_law_913 : decode cL_law 913 = .ok (.iadd, 1) := by decide +kernel
theorem dL_law_914 : decode cL_law 914 = .ok (.iaload, 1) := by decide +kernel
theorem dL_law_915 : decode cL_law 915 = .ok (.aload_n 3, 1) := by decide +kernel
theorem dL_law_916 : decode cL_law 916 = .ok (.invokestatic 140, 3) := by decide +kernel
theorem dL_law_919 : decode cL_law 919 = .ok (.istore 5, 2) := by decide +kernel
theorem dL_law_921 : decode cL_law 921 = .ok (.aload_n 2, 1) := by decide +kernel
theorem dL_law_922 : decode cL_law 922 = .ok (.aload_n 0, 1) := by decide +kernel
theorem dL_law_923 : decode cL_law 923 = .ok (.iload 4, 2) := by decide +kernel
theorem dL_law_925 : decode cL_law 925 = .ok (.iconst 1, 1) := by decide +kernel
theorem dL_law_926 : decode cL_law 926 = .ok (.iadd, 1) := by decide +kernel
theorem dL_law_927 : decode cL_law 927 = .ok (.iaload, 1) := by decide +kernel
theorem dL_law_928 : decode cL_law 928 = .ok (.aload_n 0, 1) := by decide +kernel
theorem dL_law_929 : decode cL_law 929 = .ok (.iload 4, 2) := by decide +kernel
theorem dL_law_931 : decode cL_law 931 = .ok (.iconst 2, 1) := by decide +kernel
theorem dL_law_932 : decode cL_law 932 = .ok (.iadd, 1) := by decide +kernel
theorem dL_law_933 : decode cL_law 933 = .ok (.iaload, 1) := by decide +kernel
theorem dL_law_934 : decode cL_law 934 = .ok (.invokevirtual 142, 3) := by decide +kernel
theorem dL_law_937 : decode cL_law 937 = .ok (.istore 6, 2) := by decide +kernel
theorem dL_law_939 : decode cL_law 939 = .ok (.aload_n 2, 1) := by decide +kernel
theorem dL_law_940 : decode cL_law 940 = .ok (.invokevirtual 96, 3) := by decide +kernel
theorem dL_law_943 : decode cL_law 943 = .ok (.iload 5, 2) := by decide +kernel
theorem dL_law_945 : decode cL_law 945 = .ok (.if_icmp .eq 5, 3) := by decide +kernel
theorem dL_law_948 : decode cL_law 948 = .ok (.iconst 0, 1) := by decide +kernel
theorem dL_law_949 : decode cL_law 949 = .ok (.ireturn, 1) := by decide +kernel
theorem dL_law_950 : decode cL_law 950 = .ok (.iload 5, 2) := by decide +kernel
theorem dL_law_952 : decode cL_law 952 = .ok (.ifCond .ne 15, 3) := by decide +kernel
theorem dL_law_955 : decode cL_law 955 = .ok (.aload_n 3, 1) := by decide +kernel
theorem dL_law_956 : decode cL_law 956 = .ok (.iconst 0, 1) := by decide +kernel
theorem dL_law_957 : decode cL_law 957 = .ok (.laload, 1) := by decide +kernel
theorem dL_law_958 : decode cL_law 958 = .ok (.iload 6, 2) := by decide +kernel
theorem dL_law_960 : decode cL_law 960 = .ok (.i2l, 1) := by decide +kernel
theorem dL_law_961 : decode cL_law 961 = .ok (.lcmp, 1) := by decide +kernel
theorem dL_law_962 : decode cL_law 962 = .ok (.ifCond .eq 5, 3) := by decide +kernel
theorem dL_law_965 : decode cL_law 965 = .ok (.iconst 0, 1) := by decide +kernel
theorem dL_law_966 : decode cL_law 966 = .ok (.ireturn, 1) := by decide +kernel
theorem dL_law_967 : decode cL_law 967 = .ok (.goto 746, 3) := by decide +kernel
theorem dL_law_970 : decode cL_law 970 = .ok (.aload_n 1, 1) := by decide +kernel
theorem dL_law_971 : decode cL_law 971 = .ok (.aload_n 0, 1) := by decide +kernel
theorem dL_law_972 : decode cL_law 972 = .ok (.iload 4, 2) := by decide +kernel
theorem dL_law_974 : decode cL_law 974 = .ok (.iconst 1, 1) := by decide +kernel
theorem dL_law_975 : decode cL_law 975 = .ok (.iadd, 1) := by decide +kernel
theorem dL_law_976 : decode cL_law 976 = .ok (.iaload, 1) := by decide +kernel
theorem dL_law_977 : decode cL_law 977 = .ok (.aload_n 0, 1) := by decide +kernel
theorem dL_law_978 : decode cL_law 978 = .ok (.iload 4, 2) := by decide +kernel
theorem dL_law_980 : decode cL_law 980 = .ok (.iconst 2, 1) := by decide +kernel
theorem dL_law_981 : decode cL_law 981 = .ok (.iadd, 1) := by decide +kernel
theorem dL_law_982 : decode cL_law 982 = .ok (.iaload, 1) := by decide +kernel
theorem dL_law_983 : decode cL_law 983 = .ok (.aload_n 3, 1) := by decide +kernel
theorem dL_law_984 : decode cL_law 984 = .ok (.invokestatic 143, 3) := by decide +kernel
theorem dL_law_987 : decode cL_law 987 = .ok (.istore 5, 2) := by decide +kernel
theorem dL_law_989 : decode cL_law 989 = .ok (.aload_n 2, 1) := by decide +kernel
theorem dL_law_990 : decode cL_law 990 = .ok (.aload_n 0, 1) := by decide +kernel
theorem dL_law_991 : decode cL_law 991 = .ok (.iload 4, 2) := by decide +kernel
theorem dL_law_993 : decode cL_law 993 = .ok (.iconst 1, 1) := by decide +kernel
theorem dL_law_994 : decode cL_law 994 = .ok (.iadd, 1) := by decide +kernel
theorem dL_law_995 : decode cL_law 995 = .ok (.iaload, 1) := by decide +kernel
theorem dL_law_996 : decode cL_law 996 = .ok (.aload_n 0, 1) := by decide +kernel
theorem dL_law_997 : decode cL_law 997 = .ok (.iload 4, 2) := by decide +kernel
theorem dL_law_999 : decode cL_law 999 = .ok (.iconst 2, 1) := by decide +kernel
theorem dL_law_1000 : decode cL_law 1000 = .ok (.iadd, 1) := by decide +kernel
theorem dL_law_1001 : decode cL_law 1001 = .ok (.iaload, 1) := by decide +kernel
theorem dL_law_1002 : decode cL_law 1002 = .ok (.invokevirtual 145, 3) := by decide +kernel
theorem dL_law_1005 : decode cL_law 1005 = .ok (.lstore 6, 2) := by decide +kernel
theorem dL_law_1007 : decode cL_law 1007 = .ok (.aload_n 2, 1) := by decide +kernel
theorem dL_law_1008 : decode cL_law 1008 = .ok (.invokevirtual 96, 3) := by decide +kernel
theorem dL_law_1011 : decode cL_law 1011 = .ok (.iload 5, 2) := by decide +kernel
theorem dL_law_1013 : decode cL_law 1013 = .ok (.if_icmp .eq 5, 3) := by decide +kernel
theorem dL_law_1016 : decode cL_law 1016 = .ok (.iconst 0, 1) := by decide +kernel
theorem dL_law_1017 : decode cL_law 1017 = .ok (.ireturn, 1) := by decide +kernel
theorem dL_law_1018 : decode cL_law 1018 = .ok (.iload 5, 2) := by decide +kernel
theorem dL_law_1020 : decode cL_law 1020 = .ok (.ifCond .ne 14, 3) := by decide +kernel
theorem dL_law_1023 : decode cL_law 1023 = .ok (.aload_n 3, 1) := by decide +kernel
theorem dL_law_1024 : decode cL_law 1024 = .ok (.iconst 0, 1) := by decide +kernel
theorem dL_law_1025 : decode cL_law 1025 = .ok (.laload, 1) := by decide +kernel
theorem dL_law_1026 : decode cL_law 1026 = .ok (.lload 6, 2) := by decide +kernel
theorem dL_law_1028 : decode cL_law 1028 = .ok (.lcmp, 1) := by decide +kernel
theorem dL_law_1029 : decode cL_law 1029 = .ok (.ifCond .eq 5, 3) := by decide +kernel
theorem dL_law_1032 : decode cL_law 1032 = .ok (.iconst 0, 1) := by decide +kernel
theorem dL_law_1033 : decode cL_law 1033 = .ok (.ireturn, 1) := by decide +kernel
theorem dL_law_1034 : decode cL_law 1034 = .ok (.goto 679, 3) := by decide +kernel
theorem dL_law_1037 : decode cL_law 1037 = .ok (.aload_n 1, 1) := by decide +kernel
theorem dL_law_1038 : decode cL_law 1038 = .ok (.aload_n 0, 1) := by decide +kernel
theorem dL_law_1039 : decode cL_law 1039 = .ok (.iload 4, 2) := by decide +kernel
theorem dL_law_1041 : decode cL_law 1041 = .ok (.iconst 1, 1) := by decide +kernel
theorem dL_law_1042 : decode cL_law 1042 = .ok (.iadd, 1) := by decide +kernel
theorem dL_law_1043 : decode cL_law 1043 = .ok (.iaload, 1) := by decide +kernel
theorem dL_law_1044 : decode cL_law 1044 = .ok (.aload_n 0, 1) := by decide +kernel
theorem dL_law_1045 : decode cL_law 1045 = .ok (.iload 4, 2) := by decide +kernel
theorem dL_law_1047 : decode cL_law 1047 = .ok (.iconst 2, 1) := by decide +kernel
theorem dL_law_1048 : decode cL_law 1048 = .ok (.iadd, 1) := by decide +kernel
theorem dL_law_1049 : decode cL_law 1049 = .ok (.iaload, 1) := by decide +kernel
theorem dL_law_1050 : decode cL_law 1050 = .ok (.aload_n 0, 1) := by decide +kernel
theorem dL_law_1051 : decode cL_law 1051 = .ok (.iload 4, 2) := by decide +kernel
theorem dL_law_1053 : decode cL_law 1053 = .ok (.iconst 3, 1) := by decide +kernel
theorem dL_law_1054 : decode cL_law 1054 = .ok (.iadd, 1) := by decide +kernel
theorem dL_law_1055 : decode cL_law 1055 = .ok (.iaload, 1) := by decide +kernel
theorem dL_law_1056 : decode cL_law 1056 = .ok (.aload_n 3, 1) := by decide +kernel
theorem dL_law_1057 : decode cL_law 1057 = .ok (.invokestatic 146, 3) := by decide +kernel
theorem dL_law_1060 : decode cL_law 1060 = .ok (.istore 5, 2) := by decide +kernel
theorem dL_law_1062 : decode cL_law 1062 = .ok (.aload_n 2, 1) := by decide +kernel
theorem dL_law_1063 : decode cL_law 1063 = .ok (.aload_n 0, 1) := by decide +kernel
theorem dL_law_1064 : decode cL_law 1064 = .ok (.iload 4, 2) := by decide +kernel
theorem dL_law_1066 : decode cL_law 1066 = .ok (.iconst 1, 1) := by decide +kernel
theorem dL_law_1067 : decode cL_law 1067 = .ok (.iadd, 1) := by decide +kernel
theorem dL_law_1068 : decode cL_law 1068 = .ok (.iaload, 1) := by decide +kernel
theorem dL_law_1069 : decode cL_law 1069 = .ok (.aload_n 0, 1) := by decide +kernel
theorem dL_law_1070 : decode cL_law 1070 = .ok (.iload 4, 2) := by decide +kernel
theorem dL_law_1072 : decode cL_law 1072 = .ok (.iconst 2, 1) := by decide +kernel
theorem dL_law_1073 : decode cL_law 1073 = .ok (.iadd, 1) := by decide +kernel
theorem dL_law_1074 : decode cL_law 1074 = .ok (.iaload, 1) := by decide +kernel
theorem dL_law_1075 : decode cL_law 1075 = .ok (.aload_n 0, 1) := by decide +kernel
theorem dL_law_1076 : decode cL_law 1076 = .ok (.iload 4, 2) := by decide +kernel
theorem dL_law_1078 : decode cL_law 1078 = .ok (.iconst 3, 1) := by decide +kernel
theorem dL_law_1079 : decode cL_law 1079 = .ok (.iadd, 1) := by decide +kernel
theorem dL_law_1080 : decode cL_law 1080 = .ok (.iaload, 1) := by decide +kernel
theorem dL_law_1081 : decode cL_law 1081 = .ok (.invokevirtual 148, 3) := by decide +kernel
theorem dL_law_1084 : decode cL_law 1084 = .ok (.istore 6, 2) := by decide +kernel
theorem dL_law_1086 : decode cL_law 1086 = .ok (.aload_n 2, 1) := by decide +kernel
theorem dL_law_1087 : decode cL_law 1087 = .ok (.invokevirtual 96, 3) := by decide +kernel
theorem dL_law_1090 : decode cL_law 1090 = .ok (.iload 5, 2) := by decide +kernel
theorem dL_law_1092 : decode cL_law 1092 = .ok (.if_icmp .eq 5, 3) := by decide +kernel
theorem dL_law_1095 : decode cL_law 1095 = .ok (.iconst 0, 1) := by decide +kernel
theorem dL_law_1096 : decode cL_law 1096 = .ok (.ireturn, 1) := by decide +kernel
theorem dL_law_1097 : decode cL_law 1097 = .ok (.iload 5, 2) := by decide +kernel
theorem dL_law_1099 : decode cL_law 1099 = .ok (.ifCond .ne 15, 3) := by decide +kernel
theorem dL_law_1102 : decode cL_law 1102 = .ok (.aload_n 3, 1) := by decide +kernel
theorem dL_law_1103 : decode cL_law 1103 = .ok (.iconst 0, 1) := by decide +kernel
theorem dL_law_1104 : decode cL_law 1104 = .ok (.laload, 1) := by decide +kernel
theorem dL_law_1105 : decode cL_law 1105 = .ok (.iload 6, 2) := by decide +kernel
theorem dL_law_1107 : decode cL_law 1107 = .ok (.i2l, 1) := by decide +kernel
theorem dL_law_1108 : decode cL_law 1108 = .ok (.lcmp, 1) := by decide +kernel
theorem dL_law_1109 : decode cL_law 1109 = .ok (.ifCond .eq 5, 3) := by decide +kernel
theorem dL_law_1112 : decode cL_law 1112 = .ok (.iconst 0, 1) := by decide +kernel
theorem dL_law_1113 : decode cL_law 1113 = .ok (.ireturn, 1) := by decide +kernel
theorem dL_law_1114 : decode cL_law 1114 = .ok (.goto 599, 3) := by decide +kernel
theorem dL_law_1117 : decode cL_law 1117 = .ok (.aload_n 1, 1) := by decide +kernel
theorem dL_law_1118 : decode cL_law 1118 = .ok (.aload_n 0, 1) := by decide +kernel
theorem dL_law_1119 : decode cL_law 1119 = .ok (.iload 4, 2) := by decide +kernel
theorem dL_law_1121 : decode cL_law 1121 = .ok (.iconst 1, 1) := by decide +kernel
theorem dL_law_1122 : decode cL_law 1122 = .ok (.iadd, 1) := by decide +kernel
theorem dL_law_1123 : decode cL_law 1123 = .ok (.iaload, 1) := by decide +kernel
theorem dL_law_1124 : decode cL_law 1124 = .ok (.aload_n 0, 1) := by decide +kernel
theorem dL_law_1125 : decode cL_law 1125 = .ok (.iload 4, 2) := by decide +kernel
theorem dL_law_1127 : decode cL_law 1127 = .ok (.iconst 2, 1) := by decide +kernel
theorem dL_law_1128 : decode cL_law 1128 = .ok (.iadd, 1) := by decide +kernel
theorem dL_law_1129 : decode cL_law 1129 = .ok (.iaload, 1) := by decide +kernel
theorem dL_law_1130 : decode cL_law 1130 = .ok (.aload_n 3, 1) := by decide +kernel
theorem dL_law_1131 : decode cL_law 1131 = .ok (.invokestatic 149, 3) := by decide +kernel
theorem dL_law_1134 : decode cL_law 1134 = .ok (.istore 5, 2) := by decide +kernel
theorem dL_law_1136 : decode cL_law 1136 = .ok (.aload_n 2, 1) := by decide +kernel
theorem dL_law_1137 : decode cL_law 1137 = .ok (.aload_n 0, 1) := by decide +kernel
theorem dL_law_1138 : decode cL_law 1138 = .ok (.iload 4, 2) := by decide +kernel
theorem dL_law_1140 : decode cL_law 1140 = .ok (.iconst 1, 1) := by decide +kernel
theorem dL_law_1141 : decode cL_law 1141 = .ok (.iadd, 1) := by decide +kernel
theorem dL_law_1142 : decode cL_law 1142 = .ok (.iaload, 1) := by decide +kernel
theorem dL_law_1143 : decode cL_law 1143 = .ok (.aload_n 0, 1) := by decide +kernel
theorem dL_law_1144 : decode cL_law 1144 = .ok (.iload 4, 2) := by decide +kernel
theorem dL_law_1146 : decode cL_law 1146 = .ok (.iconst 2, 1) := by decide +kernel
theorem dL_law_1147 : decode cL_law 1147 = .ok (.iadd, 1) := by decide +kernel
theorem dL_law_1148 : decode cL_law 1148 = .ok (.iaload, 1) := by decide +kernel
theorem dL_law_1149 : decode cL_law 1149 = .ok (.invokevirtual 151, 3) := by decide +kernel
theorem dL_law_1152 : decode cL_law 1152 = .ok (.istore 6, 2) := by decide +kernel
theorem dL_law_1154 : decode cL_law 1154 = .ok (.aload_n 2, 1) := by decide +kernel
theorem dL_law_1155 : decode cL_law 1155 = .ok (.invokevirtual 96, 3) := by decide +kernel
theorem dL_law_1158 : decode cL_law 1158 = .ok (.iload 5, 2) := by decide +kernel
theorem dL_law_1160 : decode cL_law 1160 = .ok (.if_icmp .eq 5, 3) := by decide +kernel
theorem dL_law_1163 : decode cL_law 1163 = .ok (.iconst 0, 1) := by decide +kernel
theorem dL_law_1164 : decode cL_law 1164 = .ok (.ireturn, 1) := by decide +kernel
theorem dL_law_1165 : decode cL_law 1165 = .ok (.iload 5, 2) := by decide +kernel
theorem dL_law_1167 : decode cL_law 1167 = .ok (.ifCond .ne 15, 3) := by decide +kernel
theorem dL_law_1170 : decode cL_law 1170 = .ok (.aload_n 3, 1) := by decide +kernel
theorem dL_law_1171 : decode cL_law 1171 = .ok (.iconst 0, 1) := by decide +kernel
theorem dL_law_1172 : decode cL_law 1172 = .ok (.laload, 1) := by decide +kernel
theorem dL_law_1173 : decode cL_law 1173 = .ok (.iload 6, 2) := by decide +kernel
theorem dL_law_1175 : decode cL_law 1175 = .ok (.i2l, 1) := by decide +kernel
theorem dL_law_1176 : decode cL_law 1176 = .ok (.lcmp, 1) := by decide +kernel
theorem dL_law_1177 : decode cL_law 1177 = .ok (.ifCond .eq 5, 3) := by decide +kernel
theorem dL_law_1180 : decode cL_law 1180 = .ok (.iconst 0, 1) := by decide +kernel
theorem dL_law_1181 : decode cL_law 1181 = .ok (.ireturn, 1) := by decide +kernel
theorem dL_law_1182 : decode cL_law 1182 = .ok (.goto 531, 3) := by decide +kernel
theorem dL_law_1185 : decode cL_law 1185 = .ok (.aload_n 1, 1) := by decide +kernel
theorem dL_law_1186 : decode cL_law 1186 = .ok (.aload_n 0, 1) := by decide +kernel
theorem dL_law_1187 : decode cL_law 1187 = .ok (.iload 4, 2) := by decide +kernel
theorem dL_law_1189 : decode cL_law 1189 = .ok (.iconst 1, 1) := by decide +kernel
theorem dL_law_1190 : decode cL_law 1190 = .ok (.iadd, 1) := by decide +kernel
theorem dL_law_1191 : decode cL_law 1191 = .ok (.iaload, 1) := by decide +kernel
theorem dL_law_1192 : decode cL_law 1192 = .ok (.aload_n 0, 1) := by decide +kernel
theorem dL_law_1193 : decode cL_law 1193 = .ok (.iload 4, 2) := by decide +kernel
theorem dL_law_1195 : decode cL_law 1195 = .ok (.iconst 2, 1) := by decide +kernel
theorem dL_law_1196 : decode cL_law 1196 = .ok (.iadd, 1) := by decide +kernel
theorem dL_law_1197 : decode cL_law 1197 = .ok (.iaload, 1) := by decide +kernel
theorem dL_law_1198 : decode cL_law 1198 = .ok (.aload_n 3, 1) := by decide +kernel
theorem dL_law_1199 : decode cL_law 1199 = .ok (.invokestatic 152, 3) := by decide +kernel
theorem dL_law_1202 : decode cL_law 1202 = .ok (.istore 5, 2) := by decide +kernel
theorem dL_law_1204 : decode cL_law 1204 = .ok (.aload_n 2, 1) := by decide +kernel
theorem dL_law_1205 : decode cL_law 1205 = .ok (.aload_n 0, 1) := by decide +kernel
theorem dL_law_1206 : decode cL_law 1206 = .ok (.iload 4, 2) := by decide +kernel
theorem dL_law_1208 : decode cL_law 1208 = .ok (.iconst 1, 1) := by decide +kernel
theorem dL_law_1209 : decode cL_law 1209 = .ok (.iadd, 1) := by decide +kernel
theorem dL_law_1210 : decode cL_law 1210 = .ok (.iaload, 1) := by decide +kernel
theorem dL_law_1211 : decode cL_law 1211 = .ok (.aload_n 0, 1) := by decide +kernel
theorem dL_law_1212 : decode cL_law 1212 = .ok (.iload 4, 2) := by decide +kernel
theorem dL_law_1214 : decode cL_law 1214 = .ok (.iconst 2, 1) := by decide +kernel
theorem dL_law_1215 : decode cL_law 1215 = .ok (.iadd, 1) := by decide +kernel
theorem dL_law_1216 : decode cL_law 1216 = .ok (.iaload, 1) := by decide +kernel
theorem dL_law_1217 : decode cL_law 1217 = .ok (.invokevirtual 154, 3) := by decide +kernel
theorem dL_law_1220 : decode cL_law 1220 = .ok (.istore 6, 2) := by decide +kernel
theorem dL_law_1222 : decode cL_law 1222 = .ok (.aload_n 2, 1) := by decide +kernel
theorem dL_law_1223 : decode cL_law 1223 = .ok (.invokevirtual 96, 3) := by decide +kernel
theorem dL_law_1226 : decode cL_law 1226 = .ok (.iload 5, 2) := by decide +kernel
theorem dL_law_1228 : decode cL_law 1228 = .ok (.if_icmp .eq 5, 3) := by decide +kernel
theorem dL_law_1231 : decode cL_law 1231 = .ok (.iconst 0, 1) := by decide +kernel
theorem dL_law_1232 : decode cL_law 1232 = .ok (.ireturn, 1) := by decide +kernel
theorem dL_law_1233 : decode cL_law 1233 = .ok (.iload 5, 2) := by decide +kernel
theorem dL_law_1235 : decode cL_law 1235 = .ok (.ifCond .ne 15, 3) := by decide +kernel
theorem dL_law_1238 : decode cL_law 1238 = .ok (.aload_n 3, 1) := by decide +kernel
theorem dL_law_1239 : decode cL_law 1239 = .ok (.iconst 0, 1) := by decide +kernel
theorem dL_law_1240 : decode cL_law 1240 = .ok (.laload, 1) := by decide +kernel
theorem dL_law_1241 : decode cL_law 1241 = .ok (.iload 6, 2) := by decide +kernel
theorem dL_law_1243 : decode cL_law 1243 = .ok (.i2l, 1) := by decide +kernel
theorem dL_law_1244 : decode cL_law 1244 = .ok (.lcmp, 1) := by decide +kernel
theorem dL_law_1245 : decode cL_law 1245 = .ok (.ifCond .eq 5, 3) := by decide +kernel
theorem dL_law_1248 : decode cL_law 1248 = .ok (.iconst 0, 1) := by decide +kernel
theorem dL_law_1249 : decode cL_law 1249 = .ok (.ireturn, 1) := by decide +kernel
theorem dL_law_1250 : decode cL_law 1250 = .ok (.goto 463, 3) := by decide +kernel
theorem dL_law_1253 : decode cL_law 1253 = .ok (.aload_n 1, 1) := by decide +kernel
theorem dL_law_1254 : decode cL_law 1254 = .ok (.aload_n 0, 1) := by decide +kernel
theorem dL_law_1255 : decode cL_law 1255 = .ok (.iload 4, 2) := by decide +kernel
theorem dL_law_1257 : decode cL_law 1257 = .ok (.iconst 1, 1) := by decide +kernel
theorem dL_law_1258 : decode cL_law 1258 = .ok (.iadd, 1) := by decide +kernel
theorem dL_law_1259 : decode cL_law 1259 = .ok (.iaload, 1) := by decide +kernel
theorem dL_law_1260 : decode cL_law 1260 = .ok (.aload_n 0, 1) := by decide +kernel
theorem dL_law_1261 : decode cL_law 1261 = .ok (.iload 4, 2) := by decide +kernel
theorem dL_law_1263 : decode cL_law 1263 = .ok (.iconst 2, 1) := by decide +kernel
theorem dL_law_1264 : decode cL_law 1264 = .ok (.iadd, 1) := by decide +kernel
theorem dL_law_1265 : decode cL_law 1265 = .ok (.iaload, 1) := by decide +kernel
theorem dL_law_1266 : decode cL_law 1266 = .ok (.aload_n 0, 1) := by decide +kernel
theorem dL_law_1267 : decode cL_law 1267 = .ok (.iload 4, 2) := by decide +kernel
theorem dL_law_1269 : decode cL_law 1269 = .ok (.iconst 3, 1) := by decide +kernel
theorem dL_law_1270 : decode cL_law 1270 = .ok (.iadd, 1) := by decide +kernel
theorem dL_law_1271 : decode cL_law 1271 = .ok (.iaload, 1) := by decide +kernel
theorem dL_law_1272 : decode cL_law 1272 = .ok (.aload_n 0, 1) := by decide +kernel
theorem dL_law_1273 : decode cL_law 1273 = .ok (.iload 4, 2) := by decide +kernel
theorem dL_law_1275 : decode cL_law 1275 = .ok (.iconst 4, 1) := by decide +kernel
theorem dL_law_1276 : decode cL_law 1276 = .ok (.iadd, 1) := by decide +kernel
theorem dL_law_1277 : decode cL_law 1277 = .ok (.iaload, 1) := by decide +kernel
theorem dL_law_1278 : decode cL_law 1278 = .ok (.ifCond .eq 7, 3) := by decide +kernel
theorem dL_law_1281 : decode cL_law 1281 = .ok (.iconst 1, 1) := by decide +kernel
theorem dL_law_1282 : decode cL_law 1282 = .ok (.goto 4, 3) := by decide +kernel
theorem dL_law_1285 : decode cL_law 1285 = .ok (.iconst 0, 1) := by decide +kernel
theorem dL_law_1286 : decode cL_law 1286 = .ok (.aload_n 0, 1) := by decide +kernel
theorem dL_law_1287 : decode cL_law 1287 = .ok (.iload 4, 2) := by decide +kernel
theorem dL_law_1289 : decode cL_law 1289 = .ok (.iconst 5, 1) := by decide +kernel
theorem dL_law_1290 : decode cL_law 1290 = .ok (.iadd, 1) := by decide +kernel
theorem dL_law_1291 : decode cL_law 1291 = .ok (.iaload, 1) := by decide +kernel
theorem dL_law_1292 : decode cL_law 1292 = .ok (.aload_n 3, 1) := by decide +kernel
theorem dL_law_1293 : decode cL_law 1293 = .ok (.invokestatic 155, 3) := by decide +kernel
theorem dL_law_1296 : decode cL_law 1296 = .ok (.istore 5, 2) := by decide +kernel
theorem dL_law_1298 : decode cL_law 1298 = .ok (.aload_n 2, 1) := by decide +kernel
theorem dL_law_1299 : decode cL_law 1299 = .ok (.aload_n 0, 1) := by decide +kernel
theorem dL_law_1300 : decode cL_law 1300 = .ok (.iload 4, 2) := by decide +kernel
theorem dL_law_1302 : decode cL_law 1302 = .ok (.iconst 1, 1) := by decide +kernel
theorem dL_law_1303 : decode cL_law 1303 = .ok (.iadd, 1) := by decide +kernel
theorem dL_law_1304 : decode cL_law 1304 = .ok (.iaload, 1) := by decide +kernel
theorem dL_law_1305 : decode cL_law 1305 = .ok (.aload_n 0, 1) := by decide +kernel
theorem dL_law_1306 : decode cL_law 1306 = .ok (.iload 4, 2) := by decide +kernel
theorem dL_law_1308 : decode cL_law 1308 = .ok (.iconst 2, 1) := by decide +kernel
theorem dL_law_1309 : decode cL_law 1309 = .ok (.iadd, 1) := by decide +kernel
theorem dL_law_1310 : decode cL_law 1310 = .ok (.iaload, 1) := by decide +kernel
theorem dL_law_1311 : decode cL_law 1311 = .ok (.aload_n 0, 1) := by decide +kernel
theorem dL_law_1312 : decode cL_law 1312 = .ok (.iload 4, 2) := by decide +kernel
theorem dL_law_1314 : decode cL_law 1314 = .ok (.iconst 3, 1) := by decide +kernel
theorem dL_law_1315 : decode cL_law 1315 = .ok (.iadd, 1) := by decide +kernel
theorem dL_law_1316 : decode cL_law 1316 = .ok (.iaload, 1) := by decide +kernel
theorem dL_law_1317 : decode cL_law 1317 = .ok (.aload_n 0, 1) := by decide +kernel
theorem dL_law_1318 : decode cL_law 1318 = .ok (.iload 4, 2) := by decide +kernel
theorem dL_law_1320 : decode cL_law 1320 = .ok (.iconst 4, 1) := by decide +kernel
theorem dL_law_1321 : decode cL_law 1321 = .ok (.iadd, 1) := by decide +kernel
theorem dL_law_1322 : decode cL_law 1322 = .ok (.iaload, 1) := by decide +kernel
theorem dL_law_1323 : decode cL_law 1323 = .ok (.ifCond .eq 7, 3) := by decide +kernel
theorem dL_law_1326 : decode cL_law 1326 = .ok (.iconst 1, 1) := by decide +kernel
theorem dL_law_1327 : decode cL_law 1327 = .ok (.goto 4, 3) := by decide +kernel
theorem dL_law_1330 : decode cL_law 1330 = .ok (.iconst 0, 1) := by decide +kernel
theorem dL_law_1331 : decode cL_law 1331 = .ok (.aload_n 0, 1) := by decide +kernel
theorem dL_law_1332 : decode cL_law 1332 = .ok (.iload 4, 2) := by decide +kernel
theorem dL_law_1334 : decode cL_law 1334 = .ok (.iconst 5, 1) := by decide +kernel
theorem dL_law_1335 : decode cL_law 1335 = .ok (.iadd, 1) := by decide +kernel
theorem dL_law_1336 : decode cL_law 1336 = .ok (.iaload, 1) := by decide +kernel
theorem dL_law_1337 : decode cL_law 1337 = .ok (.invokevirtual 158, 3) := by decide +kernel
theorem dL_law_1340 : decode cL_law 1340 = .ok (.istore 6, 2) := by decide +kernel
theorem dL_law_1342 : decode cL_law 1342 = .ok (.aload_n 2, 1) := by decide +kernel
theorem dL_law_1343 : decode cL_law 1343 = .ok (.invokevirtual 96, 3) := by decide +kernel
theorem dL_law_1346 : decode cL_law 1346 = .ok (.iload 5, 2) := by decide +kernel
theorem dL_law_1348 : decode cL_law 1348 = .ok (.if_icmp .eq 5, 3) := by decide +kernel
theorem dL_law_1351 : decode cL_law 1351 = .ok (.iconst 0, 1) := by decide +kernel
theorem dL_law_1352 : decode cL_law 1352 = .ok (.ireturn, 1) := by decide +kernel
theorem dL_law_1353 : decode cL_law 1353 = .ok (.iload 5, 2) := by decide +kernel
theorem dL_law_1355 : decode cL_law 1355 = .ok (.ifCond .ne 15, 3) := by decide +kernel
theorem dL_law_1358 : decode cL_law 1358 = .ok (.aload_n 3, 1) := by decide +kernel
theorem dL_law_1359 : decode cL_law 1359 = .ok (.iconst 0, 1) := by decide +kernel
theorem dL_law_1360 : decode cL_law 1360 = .ok (.laload, 1) := by decide +kernel
theorem dL_law_1361 : decode cL_law 1361 = .ok (.iload 6, 2) := by decide +kernel
theorem dL_law_1363 : decode cL_law 1363 = .ok (.i2l, 1) := by decide +kernel
theorem dL_law_1364 : decode cL_law 1364 = .ok (.lcmp, 1) := by decide +kernel
theorem dL_law_1365 : decode cL_law 1365 = .ok (.ifCond .eq 5, 3) := by decide +kernel
theorem dL_law_1368 : decode cL_law 1368 = .ok (.iconst 0, 1) := by decide +kernel
theorem dL_law_1369 : decode cL_law 1369 = .ok (.ireturn, 1) := by decide +kernel
theorem dL_law_1370 : decode cL_law 1370 = .ok (.goto 343, 3) := by decide +kernel
theorem dL_law_1373 : decode cL_law 1373 = .ok (.aload_n 1, 1) := by decide +kernel
theorem dL_law_1374 : decode cL_law 1374 = .ok (.aload_n 0, 1) := by decide +kernel
theorem dL_law_1375 : decode cL_law 1375 = .ok (.iload 4, 2) := by decide +kernel
theorem dL_law_1377 : decode cL_law 1377 = .ok (.iconst 1, 1) := by decide +kernel
theorem dL_law_1378 : decode cL_law 1378 = .ok (.iadd, 1) := by decide +kernel
theorem dL_law_1379 : decode cL_law 1379 = .ok (.iaload, 1) := by decide +kernel
theorem dL_law_1380 : decode cL_law 1380 = .ok (.aload_n 3, 1) := by decide +kernel
theorem dL_law_1381 : decode cL_law 1381 = .ok (.invokestatic 159, 3) := by decide +kernel
theorem dL_law_1384 : decode cL_law 1384 = .ok (.istore 5, 2) := by decide +kernel
theorem dL_law_1386 : decode cL_law 1386 = .ok (.aload_n 2, 1) := by decide +kernel
theorem dL_law_1387 : decode cL_law 1387 = .ok (.aload_n 0, 1) := by decide +kernel
theorem dL_law_1388 : decode cL_law 1388 = .ok (.iload 4, 2) := by decide +kernel
theorem dL_law_1390 : decode cL_law 1390 = .ok (.iconst 1, 1) := by decide +kernel
theorem dL_law_1391 : decode cL_law 1391 = .ok (.iadd, 1) := by decide +kernel
theorem dL_law_1392 : decode cL_law 1392 = .ok (.iaload, 1) := by decide +kernel
theorem dL_law_1393 : decode cL_law 1393 = .ok (.invokevirtual 161, 3) := by decide +kernel
theorem dL_law_1396 : decode cL_law 1396 = .ok (.istore 6, 2) := by decide +kernel
theorem dL_law_1398 : decode cL_law 1398 = .ok (.aload_n 2, 1) := by decide +kernel
theorem dL_law_1399 : decode cL_law 1399 = .ok (.invokevirtual 96, 3) := by decide +kernel
theorem dL_law_1402 : decode cL_law 1402 = .ok (.iload 5, 2) := by decide +kernel
theorem dL_law_1404 : decode cL_law 1404 = .ok (.if_icmp .eq 5, 3) := by decide +kernel
theorem dL_law_1407 : decode cL_law 1407 = .ok (.iconst 0, 1) := by decide +kernel
theorem dL_law_1408 : decode cL_law 1408 = .ok (.ireturn, 1) := by decide +kernel
theorem dL_law_1409 : decode cL_law 1409 = .ok (.iload 5, 2) := by decide +kernel
theorem dL_law_1411 : decode cL_law 1411 = .ok (.ifCond .ne 15, 3) := by decide +kernel
theorem dL_law_1414 : decode cL_law 1414 = .ok (.aload_n 3, 1) := by decide +kernel
theorem dL_law_1415 : decode cL_law 1415 = .ok (.iconst 0, 1) := by decide +kernel
theorem dL_law_1416 : decode cL_law 1416 = .ok (.laload, 1) := by decide +kernel
theorem dL_law_1417 : decode cL_law 1417 = .ok (.iload 6, 2) := by decide +kernel
theorem dL_law_1419 : decode cL_law 1419 = .ok (.i2l, 1) := by decide +kernel
theorem dL_law_1420 : decode cL_law 1420 = .ok (.lcmp, 1) := by decide +kernel
theorem dL_law_1421 : decode cL_law 1421 = .ok (.ifCond .eq 5, 3) := by decide +kernel
theorem dL_law_1424 : decode cL_law 1424 = .ok (.iconst 0, 1) := by decide +kernel
theorem dL_law_1425 : decode cL_law 1425 = .ok (.ireturn, 1) := by decide +kernel
theorem dL_law_1426 : decode cL_law 1426 = .ok (.goto 287, 3) := by decide +kernel
theorem dL_law_1429 : decode cL_law 1429 = .ok (.aload_n 1, 1) := by decide +kernel
theorem dL_law_1430 : decode cL_law 1430 = .ok (.aload_n 0, 1) := by decide +kernel
theorem dL_law_1431 : decode cL_law 1431 = .ok (.iload 4, 2) := by decide +kernel
theorem dL_law_1433 : decode cL_law 1433 = .ok (.iconst 1, 1) := by decide +kernel
theorem dL_law_1434 : decode cL_law 1434 = .ok (.iadd, 1) := by decide +kernel
theorem dL_law_1435 : decode cL_law 1435 = .ok (.iaload, 1) := by decide +kernel
theorem dL_law_1436 : decode cL_law 1436 = .ok (.aload_n 3, 1) := by decide +kernel
theorem dL_law_1437 : decode cL_law 1437 = .ok (.invokestatic 162, 3) := by decide +kernel
theorem dL_law_1440 : decode cL_law 1440 = .ok (.istore 5, 2) := by decide +kernel
theorem dL_law_1442 : decode cL_law 1442 = .ok (.aload_n 2, 1) := by decide +kernel
theorem dL_law_1443 : decode cL_law 1443 = .ok (.aload_n 0, 1) := by decide +kernel
theorem dL_law_1444 : decode cL_law 1444 = .ok (.iload 4, 2) := by decide +kernel
theorem dL_law_1446 : decode cL_law 1446 = .ok (.iconst 1, 1) := by decide +kernel
theorem dL_law_1447 : decode cL_law 1447 = .ok (.iadd, 1) := by decide +kernel
theorem dL_law_1448 : decode cL_law 1448 = .ok (.iaload, 1) := by decide +kernel
theorem dL_law_1449 : decode cL_law 1449 = .ok (.invokevirtual 164, 3) := by decide +kernel
theorem dL_law_1452 : decode cL_law 1452 = .ok (.istore 6, 2) := by decide +kernel
theorem dL_law_1454 : decode cL_law 1454 = .ok (.aload_n 2, 1) := by decide +kernel
theorem dL_law_1455 : decode cL_law 1455 = .ok (.invokevirtual 96, 3) := by decide +kernel
theorem dL_law_1458 : decode cL_law 1458 = .ok (.iload 5, 2) := by decide +kernel
theorem dL_law_1460 : decode cL_law 1460 = .ok (.if_icmp .eq 5, 3) := by decide +kernel
theorem dL_law_1463 : decode cL_law 1463 = .ok (.iconst 0, 1) := by decide +kernel
theorem dL_law_1464 : decode cL_law 1464 = .ok (.ireturn, 1) := by decide +kernel
theorem dL_law_1465 : decode cL_law 1465 = .ok (.iload 5, 2) := by decide +kernel
theorem dL_law_1467 : decode cL_law 1467 = .ok (.ifCond .ne 15, 3) := by decide +kernel
theorem dL_law_1470 : decode cL_law 1470 = .ok (.aload_n 3, 1) := by decide +kernel
theorem dL_law_1471 : decode cL_law 1471 = .ok (.iconst 0, 1) := by decide +kernel
theorem dL_law_1472 : decode cL_law 1472 = .ok (.laload, 1) := by decide +kernel
theorem dL_law_1473 : decode cL_law 1473 = .ok (.iload 6, 2) := by decide +kernel
theorem dL_law_1475 : decode cL_law 1475 = .ok (.i2l, 1) := by decide +kernel
theorem dL_law_1476 : decode cL_law 1476 = .ok (.lcmp, 1) := by decide +kernel
theorem dL_law_1477 : decode cL_law 1477 = .ok (.ifCond .eq 5, 3) := by decide +kernel
theorem dL_law_1480 : decode cL_law 1480 = .ok (.iconst 0, 1) := by decide +kernel
theorem dL_law_1481 : decode cL_law 1481 = .ok (.ireturn, 1) := by decide +kernel
theorem dL_law_1482 : decode cL_law 1482 = .ok (.goto 231, 3) := by decide +kernel
theorem dL_law_1485 : decode cL_law 1485 = .ok (.aload_n 1, 1) := by decide +kernel
theorem dL_law_1486 : decode cL_law 1486 = .ok (.aload_n 0, 1) := by decide +kernel
theorem dL_law_1487 : decode cL_law 1487 = .ok (.iload 4, 2) := by decide +kernel
theorem dL_law_1489 : decode cL_law 1489 = .ok (.iconst 1, 1) := by decide +kernel
theorem dL_law_1490 : decode cL_law 1490 = .ok (.iadd, 1) := by decide +kernel
theorem dL_law_1491 : decode cL_law 1491 = .ok (.iaload, 1) := by decide +kernel
theorem dL_law_1492 : decode cL_law 1492 = .ok (.aload_n 3, 1) := by decide +kernel
theorem dL_law_1493 : decode cL_law 1493 = .ok (.invokestatic 165, 3) := by decide +kernel
theorem dL_law_1496 : decode cL_law 1496 = .ok (.istore 5, 2) := by decide +kernel
theorem dL_law_1498 : decode cL_law 1498 = .ok (.aload_n 2, 1) := by decide +kernel
theorem dL_law_1499 : decode cL_law 1499 = .ok (.aload_n 0, 1) := by decide +kernel
theorem dL_law_1500 : decode cL_law 1500 = .ok (.iload 4, 2) := by decide +kernel
theorem dL_law_1502 : decode cL_law 1502 = .ok (.iconst 1, 1) := by decide +kernel
theorem dL_law_1503 : decode cL_law 1503 = .ok (.iadd, 1) := by decide +kernel
theorem dL_law_1504 : decode cL_law 1504 = .ok (.iaload, 1) := by decide +kernel
theorem dL_law_1505 : decode cL_law 1505 = .ok (.invokevirtual 167, 3) := by decide +kernel
theorem dL_law_1508 : decode cL_law 1508 = .ok (.istore 6, 2) := by decide +kernel
theorem dL_law_1510 : decode cL_law 1510 = .ok (.aload_n 2, 1) := by decide +kernel
theorem dL_law_1511 : decode cL_law 1511 = .ok (.invokevirtual 96, 3) := by decide +kernel
theorem dL_law_1514 : decode cL_law 1514 = .ok (.iload 5, 2) := by decide +kernel
theorem dL_law_1516 : decode cL_law 1516 = .ok (.if_icmp .eq 5, 3) := by decide +kernel
theorem dL_law_1519 : decode cL_law 1519 = .ok (.iconst 0, 1) := by decide +kernel
theorem dL_law_1520 : decode cL_law 1520 = .ok (.ireturn, 1) := by decide +kernel
theorem dL_law_1521 : decode cL_law 1521 = .ok (.iload 5, 2) := by decide +kernel
theorem dL_law_1523 : decode cL_law 1523 = .ok (.ifCond .ne 15, 3) := by decide +kernel
theorem dL_law_1526 : decode cL_law 1526 = .ok (.aload_n 3, 1) := by decide +kernel
theorem dL_law_1527 : decode cL_law 1527 = .ok (.iconst 0, 1) := by decide +kernel
theorem dL_law_1528 : decode cL_law 1528 = .ok (.laload, 1) := by decide +kernel
theorem dL_law_1529 : decode cL_law 1529 = .ok (.iload 6, 2) := by decide +kernel
theorem dL_law_1531 : decode cL_law 1531 = .ok (.i2l, 1) := by decide +kernel
theorem dL_law_1532 : decode cL_law 1532 = .ok (.lcmp, 1) := by decide +kernel
theorem dL_law_1533 : decode cL_law 1533 = .ok (.ifCond .eq 5, 3) := by decide +kernel
theorem dL_law_1536 : decode cL_law 1536 = .ok (.iconst 0, 1) := by decide +kernel
theorem dL_law_1537 : decode cL_law 1537 = .ok (.ireturn, 1) := by decide +kernel
theorem dL_law_1538 : decode cL_law 1538 = .ok (.goto 175, 3) := by decide +kernel
theorem dL_law_1541 : decode cL_law 1541 = .ok (.aload_n 1, 1) := by decide +kernel
theorem dL_law_1542 : decode cL_law 1542 = .ok (.aload_n 0, 1) := by decide +kernel
theorem dL_law_1543 : decode cL_law 1543 = .ok (.iload 4, 2) := by decide +kernel
theorem dL_law_1545 : decode cL_law 1545 = .ok (.iconst 1, 1) := by decide +kernel
theorem dL_law_1546 : decode cL_law 1546 = .ok (.iadd, 1) := by decide +kernel
theorem dL_law_1547 : decode cL_law 1547 = .ok (.iaload, 1) := by decide +kernel
theorem dL_law_1548 : decode cL_law 1548 = .ok (.aload_n 0, 1) := by decide +kernel
theorem dL_law_1549 : decode cL_law 1549 = .ok (.iload 4, 2) := by decide +kernel
theorem dL_law_1551 : decode cL_law 1551 = .ok (.iconst 2, 1) := by decide +kernel
theorem dL_law_1552 : decode cL_law 1552 = .ok (.iadd, 1) := by decide +kernel
theorem dL_law_1553 : decode cL_law 1553 = .ok (.iaload, 1) := by decide +kernel
theorem dL_law_1554 : decode cL_law 1554 = .ok (.aload_n 3, 1) := by decide +kernel
theorem dL_law_1555 : decode cL_law 1555 = .ok (.invokestatic 168, 3) := by decide +kernel
theorem dL_law_1558 : decode cL_law 1558 = .ok (.istore 5, 2) := by decide +kernel
theorem dL_law_1560 : decode cL_law 1560 = .ok (.aload_n 2, 1) := by decide +kernel
theorem dL_law_1561 : decode cL_law 1561 = .ok (.aload_n 0, 1) := by decide +kernel
theorem dL_law_1562 : decode cL_law 1562 = .ok (.iload 4, 2) := by decide +kernel
theorem dL_law_1564 : decode cL_law 1564 = .ok (.iconst 1, 1) := by decide +kernel
theorem dL_law_1565 : decode cL_law 1565 = .ok (.iadd, 1) := by decide +kernel
theorem dL_law_1566 : decode cL_law 1566 = .ok (.iaload, 1) := by decide +kernel
theorem dL_law_1567 : decode cL_law 1567 = .ok (.aload_n 0, 1) := by decide +kernel
theorem dL_law_1568 : decode cL_law 1568 = .ok (.iload 4, 2) := by decide +kernel
theorem dL_law_1570 : decode cL_law 1570 = .ok (.iconst 2, 1) := by decide +kernel
theorem dL_law_1571 : decode cL_law 1571 = .ok (.iadd, 1) := by decide +kernel
theorem dL_law_1572 : decode cL_law 1572 = .ok (.iaload, 1) := by decide +kernel
theorem dL_law_1573 : decode cL_law 1573 = .ok (.invokevirtual 170, 3) := by decide +kernel
theorem dL_law_1576 : decode cL_law 1576 = .ok (.istore 6, 2) := by decide +kernel
theorem dL_law_1578 : decode cL_law 1578 = .ok (.aload_n 2, 1) := by decide +kernel
theorem dL_law_1579 : decode cL_law 1579 = .ok (.invokevirtual 96, 3) := by decide +kernel
theorem dL_law_1582 : decode cL_law 1582 = .ok (.iload 5, 2) := by decide +kernel
theorem dL_law_1584 : decode cL_law 1584 = .ok (.if_icmp .eq 5, 3) := by decide +kernel
theorem dL_law_1587 : decode cL_law 1587 = .ok (.iconst 0, 1) := by decide +kernel
theorem dL_law_1588 : decode cL_law 1588 = .ok (.ireturn, 1) := by decide +kernel
theorem dL_law_1589 : decode cL_law 1589 = .ok (.iload 5, 2) := by decide +kernel
theorem dL_law_1591 : decode cL_law 1591 = .ok (.ifCond .ne 15, 3) := by decide +kernel
theorem dL_law_1594 : decode cL_law 1594 = .ok (.aload_n 3, 1) := by decide +kernel
theorem dL_law_1595 : decode cL_law 1595 = .ok (.iconst 0, 1) := by decide +kernel
theorem dL_law_1596 : decode cL_law 1596 = .ok (.laload, 1) := by decide +kernel
theorem dL_law_1597 : decode cL_law 1597 = .ok (.iload 6, 2) := by decide +kernel
theorem dL_law_1599 : decode cL_law 1599 = .ok (.i2l, 1) := by decide +kernel
theorem dL_law_1600 : decode cL_law 1600 = .ok (.lcmp, 1) := by decide +kernel
theorem dL_law_1601 : decode cL_law 1601 = .ok (.ifCond .eq 5, 3) := by decide +kernel
theorem dL_law_1604 : decode cL_law 1604 = .ok (.iconst 0, 1) := by decide +kernel
theorem dL_law_1605 : decode cL_law 1605 = .ok (.ireturn, 1) := by decide +kernel
theorem dL_law_1606 : decode cL_law 1606 = .ok (.goto 107, 3) := by decide +kernel
theorem dL_law_1609 : decode cL_law 1609 = .ok (.aload_n 1, 1) := by decide +kernel
theorem dL_law_1610 : decode cL_law 1610 = .ok (.aload_n 0, 1) := by decide +kernel
theorem dL_law_1611 : decode cL_law 1611 = .ok (.iload 4, 2) := by decide +kernel
theorem dL_law_1613 : decode cL_law 1613 = .ok (.iconst 1, 1) := by decide +kernel
theorem dL_law_1614 : decode cL_law 1614 = .ok (.iadd, 1) := by decide +kernel
theorem dL_law_1615 : decode cL_law 1615 = .ok (.iaload, 1) := by decide +kernel
theorem dL_law_1616 : decode cL_law 1616 = .ok (.aload_n 0, 1) := by decide +kernel
theorem dL_law_1617 : decode cL_law 1617 = .ok (.iload 4, 2) := by decide +kernel
theorem dL_law_1619 : decode cL_law 1619 = .ok (.iconst 2, 1) := by decide +kernel
theorem dL_law_1620 : decode cL_law 1620 = .ok (.iadd, 1) := by decide +kernel
theorem dL_law_1621 : decode cL_law 1621 = .ok (.iaload, 1) := by decide +kernel
theorem dL_law_1622 : decode cL_law 1622 = .ok (.aload_n 0, 1) := by decide +kernel
theorem dL_law_1623 : decode cL_law 1623 = .ok (.iload 4, 2) := by decide +kernel
theorem dL_law_1625 : decode cL_law 1625 = .ok (.iconst 3, 1) := by decide +kernel
theorem dL_law_1626 : decode cL_law 1626 = .ok (.iadd, 1) := by decide +kernel
theorem dL_law_1627 : decode cL_law 1627 = .ok (.iaload, 1) := by decide +kernel
theorem dL_law_1628 : decode cL_law 1628 = .ok (.aload_n 3, 1) := by decide +kernel
theorem dL_law_1629 : decode cL_law 1629 = .ok (.invokestatic 171, 3) := by decide +kernel
theorem dL_law_1632 : decode cL_law 1632 = .ok (.istore 5, 2) := by decide +kernel
theorem dL_law_1634 : decode cL_law 1634 = .ok (.aload_n 2, 1) := by decide +kernel
theorem dL_law_1635 : decode cL_law 1635 = .ok (.aload_n 0, 1) := by decide +kernel
theorem dL_law_1636 : decode cL_law 1636 = .ok (.iload 4, 2) := by decide +kernel
theorem dL_law_1638 : decode cL_law 1638 = .ok (.iconst 1, 1) := by decide +kernel
theorem dL_law_1639 : decode cL_law 1639 = .ok (.iadd, 1) := by decide +kernel
theorem dL_law_1640 : decode cL_law 1640 = .ok (.iaload, 1) := by decide +kernel
theorem dL_law_1641 : decode cL_law 1641 = .ok (.aload_n 0, 1) := by decide +kernel
theorem dL_law_1642 : decode cL_law 1642 = .ok (.iload 4, 2) := by decide +kernel
theorem dL_law_1644 : decode cL_law 1644 = .ok (.iconst 2, 1) := by decide +kernel
theorem dL_law_1645 : decode cL_law 1645 = .ok (.iadd, 1) := by decide +kernel
theorem dL_law_1646 : decode cL_law 1646 = .ok (.iaload, 1) := by decide +kernel
theorem dL_law_1647 : decode cL_law 1647 = .ok (.aload_n 0, 1) := by decide +kernel
theorem dL_law_1648 : decode cL_law 1648 = .ok (.iload 4, 2) := by decide +kernel
theorem dL_law_1650 : decode cL_law 1650 = .ok (.iconst 3, 1) := by decide +kernel
theorem dL_law_1651 : decode cL_law 1651 = .ok (.iadd, 1) := by decide +kernel
theorem dL_law_1652 : decode cL_law 1652 = .ok (.iaload, 1) := by decide +kernel
theorem dL_law_1653 : decode cL_law 1653 = .ok (.invokevirtual 173, 3) := by decide +kernel
theorem dL_law_1656 : decode cL_law 1656 = .ok (.istore 6, 2) := by decide +kernel
theorem dL_law_1658 : decode cL_law 1658 = .ok (.aload_n 2, 1) := by decide +kernel
theorem dL_law_1659 : decode cL_law 1659 = .ok (.invokevirtual 96, 3) := by decide +kernel
theorem dL_law_1662 : decode cL_law 1662 = .ok (.iload 5, 2) := by decide +kernel
theorem dL_law_1664 : decode cL_law 1664 = .ok (.if_icmp .eq 5, 3) := by decide +kernel
theorem dL_law_1667 : decode cL_law 1667 = .ok (.iconst 0, 1) := by decide +kernel
theorem dL_law_1668 : decode cL_law 1668 = .ok (.ireturn, 1) := by decide +kernel
theorem dL_law_1669 : decode cL_law 1669 = .ok (.iload 5, 2) := by decide +kernel
theorem dL_law_1671 : decode cL_law 1671 = .ok (.ifCond .ne 15, 3) := by decide +kernel
theorem dL_law_1674 : decode cL_law 1674 = .ok (.aload_n 3, 1) := by decide +kernel
theorem dL_law_1675 : decode cL_law 1675 = .ok (.iconst 0, 1) := by decide +kernel
theorem dL_law_1676 : decode cL_law 1676 = .ok (.laload, 1) := by decide +kernel
theorem dL_law_1677 : decode cL_law 1677 = .ok (.iload 6, 2) := by decide +kernel
theorem dL_law_1679 : decode cL_law 1679 = .ok (.i2l, 1) := by decide +kernel
theorem dL_law_1680 : decode cL_law 1680 = .ok (.lcmp, 1) := by decide +kernel
theorem dL_law_1681 : decode cL_law 1681 = .ok (.ifCond .eq 5, 3) := by decide +kernel
theorem dL_law_1684 : decode cL_law 1684 = .ok (.iconst 0, 1) := by decide +kernel
theorem dL_law_1685 : decode cL_law 1685 = .ok (.ireturn, 1) := by decide +kernel
theorem dL_law_1686 : decode cL_law 1686 = .ok (.goto 27, 3) := by decide +kernel
theorem dL_law_1689 : decode cL_law 1689 = .ok (.aload_n 1, 1) := by decide +kernel
theorem dL_law_1690 : decode cL_law 1690 = .ok (.invokevirtual 174, 3) := by decide +kernel
theorem dL_law_1693 : decode cL_law 1693 = .ok (.aload_n 2, 1) := by decide +kernel
theorem dL_law_1694 : decode cL_law 1694 = .ok (.invokevirtual 177, 3) := by decide +kernel
theorem dL_law_1697 : decode cL_law 1697 = .ok (.goto 16, 3) := by decide +kernel
theorem dL_law_1700 : decode cL_law 1700 = .ok (.aload_n 1, 1) := by decide +kernel
theorem dL_law_1701 : decode cL_law 1701 = .ok (.invokevirtual 178, 3) := by decide +kernel
theorem dL_law_1704 : decode cL_law 1704 = .ok (.aload_n 2, 1) := by decide +kernel
theorem dL_law_1705 : decode cL_law 1705 = .ok (.invokevirtual 182, 3) := by decide +kernel
theorem dL_law_1708 : decode cL_law 1708 = .ok (.if_icmp .eq 5, 3) := by decide +kernel
theorem dL_law_1711 : decode cL_law 1711 = .ok (.iconst 0, 1) := by decide +kernel
theorem dL_law_1712 : decode cL_law 1712 = .ok (.ireturn, 1) := by decide +kernel
theorem dL_law_1713 : decode cL_law 1713 = .ok (.iinc 4 6, 3) := by decide +kernel
theorem dL_law_1716 : decode cL_law 1716 = .ok (.goto (-1693), 3) := by decide +kernel
theorem dL_law_1719 : decode cL_law 1719 = .ok (.iconst 1, 1) := by decide +kernel
theorem dL_law_1720 : decode cL_law 1720 = .ok (.ireturn, 1) := by decide +kernel
def L_law_b1713 (e : mm_E) (k23 : Int32 → mm_V → Option (Int32 × mm_V)) (a0 : Nat) (a1 : Nat) (a2 : Nat) (a3 : Nat) (i4 : Int32) (m : mm_V) : Option (Int32 × mm_V) := k23 (i4 + 6) m
theorem L_law_b1713_ok {K : mm_K} {e : mm_E} (hz : e.2.1 = K.2.2.2.2) (hnc : va_Nc "java/lang/IllegalArgumentException" "java/util/NoSuchElementException" K.2.1) {d : Nat} (hd : 258 ≤ d) {a0 : Nat} {a1 : Nat} {a2 : Nat} {a3 : Nat} {i4 : Int32} (hx : e.1 a1 = some (11, 19)) (hm : e.1 a2 = some (12, 75)) {k : Nat} (hk : k + 1 ≤ 514) {k23 : Int32 → mm_V → Option (Int32 × mm_V)} (hk23 : ∀ (w4 : Int32) (m : mm_V) (r : Int32 × mm_V), k23 w4 m = some r → mm_G K ML_law d (1011, 17440, .inl (some (.int r.1)), (e.1, r.2), none) 23 [some (.ref a0), some (.ref a1), some (.ref a2), some (.ref a3), some (.int w4), none, none, none] [] (e.1, m) none (493 + (k + 1)) (14332 + 6 * (k + 1))) {m : mm_V} {r : Int32 × mm_V} (hr : L_law_b1713 e k23 a0 a1 a2 a3 i4 m = some r) : mm_G K ML_law d (1011, 17440, .inl (some (.int r.1)), (e.1, r.2), none) 1713 [some (.ref a0), some (.ref a1), some (.ref a2), some (.ref a3), some (.int i4), none, none, none] [] (e.1, m) none (493 + (k + 1)) (14332 + 6 * (k + 1)) := by
  obtain ⟨d, rfl⟩ : ∃ d', d = d' + 1 := ⟨d - 1, by omega⟩
  unfold L_law_b1713 at hr
  refine ml_iinc (pc := 1713) dL_law_1713 (mm_get_s (mm_get_s (mm_get_s (mm_get_s mm_get_0)))) (congrArg (fun z => i4 + z) kc_6) (Nat.le_of_ble_eq_true rfl) (mm_st1_s (mm_st1_s (mm_st1_s mm_st1_r))) ?_
  refine mg_goto (pc := 1716) 23 dL_law_1716 rfl ?_
  exact mg_cs (by omega) (by omega) (mg_weak (mm_le_s (mm_le_s (mm_le_s (mm_le_s (mm_le_s (mm_le_n (mm_le_n (mm_le_n mm_le_0)))))))) (hk23 _ _ _ hr))
def L_law_b1700 (e : mm_E) (k23 : Int32 → mm_V → Option (Int32 × mm_V)) (a0 : Nat) (a1 : Nat) (a2 : Nat) (a3 : Nat) (i4 : Int32) (m : mm_V) : Option (Int32 × mm_V) := (X11_restore e a1 m).bind fun r1 => (X12_restore e a2 r1.2).bind fun r2 => if r1.1 = r2.1 then (L_law_b1713 e k23 a0 a1 a2 a3 i4  r2.2) else (mm_rz (0 : Int32) r2.2)
theorem L_law_b1700_ok {K : mm_K} {e : mm_E} (hz : e.2.1 = K.2.2.2.2) (hnc : va_Nc "java/lang/IllegalArgumentException" "java/util/NoSuchElementException" K.2.1) {d : Nat} (hd : 258 ≤ d) {a0 : Nat} {a1 : Nat} {a2 : Nat} {a3 : Nat} {i4 : Int32} (hx : e.1 a1 = some (11, 19)) (hm : e.1 a2 = some (12, 75)) {k : Nat} (hk : k + 1 ≤ 514) {k23 : Int32 → mm_V → Option (Int32 × mm_V)} (hk23 : ∀ (w4 : Int32) (m : mm_V) (r : Int32 × mm_V), k23 w4 m = some r → mm_G K ML_law d (1011, 17440, .inl (some (.int r.1)), (e.1, r.2), none) 23 [some (.ref a0), some (.ref a1), some (.ref a2), some (.ref a3), some (.int w4), none, none, none] [] (e.1, m) none (493 + (k + 1)) (14332 + 6 * (k + 1))) {m : mm_V} {r : Int32 × mm_V} (hr : L_law_b1700 e k23 a0 a1 a2 a3 i4 m = some r) : mm_G K ML_law d (1011, 17440, .inl (some (.int r.1)), (e.1, r.2), none) 1700 [some (.ref a0), some (.ref a1), some (.ref a2), some (.ref a3), some (.int i4), none, none, none] [] (e.1, m) none (493 + (k + 1)) (14332 + 6 * (k + 1)) := by
  obtain ⟨d, rfl⟩ : ∃ d', d = d' + 1 := ⟨d - 1, by omega⟩
  unfold L_law_b1700 at hr
  refine ml_aload_n (pc := 1700) dL_law_1700 rfl (mm_get_s mm_get_0) ?_
  refine mb_cVi (pc := 1701) (As := []) (rest := []) dL_law_1701 cw_L_178 hx hr (fun v hv => X11_restore_ok hz (by omega) hx hv) rfl (Nat.le_of_ble_eq_true rfl) (by show _ ≤ 1011; omega) (by show _ ≤ 17440; omega) (fun r1 hr => ?_)
  refine ml_aload_n (pc := 1704) dL_law_1704 rfl (mm_get_s (mm_get_s mm_get_0)) ?_
  refine mb_cVi (pc := 1705) (As := []) (rest := [.int r1.1]) dL_law_1705 cw_L_182 hm hr (fun v hv => X12_restore_ok hz (by omega) hm hv) rfl (Nat.le_of_ble_eq_true rfl) (by show _ ≤ 1011; omega) (by show _ ≤ 17440; omega) (fun r2 hr => ?_)
  refine mb_icmp_eq (pc := 1708) 1713 dL_law_1708 rfl hr (fun hr => ?_) (fun hr => ?_)
  · exact mg_cs (by omega) (by omega) (mg_weak (mm_le_s (mm_le_s (mm_le_s (mm_le_s (mm_le_s (mm_le_n (mm_le_n (mm_le_n mm_le_0)))))))) (L_law_b1713_ok hz hnc hd hx hm (by omega) hk23 hr))
  · refine mg_iconst (pc := 1711) dL_law_1711 kc_0 ?_
    exact mb_lwret dL_law_1712 rfl rfl (by show _ ≤ 1011; omega) (by show _ ≤ 17440; omega) hr
def L_law_b1689 (e : mm_E) (k23 : Int32 → mm_V → Option (Int32 × mm_V)) (a0 : Nat) (a1 : Nat) (a2 : Nat) (a3 : Nat) (i4 : Int32) (m : mm_V) : Option (Int32 × mm_V) := (X11_image e a1 m).bind fun r1 => (X12_image e a2 r1).bind fun r2 => L_law_b1713 e k23 a0 a1 a2 a3 i4  r2
theorem L_law_b1689_ok {K : mm_K} {e : mm_E} (hz : e.2.1 = K.2.2.2.2) (hnc : va_Nc "java/lang/IllegalArgumentException" "java/util/NoSuchElementException" K.2.1) {d : Nat} (hd : 258 ≤ d) {a0 : Nat} {a1 : Nat} {a2 : Nat} {a3 : Nat} {i4 : Int32} (hx : e.1 a1 = some (11, 19)) (hm : e.1 a2 = some (12, 75)) {k : Nat} (hk : k + 1 ≤ 514) {k23 : Int32 → mm_V → Option (Int32 × mm_V)} (hk23 : ∀ (w4 : Int32) (m : mm_V) (r : Int32 × mm_V), k23 w4 m = some r → mm_G K ML_law d (1011, 17440, .inl (some (.int r.1)), (e.1, r.2), none) 23 [some (.ref a0), some (.ref a1), some (.ref a2), some (.ref a3), some (.int w4), none, none, none] [] (e.1, m) none (493 + (k + 1)) (14332 + 6 * (k + 1))) {m : mm_V} {r : Int32 × mm_V} (hr : L_law_b1689 e k23 a0 a1 a2 a3 i4 m = some r) : mm_G K ML_law d (1011, 17440, .inl (some (.int r.1)), (e.1, r.2), none) 1689 [some (.ref a0), some (.ref a1), some (.ref a2), some (.ref a3), some (.int i4), none, none, none] [] (e.1, m) none (493 + (k + 1)) (14332 + 6 * (k + 1)) := by
  obtain ⟨d, rfl⟩ : ∃ d', d = d' + 1 := ⟨d - 1, by omega⟩
  unfold L_law_b1689 at hr
  refine ml_aload_n (pc := 1689) dL_law_1689 rfl (mm_get_s mm_get_0) ?_
  refine mb_cVv (pc := 1690) (As := []) (rest := []) dL_law_1690 cw_L_174 hx hr (fun v hv => X11_image_ok hz (by omega) hx hv) rfl (Nat.le_of_ble_eq_true rfl) (by show _ ≤ 1011; omega) (by show _ ≤ 17440; omega) (fun r1 hr => ?_)
  refine ml_aload_n (pc := 1693) dL_law_1693 rfl (mm_get_s (mm_get_s mm_get_0)) ?_
  refine mb_cVv (pc := 1694) (As := []) (rest := []) dL_law_1694 cw_L_177 hm hr (fun v hv => X12_image_ok hz (by omega) hm hv) rfl (Nat.le_of_ble_eq_true rfl) (by show _ ≤ 1011; omega) (by show _ ≤ 17440; omega) (fun r2 hr => ?_)
  refine mg_goto (pc := 1697) 1713 dL_law_1697 rfl ?_
  exact mg_cs (by omega) (by omega) (mg_weak (mm_le_s (mm_le_s (mm_le_s (mm_le_s (mm_le_s (mm_le_n (mm_le_n (mm_le_n mm_le_0)))))))) (L_law_b1713_ok hz hnc hd hx hm (by omega) hk23 hr))
def L_law_b1686 (e : mm_E) (k23 : Int32 → mm_V → Option (Int32 × mm_V)) (a0 : Nat) (a1 : Nat) (a2 : Nat) (a3 : Nat) (i4 : Int32) (m : mm_V) : Option (Int32 × mm_V) := L_law_b1713 e k23 a0 a1 a2 a3 i4  m
theorem L_law_b1686_ok {K : mm_K} {e : mm_E} (hz : e.2.1 = K.2.2.2.2) (hnc : va_Nc "java/lang/IllegalArgumentException" "java/util/NoSuchElementException" K.2.1) {d : Nat} (hd : 258 ≤ d) {a0 : Nat} {a1 : Nat} {a2 : Nat} {a3 : Nat} {i4 : Int32} (hx : e.1 a1 = some (11, 19)) (hm : e.1 a2 = some (12, 75)) {k : Nat} (hk : k + 1 ≤ 514) {k23 : Int32 → mm_V → Option (Int32 × mm_V)} (hk23 : ∀ (w4 : Int32) (m : mm_V) (r : Int32 × mm_V), k23 w4 m = some r → mm_G K ML_law d (1011, 17440, .inl (some (.int r.1)), (e.1, r.2), none) 23 [some (.ref a0), some (.ref a1), some (.ref a2), some (.ref a3), some (.int w4), none, none, none] [] (e.1, m) none (493 + (k + 1)) (14332 + 6 * (k + 1))) {m : mm_V} {r : Int32 × mm_V} (hr : L_law_b1686 e k23 a0 a1 a2 a3 i4 m = some r) : mm_G K ML_law d (1011, 17440, .inl (some (.int r.1)), (e.1, r.2), none) 1686 [some (.ref a0), some (.ref a1), some (.ref a2), some (.ref a3), some (.int i4), none, none, none] [] (e.1, m) none (493 + (k + 1)) (14332 + 6 * (k + 1)) := by
  obtain ⟨d, rfl⟩ : ∃ d', d = d' + 1 := ⟨d - 1, by omega⟩
  unfold L_law_b1686 at hr
  refine mg_goto (pc := 1686) 1713 dL_law_1686 rfl ?_
  exact mg_cs (by omega) (by omega) (mg_weak (mm_le_s (mm_le_s (mm_le_s (mm_le_s (mm_le_s (mm_le_n (mm_le_n (mm_le_n mm_le_0)))))))) (L_law_b1713_ok hz hnc hd hx hm (by omega) hk23 hr))
def L_law_b1609 (e : mm_E) (k23 : Int32 → mm_V → Option (Int32 × mm_V)) (a0 : Nat) (a1 : Nat) (a2 : Nat) (a3 : Nat) (i4 : Int32) (m : mm_V) : Option (Int32 × mm_V) := (mm_ai e.1 m 31 a0 (i4 + (1 : Int32))).bind fun x1 => (mm_ai e.1 m 31 a0 (i4 + (2 : Int32))).bind fun x2 => (mm_ai e.1 m 31 a0 (i4 + (3 : Int32))).bind fun x3 => (L_face e a1 x1 x2 x3 a3 m).bind fun r4 => (mm_ai e.1 r4.2 31 a0 (i4 + (1 : Int32))).bind fun x5 => (mm_ai e.1 r4.2 31 a0 (i4 + (2 : Int32))).bind fun x6 => (mm_ai e.1 r4.2 31 a0 (i4 + (3 : Int32))).bind fun x7 => (X12_face e a2 x5 x6 x7 r4.2).bind fun r8 => (X12_thrown e a2 r8.2).bind fun r9 => if r9.1 = r4.1 then (if ¬ r4.1 = 0 then (L_law_b1686 e k23 a0 a1 a2 a3 i4  r9.2) else ((mm_al e.1 r9.2 a3 (0 : Int32)).bind fun y10 => if (lg_cmp y10 r8.1.toInt64) = 0 then (L_law_b1686 e k23 a0 a1 a2 a3 i4  r9.2) else (mm_rz (0 : Int32) r9.2))) else (mm_rz (0 : Int32) r9.2)
theorem L_law_b1609_ok {K : mm_K} {e : mm_E} (hz : e.2.1 = K.2.2.2.2) (hnc : va_Nc "java/lang/IllegalArgumentException" "java/util/NoSuchElementException" K.2.1) {d : Nat} (hd : 258 ≤ d) {a0 : Nat} {a1 : Nat} {a2 : Nat} {a3 : Nat} {i4 : Int32} (hx : e.1 a1 = some (11, 19)) (hm : e.1 a2 = some (12, 75)) {k : Nat} (hk : k + 1 ≤ 514) {k23 : Int32 → mm_V → Option (Int32 × mm_V)} (hk23 : ∀ (w4 : Int32) (m : mm_V) (r : Int32 × mm_V), k23 w4 m = some r → mm_G K ML_law d (1011, 17440, .inl (some (.int r.1)), (e.1, r.2), none) 23 [some (.ref a0), some (.ref a1), some (.ref a2), some (.ref a3), some (.int w4), none, none, none] [] (e.1, m) none (493 + (k + 1)) (14332 + 6 * (k + 1))) {m : mm_V} {r : Int32 × mm_V} (hr : L_law_b1609 e k23 a0 a1 a2 a3 i4 m = some r) : mm_G K ML_law d (1011, 17440, .inl (some (.int r.1)), (e.1, r.2), none) 1609 [some (.ref a0), some (.ref a1), some (.ref a2), some (.ref a3), some (.int i4), none, none, none] [] (e.1, m) none (493 + (k + 1)) (14332 + 6 * (k + 1)) := by
  obtain ⟨d, rfl⟩ : ∃ d', d = d' + 1 := ⟨d - 1, by omega⟩
  unfold L_law_b1609 at hr
  refine ml_aload_n (pc := 1609) dL_law_1609 rfl (mm_get_s mm_get_0) ?_
  refine ml_aload_n (pc := 1610) dL_law_1610 rfl mm_get_0 ?_
  refine ml_iload (pc := 1611) dL_law_1611 (mm_get_s (mm_get_s (mm_get_s (mm_get_s mm_get_0)))) ?_
  refine mg_iconst (pc := 1613) dL_law_1613 kc_1 ?_
  refine mg_iadd (pc := 1614) dL_law_1614 ?_
  refine mb_ax (pc := 1615) dL_law_1615 hr (fun x1 hr => ?_)
  refine ml_aload_n (pc := 1616) dL_law_1616 rfl mm_get_0 ?_
  refine ml_iload (pc := 1617) dL_law_1617 (mm_get_s (mm_get_s (mm_get_s (mm_get_s mm_get_0)))) ?_
  refine mg_iconst (pc := 1619) dL_law_1619 kc_2 ?_
  refine mg_iadd (pc := 1620) dL_law_1620 ?_
  refine mb_ax (pc := 1621) dL_law_1621 hr (fun x2 hr => ?_)
  refine ml_aload_n (pc := 1622) dL_law_1622 rfl mm_get_0 ?_
  refine ml_iload (pc := 1623) dL_law_1623 (mm_get_s (mm_get_s (mm_get_s (mm_get_s mm_get_0)))) ?_
  refine mg_iconst (pc := 1625) dL_law_1625 kc_3 ?_
  refine mg_iadd (pc := 1626) dL_law_1626 ?_
  refine mb_ax (pc := 1627) dL_law_1627 hr (fun x3 hr => ?_)
  refine ml_aload_n (pc := 1628) dL_law_1628 rfl (mm_get_s (mm_get_s (mm_get_s mm_get_0))) ?_
  refine mb_wS (pc := 1629) (As := [.ref a1, .int x1, .int x2, .int x3, .ref a3]) (rest := []) dL_law_1629 cx_171 hr (fun v hv => L_face_ok hz hnc (by omega) hx hv) rfl (Nat.le_of_ble_eq_true rfl) (by show _ ≤ 1011; omega) (by show _ ≤ 17440; omega) (fun r4 hr => ?_)
  refine ml_istore (pc := 1632) dL_law_1632 (Nat.le_of_ble_eq_true rfl) (mm_st1_s (mm_st1_s (mm_st1_s (mm_st1_s mm_st1_i)))) ?_
  refine ml_aload_n (pc := 1634) dL_law_1634 rfl (mm_get_s (mm_get_s mm_get_0)) ?_
  refine ml_aload_n (pc := 1635) dL_law_1635 rfl mm_get_0 ?_
  refine ml_iload (pc := 1636) dL_law_1636 (mm_get_s (mm_get_s (mm_get_s (mm_get_s mm_get_0)))) ?_
  refine mg_iconst (pc := 1638) dL_law_1638 kc_1 ?_
  refine mg_iadd (pc := 1639) dL_law_1639 ?_
  refine mb_ax (pc := 1640) dL_law_1640 hr (fun x5 hr => ?_)
  refine ml_aload_n (pc := 1641) dL_law_1641 rfl mm_get_0 ?_
  refine ml_iload (pc := 1642) dL_law_1642 (mm_get_s (mm_get_s (mm_get_s (mm_get_s mm_get_0)))) ?_
  refine mg_iconst (pc := 1644) dL_law_1644 kc_2 ?_
  refine mg_iadd (pc := 1645) dL_law_1645 ?_
  refine mb_ax (pc := 1646) dL_law_1646 hr (fun x6 hr => ?_)
  refine ml_aload_n (pc := 1647) dL_law_1647 rfl mm_get_0 ?_
  refine ml_iload (pc := 1648) dL_law_1648 (mm_get_s (mm_get_s (mm_get_s (mm_get_s mm_get_0)))) ?_
  refine mg_iconst (pc := 1650) dL_law_1650 kc_3 ?_
  refine mg_iadd (pc := 1651) dL_law_1651 ?_
  refine mb_ax (pc := 1652) dL_law_1652 hr (fun x7 hr => ?_)
  refine mb_cVi (pc := 1653) (As := [.int x5, .int x6, .int x7]) (rest := []) dL_law_1653 cw_L_173 hm hr (fun v hv => X12_face_ok hz (by omega) hm hv) rfl (Nat.le_of_ble_eq_true rfl) (by show _ ≤ 1011; omega) (by show _ ≤ 17440; omega) (fun r8 hr => ?_)
  refine ml_istore (pc := 1656) dL_law_1656 (Nat.le_of_ble_eq_true rfl) (mm_st1_s (mm_st1_s (mm_st1_s (mm_st1_s (mm_st1_s mm_st1_i))))) ?_
  refine ml_aload_n (pc := 1658) dL_law_1658 rfl (mm_get_s (mm_get_s mm_get_0)) ?_
  refine mb_cVi (pc := 1659) (As := []) (rest := []) dL_law_1659 cw_L_96 hm hr (fun v hv => X12_thrown_ok hz (by omega) hm hv) rfl (Nat.le_of_ble_eq_true rfl) (by show _ ≤ 1011; omega) (by show _ ≤ 17440; omega) (fun r9 hr => ?_)
  refine ml_iload (pc := 1662) dL_law_1662 (mm_get_s (mm_get_s (mm_get_s (mm_get_s (mm_get_s mm_get_0))))) ?_
  refine mb_icmp_eq (pc := 1664) 1669 dL_law_1664 rfl hr (fun hr => ?_) (fun hr => ?_)
  · refine ml_iload (pc := 1669) dL_law_1669 (mm_get_s (mm_get_s (mm_get_s (mm_get_s (mm_get_s mm_get_0))))) ?_
    refine mb_if_ne (pc := 1671) 1686 dL_law_1671 rfl hr (fun hr => ?_) (fun hr => ?_)
    · exact mg_cs (by omega) (by omega) (mg_weak (mm_le_s (mm_le_s (mm_le_s (mm_le_s (mm_le_s (mm_le_n (mm_le_n (mm_le_n mm_le_0)))))))) (L_law_b1686_ok hz hnc hd hx hm (by omega) hk23 hr))
    · refine ml_aload_n (pc := 1674) dL_law_1674 rfl (mm_get_s (mm_get_s (mm_get_s mm_get_0))) ?_
      refine mg_iconst (pc := 1675) dL_law_1675 kc_0 ?_
      refine mb_al (pc := 1676) dL_law_1676 hr (fun y10 hr => ?_)
      refine ml_iload (pc := 1677) dL_law_1677 (mm_get_s (mm_get_s (mm_get_s (mm_get_s (mm_get_s (mm_get_s mm_get_0)))))) ?_
      refine mg_i2l (pc := 1679) dL_law_1679 ?_
      refine mg_lcmp (pc := 1680) dL_law_1680 ?_
      refine mb_if_eq (pc := 1681) 1686 dL_law_1681 rfl hr (fun hr => ?_) (fun hr => ?_)
      · exact mg_cs (by omega) (by omega) (mg_weak (mm_le_s (mm_le_s (mm_le_s (mm_le_s (mm_le_s (mm_le_n (mm_le_n (mm_le_n mm_le_0)))))))) (L_law_b1686_ok hz hnc hd hx hm (by omega) hk23 hr))
      · refine mg_iconst (pc := 1684) dL_law_1684 kc_0 ?_
        exact mb_lwret dL_law_1685 rfl rfl (by show _ ≤ 1011; omega) (by show _ ≤ 17440; omega) hr
  · refine mg_iconst (pc := 1667) dL_law_1667 kc_0 ?_
    exact mb_lwret dL_law_1668 rfl rfl (by show _ ≤ 1011; omega) (by show _ ≤ 17440; omega) hr
def L_law_b1606 (e : mm_E) (k23 : Int32 → mm_V → Option (Int32 × mm_V)) (a0 : Nat) (a1 : Nat) (a2 : Nat) (a3 : Nat) (i4 : Int32) (m : mm_V) : Option (Int32 × mm_V) := L_law_b1713 e k23 a0 a1 a2 a3 i4  m
theorem L_law_b1606_ok {K : mm_K} {e : mm_E} (hz : e.2.1 = K.2.2.2.2) (hnc : va_Nc "java/lang/IllegalArgumentException" "java/util/NoSuchElementException" K.2.1) {d : Nat} (hd : 258 ≤ d) {a0 : Nat} {a1 : Nat} {a2 : Nat} {a3 : Nat} {i4 : Int32} (hx : e.1 a1 = some (11, 19)) (hm : e.1 a2 = some (12, 75)) {k : Nat} (hk : k + 1 ≤ 514) {k23 : Int32 → mm_V → Option (Int32 × mm_V)} (hk23 : ∀ (w4 : Int32) (m : mm_V) (r : Int32 × mm_V), k23 w4 m = some r → mm_G K ML_law d (1011, 17440, .inl (some (.int r.1)), (e.1, r.2), none) 23 [some (.ref a0), some (.ref a1), some (.ref a2), some (.ref a3), some (.int w4), none, none, none] [] (e.1, m) none (493 + (k + 1)) (14332 + 6 * (k + 1))) {m : mm_V} {r : Int32 × mm_V} (hr : L_law_b1606 e k23 a0 a1 a2 a3 i4 m = some r) : mm_G K ML_law d (1011, 17440, .inl (some (.int r.1)), (e.1, r.2), none) 1606 [some (.ref a0), some (.ref a1), some (.ref a2), some (.ref a3), some (.int i4), none, none, none] [] (e.1, m) none (493 + (k + 1)) (14332 + 6 * (k + 1)) := by
  obtain ⟨d, rfl⟩ : ∃ d', d = d' + 1 := ⟨d - 1, by omega⟩
  unfold L_law_b1606 at hr
  refine mg_goto (pc := 1606) 1713 dL_law_1606 rfl ?_
  exact mg_cs (by omega) (by omega) (mg_weak (mm_le_s (mm_le_s (mm_le_s (mm_le_s (mm_le_s (mm_le_n (mm_le_n (mm_le_n mm_le_0)))))))) (L_law_b1713_ok hz hnc hd hx hm (by omega) hk23 hr))
def L_law_b1541 (e : mm_E) (k23 : Int32 → mm_V → Option (Int32 × mm_V)) (a0 : Nat) (a1 : Nat) (a2 : Nat) (a3 : Nat) (i4 : Int32) (m : mm_V) : Option (Int32 × mm_V) := (mm_ai e.1 m 31 a0 (i4 + (1 : Int32))).bind fun x1 => (mm_ai e.1 m 31 a0 (i4 + (2 : Int32))).bind fun x2 => (L_habit e a1 x1 x2 a3 m).bind fun r3 => (mm_ai e.1 r3.2 31 a0 (i4 + (1 : Int32))).bind fun x4 => (mm_ai e.1 r3.2 31 a0 (i4 + (2 : Int32))).bind fun x5 => (X12_habit e a2 x4 x5 r3.2).bind fun r6 => (X12_thrown e a2 r6.2).bind fun r7 => if r7.1 = r3.1 then (if ¬ r3.1 = 0 then (L_law_b1606 e k23 a0 a1 a2 a3 i4  r7.2) else ((mm_al e.1 r7.2 a3 (0 : Int32)).bind fun y8 => if (lg_cmp y8 r6.1.toInt64) = 0 then (L_law_b1606 e k23 a0 a1 a2 a3 i4  r7.2) else (mm_rz (0 : Int32) r7.2))) else (mm_rz (0 : Int32) r7.2)
theorem L_law_b1541_ok {K : mm_K} {e : mm_E} (hz : e.2.1 = K.2.2.2.2) (hnc : va_Nc "java/lang/IllegalArgumentException" "java/util/NoSuchElementException" K.2.1) {d : Nat} (hd : 258 ≤ d) {a0 : Nat} {a1 : Nat} {a2 : Nat} {a3 : Nat} {i4 : Int32} (hx : e.1 a1 = some (11, 19)) (hm : e.1 a2 = some (12, 75)) {k : Nat} (hk : k + 1 ≤ 514) {k23 : Int32 → mm_V → Option (Int32 × mm_V)} (hk23 : ∀ (w4 : Int32) (m : mm_V) (r : Int32 × mm_V), k23 w4 m = some r → mm_G K ML_law d (1011, 17440, .inl (some (.int r.1)), (e.1, r.2), none) 23 [some (.ref a0), some (.ref a1), some (.ref a2), some (.ref a3), some (.int w4), none, none, none] [] (e.1, m) none (493 + (k + 1)) (14332 + 6 * (k + 1))) {m : mm_V} {r : Int32 × mm_V} (hr : L_law_b1541 e k23 a0 a1 a2 a3 i4 m = some r) : mm_G K ML_law d (1011, 17440, .inl (some (.int r.1)), (e.1, r.2), none) 1541 [some (.ref a0), some (.ref a1), some (.ref a2), some (.ref a3), some (.int i4), none, none, none] [] (e.1, m) none (493 + (k + 1)) (14332 + 6 * (k + 1)) := by
  obtain ⟨d, rfl⟩ : ∃ d', d = d' + 1 := ⟨d - 1, by omega⟩
  unfold L_law_b1541 at hr
  refine ml_aload_n (pc := 1541) dL_law_1541 rfl (mm_get_s mm_get_0) ?_
  refine ml_aload_n (pc := 1542) dL_law_1542 rfl mm_get_0 ?_
  refine ml_iload (pc := 1543) dL_law_1543 (mm_get_s (mm_get_s (mm_get_s (mm_get_s mm_get_0)))) ?_
  refine mg_iconst (pc := 1545) dL_law_1545 kc_1 ?_
  refine mg_iadd (pc := 1546) dL_law_1546 ?_
  refine mb_ax (pc := 1547) dL_law_1547 hr (fun x1 hr => ?_)
  refine ml_aload_n (pc := 1548) dL_law_1548 rfl mm_get_0 ?_
  refine ml_iload (pc := 1549) dL_law_1549 (mm_get_s (mm_get_s (mm_get_s (mm_get_s mm_get_0)))) ?_
  refine mg_iconst (pc := 1551) dL_law_1551 kc_2 ?_
  refine mg_iadd (pc := 1552) dL_law_1552 ?_
  refine mb_ax (pc := 1553) dL_law_1553 hr (fun x2 hr => ?_)
  refine ml_aload_n (pc := 1554) dL_law_1554 rfl (mm_get_s (mm_get_s (mm_get_s mm_get_0))) ?_
  refine mb_wS (pc := 1555) (As := [.ref a1, .int x1, .int x2, .ref a3]) (rest := []) dL_law_1555 cx_168 hr (fun v hv => L_habit_ok hz hnc (by omega) hx hv) rfl (Nat.le_of_ble_eq_true rfl) (by show _ ≤ 1011; omega) (by show _ ≤ 17440; omega) (fun r3 hr => ?_)
  refine ml_istore (pc := 1558) dL_law_1558 (Nat.le_of_ble_eq_true rfl) (mm_st1_s (mm_st1_s (mm_st1_s (mm_st1_s mm_st1_i)))) ?_
  refine ml_aload_n (pc := 1560) dL_law_1560 rfl (mm_get_s (mm_get_s mm_get_0)) ?_
  refine ml_aload_n (pc := 1561) dL_law_1561 rfl mm_get_0 ?_
  refine ml_iload (pc := 1562) dL_law_1562 (mm_get_s (mm_get_s (mm_get_s (mm_get_s mm_get_0)))) ?_
  refine mg_iconst (pc := 1564) dL_law_1564 kc_1 ?_
  refine mg_iadd (pc := 1565) dL_law_1565 ?_
  refine mb_ax (pc := 1566) dL_law_1566 hr (fun x4 hr => ?_)
  refine ml_aload_n (pc := 1567) dL_law_1567 rfl mm_get_0 ?_
  refine ml_iload (pc := 1568) dL_law_1568 (mm_get_s (mm_get_s (mm_get_s (mm_get_s mm_get_0)))) ?_
  refine mg_iconst (pc := 1570) dL_law_1570 kc_2 ?_
  refine mg_iadd (pc := 1571) dL_law_1571 ?_
  refine mb_ax (pc := 1572) dL_law_1572 hr (fun x5 hr => ?_)
  refine mb_cVi (pc := 1573) (As := [.int x4, .int x5]) (rest := []) dL_law_1573 cw_L_170 hm hr (fun v hv => X12_habit_ok hz (by omega) hm hv) rfl (Nat.le_of_ble_eq_true rfl) (by show _ ≤ 1011; omega) (by show _ ≤ 17440; omega) (fun r6 hr => ?_)
  refine ml_istore (pc := 1576) dL_law_1576 (Nat.le_of_ble_eq_true rfl) (mm_st1_s (mm_st1_s (mm_st1_s (mm_st1_s (mm_st1_s mm_st1_i))))) ?_
  refine ml_aload_n (pc := 1578) dL_law_1578 rfl (mm_get_s (mm_get_s mm_get_0)) ?_
  refine mb_cVi (pc := 1579) (As := []) (rest := []) dL_law_1579 cw_L_96 hm hr (fun v hv => X12_thrown_ok hz (by omega) hm hv) rfl (Nat.le_of_ble_eq_true rfl) (by show _ ≤ 1011; omega) (by show _ ≤ 17440; omega) (fun r7 hr => ?_)
  refine ml_iload (pc := 1582) dL_law_1582 (mm_get_s (mm_get_s (mm_get_s (mm_get_s (mm_get_s mm_get_0))))) ?_
  refine mb_icmp_eq (pc := 1584) 1589 dL_law_1584 rfl hr (fun hr => ?_) (fun hr => ?_)
  · refine ml_iload (pc := 1589) dL_law_1589 (mm_get_s (mm_get_s (mm_get_s (mm_get_s (mm_get_s mm_get_0))))) ?_
    refine mb_if_ne (pc := 1591) 1606 dL_law_1591 rfl hr (fun hr => ?_) (fun hr => ?_)
    · exact mg_cs (by omega) (by omega) (mg_weak (mm_le_s (mm_le_s (mm_le_s (mm_le_s (mm_le_s (mm_le_n (mm_le_n (mm_le_n mm_le_0)))))))) (L_law_b1606_ok hz hnc hd hx hm (by omega) hk23 hr))
    · refine ml_aload_n (pc := 1594) dL_law_1594 rfl (mm_get_s (mm_get_s (mm_get_s mm_get_0))) ?_
      refine mg_iconst (pc := 1595) dL_law_1595 kc_0 ?_
      refine mb_al (pc := 1596) dL_law_1596 hr (fun y8 hr => ?_)
      refine ml_iload (pc := 1597) dL_law_1597 (mm_get_s (mm_get_s (mm_get_s (mm_get_s (mm_get_s (mm_get_s mm_get_0)))))) ?_
      refine mg_i2l (pc := 1599) dL_law_1599 ?_
      refine mg_lcmp (pc := 1600) dL_law_1600 ?_
      refine mb_if_eq (pc := 1601) 1606 dL_law_1601 rfl hr (fun hr => ?_) (fun hr => ?_)
      · exact mg_cs (by omega) (by omega) (mg_weak (mm_le_s (mm_le_s (mm_le_s (mm_le_s (mm_le_s (mm_le_n (mm_le_n (mm_le_n mm_le_0)))))))) (L_law_b1606_ok hz hnc hd hx hm (by omega) hk23 hr))
      · refine mg_iconst (pc := 1604) dL_law_1604 kc_0 ?_
        exact mb_lwret dL_law_1605 rfl rfl (by show _ ≤ 1011; omega) (by show _ ≤ 17440; omega) hr
  · refine mg_iconst (pc := 1587) dL_law_1587 kc_0 ?_
    exact mb_lwret dL_law_1588 rfl rfl (by show _ ≤ 1011; omega) (by show _ ≤ 17440; omega) hr
def L_law_b1538 (e : mm_E) (k23 : Int32 → mm_V → Option (Int32 × mm_V)) (a0 : Nat) (a1 : Nat) (a2 : Nat) (a3 : Nat) (i4 : Int32) (m : mm_V) : Option (Int32 × mm_V) := L_law_b1713 e k23 a0 a1 a2 a3 i4  m
theorem L_law_b1538_ok {K : mm_K} {e : mm_E} (hz : e.2.1 = K.2.2.2.2) (hnc : va_Nc "java/lang/IllegalArgumentException" "java/util/NoSuchElementException" K.2.1) {d : Nat} (hd : 258 ≤ d) {a0 : Nat} {a1 : Nat} {a2 : Nat} {a3 : Nat} {i4 : Int32} (hx : e.1 a1 = some (11, 19)) (hm : e.1 a2 = some (12, 75)) {k : Nat} (hk : k + 1 ≤ 514) {k23 : Int32 → mm_V → Option (Int32 × mm_V)} (hk23 : ∀ (w4 : Int32) (m : mm_V) (r : Int32 × mm_V), k23 w4 m = some r → mm_G K ML_law d (1011, 17440, .inl (some (.int r.1)), (e.1, r.2), none) 23 [some (.ref a0), some (.ref a1), some (.ref a2), some (.ref a3), some (.int w4), none, none, none] [] (e.1, m) none (493 + (k + 1)) (14332 + 6 * (k + 1))) {m : mm_V} {r : Int32 × mm_V} (hr : L_law_b1538 e k23 a0 a1 a2 a3 i4 m = some r) : mm_G K ML_law d (1011, 17440, .inl (some (.int r.1)), (e.1, r.2), none) 1538 [some (.ref a0), some (.ref a1), some (.ref a2), some (.ref a3), some (.int i4), none, none, none] [] (e.1, m) none (493 + (k + 1)) (14332 + 6 * (k + 1)) := by
  obtain ⟨d, rfl⟩ : ∃ d', d = d' + 1 := ⟨d - 1, by omega⟩
  unfold L_law_b1538 at hr
  refine mg_goto (pc := 1538) 1713 dL_law_1538 rfl ?_
  exact mg_cs (by omega) (by omega) (mg_weak (mm_le_s (mm_le_s (mm_le_s (mm_le_s (mm_le_s (mm_le_n (mm_le_n (mm_le_n mm_le_0)))))))) (L_law_b1713_ok hz hnc hd hx hm (by omega) hk23 hr))
def L_law_b1485 (e : mm_E) (k23 : Int32 → mm_V → Option (Int32 × mm_V)) (a0 : Nat) (a1 : Nat) (a2 : Nat) (a3 : Nat) (i4 : Int32) (m : mm_V) : Option (Int32 × mm_V) := (mm_ai e.1 m 31 a0 (i4 + (1 : Int32))).bind fun x1 => (L_rank e a1 x1 a3 m).bind fun r2 => (mm_ai e.1 r2.2 31 a0 (i4 + (1 : Int32))).bind fun x3 => (X12_rank e a2 x3 r2.2).bind fun r4 => (X12_thrown e a2 r4.2).bind fun r5 => if r5.1 = r2.1 then (if ¬ r2.1 = 0 then (L_law_b1538 e k23 a0 a1 a2 a3 i4  r5.2) else ((mm_al e.1 r5.2 a3 (0 : Int32)).bind fun y6 => if (lg_cmp y6 r4.1.toInt64) = 0 then (L_law_b1538 e k23 a0 a1 a2 a3 i4  r5.2) else (mm_rz (0 : Int32) r5.2))) else (mm_rz (0 : Int32) r5.2)
theorem L_law_b1485_ok {K : mm_K} {e : mm_E} (hz : e.2.1 = K.2.2.2.2) (hnc : va_Nc "java/lang/IllegalArgumentException" "java/util/NoSuchElementException" K.2.1) {d : Nat} (hd : 258 ≤ d) {a0 : Nat} {a1 : Nat} {a2 : Nat} {a3 : Nat} {i4 : Int32} (hx : e.1 a1 = some (11, 19)) (hm : e.1 a2 = some (12, 75)) {k : Nat} (hk : k + 1 ≤ 514) {k23 : Int32 → mm_V → Option (Int32 × mm_V)} (hk23 : ∀ (w4 : Int32) (m : mm_V) (r : Int32 × mm_V), k23 w4 m = some r → mm_G K ML_law d (1011, 17440, .inl (some (.int r.1)), (e.1, r.2), none) 23 [some (.ref a0), some (.ref a1), some (.ref a2), some (.ref a3), some (.int w4), none, none, none] [] (e.1, m) none (493 + (k + 1)) (14332 + 6 * (k + 1))) {m : mm_V} {r : Int32 × mm_V} (hr : L_law_b1485 e k23 a0 a1 a2 a3 i4 m = some r) : mm_G K ML_law d (1011, 17440, .inl (some (.int r.1)), (e.1, r.2), none) 1485 [some (.ref a0), some (.ref a1), some (.ref a2), some (.ref a3), some (.int i4), none, none, none] [] (e.1, m) none (493 + (k + 1)) (14332 + 6 * (k + 1)) := by
  obtain ⟨d, rfl⟩ : ∃ d', d = d' + 1 := ⟨d - 1, by omega⟩
  unfold L_law_b1485 at hr
  refine ml_aload_n (pc := 1485) dL_law_1485 rfl (mm_get_s mm_get_0) ?_
  refine ml_aload_n (pc := 1486) dL_law_1486 rfl mm_get_0 ?_
  refine ml_iload (pc := 1487) dL_law_1487 (mm_get_s (mm_get_s (mm_get_s (mm_get_s mm_get_0)))) ?_
  refine mg_iconst (pc := 1489) dL_law_1489 kc_1 ?_
  refine mg_iadd (pc := 1490) dL_law_1490 ?_
  refine mb_ax (pc := 1491) dL_law_1491 hr (fun x1 hr => ?_)
  refine ml_aload_n (pc := 1492) dL_law_1492 rfl (mm_get_s (mm_get_s (mm_get_s mm_get_0))) ?_
  refine mb_wS (pc := 1493) (As := [.ref a1, .int x1, .ref a3]) (rest := []) dL_law_1493 cx_165 hr (fun v hv => L_rank_ok hz hnc (by omega) hx hv) rfl (Nat.le_of_ble_eq_true rfl) (by show _ ≤ 1011; omega) (by show _ ≤ 17440; omega) (fun r2 hr => ?_)
  refine ml_istore (pc := 1496) dL_law_1496 (Nat.le_of_ble_eq_true rfl) (mm_st1_s (mm_st1_s (mm_st1_s (mm_st1_s mm_st1_i)))) ?_
  refine ml_aload_n (pc := 1498) dL_law_1498 rfl (mm_get_s (mm_get_s mm_get_0)) ?_
  refine ml_aload_n (pc := 1499) dL_law_1499 rfl mm_get_0 ?_
  refine ml_iload (pc := 1500) dL_law_1500 (mm_get_s (mm_get_s (mm_get_s (mm_get_s mm_get_0)))) ?_
  refine mg_iconst (pc := 1502) dL_law_1502 kc_1 ?_
  refine mg_iadd (pc := 1503) dL_law_1503 ?_
  refine mb_ax (pc := 1504) dL_law_1504 hr (fun x3 hr => ?_)
  refine mb_cVi (pc := 1505) (As := [.int x3]) (rest := []) dL_law_1505 cw_L_167 hm hr (fun v hv => X12_rank_ok hz (by omega) hm hv) rfl (Nat.le_of_ble_eq_true rfl) (by show _ ≤ 1011; omega) (by show _ ≤ 17440; omega) (fun r4 hr => ?_)
  refine ml_istore (pc := 1508) dL_law_1508 (Nat.le_of_ble_eq_true rfl) (mm_st1_s (mm_st1_s (mm_st1_s (mm_st1_s (mm_st1_s mm_st1_i))))) ?_
  refine ml_aload_n (pc := 1510) dL_law_1510 rfl (mm_get_s (mm_get_s mm_get_0)) ?_
  refine mb_cVi (pc := 1511) (As := []) (rest := []) dL_law_1511 cw_L_96 hm hr (fun v hv => X12_thrown_ok hz (by omega) hm hv) rfl (Nat.le_of_ble_eq_true rfl) (by show _ ≤ 1011; omega) (by show _ ≤ 17440; omega) (fun r5 hr => ?_)
  refine ml_iload (pc := 1514) dL_law_1514 (mm_get_s (mm_get_s (mm_get_s (mm_get_s (mm_get_s mm_get_0))))) ?_
  refine mb_icmp_eq (pc := 1516) 1521 dL_law_1516 rfl hr (fun hr => ?_) (fun hr => ?_)
  · refine ml_iload (pc := 1521) dL_law_1521 (mm_get_s (mm_get_s (mm_get_s (mm_get_s (mm_get_s mm_get_0))))) ?_
    refine mb_if_ne (pc := 1523) 1538 dL_law_1523 rfl hr (fun hr => ?_) (fun hr => ?_)
    · exact mg_cs (by omega) (by omega) (mg_weak (mm_le_s (mm_le_s (mm_le_s (mm_le_s (mm_le_s (mm_le_n (mm_le_n (mm_le_n mm_le_0)))))))) (L_law_b1538_ok hz hnc hd hx hm (by omega) hk23 hr))
    · refine ml_aload_n (pc := 1526) dL_law_1526 rfl (mm_get_s (mm_get_s (mm_get_s mm_get_0))) ?_
      refine mg_iconst (pc := 1527) dL_law_1527 kc_0 ?_
      refine mb_al (pc := 1528) dL_law_1528 hr (fun y6 hr => ?_)
      refine ml_iload (pc := 1529) dL_law_1529 (mm_get_s (mm_get_s (mm_get_s (mm_get_s (mm_get_s (mm_get_s mm_get_0)))))) ?_
      refine mg_i2l (pc := 1531) dL_law_1531 ?_
      refine mg_lcmp (pc := 1532) dL_law_1532 ?_
      refine mb_if_eq (pc := 1533) 1538 dL_law_1533 rfl hr (fun hr => ?_) (fun hr => ?_)
      · exact mg_cs (by omega) (by omega) (mg_weak (mm_le_s (mm_le_s (mm_le_s (mm_le_s (mm_le_s (mm_le_n (mm_le_n (mm_le_n mm_le_0)))))))) (L_law_b1538_ok hz hnc hd hx hm (by omega) hk23 hr))
      · refine mg_iconst (pc := 1536) dL_law_1536 kc_0 ?_
        exact mb_lwret dL_law_1537 rfl rfl (by show _ ≤ 1011; omega) (by show _ ≤ 17440; omega) hr
  · refine mg_iconst (pc := 1519) dL_law_1519 kc_0 ?_
    exact mb_lwret dL_law_1520 rfl rfl (by show _ ≤ 1011; omega) (by show _ ≤ 17440; omega) hr
def L_law_b1482 (e : mm_E) (k23 : Int32 → mm_V → Option (Int32 × mm_V)) (a0 : Nat) (a1 : Nat) (a2 : Nat) (a3 : Nat) (i4 : Int32) (m : mm_V) : Option (Int32 × mm_V) := L_law_b1713 e k23 a0 a1 a2 a3 i4  m
theorem L_law_b1482_ok {K : mm_K} {e : mm_E} (hz : e.2.1 = K.2.2.2.2) (hnc : va_Nc "java/lang/IllegalArgumentException" "java/util/NoSuchElementException" K.2.1) {d : Nat} (hd : 258 ≤ d) {a0 : Nat} {a1 : Nat} {a2 : Nat} {a3 : Nat} {i4 : Int32} (hx : e.1 a1 = some (11, 19)) (hm : e.1 a2 = some (12, 75)) {k : Nat} (hk : k + 1 ≤ 514) {k23 : Int32 → mm_V → Option (Int32 × mm_V)} (hk23 : ∀ (w4 : Int32) (m : mm_V) (r : Int32 × mm_V), k23 w4 m = some r → mm_G K ML_law d (1011, 17440, .inl (some (.int r.1)), (e.1, r.2), none) 23 [some (.ref a0), some (.ref a1), some (.ref a2), some (.ref a3), some (.int w4), none, none, none] [] (e.1, m) none (493 + (k + 1)) (14332 + 6 * (k + 1))) {m : mm_V} {r : Int32 × mm_V} (hr : L_law_b1482 e k23 a0 a1 a2 a3 i4 m = some r) : mm_G K ML_law d (1011, 17440, .inl (some (.int r.1)), (e.1, r.2), none) 1482 [some (.ref a0), some (.ref a1), some (.ref a2), some (.ref a3), some (.int i4), none, none, none] [] (e.1, m) none (493 + (k + 1)) (14332 + 6 * (k + 1)) := by
  obtain ⟨d, rfl⟩ : ∃ d', d = d' + 1 := ⟨d - 1, by omega⟩
  unfold L_law_b1482 at hr
  refine mg_goto (pc := 1482) 1713 dL_law_1482 rfl ?_
  exact mg_cs (by omega) (by omega) (mg_weak (mm_le_s (mm_le_s (mm_le_s (mm_le_s (mm_le_s (mm_le_n (mm_le_n (mm_le_n mm_le_0)))))))) (L_law_b1713_ok hz hnc hd hx hm (by omega) hk23 hr))
def L_law_b1429 (e : mm_E) (k23 : Int32 → mm_V → Option (Int32 × mm_V)) (a0 : Nat) (a1 : Nat) (a2 : Nat) (a3 : Nat) (i4 : Int32) (m : mm_V) : Option (Int32 × mm_V) := (mm_ai e.1 m 31 a0 (i4 + (1 : Int32))).bind fun x1 => (L_isOut e a1 x1 a3 m).bind fun r2 => (mm_ai e.1 r2.2 31 a0 (i4 + (1 : Int32))).bind fun x3 => (X12_isOut e a2 x3 r2.2).bind fun r4 => (X12_thrown e a2 r4.2).bind fun r5 => if r5.1 = r2.1 then (if ¬ r2.1 = 0 then (L_law_b1482 e k23 a0 a1 a2 a3 i4  r5.2) else ((mm_al e.1 r5.2 a3 (0 : Int32)).bind fun y6 => if (lg_cmp y6 r4.1.toInt64) = 0 then (L_law_b1482 e k23 a0 a1 a2 a3 i4  r5.2) else (mm_rz (0 : Int32) r5.2))) else (mm_rz (0 : Int32) r5.2)
theorem L_law_b1429_ok {K : mm_K} {e : mm_E} (hz : e.2.1 = K.2.2.2.2) (hnc : va_Nc "java/lang/IllegalArgumentException" "java/util/NoSuchElementException" K.2.1) {d : Nat} (hd : 258 ≤ d) {a0 : Nat} {a1 : Nat} {a2 : Nat} {a3 : Nat} {i4 : Int32} (hx : e.1 a1 = some (11, 19)) (hm : e.1 a2 = some (12, 75)) {k : Nat} (hk : k + 1 ≤ 514) {k23 : Int32 → mm_V → Option (Int32 × mm_V)} (hk23 : ∀ (w4 : Int32) (m : mm_V) (r : Int32 × mm_V), k23 w4 m = some r → mm_G K ML_law d (1011, 17440, .inl (some (.int r.1)), (e.1, r.2), none) 23 [some (.ref a0), some (.ref a1), some (.ref a2), some (.ref a3), some (.int w4), none, none, none] [] (e.1, m) none (493 + (k + 1)) (14332 + 6 * (k + 1))) {m : mm_V} {r : Int32 × mm_V} (hr : L_law_b1429 e k23 a0 a1 a2 a3 i4 m = some r) : mm_G K ML_law d (1011, 17440, .inl (some (.int r.1)), (e.1, r.2), none) 1429 [some (.ref a0), some (.ref a1), some (.ref a2), some (.ref a3), some (.int i4), none, none, none] [] (e.1, m) none (493 + (k + 1)) (14332 + 6 * (k + 1)) := by
  obtain ⟨d, rfl⟩ : ∃ d', d = d' + 1 := ⟨d - 1, by omega⟩
  unfold L_law_b1429 at hr
  refine ml_aload_n (pc := 1429) dL_law_1429 rfl (mm_get_s mm_get_0) ?_
  refine ml_aload_n (pc := 1430) dL_law_1430 rfl mm_get_0 ?_
  refine ml_iload (pc := 1431) dL_law_1431 (mm_get_s (mm_get_s (mm_get_s (mm_get_s mm_get_0)))) ?_
  refine mg_iconst (pc := 1433) dL_law_1433 kc_1 ?_
  refine mg_iadd (pc := 1434) dL_law_1434 ?_
  refine mb_ax (pc := 1435) dL_law_1435 hr (fun x1 hr => ?_)
  refine ml_aload_n (pc := 1436) dL_law_1436 rfl (mm_get_s (mm_get_s (mm_get_s mm_get_0))) ?_
  refine mb_wS (pc := 1437) (As := [.ref a1, .int x1, .ref a3]) (rest := []) dL_law_1437 cx_162 hr (fun v hv => L_isOut_ok hz hnc (by omega) hx hv) rfl (Nat.le_of_ble_eq_true rfl) (by show _ ≤ 1011; omega) (by show _ ≤ 17440; omega) (fun r2 hr => ?_)
  refine ml_istore (pc := 1440) dL_law_1440 (Nat.le_of_ble_eq_true rfl) (mm_st1_s (mm_st1_s (mm_st1_s (mm_st1_s mm_st1_i)))) ?_
  refine ml_aload_n (pc := 1442) dL_law_1442 rfl (mm_get_s (mm_get_s mm_get_0)) ?_
  refine ml_aload_n (pc := 1443) dL_law_1443 rfl mm_get_0 ?_
  refine ml_iload (pc := 1444) dL_law_1444 (mm_get_s (mm_get_s (mm_get_s (mm_get_s mm_get_0)))) ?_
  refine mg_iconst (pc := 1446) dL_law_1446 kc_1 ?_
  refine mg_iadd (pc := 1447) dL_law_1447 ?_
  refine mb_ax (pc := 1448) dL_law_1448 hr (fun x3 hr => ?_)
  refine mb_cVi (pc := 1449) (As := [.int x3]) (rest := []) dL_law_1449 cw_L_164 hm hr (fun v hv => X12_isOut_ok hz (by omega) hm hv) rfl (Nat.le_of_ble_eq_true rfl) (by show _ ≤ 1011; omega) (by show _ ≤ 17440; omega) (fun r4 hr => ?_)
  refine ml_istore (pc := 1452) dL_law_1452 (Nat.le_of_ble_eq_true rfl) (mm_st1_s (mm_st1_s (mm_st1_s (mm_st1_s (mm_st1_s mm_st1_i))))) ?_
  refine ml_aload_n (pc := 1454) dL_law_1454 rfl (mm_get_s (mm_get_s mm_get_0)) ?_
  refine mb_cVi (pc := 1455) (As := []) (rest := []) dL_law_1455 cw_L_96 hm hr (fun v hv => X12_thrown_ok hz (by omega) hm hv) rfl (Nat.le_of_ble_eq_true rfl) (by show _ ≤ 1011; omega) (by show _ ≤ 17440; omega) (fun r5 hr => ?_)
  refine ml_iload (pc := 1458) dL_law_1458 (mm_get_s (mm_get_s (mm_get_s (mm_get_s (mm_get_s mm_get_0))))) ?_
  refine mb_icmp_eq (pc := 1460) 1465 dL_law_1460 rfl hr (fun hr => ?_) (fun hr => ?_)
  · refine ml_iload (pc := 1465) dL_law_1465 (mm_get_s (mm_get_s (mm_get_s (mm_get_s (mm_get_s mm_get_0))))) ?_
    refine mb_if_ne (pc := 1467) 1482 dL_law_1467 rfl hr (fun hr => ?_) (fun hr => ?_)
    · exact mg_cs (by omega) (by omega) (mg_weak (mm_le_s (mm_le_s (mm_le_s (mm_le_s (mm_le_s (mm_le_n (mm_le_n (mm_le_n mm_le_0)))))))) (L_law_b1482_ok hz hnc hd hx hm (by omega) hk23 hr))
    · refine ml_aload_n (pc := 1470) dL_law_1470 rfl (mm_get_s (mm_get_s (mm_get_s mm_get_0))) ?_
      refine mg_iconst (pc := 1471) dL_law_1471 kc_0 ?_
      refine mb_al (pc := 1472) dL_law_1472 hr (fun y6 hr => ?_)
      refine ml_iload (pc := 1473) dL_law_1473 (mm_get_s (mm_get_s (mm_get_s (mm_get_s (mm_get_s (mm_get_s mm_get_0)))))) ?_
      refine mg_i2l (pc := 1475) dL_law_1475 ?_
      refine mg_lcmp (pc := 1476) dL_law_1476 ?_
      refine mb_if_eq (pc := 1477) 1482 dL_law_1477 rfl hr (fun hr => ?_) (fun hr => ?_)
      · exact mg_cs (by omega) (by omega) (mg_weak (mm_le_s (mm_le_s (mm_le_s (mm_le_s (mm_le_s (mm_le_n (mm_le_n (mm_le_n mm_le_0)))))))) (L_law_b1482_ok hz hnc hd hx hm (by omega) hk23 hr))
      · refine mg_iconst (pc := 1480) dL_law_1480 kc_0 ?_
        exact mb_lwret dL_law_1481 rfl rfl (by show _ ≤ 1011; omega) (by show _ ≤ 17440; omega) hr
  · refine mg_iconst (pc := 1463) dL_law_1463 kc_0 ?_
    exact mb_lwret dL_law_1464 rfl rfl (by show _ ≤ 1011; omega) (by show _ ≤ 17440; omega) hr
def L_law_b1426 (e : mm_E) (k23 : Int32 → mm_V → Option (Int32 × mm_V)) (a0 : Nat) (a1 : Nat) (a2 : Nat) (a3 : Nat) (i4 : Int32) (m : mm_V) : Option (Int32 × mm_V) := L_law_b1713 e k23 a0 a1 a2 a3 i4  m
theorem L_law_b1426_ok {K : mm_K} {e : mm_E} (hz : e.2.1 = K.2.2.2.2) (hnc : va_Nc "java/lang/IllegalArgumentException" "java/util/NoSuchElementException" K.2.1) {d : Nat} (hd : 258 ≤ d) {a0 : Nat} {a1 : Nat} {a2 : Nat} {a3 : Nat} {i4 : Int32} (hx : e.1 a1 = some (11, 19)) (hm : e.1 a2 = some (12, 75)) {k : Nat} (hk : k + 1 ≤ 514) {k23 : Int32 → mm_V → Option (Int32 × mm_V)} (hk23 : ∀ (w4 : Int32) (m : mm_V) (r : Int32 × mm_V), k23 w4 m = some r → mm_G K ML_law d (1011, 17440, .inl (some (.int r.1)), (e.1, r.2), none) 23 [some (.ref a0), some (.ref a1), some (.ref a2), some (.ref a3), some (.int w4), none, none, none] [] (e.1, m) none (493 + (k + 1)) (14332 + 6 * (k + 1))) {m : mm_V} {r : Int32 × mm_V} (hr : L_law_b1426 e k23 a0 a1 a2 a3 i4 m = some r) : mm_G K ML_law d (1011, 17440, .inl (some (.int r.1)), (e.1, r.2), none) 1426 [some (.ref a0), some (.ref a1), some (.ref a2), some (.ref a3), some (.int i4), none, none, none] [] (e.1, m) none (493 + (k + 1)) (14332 + 6 * (k + 1)) := by
  obtain ⟨d, rfl⟩ : ∃ d', d = d' + 1 := ⟨d - 1, by omega⟩
  unfold L_law_b1426 at hr
  refine mg_goto (pc := 1426) 1713 dL_law_1426 rfl ?_
  exact mg_cs (by omega) (by omega) (mg_weak (mm_le_s (mm_le_s (mm_le_s (mm_le_s (mm_le_s (mm_le_n (mm_le_n (mm_le_n mm_le_0)))))))) (L_law_b1713_ok hz hnc hd hx hm (by omega) hk23 hr))
def L_law_b1373 (e : mm_E) (k23 : Int32 → mm_V → Option (Int32 × mm_V)) (a0 : Nat) (a1 : Nat) (a2 : Nat) (a3 : Nat) (i4 : Int32) (m : mm_V) : Option (Int32 × mm_V) := (mm_ai e.1 m 31 a0 (i4 + (1 : Int32))).bind fun x1 => (L_wouldLose e a1 x1 a3 m).bind fun r2 => (mm_ai e.1 r2.2 31 a0 (i4 + (1 : Int32))).bind fun x3 => (X12_wouldLose e a2 x3 r2.2).bind fun r4 => (X12_thrown e a2 r4.2).bind fun r5 => if r5.1 = r2.1 then (if ¬ r2.1 = 0 then (L_law_b1426 e k23 a0 a1 a2 a3 i4  r5.2) else ((mm_al e.1 r5.2 a3 (0 : Int32)).bind fun y6 => if (lg_cmp y6 r4.1.toInt64) = 0 then (L_law_b1426 e k23 a0 a1 a2 a3 i4  r5.2) else (mm_rz (0 : Int32) r5.2))) else (mm_rz (0 : Int32) r5.2)
theorem L_law_b1373_ok {K : mm_K} {e : mm_E} (hz : e.2.1 = K.2.2.2.2) (hnc : va_Nc "java/lang/IllegalArgumentException" "java/util/NoSuchElementException" K.2.1) {d : Nat} (hd : 258 ≤ d) {a0 : Nat} {a1 : Nat} {a2 : Nat} {a3 : Nat} {i4 : Int32} (hx : e.1 a1 = some (11, 19)) (hm : e.1 a2 = some (12, 75)) {k : Nat} (hk : k + 1 ≤ 514) {k23 : Int32 → mm_V → Option (Int32 × mm_V)} (hk23 : ∀ (w4 : Int32) (m : mm_V) (r : Int32 × mm_V), k23 w4 m = some r → mm_G K ML_law d (1011, 17440, .inl (some (.int r.1)), (e.1, r.2), none) 23 [some (.ref a0), some (.ref a1), some (.ref a2), some (.ref a3), some (.int w4), none, none, none] [] (e.1, m) none (493 + (k + 1)) (14332 + 6 * (k + 1))) {m : mm_V} {r : Int32 × mm_V} (hr : L_law_b1373 e k23 a0 a1 a2 a3 i4 m = some r) : mm_G K ML_law d (1011, 17440, .inl (some (.int r.1)), (e.1, r.2), none) 1373 [some (.ref a0), some (.ref a1), some (.ref a2), some (.ref a3), some (.int i4), none, none, none] [] (e.1, m) none (493 + (k + 1)) (14332 + 6 * (k + 1)) := by
  obtain ⟨d, rfl⟩ : ∃ d', d = d' + 1 := ⟨d - 1, by omega⟩
  unfold L_law_b1373 at hr
  refine ml_aload_n (pc := 1373) dL_law_1373 rfl (mm_get_s mm_get_0) ?_
  refine ml_aload_n (pc := 1374) dL_law_1374 rfl mm_get_0 ?_
  refine ml_iload (pc := 1375) dL_law_1375 (mm_get_s (mm_get_s (mm_get_s (mm_get_s mm_get_0)))) ?_
  refine mg_iconst (pc := 1377) dL_law_1377 kc_1 ?_
  refine mg_iadd (pc := 1378) dL_law_1378 ?_
  refine mb_ax (pc := 1379) dL_law_1379 hr (fun x1 hr => ?_)
  refine ml_aload_n (pc := 1380) dL_law_1380 rfl (mm_get_s (mm_get_s (mm_get_s mm_get_0))) ?_
  refine mb_wS (pc := 1381) (As := [.ref a1, .int x1, .ref a3]) (rest := []) dL_law_1381 cx_159 hr (fun v hv => L_wouldLose_ok hz hnc (by omega) hx hv) rfl (Nat.le_of_ble_eq_true rfl) (by show _ ≤ 1011; omega) (by show _ ≤ 17440; omega) (fun r2 hr => ?_)
  refine ml_istore (pc := 1384) dL_law_1384 (Nat.le_of_ble_eq_true rfl) (mm_st1_s (mm_st1_s (mm_st1_s (mm_st1_s mm_st1_i)))) ?_
  refine ml_aload_n (pc := 1386) dL_law_1386 rfl (mm_get_s (mm_get_s mm_get_0)) ?_
  refine ml_aload_n (pc := 1387) dL_law_1387 rfl mm_get_0 ?_
  refine ml_iload (pc := 1388) dL_law_1388 (mm_get_s (mm_get_s (mm_get_s (mm_get_s mm_get_0)))) ?_
  refine mg_iconst (pc := 1390) dL_law_1390 kc_1 ?_
  refine mg_iadd (pc := 1391) dL_law_1391 ?_
  refine mb_ax (pc := 1392) dL_law_1392 hr (fun x3 hr => ?_)
  refine mb_cVi (pc := 1393) (As := [.int x3]) (rest := []) dL_law_1393 cw_L_161 hm hr (fun v hv => X12_wouldLose_ok hz (by omega) hm hv) rfl (Nat.le_of_ble_eq_true rfl) (by show _ ≤ 1011; omega) (by show _ ≤ 17440; omega) (fun r4 hr => ?_)
  refine ml_istore (pc := 1396) dL_law_1396 (Nat.le_of_ble_eq_true rfl) (mm_st1_s (mm_st1_s (mm_st1_s (mm_st1_s (mm_st1_s mm_st1_i))))) ?_
  refine ml_aload_n (pc := 1398) dL_law_1398 rfl (mm_get_s (mm_get_s mm_get_0)) ?_
  refine mb_cVi (pc := 1399) (As := []) (rest := []) dL_law_1399 cw_L_96 hm hr (fun v hv => X12_thrown_ok hz (by omega) hm hv) rfl (Nat.le_of_ble_eq_true rfl) (by show _ ≤ 1011; omega) (by show _ ≤ 17440; omega) (fun r5 hr => ?_)
  refine ml_iload (pc := 1402) dL_law_1402 (mm_get_s (mm_get_s (mm_get_s (mm_get_s (mm_get_s mm_get_0))))) ?_
  refine mb_icmp_eq (pc := 1404) 1409 dL_law_1404 rfl hr (fun hr => ?_) (fun hr => ?_)
  · refine ml_iload (pc := 1409) dL_law_1409 (mm_get_s (mm_get_s (mm_get_s (mm_get_s (mm_get_s mm_get_0))))) ?_
    refine mb_if_ne (pc := 1411) 1426 dL_law_1411 rfl hr (fun hr => ?_) (fun hr => ?_)
    · exact mg_cs (by omega) (by omega) (mg_weak (mm_le_s (mm_le_s (mm_le_s (mm_le_s (mm_le_s (mm_le_n (mm_le_n (mm_le_n mm_le_0)))))))) (L_law_b1426_ok hz hnc hd hx hm (by omega) hk23 hr))
    · refine ml_aload_n (pc := 1414) dL_law_1414 rfl (mm_get_s (mm_get_s (mm_get_s mm_get_0))) ?_
      refine mg_iconst (pc := 1415) dL_law_1415 kc_0 ?_
      refine mb_al (pc := 1416) dL_law_1416 hr (fun y6 hr => ?_)
      refine ml_iload (pc := 1417) dL_law_1417 (mm_get_s (mm_get_s (mm_get_s (mm_get_s (mm_get_s (mm_get_s mm_get_0)))))) ?_
      refine mg_i2l (pc := 1419) dL_law_1419 ?_
      refine mg_lcmp (pc := 1420) dL_law_1420 ?_
      refine mb_if_eq (pc := 1421) 1426 dL_law_1421 rfl hr (fun hr => ?_) (fun hr => ?_)
      · exact mg_cs (by omega) (by omega) (mg_weak (mm_le_s (mm_le_s (mm_le_s (mm_le_s (mm_le_s (mm_le_n (mm_le_n (mm_le_n mm_le_0)))))))) (L_law_b1426_ok hz hnc hd hx hm (by omega) hk23 hr))
      · refine mg_iconst (pc := 1424) dL_law_1424 kc_0 ?_
        exact mb_lwret dL_law_1425 rfl rfl (by show _ ≤ 1011; omega) (by show _ ≤ 17440; omega) hr
  · refine mg_iconst (pc := 1407) dL_law_1407 kc_0 ?_
    exact mb_lwret dL_law_1408 rfl rfl (by show _ ≤ 1011; omega) (by show _ ≤ 17440; omega) hr
def L_law_b1370 (e : mm_E) (k23 : Int32 → mm_V → Option (Int32 × mm_V)) (a0 : Nat) (a1 : Nat) (a2 : Nat) (a3 : Nat) (i4 : Int32) (m : mm_V) : Option (Int32 × mm_V) := L_law_b1713 e k23 a0 a1 a2 a3 i4  m
theorem L_law_b1370_ok {K : mm_K} {e : mm_E} (hz : e.2.1 = K.2.2.2.2) (hnc : va_Nc "java/lang/IllegalArgumentException" "java/util/NoSuchElementException" K.2.1) {d : Nat} (hd : 258 ≤ d) {a0 : Nat} {a1 : Nat} {a2 : Nat} {a3 : Nat} {i4 : Int32} (hx : e.1 a1 = some (11, 19)) (hm : e.1 a2 = some (12, 75)) {k : Nat} (hk : k + 1 ≤ 514) {k23 : Int32 → mm_V → Option (Int32 × mm_V)} (hk23 : ∀ (w4 : Int32) (m : mm_V) (r : Int32 × mm_V), k23 w4 m = some r → mm_G K ML_law d (1011, 17440, .inl (some (.int r.1)), (e.1, r.2), none) 23 [some (.ref a0), some (.ref a1), some (.ref a2), some (.ref a3), some (.int w4), none, none, none] [] (e.1, m) none (493 + (k + 1)) (14332 + 6 * (k + 1))) {m : mm_V} {r : Int32 × mm_V} (hr : L_law_b1370 e k23 a0 a1 a2 a3 i4 m = some r) : mm_G K ML_law d (1011, 17440, .inl (some (.int r.1)), (e.1, r.2), none) 1370 [some (.ref a0), some (.ref a1), some (.ref a2), some (.ref a3), some (.int i4), none, none, none] [] (e.1, m) none (493 + (k + 1)) (14332 + 6 * (k + 1)) := by
  obtain ⟨d, rfl⟩ : ∃ d', d = d' + 1 := ⟨d - 1, by omega⟩
  unfold L_law_b1370 at hr
  refine mg_goto (pc := 1370) 1713 dL_law_1370 rfl ?_
  exact mg_cs (by omega) (by omega) (mg_weak (mm_le_s (mm_le_s (mm_le_s (mm_le_s (mm_le_s (mm_le_n (mm_le_n (mm_le_n mm_le_0)))))))) (L_law_b1713_ok hz hnc hd hx hm (by omega) hk23 hr))
def L_law_b1331 (e : mm_E) (k23 : Int32 → mm_V → Option (Int32 × mm_V)) (a0 : Nat) (a1 : Nat) (a2 : Nat) (a3 : Nat) (i4 : Int32) (i5 : Int32) (t1 : Int32) (t2 : Int32) (t3 : Int32) (t4 : Int32) (m : mm_V) : Option (Int32 × mm_V) := (mm_ai e.1 m 31 a0 (i4 + (5 : Int32))).bind fun x1 => (X12_evenings e a2 t1 t2 t3 t4 x1 m).bind fun r2 => (X12_thrown e a2 r2.2).bind fun r3 => if r3.1 = i5 then (if ¬ i5 = 0 then (L_law_b1370 e k23 a0 a1 a2 a3 i4  r3.2) else ((mm_al e.1 r3.2 a3 (0 : Int32)).bind fun y4 => if (lg_cmp y4 r2.1.toInt64) = 0 then (L_law_b1370 e k23 a0 a1 a2 a3 i4  r3.2) else (mm_rz (0 : Int32) r3.2))) else (mm_rz (0 : Int32) r3.2)
theorem L_law_b1331_ok {K : mm_K} {e : mm_E} (hz : e.2.1 = K.2.2.2.2) (hnc : va_Nc "java/lang/IllegalArgumentException" "java/util/NoSuchElementException" K.2.1) {d : Nat} (hd : 258 ≤ d) {a0 : Nat} {a1 : Nat} {a2 : Nat} {a3 : Nat} {i4 : Int32} {i5 : Int32} {t1 : Int32} {t2 : Int32} {t3 : Int32} {t4 : Int32} (hx : e.1 a1 = some (11, 19)) (hm : e.1 a2 = some (12, 75)) {k : Nat} (hk : k + 1 ≤ 514) {k23 : Int32 → mm_V → Option (Int32 × mm_V)} (hk23 : ∀ (w4 : Int32) (m : mm_V) (r : Int32 × mm_V), k23 w4 m = some r → mm_G K ML_law d (1011, 17440, .inl (some (.int r.1)), (e.1, r.2), none) 23 [some (.ref a0), some (.ref a1), some (.ref a2), some (.ref a3), some (.int w4), none, none, none] [] (e.1, m) none (493 + (k + 1)) (14332 + 6 * (k + 1))) {m : mm_V} {r : Int32 × mm_V} (hr : L_law_b1331 e k23 a0 a1 a2 a3 i4 i5 t1 t2 t3 t4 m = some r) : mm_G K ML_law d (1011, 17440, .inl (some (.int r.1)), (e.1, r.2), none) 1331 [some (.ref a0), some (.ref a1), some (.ref a2), some (.ref a3), some (.int i4), some (.int i5), none, none] [.int t4, .int t3, .int t2, .int t1, .ref a2] (e.1, m) none (493 + (k + 1)) (14332 + 6 * (k + 1)) := by
  obtain ⟨d, rfl⟩ : ∃ d', d = d' + 1 := ⟨d - 1, by omega⟩
  unfold L_law_b1331 at hr
  refine ml_aload_n (pc := 1331) dL_law_1331 rfl mm_get_0 ?_
  refine ml_iload (pc := 1332) dL_law_1332 (mm_get_s (mm_get_s (mm_get_s (mm_get_s mm_get_0)))) ?_
  refine mg_iconst (pc := 1334) dL_law_1334 kc_5 ?_
  refine mg_iadd (pc := 1335) dL_law_1335 ?_
  refine mb_ax (pc := 1336) dL_law_1336 hr (fun x1 hr => ?_)
  refine mb_cVi (pc := 1337) (As := [.int t1, .int t2, .int t3, .int t4, .int x1]) (rest := []) dL_law_1337 cw_L_158 hm hr (fun v hv => X12_evenings_ok hz (by omega) hm hv) rfl (Nat.le_of_ble_eq_true rfl) (by show _ ≤ 1011; omega) (by show _ ≤ 17440; omega) (fun r2 hr => ?_)
  refine ml_istore (pc := 1340) dL_law_1340 (Nat.le_of_ble_eq_true rfl) (mm_st1_s (mm_st1_s (mm_st1_s (mm_st1_s (mm_st1_s mm_st1_i))))) ?_
  refine ml_aload_n (pc := 1342) dL_law_1342 rfl (mm_get_s (mm_get_s mm_get_0)) ?_
  refine mb_cVi (pc := 1343) (As := []) (rest := []) dL_law_1343 cw_L_96 hm hr (fun v hv => X12_thrown_ok hz (by omega) hm hv) rfl (Nat.le_of_ble_eq_true rfl) (by show _ ≤ 1011; omega) (by show _ ≤ 17440; omega) (fun r3 hr => ?_)
  refine ml_iload (pc := 1346) dL_law_1346 (mm_get_s (mm_get_s (mm_get_s (mm_get_s (mm_get_s mm_get_0))))) ?_
  refine mb_icmp_eq (pc := 1348) 1353 dL_law_1348 rfl hr (fun hr => ?_) (fun hr => ?_)
  · refine ml_iload (pc := 1353) dL_law_1353 (mm_get_s (mm_get_s (mm_get_s (mm_get_s (mm_get_s mm_get_0))))) ?_
    refine mb_if_ne (pc := 1355) 1370 dL_law_1355 rfl hr (fun hr => ?_) (fun hr => ?_)
    · exact mg_cs (by omega) (by omega) (mg_weak (mm_le_s (mm_le_s (mm_le_s (mm_le_s (mm_le_s (mm_le_n (mm_le_n (mm_le_n mm_le_0)))))))) (L_law_b1370_ok hz hnc hd hx hm (by omega) hk23 hr))
    · refine ml_aload_n (pc := 1358) dL_law_1358 rfl (mm_get_s (mm_get_s (mm_get_s mm_get_0))) ?_
      refine mg_iconst (pc := 1359) dL_law_1359 kc_0 ?_
      refine mb_al (pc := 1360) dL_law_1360 hr (fun y4 hr => ?_)
      refine ml_iload (pc := 1361) dL_law_1361 (mm_get_s (mm_get_s (mm_get_s (mm_get_s (mm_get_s (mm_get_s mm_get_0)))))) ?_
      refine mg_i2l (pc := 1363) dL_law_1363 ?_
      refine mg_lcmp (pc := 1364) dL_law_1364 ?_
      refine mb_if_eq (pc := 1365) 1370 dL_law_1365 rfl hr (fun hr => ?_) (fun hr => ?_)
      · exact mg_cs (by omega) (by omega) (mg_weak (mm_le_s (mm_le_s (mm_le_s (mm_le_s (mm_le_s (mm_le_n (mm_le_n (mm_le_n mm_le_0)))))))) (L_law_b1370_ok hz hnc hd hx hm (by omega) hk23 hr))
      · refine mg_iconst (pc := 1368) dL_law_1368 kc_0 ?_
        exact mb_lwret dL_law_1369 rfl rfl (by show _ ≤ 1011; omega) (by show _ ≤ 17440; omega) hr
  · refine mg_iconst (pc := 1351) dL_law_1351 kc_0 ?_
    exact mb_lwret dL_law_1352 rfl rfl (by show _ ≤ 1011; omega) (by show _ ≤ 17440; omega) hr
def L_law_b1286 (e : mm_E) (k23 : Int32 → mm_V → Option (Int32 × mm_V)) (a0 : Nat) (a1 : Nat) (a2 : Nat) (a3 : Nat) (i4 : Int32) (t1 : Int32) (t2 : Int32) (t3 : Int32) (t4 : Int32) (m : mm_V) : Option (Int32 × mm_V) := (mm_ai e.1 m 31 a0 (i4 + (5 : Int32))).bind fun x1 => (L_evenings e a1 t1 t2 t3 t4 x1 a3 m).bind fun r2 => (mm_ai e.1 r2.2 31 a0 (i4 + (1 : Int32))).bind fun x3 => (mm_ai e.1 r2.2 31 a0 (i4 + (2 : Int32))).bind fun x4 => (mm_ai e.1 r2.2 31 a0 (i4 + (3 : Int32))).bind fun x5 => (mm_ai e.1 r2.2 31 a0 (i4 + (4 : Int32))).bind fun x6 => if x6 = 0 then (L_law_b1331 e k23 a0 a1 a2 a3 i4 r2.1 x3 x4 x5 (0 : Int32) r2.2) else (L_law_b1331 e k23 a0 a1 a2 a3 i4 r2.1 x3 x4 x5 (1 : Int32) r2.2)
theorem L_law_b1286_ok {K : mm_K} {e : mm_E} (hz : e.2.1 = K.2.2.2.2) (hnc : va_Nc "java/lang/IllegalArgumentException" "java/util/NoSuchElementException" K.2.1) {d : Nat} (hd : 258 ≤ d) {a0 : Nat} {a1 : Nat} {a2 : Nat} {a3 : Nat} {i4 : Int32} {t1 : Int32} {t2 : Int32} {t3 : Int32} {t4 : Int32} (hx : e.1 a1 = some (11, 19)) (hm : e.1 a2 = some (12, 75)) {k : Nat} (hk : k + 1 ≤ 514) {k23 : Int32 → mm_V → Option (Int32 × mm_V)} (hk23 : ∀ (w4 : Int32) (m : mm_V) (r : Int32 × mm_V), k23 w4 m = some r → mm_G K ML_law d (1011, 17440, .inl (some (.int r.1)), (e.1, r.2), none) 23 [some (.ref a0), some (.ref a1), some (.ref a2), some (.ref a3), some (.int w4), none, none, none] [] (e.1, m) none (493 + (k + 1)) (14332 + 6 * (k + 1))) {m : mm_V} {r : Int32 × mm_V} (hr : L_law_b1286 e k23 a0 a1 a2 a3 i4 t1 t2 t3 t4 m = some r) : mm_G K ML_law d (1011, 17440, .inl (some (.int r.1)), (e.1, r.2), none) 1286 [some (.ref a0), some (.ref a1), some (.ref a2), some (.ref a3), some (.int i4), none, none, none] [.int t4, .int t3, .int t2, .int t1, .ref a1] (e.1, m) none (493 + (k + 1)) (14332 + 6 * (k + 1)) := by
  obtain ⟨d, rfl⟩ : ∃ d', d = d' + 1 := ⟨d - 1, by omega⟩
  unfold L_law_b1286 at hr
  refine ml_aload_n (pc := 1286) dL_law_1286 rfl mm_get_0 ?_
  refine ml_iload (pc := 1287) dL_law_1287 (mm_get_s (mm_get_s (mm_get_s (mm_get_s mm_get_0)))) ?_
  refine mg_iconst (pc := 1289) dL_law_1289 kc_5 ?_
  refine mg_iadd (pc := 1290) dL_law_1290 ?_
  refine mb_ax (pc := 1291) dL_law_1291 hr (fun x1 hr => ?_)
  refine ml_aload_n (pc := 1292) dL_law_1292 rfl (mm_get_s (mm_get_s (mm_get_s mm_get_0))) ?_
  refine mb_wS (pc := 1293) (As := [.ref a1, .int t1, .int t2, .int t3, .int t4, .int x1, .ref a3]) (rest := []) dL_law_1293 cx_155 hr (fun v hv => L_evenings_ok hz hnc (by omega) hx hv) rfl (Nat.le_of_ble_eq_true rfl) (by show _ ≤ 1011; omega) (by show _ ≤ 17440; omega) (fun r2 hr => ?_)
  refine ml_istore (pc := 1296) dL_law_1296 (Nat.le_of_ble_eq_true rfl) (mm_st1_s (mm_st1_s (mm_st1_s (mm_st1_s mm_st1_i)))) ?_
  refine ml_aload_n (pc := 1298) dL_law_1298 rfl (mm_get_s (mm_get_s mm_get_0)) ?_
  refine ml_aload_n (pc := 1299) dL_law_1299 rfl mm_get_0 ?_
  refine ml_iload (pc := 1300) dL_law_1300 (mm_get_s (mm_get_s (mm_get_s (mm_get_s mm_get_0)))) ?_
  refine mg_iconst (pc := 1302) dL_law_1302 kc_1 ?_
  refine mg_iadd (pc := 1303) dL_law_1303 ?_
  refine mb_ax (pc := 1304) dL_law_1304 hr (fun x3 hr => ?_)
  refine ml_aload_n (pc := 1305) dL_law_1305 rfl mm_get_0 ?_
  refine ml_iload (pc := 1306) dL_law_1306 (mm_get_s (mm_get_s (mm_get_s (mm_get_s mm_get_0)))) ?_
  refine mg_iconst (pc := 1308) dL_law_1308 kc_2 ?_
  refine mg_iadd (pc := 1309) dL_law_1309 ?_
  refine mb_ax (pc := 1310) dL_law_1310 hr (fun x4 hr => ?_)
  refine ml_aload_n (pc := 1311) dL_law_1311 rfl mm_get_0 ?_
  refine ml_iload (pc := 1312) dL_law_1312 (mm_get_s (mm_get_s (mm_get_s (mm_get_s mm_get_0)))) ?_
  refine mg_iconst (pc := 1314) dL_law_1314 kc_3 ?_
  refine mg_iadd (pc := 1315) dL_law_1315 ?_
  refine mb_ax (pc := 1316) dL_law_1316 hr (fun x5 hr => ?_)
  refine ml_aload_n (pc := 1317) dL_law_1317 rfl mm_get_0 ?_
  refine ml_iload (pc := 1318) dL_law_1318 (mm_get_s (mm_get_s (mm_get_s (mm_get_s mm_get_0)))) ?_
  refine mg_iconst (pc := 1320) dL_law_1320 kc_4 ?_
  refine mg_iadd (pc := 1321) dL_law_1321 ?_
  refine mb_ax (pc := 1322) dL_law_1322 hr (fun x6 hr => ?_)
  refine mb_if_eq (pc := 1323) 1330 dL_law_1323 rfl hr (fun hr => ?_) (fun hr => ?_)
  · refine mg_iconst (pc := 1330) dL_law_1330 kc_0 ?_
    exact mg_cs (by omega) (by omega) (mg_weak (mm_le_s (mm_le_s (mm_le_s (mm_le_s (mm_le_s (mm_le_s (mm_le_n (mm_le_n mm_le_0)))))))) (L_law_b1331_ok hz hnc hd hx hm (by omega) hk23 hr))
  · refine mg_iconst (pc := 1326) dL_law_1326 kc_1 ?_
    refine mg_goto (pc := 1327) 1331 dL_law_1327 rfl ?_
    exact mg_cs (by omega) (by omega) (mg_weak (mm_le_s (mm_le_s (mm_le_s (mm_le_s (mm_le_s (mm_le_s (mm_le_n (mm_le_n mm_le_0)))))))) (L_law_b1331_ok hz hnc hd hx hm (by omega) hk23 hr))
def L_law_b1253 (e : mm_E) (k23 : Int32 → mm_V → Option (Int32 × mm_V)) (a0 : Nat) (a1 : Nat) (a2 : Nat) (a3 : Nat) (i4 : Int32) (m : mm_V) : Option (Int32 × mm_V) := (mm_ai e.1 m 31 a0 (i4 + (1 : Int32))).bind fun x1 => (mm_ai e.1 m 31 a0 (i4 + (2 : Int32))).bind fun x2 => (mm_ai e.1 m 31 a0 (i4 + (3 : Int32))).bind fun x3 => (mm_ai e.1 m 31 a0 (i4 + (4 : Int32))).bind fun x4 => if x4 = 0 then (L_law_b1286 e k23 a0 a1 a2 a3 i4 x1 x2 x3 (0 : Int32) m) else (L_law_b1286 e k23 a0 a1 a2 a3 i4 x1 x2 x3 (1 : Int32) m)
theorem L_law_b1253_ok {K : mm_K} {e : mm_E} (hz : e.2.1 = K.2.2.2.2) (hnc : va_Nc "java/lang/IllegalArgumentException" "java/util/NoSuchElementException" K.2.1) {d : Nat} (hd : 258 ≤ d) {a0 : Nat} {a1 : Nat} {a2 : Nat} {a3 : Nat} {i4 : Int32} (hx : e.1 a1 = some (11, 19)) (hm : e.1 a2 = some (12, 75)) {k : Nat} (hk : k + 1 ≤ 514) {k23 : Int32 → mm_V → Option (Int32 × mm_V)} (hk23 : ∀ (w4 : Int32) (m : mm_V) (r : Int32 × mm_V), k23 w4 m = some r → mm_G K ML_law d (1011, 17440, .inl (some (.int r.1)), (e.1, r.2), none) 23 [some (.ref a0), some (.ref a1), some (.ref a2), some (.ref a3), some (.int w4), none, none, none] [] (e.1, m) none (493 + (k + 1)) (14332 + 6 * (k + 1))) {m : mm_V} {r : Int32 × mm_V} (hr : L_law_b1253 e k23 a0 a1 a2 a3 i4 m = some r) : mm_G K ML_law d (1011, 17440, .inl (some (.int r.1)), (e.1, r.2), none) 1253 [some (.ref a0), some (.ref a1), some (.ref a2), some (.ref a3), some (.int i4), none, none, none] [] (e.1, m) none (493 + (k + 1)) (14332 + 6 * (k + 1)) := by
  obtain ⟨d, rfl⟩ : ∃ d', d = d' + 1 := ⟨d - 1, by omega⟩
  unfold L_law_b1253 at hr
  refine ml_aload_n (pc := 1253) dL_law_1253 rfl (mm_get_s mm_get_0) ?_
  refine ml_aload_n (pc := 1254) dL_law_1254 rfl mm_get_0 ?_
  refine ml_iload (pc := 1255) dL_law_1255 (mm_get_s (mm_get_s (mm_get_s (mm_get_s mm_get_0)))) ?_
  refine mg_iconst (pc := 1257) dL_law_1257 kc_1 ?_
  refine mg_iadd (pc := 1258) dL_law_1258 ?_
  refine mb_ax (pc := 1259) dL_law_1259 hr (fun x1 hr => ?_)
  refine ml_aload_n (pc := 1260) dL_law_1260 rfl mm_get_0 ?_
  refine ml_iload (pc := 1261) dL_law_1261 (mm_get_s (mm_get_s (mm_get_s (mm_get_s mm_get_0)))) ?_
  refine mg_iconst (pc := 1263) dL_law_1263 kc_2 ?_
  refine mg_iadd (pc := 1264) dL_law_1264 ?_
  refine mb_ax (pc := 1265) dL_law_1265 hr (fun x2 hr => ?_)
  refine ml_aload_n (pc := 1266) dL_law_1266 rfl mm_get_0 ?_
  refine ml_iload (pc := 1267) dL_law_1267 (mm_get_s (mm_get_s (mm_get_s (mm_get_s mm_get_0)))) ?_
  refine mg_iconst (pc := 1269) dL_law_1269 kc_3 ?_
  refine mg_iadd (pc := 1270) dL_law_1270 ?_
  refine mb_ax (pc := 1271) dL_law_1271 hr (fun x3 hr => ?_)
  refine ml_aload_n (pc := 1272) dL_law_1272 rfl mm_get_0 ?_
  refine ml_iload (pc := 1273) dL_law_1273 (mm_get_s (mm_get_s (mm_get_s (mm_get_s mm_get_0)))) ?_
  refine mg_iconst (pc := 1275) dL_law_1275 kc_4 ?_
  refine mg_iadd (pc := 1276) dL_law_1276 ?_
  refine mb_ax (pc := 1277) dL_law_1277 hr (fun x4 hr => ?_)
  refine mb_if_eq (pc := 1278) 1285 dL_law_1278 rfl hr (fun hr => ?_) (fun hr => ?_)
  · refine mg_iconst (pc := 1285) dL_law_1285 kc_0 ?_
    exact mg_cs (by omega) (by omega) (mg_weak (mm_le_s (mm_le_s (mm_le_s (mm_le_s (mm_le_s (mm_le_n (mm_le_n (mm_le_n mm_le_0)))))))) (L_law_b1286_ok hz hnc hd hx hm (by omega) hk23 hr))
  · refine mg_iconst (pc := 1281) dL_law_1281 kc_1 ?_
    refine mg_goto (pc := 1282) 1286 dL_law_1282 rfl ?_
    exact mg_cs (by omega) (by omega) (mg_weak (mm_le_s (mm_le_s (mm_le_s (mm_le_s (mm_le_s (mm_le_n (mm_le_n (mm_le_n mm_le_0)))))))) (L_law_b1286_ok hz hnc hd hx hm (by omega) hk23 hr))
def L_law_b1250 (e : mm_E) (k23 : Int32 → mm_V → Option (Int32 × mm_V)) (a0 : Nat) (a1 : Nat) (a2 : Nat) (a3 : Nat) (i4 : Int32) (m : mm_V) : Option (Int32 × mm_V) := L_law_b1713 e k23 a0 a1 a2 a3 i4  m
theorem L_law_b1250_ok {K : mm_K} {e : mm_E} (hz : e.2.1 = K.2.2.2.2) (hnc : va_Nc "java/lang/IllegalArgumentException" "java/util/NoSuchElementException" K.2.1) {d : Nat} (hd : 258 ≤ d) {a0 : Nat} {a1 : Nat} {a2 : Nat} {a3 : Nat} {i4 : Int32} (hx : e.1 a1 = some (11, 19)) (hm : e.1 a2 = some (12, 75)) {k : Nat} (hk : k + 1 ≤ 514) {k23 : Int32 → mm_V → Option (Int32 × mm_V)} (hk23 : ∀ (w4 : Int32) (m : mm_V) (r : Int32 × mm_V), k23 w4 m = some r → mm_G K ML_law d (1011, 17440, .inl (some (.int r.1)), (e.1, r.2), none) 23 [some (.ref a0), some (.ref a1), some (.ref a2), some (.ref a3), some (.int w4), none, none, none] [] (e.1, m) none (493 + (k + 1)) (14332 + 6 * (k + 1))) {m : mm_V} {r : Int32 × mm_V} (hr : L_law_b1250 e k23 a0 a1 a2 a3 i4 m = some r) : mm_G K ML_law d (1011, 17440, .inl (some (.int r.1)), (e.1, r.2), none) 1250 [some (.ref a0), some (.ref a1), some (.ref a2), some (.ref a3), some (.int i4), none, none, none] [] (e.1, m) none (493 + (k + 1)) (14332 + 6 * (k + 1)) := by
  obtain ⟨d, rfl⟩ : ∃ d', d = d' + 1 := ⟨d - 1, by omega⟩
  unfold L_law_b1250 at hr
  refine mg_goto (pc := 1250) 1713 dL_law_1250 rfl ?_
  exact mg_cs (by omega) (by omega) (mg_weak (mm_le_s (mm_le_s (mm_le_s (mm_le_s (mm_le_s (mm_le_n (mm_le_n (mm_le_n mm_le_0)))))))) (L_law_b1713_ok hz hnc hd hx hm (by omega) hk23 hr))
def L_law_b1185 (e : mm_E) (k23 : Int32 → mm_V → Option (Int32 × mm_V)) (a0 : Nat) (a1 : Nat) (a2 : Nat) (a3 : Nat) (i4 : Int32) (m : mm_V) : Option (Int32 × mm_V) := (mm_ai e.1 m 31 a0 (i4 + (1 : Int32))).bind fun x1 => (mm_ai e.1 m 31 a0 (i4 + (2 : Int32))).bind fun x2 => (L_seats e a1 x1 x2 a3 m).bind fun r3 => (mm_ai e.1 r3.2 31 a0 (i4 + (1 : Int32))).bind fun x4 => (mm_ai e.1 r3.2 31 a0 (i4 + (2 : Int32))).bind fun x5 => (X12_seats e a2 x4 x5 r3.2).bind fun r6 => (X12_thrown e a2 r6.2).bind fun r7 => if r7.1 = r3.1 then (if ¬ r3.1 = 0 then (L_law_b1250 e k23 a0 a1 a2 a3 i4  r7.2) else ((mm_al e.1 r7.2 a3 (0 : Int32)).bind fun y8 => if (lg_cmp y8 r6.1.toInt64) = 0 then (L_law_b1250 e k23 a0 a1 a2 a3 i4  r7.2) else (mm_rz (0 : Int32) r7.2))) else (mm_rz (0 : Int32) r7.2)
theorem L_law_b1185_ok {K : mm_K} {e : mm_E} (hz : e.2.1 = K.2.2.2.2) (hnc : va_Nc "java/lang/IllegalArgumentException" "java/util/NoSuchElementException" K.2.1) {d : Nat} (hd : 258 ≤ d) {a0 : Nat} {a1 : Nat} {a2 : Nat} {a3 : Nat} {i4 : Int32} (hx : e.1 a1 = some (11, 19)) (hm : e.1 a2 = some (12, 75)) {k : Nat} (hk : k + 1 ≤ 514) {k23 : Int32 → mm_V → Option (Int32 × mm_V)} (hk23 : ∀ (w4 : Int32) (m : mm_V) (r : Int32 × mm_V), k23 w4 m = some r → mm_G K ML_law d (1011, 17440, .inl (some (.int r.1)), (e.1, r.2), none) 23 [some (.ref a0), some (.ref a1), some (.ref a2), some (.ref a3), some (.int w4), none, none, none] [] (e.1, m) none (493 + (k + 1)) (14332 + 6 * (k + 1))) {m : mm_V} {r : Int32 × mm_V} (hr : L_law_b1185 e k23 a0 a1 a2 a3 i4 m = some r) : mm_G K ML_law d (1011, 17440, .inl (some (.int r.1)), (e.1, r.2), none) 1185 [some (.ref a0), some (.ref a1), some (.ref a2), some (.ref a3), some (.int i4), none, none, none] [] (e.1, m) none (493 + (k + 1)) (14332 + 6 * (k + 1)) := by
  obtain ⟨d, rfl⟩ : ∃ d', d = d' + 1 := ⟨d - 1, by omega⟩
  unfold L_law_b1185 at hr
  refine ml_aload_n (pc := 1185) dL_law_1185 rfl (mm_get_s mm_get_0) ?_
  refine ml_aload_n (pc := 1186) dL_law_1186 rfl mm_get_0 ?_
  refine ml_iload (pc := 1187) dL_law_1187 (mm_get_s (mm_get_s (mm_get_s (mm_get_s mm_get_0)))) ?_
  refine mg_iconst (pc := 1189) dL_law_1189 kc_1 ?_
  refine mg_iadd (pc := 1190) dL_law_1190 ?_
  refine mb_ax (pc := 1191) dL_law_1191 hr (fun x1 hr => ?_)
  refine ml_aload_n (pc := 1192) dL_law_1192 rfl mm_get_0 ?_
  refine ml_iload (pc := 1193) dL_law_1193 (mm_get_s (mm_get_s (mm_get_s (mm_get_s mm_get_0)))) ?_
  refine mg_iconst (pc := 1195) dL_law_1195 kc_2 ?_
  refine mg_iadd (pc := 1196) dL_law_1196 ?_
  refine mb_ax (pc := 1197) dL_law_1197 hr (fun x2 hr => ?_)
  refine ml_aload_n (pc := 1198) dL_law_1198 rfl (mm_get_s (mm_get_s (mm_get_s mm_get_0))) ?_
  refine mb_wS (pc := 1199) (As := [.ref a1, .int x1, .int x2, .ref a3]) (rest := []) dL_law_1199 cx_152 hr (fun v hv => L_seats_ok hz hnc (by omega) hx hv) rfl (Nat.le_of_ble_eq_true rfl) (by show _ ≤ 1011; omega) (by show _ ≤ 17440; omega) (fun r3 hr => ?_)
  refine ml_istore (pc := 1202) dL_law_1202 (Nat.le_of_ble_eq_true rfl) (mm_st1_s (mm_st1_s (mm_st1_s (mm_st1_s mm_st1_i)))) ?_
  refine ml_aload_n (pc := 1204) dL_law_1204 rfl (mm_get_s (mm_get_s mm_get_0)) ?_
  refine ml_aload_n (pc := 1205) dL_law_1205 rfl mm_get_0 ?_
  refine ml_iload (pc := 1206) dL_law_1206 (mm_get_s (mm_get_s (mm_get_s (mm_get_s mm_get_0)))) ?_
  refine mg_iconst (pc := 1208) dL_law_1208 kc_1 ?_
  refine mg_iadd (pc := 1209) dL_law_1209 ?_
  refine mb_ax (pc := 1210) dL_law_1210 hr (fun x4 hr => ?_)
  refine ml_aload_n (pc := 1211) dL_law_1211 rfl mm_get_0 ?_
  refine ml_iload (pc := 1212) dL_law_1212 (mm_get_s (mm_get_s (mm_get_s (mm_get_s mm_get_0)))) ?_
  refine mg_iconst (pc := 1214) dL_law_1214 kc_2 ?_
  refine mg_iadd (pc := 1215) dL_law_1215 ?_
  refine mb_ax (pc := 1216) dL_law_1216 hr (fun x5 hr => ?_)
  refine mb_cVi (pc := 1217) (As := [.int x4, .int x5]) (rest := []) dL_law_1217 cw_L_154 hm hr (fun v hv => X12_seats_ok hz (by omega) hm hv) rfl (Nat.le_of_ble_eq_true rfl) (by show _ ≤ 1011; omega) (by show _ ≤ 17440; omega) (fun r6 hr => ?_)
  refine ml_istore (pc := 1220) dL_law_1220 (Nat.le_of_ble_eq_true rfl) (mm_st1_s (mm_st1_s (mm_st1_s (mm_st1_s (mm_st1_s mm_st1_i))))) ?_
  refine ml_aload_n (pc := 1222) dL_law_1222 rfl (mm_get_s (mm_get_s mm_get_0)) ?_
  refine mb_cVi (pc := 1223) (As := []) (rest := []) dL_law_1223 cw_L_96 hm hr (fun v hv => X12_thrown_ok hz (by omega) hm hv) rfl (Nat.le_of_ble_eq_true rfl) (by show _ ≤ 1011; omega) (by show _ ≤ 17440; omega) (fun r7 hr => ?_)
  refine ml_iload (pc := 1226) dL_law_1226 (mm_get_s (mm_get_s (mm_get_s (mm_get_s (mm_get_s mm_get_0))))) ?_
  refine mb_icmp_eq (pc := 1228) 1233 dL_law_1228 rfl hr (fun hr => ?_) (fun hr => ?_)
  · refine ml_iload (pc := 1233) dL_law_1233 (mm_get_s (mm_get_s (mm_get_s (mm_get_s (mm_get_s mm_get_0))))) ?_
    refine mb_if_ne (pc := 1235) 1250 dL_law_1235 rfl hr (fun hr => ?_) (fun hr => ?_)
    · exact mg_cs (by omega) (by omega) (mg_weak (mm_le_s (mm_le_s (mm_le_s (mm_le_s (mm_le_s (mm_le_n (mm_le_n (mm_le_n mm_le_0)))))))) (L_law_b1250_ok hz hnc hd hx hm (by omega) hk23 hr))
    · refine ml_aload_n (pc := 1238) dL_law_1238 rfl (mm_get_s (mm_get_s (mm_get_s mm_get_0))) ?_
      refine mg_iconst (pc := 1239) dL_law_1239 kc_0 ?_
      refine mb_al (pc := 1240) dL_law_1240 hr (fun y8 hr => ?_)
      refine ml_iload (pc := 1241) dL_law_1241 (mm_get_s (mm_get_s (mm_get_s (mm_get_s (mm_get_s (mm_get_s mm_get_0)))))) ?_
      refine mg_i2l (pc := 1243) dL_law_1243 ?_
      refine mg_lcmp (pc := 1244) dL_law_1244 ?_
      refine mb_if_eq (pc := 1245) 1250 dL_law_1245 rfl hr (fun hr => ?_) (fun hr => ?_)
      · exact mg_cs (by omega) (by omega) (mg_weak (mm_le_s (mm_le_s (mm_le_s (mm_le_s (mm_le_s (mm_le_n (mm_le_n (mm_le_n mm_le_0)))))))) (L_law_b1250_ok hz hnc hd hx hm (by omega) hk23 hr))
      · refine mg_iconst (pc := 1248) dL_law_1248 kc_0 ?_
        exact mb_lwret dL_law_1249 rfl rfl (by show _ ≤ 1011; omega) (by show _ ≤ 17440; omega) hr
  · refine mg_iconst (pc := 1231) dL_law_1231 kc_0 ?_
    exact mb_lwret dL_law_1232 rfl rfl (by show _ ≤ 1011; omega) (by show _ ≤ 17440; omega) hr
def L_law_b1182 (e : mm_E) (k23 : Int32 → mm_V → Option (Int32 × mm_V)) (a0 : Nat) (a1 : Nat) (a2 : Nat) (a3 : Nat) (i4 : Int32) (m : mm_V) : Option (Int32 × mm_V) := L_law_b1713 e k23 a0 a1 a2 a3 i4  m
theorem L_law_b1182_ok {K : mm_K} {e : mm_E} (hz : e.2.1 = K.2.2.2.2) (hnc : va_Nc "java/lang/IllegalArgumentException" "java/util/NoSuchElementException" K.2.1) {d : Nat} (hd : 258 ≤ d) {a0 : Nat} {a1 : Nat} {a2 : Nat} {a3 : Nat} {i4 : Int32} (hx : e.1 a1 = some (11, 19)) (hm : e.1 a2 = some (12, 75)) {k : Nat} (hk : k + 1 ≤ 514) {k23 : Int32 → mm_V → Option (Int32 × mm_V)} (hk23 : ∀ (w4 : Int32) (m : mm_V) (r : Int32 × mm_V), k23 w4 m = some r → mm_G K ML_law d (1011, 17440, .inl (some (.int r.1)), (e.1, r.2), none) 23 [some (.ref a0), some (.ref a1), some (.ref a2), some (.ref a3), some (.int w4), none, none, none] [] (e.1, m) none (493 + (k + 1)) (14332 + 6 * (k + 1))) {m : mm_V} {r : Int32 × mm_V} (hr : L_law_b1182 e k23 a0 a1 a2 a3 i4 m = some r) : mm_G K ML_law d (1011, 17440, .inl (some (.int r.1)), (e.1, r.2), none) 1182 [some (.ref a0), some (.ref a1), some (.ref a2), some (.ref a3), some (.int i4), none, none, none] [] (e.1, m) none (493 + (k + 1)) (14332 + 6 * (k + 1)) := by
  obtain ⟨d, rfl⟩ : ∃ d', d = d' + 1 := ⟨d - 1, by omega⟩
  unfold L_law_b1182 at hr
  refine mg_goto (pc := 1182) 1713 dL_law_1182 rfl ?_
  exact mg_cs (by omega) (by omega) (mg_weak (mm_le_s (mm_le_s (mm_le_s (mm_le_s (mm_le_s (mm_le_n (mm_le_n (mm_le_n mm_le_0)))))))) (L_law_b1713_ok hz hnc hd hx hm (by omega) hk23 hr))
def L_law_b1117 (e : mm_E) (k23 : Int32 → mm_V → Option (Int32 × mm_V)) (a0 : Nat) (a1 : Nat) (a2 : Nat) (a3 : Nat) (i4 : Int32) (m : mm_V) : Option (Int32 × mm_V) := (mm_ai e.1 m 31 a0 (i4 + (1 : Int32))).bind fun x1 => (mm_ai e.1 m 31 a0 (i4 + (2 : Int32))).bind fun x2 => (L_choose e a1 x1 x2 a3 m).bind fun r3 => (mm_ai e.1 r3.2 31 a0 (i4 + (1 : Int32))).bind fun x4 => (mm_ai e.1 r3.2 31 a0 (i4 + (2 : Int32))).bind fun x5 => (X12_choose e a2 x4 x5 r3.2).bind fun r6 => (X12_thrown e a2 r6.2).bind fun r7 => if r7.1 = r3.1 then (if ¬ r3.1 = 0 then (L_law_b1182 e k23 a0 a1 a2 a3 i4  r7.2) else ((mm_al e.1 r7.2 a3 (0 : Int32)).bind fun y8 => if (lg_cmp y8 r6.1.toInt64) = 0 then (L_law_b1182 e k23 a0 a1 a2 a3 i4  r7.2) else (mm_rz (0 : Int32) r7.2))) else (mm_rz (0 : Int32) r7.2)
theorem L_law_b1117_ok {K : mm_K} {e : mm_E} (hz : e.2.1 = K.2.2.2.2) (hnc : va_Nc "java/lang/IllegalArgumentException" "java/util/NoSuchElementException" K.2.1) {d : Nat} (hd : 258 ≤ d) {a0 : Nat} {a1 : Nat} {a2 : Nat} {a3 : Nat} {i4 : Int32} (hx : e.1 a1 = some (11, 19)) (hm : e.1 a2 = some (12, 75)) {k : Nat} (hk : k + 1 ≤ 514) {k23 : Int32 → mm_V → Option (Int32 × mm_V)} (hk23 : ∀ (w4 : Int32) (m : mm_V) (r : Int32 × mm_V), k23 w4 m = some r → mm_G K ML_law d (1011, 17440, .inl (some (.int r.1)), (e.1, r.2), none) 23 [some (.ref a0), some (.ref a1), some (.ref a2), some (.ref a3), some (.int w4), none, none, none] [] (e.1, m) none (493 + (k + 1)) (14332 + 6 * (k + 1))) {m : mm_V} {r : Int32 × mm_V} (hr : L_law_b1117 e k23 a0 a1 a2 a3 i4 m = some r) : mm_G K ML_law d (1011, 17440, .inl (some (.int r.1)), (e.1, r.2), none) 1117 [some (.ref a0), some (.ref a1), some (.ref a2), some (.ref a3), some (.int i4), none, none, none] [] (e.1, m) none (493 + (k + 1)) (14332 + 6 * (k + 1)) := by
  obtain ⟨d, rfl⟩ : ∃ d', d = d' + 1 := ⟨d - 1, by omega⟩
  unfold L_law_b1117 at hr
  refine ml_aload_n (pc := 1117) dL_law_1117 rfl (mm_get_s mm_get_0) ?_
  refine ml_aload_n (pc := 1118) dL_law_1118 rfl mm_get_0 ?_
  refine ml_iload (pc := 1119) dL_law_1119 (mm_get_s (mm_get_s (mm_get_s (mm_get_s mm_get_0)))) ?_
  refine mg_iconst (pc := 1121) dL_law_1121 kc_1 ?_
  refine mg_iadd (pc := 1122) dL_law_1122 ?_
  refine mb_ax (pc := 1123) dL_law_1123 hr (fun x1 hr => ?_)
  refine ml_aload_n (pc := 1124) dL_law_1124 rfl mm_get_0 ?_
  refine ml_iload (pc := 1125) dL_law_1125 (mm_get_s (mm_get_s (mm_get_s (mm_get_s mm_get_0)))) ?_
  refine mg_iconst (pc := 1127) dL_law_1127 kc_2 ?_
  refine mg_iadd (pc := 1128) dL_law_1128 ?_
  refine mb_ax (pc := 1129) dL_law_1129 hr (fun x2 hr => ?_)
  refine ml_aload_n (pc := 1130) dL_law_1130 rfl (mm_get_s (mm_get_s (mm_get_s mm_get_0))) ?_
  refine mb_wS (pc := 1131) (As := [.ref a1, .int x1, .int x2, .ref a3]) (rest := []) dL_law_1131 cx_149 hr (fun v hv => L_choose_ok hz hnc (by omega) hx hv) rfl (Nat.le_of_ble_eq_true rfl) (by show _ ≤ 1011; omega) (by show _ ≤ 17440; omega) (fun r3 hr => ?_)
  refine ml_istore (pc := 1134) dL_law_1134 (Nat.le_of_ble_eq_true rfl) (mm_st1_s (mm_st1_s (mm_st1_s (mm_st1_s mm_st1_i)))) ?_
  refine ml_aload_n (pc := 1136) dL_law_1136 rfl (mm_get_s (mm_get_s mm_get_0)) ?_
  refine ml_aload_n (pc := 1137) dL_law_1137 rfl mm_get_0 ?_
  refine ml_iload (pc := 1138) dL_law_1138 (mm_get_s (mm_get_s (mm_get_s (mm_get_s mm_get_0)))) ?_
  refine mg_iconst (pc := 1140) dL_law_1140 kc_1 ?_
  refine mg_iadd (pc := 1141) dL_law_1141 ?_
  refine mb_ax (pc := 1142) dL_law_1142 hr (fun x4 hr => ?_)
  refine ml_aload_n (pc := 1143) dL_law_1143 rfl mm_get_0 ?_
  refine ml_iload (pc := 1144) dL_law_1144 (mm_get_s (mm_get_s (mm_get_s (mm_get_s mm_get_0)))) ?_
  refine mg_iconst (pc := 1146) dL_law_1146 kc_2 ?_
  refine mg_iadd (pc := 1147) dL_law_1147 ?_
  refine mb_ax (pc := 1148) dL_law_1148 hr (fun x5 hr => ?_)
  refine mb_cVi (pc := 1149) (As := [.int x4, .int x5]) (rest := []) dL_law_1149 cw_L_151 hm hr (fun v hv => X12_choose_ok hz (by omega) hm hv) rfl (Nat.le_of_ble_eq_true rfl) (by show _ ≤ 1011; omega) (by show _ ≤ 17440; omega) (fun r6 hr => ?_)
  refine ml_istore (pc := 1152) dL_law_1152 (Nat.le_of_ble_eq_true rfl) (mm_st1_s (mm_st1_s (mm_st1_s (mm_st1_s (mm_st1_s mm_st1_i))))) ?_
  refine ml_aload_n (pc := 1154) dL_law_1154 rfl (mm_get_s (mm_get_s mm_get_0)) ?_
  refine mb_cVi (pc := 1155) (As := []) (rest := []) dL_law_1155 cw_L_96 hm hr (fun v hv => X12_thrown_ok hz (by omega) hm hv) rfl (Nat.le_of_ble_eq_true rfl) (by show _ ≤ 1011; omega) (by show _ ≤ 17440; omega) (fun r7 hr => ?_)
  refine ml_iload (pc := 1158) dL_law_1158 (mm_get_s (mm_get_s (mm_get_s (mm_get_s (mm_get_s mm_get_0))))) ?_
  refine mb_icmp_eq (pc := 1160) 1165 dL_law_1160 rfl hr (fun hr => ?_) (fun hr => ?_)
  · refine ml_iload (pc := 1165) dL_law_1165 (mm_get_s (mm_get_s (mm_get_s (mm_get_s (mm_get_s mm_get_0))))) ?_
    refine mb_if_ne (pc := 1167) 1182 dL_law_1167 rfl hr (fun hr => ?_) (fun hr => ?_)
    · exact mg_cs (by omega) (by omega) (mg_weak (mm_le_s (mm_le_s (mm_le_s (mm_le_s (mm_le_s (mm_le_n (mm_le_n (mm_le_n mm_le_0)))))))) (L_law_b1182_ok hz hnc hd hx hm (by omega) hk23 hr))
    · refine ml_aload_n (pc := 1170) dL_law_1170 rfl (mm_get_s (mm_get_s (mm_get_s mm_get_0))) ?_
      refine mg_iconst (pc := 1171) dL_law_1171 kc_0 ?_
      refine mb_al (pc := 1172) dL_law_1172 hr (fun y8 hr => ?_)
      refine ml_iload (pc := 1173) dL_law_1173 (mm_get_s (mm_get_s (mm_get_s (mm_get_s (mm_get_s (mm_get_s mm_get_0)))))) ?_
      refine mg_i2l (pc := 1175) dL_law_1175 ?_
      refine mg_lcmp (pc := 1176) dL_law_1176 ?_
      refine mb_if_eq (pc := 1177) 1182 dL_law_1177 rfl hr (fun hr => ?_) (fun hr => ?_)
      · exact mg_cs (by omega) (by omega) (mg_weak (mm_le_s (mm_le_s (mm_le_s (mm_le_s (mm_le_s (mm_le_n (mm_le_n (mm_le_n mm_le_0)))))))) (L_law_b1182_ok hz hnc hd hx hm (by omega) hk23 hr))
      · refine mg_iconst (pc := 1180) dL_law_1180 kc_0 ?_
        exact mb_lwret dL_law_1181 rfl rfl (by show _ ≤ 1011; omega) (by show _ ≤ 17440; omega) hr
  · refine mg_iconst (pc := 1163) dL_law_1163 kc_0 ?_
    exact mb_lwret dL_law_1164 rfl rfl (by show _ ≤ 1011; omega) (by show _ ≤ 17440; omega) hr
def L_law_b1114 (e : mm_E) (k23 : Int32 → mm_V → Option (Int32 × mm_V)) (a0 : Nat) (a1 : Nat) (a2 : Nat) (a3 : Nat) (i4 : Int32) (m : mm_V) : Option (Int32 × mm_V) := L_law_b1713 e k23 a0 a1 a2 a3 i4  m
theorem L_law_b1114_ok {K : mm_K} {e : mm_E} (hz : e.2.1 = K.2.2.2.2) (hnc : va_Nc "java/lang/IllegalArgumentException" "java/util/NoSuchElementException" K.2.1) {d : Nat} (hd : 258 ≤ d) {a0 : Nat} {a1 : Nat} {a2 : Nat} {a3 : Nat} {i4 : Int32} (hx : e.1 a1 = some (11, 19)) (hm : e.1 a2 = some (12, 75)) {k : Nat} (hk : k + 1 ≤ 514) {k23 : Int32 → mm_V → Option (Int32 × mm_V)} (hk23 : ∀ (w4 : Int32) (m : mm_V) (r : Int32 × mm_V), k23 w4 m = some r → mm_G K ML_law d (1011, 17440, .inl (some (.int r.1)), (e.1, r.2), none) 23 [some (.ref a0), some (.ref a1), some (.ref a2), some (.ref a3), some (.int w4), none, none, none] [] (e.1, m) none (493 + (k + 1)) (14332 + 6 * (k + 1))) {m : mm_V} {r : Int32 × mm_V} (hr : L_law_b1114 e k23 a0 a1 a2 a3 i4 m = some r) : mm_G K ML_law d (1011, 17440, .inl (some (.int r.1)), (e.1, r.2), none) 1114 [some (.ref a0), some (.ref a1), some (.ref a2), some (.ref a3), some (.int i4), none, none, none] [] (e.1, m) none (493 + (k + 1)) (14332 + 6 * (k + 1)) := by
  obtain ⟨d, rfl⟩ : ∃ d', d = d' + 1 := ⟨d - 1, by omega⟩
  unfold L_law_b1114 at hr
  refine mg_goto (pc := 1114) 1713 dL_law_1114 rfl ?_
  exact mg_cs (by omega) (by omega) (mg_weak (mm_le_s (mm_le_s (mm_le_s (mm_le_s (mm_le_s (mm_le_n (mm_le_n (mm_le_n mm_le_0)))))))) (L_law_b1713_ok hz hnc hd hx hm (by omega) hk23 hr))
def L_law_b1037 (e : mm_E) (k23 : Int32 → mm_V → Option (Int32 × mm_V)) (a0 : Nat) (a1 : Nat) (a2 : Nat) (a3 : Nat) (i4 : Int32) (m : mm_V) : Option (Int32 × mm_V) := (mm_ai e.1 m 31 a0 (i4 + (1 : Int32))).bind fun x1 => (mm_ai e.1 m 31 a0 (i4 + (2 : Int32))).bind fun x2 => (mm_ai e.1 m 31 a0 (i4 + (3 : Int32))).bind fun x3 => (L_hold e a1 x1 x2 x3 a3 m).bind fun r4 => (mm_ai e.1 r4.2 31 a0 (i4 + (1 : Int32))).bind fun x5 => (mm_ai e.1 r4.2 31 a0 (i4 + (2 : Int32))).bind fun x6 => (mm_ai e.1 r4.2 31 a0 (i4 + (3 : Int32))).bind fun x7 => (X12_hold e a2 x5 x6 x7 r4.2).bind fun r8 => (X12_thrown e a2 r8.2).bind fun r9 => if r9.1 = r4.1 then (if ¬ r4.1 = 0 then (L_law_b1114 e k23 a0 a1 a2 a3 i4  r9.2) else ((mm_al e.1 r9.2 a3 (0 : Int32)).bind fun y10 => if (lg_cmp y10 r8.1.toInt64) = 0 then (L_law_b1114 e k23 a0 a1 a2 a3 i4  r9.2) else (mm_rz (0 : Int32) r9.2))) else (mm_rz (0 : Int32) r9.2)
theorem L_law_b1037_ok {K : mm_K} {e : mm_E} (hz : e.2.1 = K.2.2.2.2) (hnc : va_Nc "java/lang/IllegalArgumentException" "java/util/NoSuchElementException" K.2.1) {d : Nat} (hd : 258 ≤ d) {a0 : Nat} {a1 : Nat} {a2 : Nat} {a3 : Nat} {i4 : Int32} (hx : e.1 a1 = some (11, 19)) (hm : e.1 a2 = some (12, 75)) {k : Nat} (hk : k + 1 ≤ 514) {k23 : Int32 → mm_V → Option (Int32 × mm_V)} (hk23 : ∀ (w4 : Int32) (m : mm_V) (r : Int32 × mm_V), k23 w4 m = some r → mm_G K ML_law d (1011, 17440, .inl (some (.int r.1)), (e.1, r.2), none) 23 [some (.ref a0), some (.ref a1), some (.ref a2), some (.ref a3), some (.int w4), none, none, none] [] (e.1, m) none (493 + (k + 1)) (14332 + 6 * (k + 1))) {m : mm_V} {r : Int32 × mm_V} (hr : L_law_b1037 e k23 a0 a1 a2 a3 i4 m = some r) : mm_G K ML_law d (1011, 17440, .inl (some (.int r.1)), (e.1, r.2), none) 1037 [some (.ref a0), some (.ref a1), some (.ref a2), some (.ref a3), some (.int i4), none, none, none] [] (e.1, m) none (493 + (k + 1)) (14332 + 6 * (k + 1)) := by
  obtain ⟨d, rfl⟩ : ∃ d', d = d' + 1 := ⟨d - 1, by omega⟩
  unfold L_law_b1037 at hr
  refine ml_aload_n (pc := 1037) dL_law_1037 rfl (mm_get_s mm_get_0) ?_
  refine ml_aload_n (pc := 1038) dL_law_1038 rfl mm_get_0 ?_
  refine ml_iload (pc := 1039) dL_law_1039 (mm_get_s (mm_get_s (mm_get_s (mm_get_s mm_get_0)))) ?_
  refine mg_iconst (pc := 1041) dL_law_1041 kc_1 ?_
  refine mg_iadd (pc := 1042) dL_law_1042 ?_
  refine mb_ax (pc := 1043) dL_law_1043 hr (fun x1 hr => ?_)
  refine ml_aload_n (pc := 1044) dL_law_1044 rfl mm_get_0 ?_
  refine ml_iload (pc := 1045) dL_law_1045 (mm_get_s (mm_get_s (mm_get_s (mm_get_s mm_get_0)))) ?_
  refine mg_iconst (pc := 1047) dL_law_1047 kc_2 ?_
  refine mg_iadd (pc := 1048) dL_law_1048 ?_
  refine mb_ax (pc := 1049) dL_law_1049 hr (fun x2 hr => ?_)
  refine ml_aload_n (pc := 1050) dL_law_1050 rfl mm_get_0 ?_
  refine ml_iload (pc := 1051) dL_law_1051 (mm_get_s (mm_get_s (mm_get_s (mm_get_s mm_get_0)))) ?_
  refine mg_iconst (pc := 1053) dL_law_1053 kc_3 ?_
  refine mg_iadd (pc := 1054) dL_law_1054 ?_
  refine mb_ax (pc := 1055) dL_law_1055 hr (fun x3 hr => ?_)
  refine ml_aload_n (pc := 1056) dL_law_1056 rfl (mm_get_s (mm_get_s (mm_get_s mm_get_0))) ?_
  refine mb_wS (pc := 1057) (As := [.ref a1, .int x1, .int x2, .int x3, .ref a3]) (rest := []) dL_law_1057 cx_146 hr (fun v hv => L_hold_ok hz hnc (by omega) hx hv) rfl (Nat.le_of_ble_eq_true rfl) (by show _ ≤ 1011; omega) (by show _ ≤ 17440; omega) (fun r4 hr => ?_)
  refine ml_istore (pc := 1060) dL_law_1060 (Nat.le_of_ble_eq_true rfl) (mm_st1_s (mm_st1_s (mm_st1_s (mm_st1_s mm_st1_i)))) ?_
  refine ml_aload_n (pc := 1062) dL_law_1062 rfl (mm_get_s (mm_get_s mm_get_0)) ?_
  refine ml_aload_n (pc := 1063) dL_law_1063 rfl mm_get_0 ?_
  refine ml_iload (pc := 1064) dL_law_1064 (mm_get_s (mm_get_s (mm_get_s (mm_get_s mm_get_0)))) ?_
  refine mg_iconst (pc := 1066) dL_law_1066 kc_1 ?_
  refine mg_iadd (pc := 1067) dL_law_1067 ?_
  refine mb_ax (pc := 1068) dL_law_1068 hr (fun x5 hr => ?_)
  refine ml_aload_n (pc := 1069) dL_law_1069 rfl mm_get_0 ?_
  refine ml_iload (pc := 1070) dL_law_1070 (mm_get_s (mm_get_s (mm_get_s (mm_get_s mm_get_0)))) ?_
  refine mg_iconst (pc := 1072) dL_law_1072 kc_2 ?_
  refine mg_iadd (pc := 1073) dL_law_1073 ?_
  refine mb_ax (pc := 1074) dL_law_1074 hr (fun x6 hr => ?_)
  refine ml_aload_n (pc := 1075) dL_law_1075 rfl mm_get_0 ?_
  refine ml_iload (pc := 1076) dL_law_1076 (mm_get_s (mm_get_s (mm_get_s (mm_get_s mm_get_0)))) ?_
  refine mg_iconst (pc := 1078) dL_law_1078 kc_3 ?_
  refine mg_iadd (pc := 1079) dL_law_1079 ?_
  refine mb_ax (pc := 1080) dL_law_1080 hr (fun x7 hr => ?_)
  refine mb_cVi (pc := 1081) (As := [.int x5, .int x6, .int x7]) (rest := []) dL_law_1081 cw_L_148 hm hr (fun v hv => X12_hold_ok hz (by omega) hm hv) rfl (Nat.le_of_ble_eq_true rfl) (by show _ ≤ 1011; omega) (by show _ ≤ 17440; omega) (fun r8 hr => ?_)
  refine ml_istore (pc := 1084) dL_law_1084 (Nat.le_of_ble_eq_true rfl) (mm_st1_s (mm_st1_s (mm_st1_s (mm_st1_s (mm_st1_s mm_st1_i))))) ?_
  refine ml_aload_n (pc := 1086) dL_law_1086 rfl (mm_get_s (mm_get_s mm_get_0)) ?_
  refine mb_cVi (pc := 1087) (As := []) (rest := []) dL_law_1087 cw_L_96 hm hr (fun v hv => X12_thrown_ok hz (by omega) hm hv) rfl (Nat.le_of_ble_eq_true rfl) (by show _ ≤ 1011; omega) (by show _ ≤ 17440; omega) (fun r9 hr => ?_)
  refine ml_iload (pc := 1090) dL_law_1090 (mm_get_s (mm_get_s (mm_get_s (mm_get_s (mm_get_s mm_get_0))))) ?_
  refine mb_icmp_eq (pc := 1092) 1097 dL_law_1092 rfl hr (fun hr => ?_) (fun hr => ?_)
  · refine ml_iload (pc := 1097) dL_law_1097 (mm_get_s (mm_get_s (mm_get_s (mm_get_s (mm_get_s mm_get_0))))) ?_
    refine mb_if_ne (pc := 1099) 1114 dL_law_1099 rfl hr (fun hr => ?_) (fun hr => ?_)
    · exact mg_cs (by omega) (by omega) (mg_weak (mm_le_s (mm_le_s (mm_le_s (mm_le_s (mm_le_s (mm_le_n (mm_le_n (mm_le_n mm_le_0)))))))) (L_law_b1114_ok hz hnc hd hx hm (by omega) hk23 hr))
    · refine ml_aload_n (pc := 1102) dL_law_1102 rfl (mm_get_s (mm_get_s (mm_get_s mm_get_0))) ?_
      refine mg_iconst (pc := 1103) dL_law_1103 kc_0 ?_
      refine mb_al (pc := 1104) dL_law_1104 hr (fun y10 hr => ?_)
      refine ml_iload (pc := 1105) dL_law_1105 (mm_get_s (mm_get_s (mm_get_s (mm_get_s (mm_get_s (mm_get_s mm_get_0)))))) ?_
      refine mg_i2l (pc := 1107) dL_law_1107 ?_
      refine mg_lcmp (pc := 1108) dL_law_1108 ?_
      refine mb_if_eq (pc := 1109) 1114 dL_law_1109 rfl hr (fun hr => ?_) (fun hr => ?_)
      · exact mg_cs (by omega) (by omega) (mg_weak (mm_le_s (mm_le_s (mm_le_s (mm_le_s (mm_le_s (mm_le_n (mm_le_n (mm_le_n mm_le_0)))))))) (L_law_b1114_ok hz hnc hd hx hm (by omega) hk23 hr))
      · refine mg_iconst (pc := 1112) dL_law_1112 kc_0 ?_
        exact mb_lwret dL_law_1113 rfl rfl (by show _ ≤ 1011; omega) (by show _ ≤ 17440; omega) hr
  · refine mg_iconst (pc := 1095) dL_law_1095 kc_0 ?_
    exact mb_lwret dL_law_1096 rfl rfl (by show _ ≤ 1011; omega) (by show _ ≤ 17440; omega) hr
def L_law_b1034 (e : mm_E) (k23 : Int32 → mm_V → Option (Int32 × mm_V)) (a0 : Nat) (a1 : Nat) (a2 : Nat) (a3 : Nat) (i4 : Int32) (m : mm_V) : Option (Int32 × mm_V) := L_law_b1713 e k23 a0 a1 a2 a3 i4  m
theorem L_law_b1034_ok {K : mm_K} {e : mm_E} (hz : e.2.1 = K.2.2.2.2) (hnc : va_Nc "java/lang/IllegalArgumentException" "java/util/NoSuchElementException" K.2.1) {d : Nat} (hd : 258 ≤ d) {a0 : Nat} {a1 : Nat} {a2 : Nat} {a3 : Nat} {i4 : Int32} (hx : e.1 a1 = some (11, 19)) (hm : e.1 a2 = some (12, 75)) {k : Nat} (hk : k + 1 ≤ 514) {k23 : Int32 → mm_V → Option (Int32 × mm_V)} (hk23 : ∀ (w4 : Int32) (m : mm_V) (r : Int32 × mm_V), k23 w4 m = some r → mm_G K ML_law d (1011, 17440, .inl (some (.int r.1)), (e.1, r.2), none) 23 [some (.ref a0), some (.ref a1), some (.ref a2), some (.ref a3), some (.int w4), none, none, none] [] (e.1, m) none (493 + (k + 1)) (14332 + 6 * (k + 1))) {m : mm_V} {r : Int32 × mm_V} (hr : L_law_b1034 e k23 a0 a1 a2 a3 i4 m = some r) : mm_G K ML_law d (1011, 17440, .inl (some (.int r.1)), (e.1, r.2), none) 1034 [some (.ref a0), some (.ref a1), some (.ref a2), some (.ref a3), some (.int i4), none, none, none] [] (e.1, m) none (493 + (k + 1)) (14332 + 6 * (k + 1)) := by
  obtain ⟨d, rfl⟩ : ∃ d', d = d' + 1 := ⟨d - 1, by omega⟩
  unfold L_law_b1034 at hr
  refine mg_goto (pc := 1034) 1713 dL_law_1034 rfl ?_
  exact mg_cs (by omega) (by omega) (mg_weak (mm_le_s (mm_le_s (mm_le_s (mm_le_s (mm_le_s (mm_le_n (mm_le_n (mm_le_n mm_le_0)))))))) (L_law_b1713_ok hz hnc hd hx hm (by omega) hk23 hr))
def L_law_b970 (e : mm_E) (k23 : Int32 → mm_V → Option (Int32 × mm_V)) (a0 : Nat) (a1 : Nat) (a2 : Nat) (a3 : Nat) (i4 : Int32) (m : mm_V) : Option (Int32 × mm_V) := (mm_ai e.1 m 31 a0 (i4 + (1 : Int32))).bind fun x1 => (mm_ai e.1 m 31 a0 (i4 + (2 : Int32))).bind fun x2 => (L_peeped e a1 x1 x2 a3 m).bind fun r3 => (mm_ai e.1 r3.2 31 a0 (i4 + (1 : Int32))).bind fun x4 => (mm_ai e.1 r3.2 31 a0 (i4 + (2 : Int32))).bind fun x5 => (X12_peeped e a2 x4 x5 r3.2).bind fun r6 => (X12_thrown e a2 r6.2).bind fun r7 => if r7.1 = r3.1 then (if ¬ r3.1 = 0 then (L_law_b1034 e k23 a0 a1 a2 a3 i4  r7.2) else ((mm_al e.1 r7.2 a3 (0 : Int32)).bind fun y8 => if (lg_cmp y8 r6.1) = 0 then (L_law_b1034 e k23 a0 a1 a2 a3 i4  r7.2) else (mm_rz (0 : Int32) r7.2))) else (mm_rz (0 : Int32) r7.2)
theorem L_law_b970_ok {K : mm_K} {e : mm_E} (hz : e.2.1 = K.2.2.2.2) (hnc : va_Nc "java/lang/IllegalArgumentException" "java/util/NoSuchElementException" K.2.1) {d : Nat} (hd : 258 ≤ d) {a0 : Nat} {a1 : Nat} {a2 : Nat} {a3 : Nat} {i4 : Int32} (hx : e.1 a1 = some (11, 19)) (hm : e.1 a2 = some (12, 75)) {k : Nat} (hk : k + 1 ≤ 514) {k23 : Int32 → mm_V → Option (Int32 × mm_V)} (hk23 : ∀ (w4 : Int32) (m : mm_V) (r : Int32 × mm_V), k23 w4 m = some r → mm_G K ML_law d (1011, 17440, .inl (some (.int r.1)), (e.1, r.2), none) 23 [some (.ref a0), some (.ref a1), some (.ref a2), some (.ref a3), some (.int w4), none, none, none] [] (e.1, m) none (493 + (k + 1)) (14332 + 6 * (k + 1))) {m : mm_V} {r : Int32 × mm_V} (hr : L_law_b970 e k23 a0 a1 a2 a3 i4 m = some r) : mm_G K ML_law d (1011, 17440, .inl (some (.int r.1)), (e.1, r.2), none) 970 [some (.ref a0), some (.ref a1), some (.ref a2), some (.ref a3), some (.int i4), none, none, none] [] (e.1, m) none (493 + (k + 1)) (14332 + 6 * (k + 1)) := by
  obtain ⟨d, rfl⟩ : ∃ d', d = d' + 1 := ⟨d - 1, by omega⟩
  unfold L_law_b970 at hr
  refine ml_aload_n (pc := 970) dL_law_970 rfl (mm_get_s mm_get_0) ?_
  refine ml_aload_n (pc := 971) dL_law_971 rfl mm_get_0 ?_
  refine ml_iload (pc := 972) dL_law_972 (mm_get_s (mm_get_s (mm_get_s (mm_get_s mm_get_0)))) ?_
  refine mg_iconst (pc := 974) dL_law_974 kc_1 ?_
  refine mg_iadd (pc := 975) dL_law_975 ?_
  refine mb_ax (pc := 976) dL_law_976 hr (fun x1 hr => ?_)
  refine ml_aload_n (pc := 977) dL_law_977 rfl mm_get_0 ?_
  refine ml_iload (pc := 978) dL_law_978 (mm_get_s (mm_get_s (mm_get_s (mm_get_s mm_get_0)))) ?_
  refine mg_iconst (pc := 980) dL_law_980 kc_2 ?_
  refine mg_iadd (pc := 981) dL_law_981 ?_
  refine mb_ax (pc := 982) dL_law_982 hr (fun x2 hr => ?_)
  refine ml_aload_n (pc := 983) dL_law_983 rfl (mm_get_s (mm_get_s (mm_get_s mm_get_0))) ?_
  refine mb_wS (pc := 984) (As := [.ref a1, .int x1, .int x2, .ref a3]) (rest := []) dL_law_984 cx_143 hr (fun v hv => L_peeped_ok hz hnc (by omega) hx hv) rfl (Nat.le_of_ble_eq_true rfl) (by show _ ≤ 1011; omega) (by show _ ≤ 17440; omega) (fun r3 hr => ?_)
  refine ml_istore (pc := 987) dL_law_987 (Nat.le_of_ble_eq_true rfl) (mm_st1_s (mm_st1_s (mm_st1_s (mm_st1_s mm_st1_i)))) ?_
  refine ml_aload_n (pc := 989) dL_law_989 rfl (mm_get_s (mm_get_s mm_get_0)) ?_
  refine ml_aload_n (pc := 990) dL_law_990 rfl mm_get_0 ?_
  refine ml_iload (pc := 991) dL_law_991 (mm_get_s (mm_get_s (mm_get_s (mm_get_s mm_get_0)))) ?_
  refine mg_iconst (pc := 993) dL_law_993 kc_1 ?_
  refine mg_iadd (pc := 994) dL_law_994 ?_
  refine mb_ax (pc := 995) dL_law_995 hr (fun x4 hr => ?_)
  refine ml_aload_n (pc := 996) dL_law_996 rfl mm_get_0 ?_
  refine ml_iload (pc := 997) dL_law_997 (mm_get_s (mm_get_s (mm_get_s (mm_get_s mm_get_0)))) ?_
  refine mg_iconst (pc := 999) dL_law_999 kc_2 ?_
  refine mg_iadd (pc := 1000) dL_law_1000 ?_
  refine mb_ax (pc := 1001) dL_law_1001 hr (fun x5 hr => ?_)
  refine mb_cVl (pc := 1002) (As := [.int x4, .int x5]) (rest := []) dL_law_1002 cw_L_145 hm hr (fun v hv => X12_peeped_ok hz (by omega) hm hv) rfl (Nat.le_of_ble_eq_true rfl) (by show _ ≤ 1011; omega) (by show _ ≤ 17440; omega) (fun r6 hr => ?_)
  refine ml_lstore (pc := 1005) dL_law_1005 (Nat.le_of_ble_eq_true rfl) (mm_st2_s (mm_st2_s (mm_st2_s (mm_st2_s (mm_st2_s mm_st2_i))))) ?_
  refine ml_aload_n (pc := 1007) dL_law_1007 rfl (mm_get_s (mm_get_s mm_get_0)) ?_
  refine mb_cVi (pc := 1008) (As := []) (rest := []) dL_law_1008 cw_L_96 hm hr (fun v hv => X12_thrown_ok hz (by omega) hm hv) rfl (Nat.le_of_ble_eq_true rfl) (by show _ ≤ 1011; omega) (by show _ ≤ 17440; omega) (fun r7 hr => ?_)
  refine ml_iload (pc := 1011) dL_law_1011 (mm_get_s (mm_get_s (mm_get_s (mm_get_s (mm_get_s mm_get_0))))) ?_
  refine mb_icmp_eq (pc := 1013) 1018 dL_law_1013 rfl hr (fun hr => ?_) (fun hr => ?_)
  · refine ml_iload (pc := 1018) dL_law_1018 (mm_get_s (mm_get_s (mm_get_s (mm_get_s (mm_get_s mm_get_0))))) ?_
    refine mb_if_ne (pc := 1020) 1034 dL_law_1020 rfl hr (fun hr => ?_) (fun hr => ?_)
    · exact mg_cs (by omega) (by omega) (mg_weak (mm_le_s (mm_le_s (mm_le_s (mm_le_s (mm_le_s (mm_le_n (mm_le_n (mm_le_n mm_le_0)))))))) (L_law_b1034_ok hz hnc hd hx hm (by omega) hk23 hr))
    · refine ml_aload_n (pc := 1023) dL_law_1023 rfl (mm_get_s (mm_get_s (mm_get_s mm_get_0))) ?_
      refine mg_iconst (pc := 1024) dL_law_1024 kc_0 ?_
      refine mb_al (pc := 1025) dL_law_1025 hr (fun y8 hr => ?_)
      refine ml_lload (pc := 1026) dL_law_1026 (mm_get_s (mm_get_s (mm_get_s (mm_get_s (mm_get_s (mm_get_s mm_get_0)))))) ?_
      refine mg_lcmp (pc := 1028) dL_law_1028 ?_
      refine mb_if_eq (pc := 1029) 1034 dL_law_1029 rfl hr (fun hr => ?_) (fun hr => ?_)
      · exact mg_cs (by omega) (by omega) (mg_weak (mm_le_s (mm_le_s (mm_le_s (mm_le_s (mm_le_s (mm_le_n (mm_le_n (mm_le_n mm_le_0)))))))) (L_law_b1034_ok hz hnc hd hx hm (by omega) hk23 hr))
      · refine mg_iconst (pc := 1032) dL_law_1032 kc_0 ?_
        exact mb_lwret dL_law_1033 rfl rfl (by show _ ≤ 1011; omega) (by show _ ≤ 17440; omega) hr
  · refine mg_iconst (pc := 1016) dL_law_1016 kc_0 ?_
    exact mb_lwret dL_law_1017 rfl rfl (by show _ ≤ 1011; omega) (by show _ ≤ 17440; omega) hr
def L_law_b967 (e : mm_E) (k23 : Int32 → mm_V → Option (Int32 × mm_V)) (a0 : Nat) (a1 : Nat) (a2 : Nat) (a3 : Nat) (i4 : Int32) (m : mm_V) : Option (Int32 × mm_V) := L_law_b1713 e k23 a0 a1 a2 a3 i4  m
theorem L_law_b967_ok {K : mm_K} {e : mm_E} (hz : e.2.1 = K.2.2.2.2) (hnc : va_Nc "java/lang/IllegalArgumentException" "java/util/NoSuchElementException" K.2.1) {d : Nat} (hd : 258 ≤ d) {a0 : Nat} {a1 : Nat} {a2 : Nat} {a3 : Nat} {i4 : Int32} (hx : e.1 a1 = some (11, 19)) (hm : e.1 a2 = some (12, 75)) {k : Nat} (hk : k + 1 ≤ 514) {k23 : Int32 → mm_V → Option (Int32 × mm_V)} (hk23 : ∀ (w4 : Int32) (m : mm_V) (r : Int32 × mm_V), k23 w4 m = some r → mm_G K ML_law d (1011, 17440, .inl (some (.int r.1)), (e.1, r.2), none) 23 [some (.ref a0), some (.ref a1), some (.ref a2), some (.ref a3), some (.int w4), none, none, none] [] (e.1, m) none (493 + (k + 1)) (14332 + 6 * (k + 1))) {m : mm_V} {r : Int32 × mm_V} (hr : L_law_b967 e k23 a0 a1 a2 a3 i4 m = some r) : mm_G K ML_law d (1011, 17440, .inl (some (.int r.1)), (e.1, r.2), none) 967 [some (.ref a0), some (.ref a1), some (.ref a2), some (.ref a3), some (.int i4), none, none, none] [] (e.1, m) none (493 + (k + 1)) (14332 + 6 * (k + 1)) := by
  obtain ⟨d, rfl⟩ : ∃ d', d = d' + 1 := ⟨d - 1, by omega⟩
  unfold L_law_b967 at hr
  refine mg_goto (pc := 967) 1713 dL_law_967 rfl ?_
  exact mg_cs (by omega) (by omega) (mg_weak (mm_le_s (mm_le_s (mm_le_s (mm_le_s (mm_le_s (mm_le_n (mm_le_n (mm_le_n mm_le_0)))))))) (L_law_b1713_ok hz hnc hd hx hm (by omega) hk23 hr))
def L_law_b902 (e : mm_E) (k23 : Int32 → mm_V → Option (Int32 × mm_V)) (a0 : Nat) (a1 : Nat) (a2 : Nat) (a3 : Nat) (i4 : Int32) (m : mm_V) : Option (Int32 × mm_V) := (mm_ai e.1 m 31 a0 (i4 + (1 : Int32))).bind fun x1 => (mm_ai e.1 m 31 a0 (i4 + (2 : Int32))).bind fun x2 => (L_belief e a1 x1 x2 a3 m).bind fun r3 => (mm_ai e.1 r3.2 31 a0 (i4 + (1 : Int32))).bind fun x4 => (mm_ai e.1 r3.2 31 a0 (i4 + (2 : Int32))).bind fun x5 => (X12_belief e a2 x4 x5 r3.2).bind fun r6 => (X12_thrown e a2 r6.2).bind fun r7 => if r7.1 = r3.1 then (if ¬ r3.1 = 0 then (L_law_b967 e k23 a0 a1 a2 a3 i4  r7.2) else ((mm_al e.1 r7.2 a3 (0 : Int32)).bind fun y8 => if (lg_cmp y8 r6.1.toInt64) = 0 then (L_law_b967 e k23 a0 a1 a2 a3 i4  r7.2) else (mm_rz (0 : Int32) r7.2))) else (mm_rz (0 : Int32) r7.2)
theorem L_law_b902_ok {K : mm_K} {e : mm_E} (hz : e.2.1 = K.2.2.2.2) (hnc : va_Nc "java/lang/IllegalArgumentException" "java/util/NoSuchElementException" K.2.1) {d : Nat} (hd : 258 ≤ d) {a0 : Nat} {a1 : Nat} {a2 : Nat} {a3 : Nat} {i4 : Int32} (hx : e.1 a1 = some (11, 19)) (hm : e.1 a2 = some (12, 75)) {k : Nat} (hk : k + 1 ≤ 514) {k23 : Int32 → mm_V → Option (Int32 × mm_V)} (hk23 : ∀ (w4 : Int32) (m : mm_V) (r : Int32 × mm_V), k23 w4 m = some r → mm_G K ML_law d (1011, 17440, .inl (some (.int r.1)), (e.1, r.2), none) 23 [some (.ref a0), some (.ref a1), some (.ref a2), some (.ref a3), some (.int w4), none, none, none] [] (e.1, m) none (493 + (k + 1)) (14332 + 6 * (k + 1))) {m : mm_V} {r : Int32 × mm_V} (hr : L_law_b902 e k23 a0 a1 a2 a3 i4 m = some r) : mm_G K ML_law d (1011, 17440, .inl (some (.int r.1)), (e.1, r.2), none) 902 [some (.ref a0), some (.ref a1), some (.ref a2), some (.ref a3), some (.int i4), none, none, none] [] (e.1, m) none (493 + (k + 1)) (14332 + 6 * (k + 1)) := by
  obtain ⟨d, rfl⟩ : ∃ d', d = d' + 1 := ⟨d - 1, by omega⟩
  unfold L_law_b902 at hr
  refine ml_aload_n (pc := 902) dL_law_902 rfl (mm_get_s mm_get_0) ?_
  refine ml_aload_n (pc := 903) dL_law_903 rfl mm_get_0 ?_
  refine ml_iload (pc := 904) dL_law_904 (mm_get_s (mm_get_s (mm_get_s (mm_get_s mm_get_0)))) ?_
  refine mg_iconst (pc := 906) dL_law_906 kc_1 ?_
  refine mg_iadd (pc := 907) dL_law_907 ?_
  refine mb_ax (pc := 908) dL_law_908 hr (fun x1 hr => ?_)
  refine ml_aload_n (pc := 909) dL_law_909 rfl mm_get_0 ?_
  refine ml_iload (pc := 910) dL_law_910 (mm_get_s (mm_get_s (mm_get_s (mm_get_s mm_get_0)))) ?_
  refine mg_iconst (pc := 912) dL_law_912 kc_2 ?_
  refine mg_iadd (pc := 913) dL_law_913 ?_
  refine mb_ax (pc := 914) dL_law_914 hr (fun x2 hr => ?_)
  refine ml_aload_n (pc := 915) dL_law_915 rfl (mm_get_s (mm_get_s (mm_get_s mm_get_0))) ?_
  refine mb_wS (pc := 916) (As := [.ref a1, .int x1, .int x2, .ref a3]) (rest := []) dL_law_916 cx_140 hr (fun v hv => L_belief_ok hz hnc (by omega) hx hv) rfl (Nat.le_of_ble_eq_true rfl) (by show _ ≤ 1011; omega) (by show _ ≤ 17440; omega) (fun r3 hr => ?_)
  refine ml_istore (pc := 919) dL_law_919 (Nat.le_of_ble_eq_true rfl) (mm_st1_s (mm_st1_s (mm_st1_s (mm_st1_s mm_st1_i)))) ?_
  refine ml_aload_n (pc := 921) dL_law_921 rfl (mm_get_s (mm_get_s mm_get_0)) ?_
  refine ml_aload_n (pc := 922) dL_law_922 rfl mm_get_0 ?_
  refine ml_iload (pc := 923) dL_law_923 (mm_get_s (mm_get_s (mm_get_s (mm_get_s mm_get_0)))) ?_
  refine mg_iconst (pc := 925) dL_law_925 kc_1 ?_
  refine mg_iadd (pc := 926) dL_law_926 ?_
  refine mb_ax (pc := 927) dL_law_927 hr (fun x4 hr => ?_)
  refine ml_aload_n (pc := 928) dL_law_928 rfl mm_get_0 ?_
  refine ml_iload (pc := 929) dL_law_929 (mm_get_s (mm_get_s (mm_get_s (mm_get_s mm_get_0)))) ?_
  refine mg_iconst (pc := 931) dL_law_931 kc_2 ?_
  refine mg_iadd (pc := 932) dL_law_932 ?_
  refine mb_ax (pc := 933) dL_law_933 hr (fun x5 hr => ?_)
  refine mb_cVi (pc := 934) (As := [.int x4, .int x5]) (rest := []) dL_law_934 cw_L_142 hm hr (fun v hv => X12_belief_ok hz (by omega) hm hv) rfl (Nat.le_of_ble_eq_true rfl) (by show _ ≤ 1011; omega) (by show _ ≤ 17440; omega) (fun r6 hr => ?_)
  refine ml_istore (pc := 937) dL_law_937 (Nat.le_of_ble_eq_true rfl) (mm_st1_s (mm_st1_s (mm_st1_s (mm_st1_s (mm_st1_s mm_st1_i))))) ?_
  refine ml_aload_n (pc := 939) dL_law_939 rfl (mm_get_s (mm_get_s mm_get_0)) ?_
  refine mb_cVi (pc := 940) (As := []) (rest := []) dL_law_940 cw_L_96 hm hr (fun v hv => X12_thrown_ok hz (by omega) hm hv) rfl (Nat.le_of_ble_eq_true rfl) (by show _ ≤ 1011; omega) (by show _ ≤ 17440; omega) (fun r7 hr => ?_)
  refine ml_iload (pc := 943) dL_law_943 (mm_get_s (mm_get_s (mm_get_s (mm_get_s (mm_get_s mm_get_0))))) ?_
  refine mb_icmp_eq (pc := 945) 950 dL_law_945 rfl hr (fun hr => ?_) (fun hr => ?_)
  · refine ml_iload (pc := 950) dL_law_950 (mm_get_s (mm_get_s (mm_get_s (mm_get_s (mm_get_s mm_get_0))))) ?_
    refine mb_if_ne (pc := 952) 967 dL_law_952 rfl hr (fun hr => ?_) (fun hr => ?_)
    · exact mg_cs (by omega) (by omega) (mg_weak (mm_le_s (mm_le_s (mm_le_s (mm_le_s (mm_le_s (mm_le_n (mm_le_n (mm_le_n mm_le_0)))))))) (L_law_b967_ok hz hnc hd hx hm (by omega) hk23 hr))
    · refine ml_aload_n (pc := 955) dL_law_955 rfl (mm_get_s (mm_get_s (mm_get_s mm_get_0))) ?_
      refine mg_iconst (pc := 956) dL_law_956 kc_0 ?_
      refine mb_al (pc := 957) dL_law_957 hr (fun y8 hr => ?_)
      refine ml_iload (pc := 958) dL_law_958 (mm_get_s (mm_get_s (mm_get_s (mm_get_s (mm_get_s (mm_get_s mm_get_0)))))) ?_
      refine mg_i2l (pc := 960) dL_law_960 ?_
      refine mg_lcmp (pc := 961) dL_law_961 ?_
      refine mb_if_eq (pc := 962) 967 dL_law_962 rfl hr (fun hr => ?_) (fun hr => ?_)
      · exact mg_cs (by omega) (by omega) (mg_weak (mm_le_s (mm_le_s (mm_le_s (mm_le_s (mm_le_s (mm_le_n (mm_le_n (mm_le_n mm_le_0)))))))) (L_law_b967_ok hz hnc hd hx hm (by omega) hk23 hr))
      · refine mg_iconst (pc := 965) dL_law_965 kc_0 ?_
        exact mb_lwret dL_law_966 rfl rfl (by show _ ≤ 1011; omega) (by show _ ≤ 17440; omega) hr
  · refine mg_iconst (pc := 948) dL_law_948 kc_0 ?_
    exact mb_lwret dL_law_949 rfl rfl (by show _ ≤ 1011; omega) (by show _ ≤ 17440; omega) hr
def L_law_b899 (e : mm_E) (k23 : Int32 → mm_V → Option (Int32 × mm_V)) (a0 : Nat) (a1 : Nat) (a2 : Nat) (a3 : Nat) (i4 : Int32) (m : mm_V) : Option (Int32 × mm_V) := L_law_b1713 e k23 a0 a1 a2 a3 i4  m
theorem L_law_b899_ok {K : mm_K} {e : mm_E} (hz : e.2.1 = K.2.2.2.2) (hnc : va_Nc "java/lang/IllegalArgumentException" "java/util/NoSuchElementException" K.2.1) {d : Nat} (hd : 258 ≤ d) {a0 : Nat} {a1 : Nat} {a2 : Nat} {a3 : Nat} {i4 : Int32} (hx : e.1 a1 = some (11, 19)) (hm : e.1 a2 = some (12, 75)) {k : Nat} (hk : k + 1 ≤ 514) {k23 : Int32 → mm_V → Option (Int32 × mm_V)} (hk23 : ∀ (w4 : Int32) (m : mm_V) (r : Int32 × mm_V), k23 w4 m = some r → mm_G K ML_law d (1011, 17440, .inl (some (.int r.1)), (e.1, r.2), none) 23 [some (.ref a0), some (.ref a1), some (.ref a2), some (.ref a3), some (.int w4), none, none, none] [] (e.1, m) none (493 + (k + 1)) (14332 + 6 * (k + 1))) {m : mm_V} {r : Int32 × mm_V} (hr : L_law_b899 e k23 a0 a1 a2 a3 i4 m = some r) : mm_G K ML_law d (1011, 17440, .inl (some (.int r.1)), (e.1, r.2), none) 899 [some (.ref a0), some (.ref a1), some (.ref a2), some (.ref a3), some (.int i4), none, none, none] [] (e.1, m) none (493 + (k + 1)) (14332 + 6 * (k + 1)) := by
  obtain ⟨d, rfl⟩ : ∃ d', d = d' + 1 := ⟨d - 1, by omega⟩
  unfold L_law_b899 at hr
  refine mg_goto (pc := 899) 1713 dL_law_899 rfl ?_
  exact mg_cs (by omega) (by omega) (mg_weak (mm_le_s (mm_le_s (mm_le_s (mm_le_s (mm_le_s (mm_le_n (mm_le_n (mm_le_n mm_le_0)))))))) (L_law_b1713_ok hz hnc hd hx hm (by omega) hk23 hr))
def L_law_b861 (e : mm_E) (k23 : Int32 → mm_V → Option (Int32 × mm_V)) (a0 : Nat) (a1 : Nat) (a2 : Nat) (a3 : Nat) (i4 : Int32) (i5 : Int32) (t1 : Int32) (t2 : Int32) (m : mm_V) : Option (Int32 × mm_V) := (mm_ai e.1 m 31 a0 (i4 + (3 : Int32))).bind fun x1 => (X12_two e a2 t1 t2 x1 m).bind fun r2 => (X12_thrown e a2 r2.2).bind fun r3 => if r3.1 = i5 then (if ¬ i5 = 0 then (L_law_b899 e k23 a0 a1 a2 a3 i4  r3.2) else ((mm_al e.1 r3.2 a3 (0 : Int32)).bind fun y4 => if (lg_cmp y4 r2.1) = 0 then (L_law_b899 e k23 a0 a1 a2 a3 i4  r3.2) else (mm_rz (0 : Int32) r3.2))) else (mm_rz (0 : Int32) r3.2)
theorem L_law_b861_ok {K : mm_K} {e : mm_E} (hz : e.2.1 = K.2.2.2.2) (hnc : va_Nc "java/lang/IllegalArgumentException" "java/util/NoSuchElementException" K.2.1) {d : Nat} (hd : 258 ≤ d) {a0 : Nat} {a1 : Nat} {a2 : Nat} {a3 : Nat} {i4 : Int32} {i5 : Int32} {t1 : Int32} {t2 : Int32} (hx : e.1 a1 = some (11, 19)) (hm : e.1 a2 = some (12, 75)) {k : Nat} (hk : k + 1 ≤ 514) {k23 : Int32 → mm_V → Option (Int32 × mm_V)} (hk23 : ∀ (w4 : Int32) (m : mm_V) (r : Int32 × mm_V), k23 w4 m = some r → mm_G K ML_law d (1011, 17440, .inl (some (.int r.1)), (e.1, r.2), none) 23 [some (.ref a0), some (.ref a1), some (.ref a2), some (.ref a3), some (.int w4), none, none, none] [] (e.1, m) none (493 + (k + 1)) (14332 + 6 * (k + 1))) {m : mm_V} {r : Int32 × mm_V} (hr : L_law_b861 e k23 a0 a1 a2 a3 i4 i5 t1 t2 m = some r) : mm_G K ML_law d (1011, 17440, .inl (some (.int r.1)), (e.1, r.2), none) 861 [some (.ref a0), some (.ref a1), some (.ref a2), some (.ref a3), some (.int i4), some (.int i5), none, none] [.int t2, .int t1, .ref a2] (e.1, m) none (493 + (k + 1)) (14332 + 6 * (k + 1)) := by
  obtain ⟨d, rfl⟩ : ∃ d', d = d' + 1 := ⟨d - 1, by omega⟩
  unfold L_law_b861 at hr
  refine ml_aload_n (pc := 861) dL_law_861 rfl mm_get_0 ?_
  refine ml_iload (pc := 862) dL_law_862 (mm_get_s (mm_get_s (mm_get_s (mm_get_s mm_get_0)))) ?_
  refine mg_iconst (pc := 864) dL_law_864 kc_3 ?_
  refine mg_iadd (pc := 865) dL_law_865 ?_
  refine mb_ax (pc := 866) dL_law_866 hr (fun x1 hr => ?_)
  refine mb_cVl (pc := 867) (As := [.int t1, .int t2, .int x1]) (rest := []) dL_law_867 cw_L_139 hm hr (fun v hv => X12_two_ok hz (by omega) hm hv) rfl (Nat.le_of_ble_eq_true rfl) (by show _ ≤ 1011; omega) (by show _ ≤ 17440; omega) (fun r2 hr => ?_)
  refine ml_lstore (pc := 870) dL_law_870 (Nat.le_of_ble_eq_true rfl) (mm_st2_s (mm_st2_s (mm_st2_s (mm_st2_s (mm_st2_s mm_st2_i))))) ?_
  refine ml_aload_n (pc := 872) dL_law_872 rfl (mm_get_s (mm_get_s mm_get_0)) ?_
  refine mb_cVi (pc := 873) (As := []) (rest := []) dL_law_873 cw_L_96 hm hr (fun v hv => X12_thrown_ok hz (by omega) hm hv) rfl (Nat.le_of_ble_eq_true rfl) (by show _ ≤ 1011; omega) (by show _ ≤ 17440; omega) (fun r3 hr => ?_)
  refine ml_iload (pc := 876) dL_law_876 (mm_get_s (mm_get_s (mm_get_s (mm_get_s (mm_get_s mm_get_0))))) ?_
  refine mb_icmp_eq (pc := 878) 883 dL_law_878 rfl hr (fun hr => ?_) (fun hr => ?_)
  · refine ml_iload (pc := 883) dL_law_883 (mm_get_s (mm_get_s (mm_get_s (mm_get_s (mm_get_s mm_get_0))))) ?_
    refine mb_if_ne (pc := 885) 899 dL_law_885 rfl hr (fun hr => ?_) (fun hr => ?_)
    · exact mg_cs (by omega) (by omega) (mg_weak (mm_le_s (mm_le_s (mm_le_s (mm_le_s (mm_le_s (mm_le_n (mm_le_n (mm_le_n mm_le_0)))))))) (L_law_b899_ok hz hnc hd hx hm (by omega) hk23 hr))
    · refine ml_aload_n (pc := 888) dL_law_888 rfl (mm_get_s (mm_get_s (mm_get_s mm_get_0))) ?_
      refine mg_iconst (pc := 889) dL_law_889 kc_0 ?_
      refine mb_al (pc := 890) dL_law_890 hr (fun y4 hr => ?_)
      refine ml_lload (pc := 891) dL_law_891 (mm_get_s (mm_get_s (mm_get_s (mm_get_s (mm_get_s (mm_get_s mm_get_0)))))) ?_
      refine mg_lcmp (pc := 893) dL_law_893 ?_
      refine mb_if_eq (pc := 894) 899 dL_law_894 rfl hr (fun hr => ?_) (fun hr => ?_)
      · exact mg_cs (by omega) (by omega) (mg_weak (mm_le_s (mm_le_s (mm_le_s (mm_le_s (mm_le_s (mm_le_n (mm_le_n (mm_le_n mm_le_0)))))))) (L_law_b899_ok hz hnc hd hx hm (by omega) hk23 hr))
      · refine mg_iconst (pc := 897) dL_law_897 kc_0 ?_
        exact mb_lwret dL_law_898 rfl rfl (by show _ ≤ 1011; omega) (by show _ ≤ 17440; omega) hr
  · refine mg_iconst (pc := 881) dL_law_881 kc_0 ?_
    exact mb_lwret dL_law_882 rfl rfl (by show _ ≤ 1011; omega) (by show _ ≤ 17440; omega) hr
def L_law_b828 (e : mm_E) (k23 : Int32 → mm_V → Option (Int32 × mm_V)) (a0 : Nat) (a1 : Nat) (a2 : Nat) (a3 : Nat) (i4 : Int32) (t1 : Int32) (t2 : Int32) (m : mm_V) : Option (Int32 × mm_V) := (mm_ai e.1 m 31 a0 (i4 + (3 : Int32))).bind fun x1 => (L_two e a1 t1 t2 x1 a3 m).bind fun r2 => (mm_ai e.1 r2.2 31 a0 (i4 + (1 : Int32))).bind fun x3 => (mm_ai e.1 r2.2 31 a0 (i4 + (2 : Int32))).bind fun x4 => if x4 = 0 then (L_law_b861 e k23 a0 a1 a2 a3 i4 r2.1 x3 (0 : Int32) r2.2) else (L_law_b861 e k23 a0 a1 a2 a3 i4 r2.1 x3 (1 : Int32) r2.2)
theorem L_law_b828_ok {K : mm_K} {e : mm_E} (hz : e.2.1 = K.2.2.2.2) (hnc : va_Nc "java/lang/IllegalArgumentException" "java/util/NoSuchElementException" K.2.1) {d : Nat} (hd : 258 ≤ d) {a0 : Nat} {a1 : Nat} {a2 : Nat} {a3 : Nat} {i4 : Int32} {t1 : Int32} {t2 : Int32} (hx : e.1 a1 = some (11, 19)) (hm : e.1 a2 = some (12, 75)) {k : Nat} (hk : k + 1 ≤ 514) {k23 : Int32 → mm_V → Option (Int32 × mm_V)} (hk23 : ∀ (w4 : Int32) (m : mm_V) (r : Int32 × mm_V), k23 w4 m = some r → mm_G K ML_law d (1011, 17440, .inl (some (.int r.1)), (e.1, r.2), none) 23 [some (.ref a0), some (.ref a1), some (.ref a2), some (.ref a3), some (.int w4), none, none, none] [] (e.1, m) none (493 + (k + 1)) (14332 + 6 * (k + 1))) {m : mm_V} {r : Int32 × mm_V} (hr : L_law_b828 e k23 a0 a1 a2 a3 i4 t1 t2 m = some r) : mm_G K ML_law d (1011, 17440, .inl (some (.int r.1)), (e.1, r.2), none) 828 [some (.ref a0), some (.ref a1), some (.ref a2), some (.ref a3), some (.int i4), none, none, none] [.int t2, .int t1, .ref a1] (e.1, m) none (493 + (k + 1)) (14332 + 6 * (k + 1)) := by
  obtain ⟨d, rfl⟩ : ∃ d', d = d' + 1 := ⟨d - 1, by omega⟩
  unfold L_law_b828 at hr
  refine ml_aload_n (pc := 828) dL_law_828 rfl mm_get_0 ?_
  refine ml_iload (pc := 829) dL_law_829 (mm_get_s (mm_get_s (mm_get_s (mm_get_s mm_get_0)))) ?_
  refine mg_iconst (pc := 831) dL_law_831 kc_3 ?_
  refine mg_iadd (pc := 832) dL_law_832 ?_
  refine mb_ax (pc := 833) dL_law_833 hr (fun x1 hr => ?_)
  refine ml_aload_n (pc := 834) dL_law_834 rfl (mm_get_s (mm_get_s (mm_get_s mm_get_0))) ?_
  refine mb_wS (pc := 835) (As := [.ref a1, .int t1, .int t2, .int x1, .ref a3]) (rest := []) dL_law_835 cx_136 hr (fun v hv => L_two_ok hz hnc (by omega) hx hv) rfl (Nat.le_of_ble_eq_true rfl) (by show _ ≤ 1011; omega) (by show _ ≤ 17440; omega) (fun r2 hr => ?_)
  refine ml_istore (pc := 838) dL_law_838 (Nat.le_of_ble_eq_true rfl) (mm_st1_s (mm_st1_s (mm_st1_s (mm_st1_s mm_st1_i)))) ?_
  refine ml_aload_n (pc := 840) dL_law_840 rfl (mm_get_s (mm_get_s mm_get_0)) ?_
  refine ml_aload_n (pc := 841) dL_law_841 rfl mm_get_0 ?_
  refine ml_iload (pc := 842) dL_law_842 (mm_get_s (mm_get_s (mm_get_s (mm_get_s mm_get_0)))) ?_
  refine mg_iconst (pc := 844) dL_law_844 kc_1 ?_
  refine mg_iadd (pc := 845) dL_law_845 ?_
  refine mb_ax (pc := 846) dL_law_846 hr (fun x3 hr => ?_)
  refine ml_aload_n (pc := 847) dL_law_847 rfl mm_get_0 ?_
  refine ml_iload (pc := 848) dL_law_848 (mm_get_s (mm_get_s (mm_get_s (mm_get_s mm_get_0)))) ?_
  refine mg_iconst (pc := 850) dL_law_850 kc_2 ?_
  refine mg_iadd (pc := 851) dL_law_851 ?_
  refine mb_ax (pc := 852) dL_law_852 hr (fun x4 hr => ?_)
  refine mb_if_eq (pc := 853) 860 dL_law_853 rfl hr (fun hr => ?_) (fun hr => ?_)
  · refine mg_iconst (pc := 860) dL_law_860 kc_0 ?_
    exact mg_cs (by omega) (by omega) (mg_weak (mm_le_s (mm_le_s (mm_le_s (mm_le_s (mm_le_s (mm_le_s (mm_le_n (mm_le_n mm_le_0)))))))) (L_law_b861_ok hz hnc hd hx hm (by omega) hk23 hr))
  · refine mg_iconst (pc := 856) dL_law_856 kc_1 ?_
    refine mg_goto (pc := 857) 861 dL_law_857 rfl ?_
    exact mg_cs (by omega) (by omega) (mg_weak (mm_le_s (mm_le_s (mm_le_s (mm_le_s (mm_le_s (mm_le_s (mm_le_n (mm_le_n mm_le_0)))))))) (L_law_b861_ok hz hnc hd hx hm (by omega) hk23 hr))
def L_law_b807 (e : mm_E) (k23 : Int32 → mm_V → Option (Int32 × mm_V)) (a0 : Nat) (a1 : Nat) (a2 : Nat) (a3 : Nat) (i4 : Int32) (m : mm_V) : Option (Int32 × mm_V) := (mm_ai e.1 m 31 a0 (i4 + (1 : Int32))).bind fun x1 => (mm_ai e.1 m 31 a0 (i4 + (2 : Int32))).bind fun x2 => if x2 = 0 then (L_law_b828 e k23 a0 a1 a2 a3 i4 x1 (0 : Int32) m) else (L_law_b828 e k23 a0 a1 a2 a3 i4 x1 (1 : Int32) m)
theorem L_law_b807_ok {K : mm_K} {e : mm_E} (hz : e.2.1 = K.2.2.2.2) (hnc : va_Nc "java/lang/IllegalArgumentException" "java/util/NoSuchElementException" K.2.1) {d : Nat} (hd : 258 ≤ d) {a0 : Nat} {a1 : Nat} {a2 : Nat} {a3 : Nat} {i4 : Int32} (hx : e.1 a1 = some (11, 19)) (hm : e.1 a2 = some (12, 75)) {k : Nat} (hk : k + 1 ≤ 514) {k23 : Int32 → mm_V → Option (Int32 × mm_V)} (hk23 : ∀ (w4 : Int32) (m : mm_V) (r : Int32 × mm_V), k23 w4 m = some r → mm_G K ML_law d (1011, 17440, .inl (some (.int r.1)), (e.1, r.2), none) 23 [some (.ref a0), some (.ref a1), some (.ref a2), some (.ref a3), some (.int w4), none, none, none] [] (e.1, m) none (493 + (k + 1)) (14332 + 6 * (k + 1))) {m : mm_V} {r : Int32 × mm_V} (hr : L_law_b807 e k23 a0 a1 a2 a3 i4 m = some r) : mm_G K ML_law d (1011, 17440, .inl (some (.int r.1)), (e.1, r.2), none) 807 [some (.ref a0), some (.ref a1), some (.ref a2), some (.ref a3), some (.int i4), none, none, none] [] (e.1, m) none (493 + (k + 1)) (14332 + 6 * (k + 1)) := by
  obtain ⟨d, rfl⟩ : ∃ d', d = d' + 1 := ⟨d - 1, by omega⟩
  unfold L_law_b807 at hr
  refine ml_aload_n (pc := 807) dL_law_807 rfl (mm_get_s mm_get_0) ?_
  refine ml_aload_n (pc := 808) dL_law_808 rfl mm_get_0 ?_
  refine ml_iload (pc := 809) dL_law_809 (mm_get_s (mm_get_s (mm_get_s (mm_get_s mm_get_0)))) ?_
  refine mg_iconst (pc := 811) dL_law_811 kc_1 ?_
  refine mg_iadd (pc := 812) dL_law_812 ?_
  refine mb_ax (pc := 813) dL_law_813 hr (fun x1 hr => ?_)
  refine ml_aload_n (pc := 814) dL_law_814 rfl mm_get_0 ?_
  refine ml_iload (pc := 815) dL_law_815 (mm_get_s (mm_get_s (mm_get_s (mm_get_s mm_get_0)))) ?_
  refine mg_iconst (pc := 817) dL_law_817 kc_2 ?_
  refine mg_iadd (pc := 818) dL_law_818 ?_
  refine mb_ax (pc := 819) dL_law_819 hr (fun x2 hr => ?_)
  refine mb_if_eq (pc := 820) 827 dL_law_820 rfl hr (fun hr => ?_) (fun hr => ?_)
  · refine mg_iconst (pc := 827) dL_law_827 kc_0 ?_
    exact mg_cs (by omega) (by omega) (mg_weak (mm_le_s (mm_le_s (mm_le_s (mm_le_s (mm_le_s (mm_le_n (mm_le_n (mm_le_n mm_le_0)))))))) (L_law_b828_ok hz hnc hd hx hm (by omega) hk23 hr))
  · refine mg_iconst (pc := 823) dL_law_823 kc_1 ?_
    refine mg_goto (pc := 824) 828 dL_law_824 rfl ?_
    exact mg_cs (by omega) (by omega) (mg_weak (mm_le_s (mm_le_s (mm_le_s (mm_le_s (mm_le_s (mm_le_n (mm_le_n (mm_le_n mm_le_0)))))))) (L_law_b828_ok hz hnc hd hx hm (by omega) hk23 hr))
def L_law_b804 (e : mm_E) (k23 : Int32 → mm_V → Option (Int32 × mm_V)) (a0 : Nat) (a1 : Nat) (a2 : Nat) (a3 : Nat) (i4 : Int32) (m : mm_V) : Option (Int32 × mm_V) := L_law_b1713 e k23 a0 a1 a2 a3 i4  m
theorem L_law_b804_ok {K : mm_K} {e : mm_E} (hz : e.2.1 = K.2.2.2.2) (hnc : va_Nc "java/lang/IllegalArgumentException" "java/util/NoSuchElementException" K.2.1) {d : Nat} (hd : 258 ≤ d) {a0 : Nat} {a1 : Nat} {a2 : Nat} {a3 : Nat} {i4 : Int32} (hx : e.1 a1 = some (11, 19)) (hm : e.1 a2 = some (12, 75)) {k : Nat} (hk : k + 1 ≤ 514) {k23 : Int32 → mm_V → Option (Int32 × mm_V)} (hk23 : ∀ (w4 : Int32) (m : mm_V) (r : Int32 × mm_V), k23 w4 m = some r → mm_G K ML_law d (1011, 17440, .inl (some (.int r.1)), (e.1, r.2), none) 23 [some (.ref a0), some (.ref a1), some (.ref a2), some (.ref a3), some (.int w4), none, none, none] [] (e.1, m) none (493 + (k + 1)) (14332 + 6 * (k + 1))) {m : mm_V} {r : Int32 × mm_V} (hr : L_law_b804 e k23 a0 a1 a2 a3 i4 m = some r) : mm_G K ML_law d (1011, 17440, .inl (some (.int r.1)), (e.1, r.2), none) 804 [some (.ref a0), some (.ref a1), some (.ref a2), some (.ref a3), some (.int i4), none, none, none] [] (e.1, m) none (493 + (k + 1)) (14332 + 6 * (k + 1)) := by
  obtain ⟨d, rfl⟩ : ∃ d', d = d' + 1 := ⟨d - 1, by omega⟩
  unfold L_law_b804 at hr
  refine mg_goto (pc := 804) 1713 dL_law_804 rfl ?_
  exact mg_cs (by omega) (by omega) (mg_weak (mm_le_s (mm_le_s (mm_le_s (mm_le_s (mm_le_s (mm_le_n (mm_le_n (mm_le_n mm_le_0)))))))) (L_law_b1713_ok hz hnc hd hx hm (by omega) hk23 hr))
def L_law_b728 (e : mm_E) (k23 : Int32 → mm_V → Option (Int32 × mm_V)) (a0 : Nat) (a1 : Nat) (a2 : Nat) (a3 : Nat) (i4 : Int32) (m : mm_V) : Option (Int32 × mm_V) := (mm_ai e.1 m 31 a0 (i4 + (1 : Int32))).bind fun x1 => (mm_ai e.1 m 31 a0 (i4 + (2 : Int32))).bind fun x2 => (mm_ai e.1 m 31 a0 (i4 + (3 : Int32))).bind fun x3 => (L_blind e a1 x1 x2 x3 a3 m).bind fun r4 => (mm_ai e.1 r4.2 31 a0 (i4 + (1 : Int32))).bind fun x5 => (mm_ai e.1 r4.2 31 a0 (i4 + (2 : Int32))).bind fun x6 => (mm_ai e.1 r4.2 31 a0 (i4 + (3 : Int32))).bind fun x7 => (X12_blind e a2 x5 x6 x7 r4.2).bind fun r8 => (X12_thrown e a2 r8.2).bind fun r9 => if r9.1 = r4.1 then (if ¬ r4.1 = 0 then (L_law_b804 e k23 a0 a1 a2 a3 i4  r9.2) else ((mm_al e.1 r9.2 a3 (0 : Int32)).bind fun y10 => if (lg_cmp y10 r8.1) = 0 then (L_law_b804 e k23 a0 a1 a2 a3 i4  r9.2) else (mm_rz (0 : Int32) r9.2))) else (mm_rz (0 : Int32) r9.2)
theorem L_law_b728_ok {K : mm_K} {e : mm_E} (hz : e.2.1 = K.2.2.2.2) (hnc : va_Nc "java/lang/IllegalArgumentException" "java/util/NoSuchElementException" K.2.1) {d : Nat} (hd : 258 ≤ d) {a0 : Nat} {a1 : Nat} {a2 : Nat} {a3 : Nat} {i4 : Int32} (hx : e.1 a1 = some (11, 19)) (hm : e.1 a2 = some (12, 75)) {k : Nat} (hk : k + 1 ≤ 514) {k23 : Int32 → mm_V → Option (Int32 × mm_V)} (hk23 : ∀ (w4 : Int32) (m : mm_V) (r : Int32 × mm_V), k23 w4 m = some r → mm_G K ML_law d (1011, 17440, .inl (some (.int r.1)), (e.1, r.2), none) 23 [some (.ref a0), some (.ref a1), some (.ref a2), some (.ref a3), some (.int w4), none, none, none] [] (e.1, m) none (493 + (k + 1)) (14332 + 6 * (k + 1))) {m : mm_V} {r : Int32 × mm_V} (hr : L_law_b728 e k23 a0 a1 a2 a3 i4 m = some r) : mm_G K ML_law d (1011, 17440, .inl (some (.int r.1)), (e.1, r.2), none) 728 [some (.ref a0), some (.ref a1), some (.ref a2), some (.ref a3), some (.int i4), none, none, none] [] (e.1, m) none (493 + (k + 1)) (14332 + 6 * (k + 1)) := by
  obtain ⟨d, rfl⟩ : ∃ d', d = d' + 1 := ⟨d - 1, by omega⟩
  unfold L_law_b728 at hr
  refine ml_aload_n (pc := 728) dL_law_728 rfl (mm_get_s mm_get_0) ?_
  refine ml_aload_n (pc := 729) dL_law_729 rfl mm_get_0 ?_
  refine ml_iload (pc := 730) dL_law_730 (mm_get_s (mm_get_s (mm_get_s (mm_get_s mm_get_0)))) ?_
  refine mg_iconst (pc := 732) dL_law_732 kc_1 ?_
  refine mg_iadd (pc := 733) dL_law_733 ?_
  refine mb_ax (pc := 734) dL_law_734 hr (fun x1 hr => ?_)
  refine ml_aload_n (pc := 735) dL_law_735 rfl mm_get_0 ?_
  refine ml_iload (pc := 736) dL_law_736 (mm_get_s (mm_get_s (mm_get_s (mm_get_s mm_get_0)))) ?_
  refine mg_iconst (pc := 738) dL_law_738 kc_2 ?_
  refine mg_iadd (pc := 739) dL_law_739 ?_
  refine mb_ax (pc := 740) dL_law_740 hr (fun x2 hr => ?_)
  refine ml_aload_n (pc := 741) dL_law_741 rfl mm_get_0 ?_
  refine ml_iload (pc := 742) dL_law_742 (mm_get_s (mm_get_s (mm_get_s (mm_get_s mm_get_0)))) ?_
  refine mg_iconst (pc := 744) dL_law_744 kc_3 ?_
  refine mg_iadd (pc := 745) dL_law_745 ?_
  refine mb_ax (pc := 746) dL_law_746 hr (fun x3 hr => ?_)
  refine ml_aload_n (pc := 747) dL_law_747 rfl (mm_get_s (mm_get_s (mm_get_s mm_get_0))) ?_
  refine mb_wS (pc := 748) (As := [.ref a1, .int x1, .int x2, .int x3, .ref a3]) (rest := []) dL_law_748 cx_132 hr (fun v hv => L_blind_ok hz hnc (by omega) hx hv) rfl (Nat.le_of_ble_eq_true rfl) (by show _ ≤ 1011; omega) (by show _ ≤ 17440; omega) (fun r4 hr => ?_)
  refine ml_istore (pc := 751) dL_law_751 (Nat.le_of_ble_eq_true rfl) (mm_st1_s (mm_st1_s (mm_st1_s (mm_st1_s mm_st1_i)))) ?_
  refine ml_aload_n (pc := 753) dL_law_753 rfl (mm_get_s (mm_get_s mm_get_0)) ?_
  refine ml_aload_n (pc := 754) dL_law_754 rfl mm_get_0 ?_
  refine ml_iload (pc := 755) dL_law_755 (mm_get_s (mm_get_s (mm_get_s (mm_get_s mm_get_0)))) ?_
  refine mg_iconst (pc := 757) dL_law_757 kc_1 ?_
  refine mg_iadd (pc := 758) dL_law_758 ?_
  refine mb_ax (pc := 759) dL_law_759 hr (fun x5 hr => ?_)
  refine ml_aload_n (pc := 760) dL_law_760 rfl mm_get_0 ?_
  refine ml_iload (pc := 761) dL_law_761 (mm_get_s (mm_get_s (mm_get_s (mm_get_s mm_get_0)))) ?_
  refine mg_iconst (pc := 763) dL_law_763 kc_2 ?_
  refine mg_iadd (pc := 764) dL_law_764 ?_
  refine mb_ax (pc := 765) dL_law_765 hr (fun x6 hr => ?_)
  refine ml_aload_n (pc := 766) dL_law_766 rfl mm_get_0 ?_
  refine ml_iload (pc := 767) dL_law_767 (mm_get_s (mm_get_s (mm_get_s (mm_get_s mm_get_0)))) ?_
  refine mg_iconst (pc := 769) dL_law_769 kc_3 ?_
  refine mg_iadd (pc := 770) dL_law_770 ?_
  refine mb_ax (pc := 771) dL_law_771 hr (fun x7 hr => ?_)
  refine mb_cVl (pc := 772) (As := [.int x5, .int x6, .int x7]) (rest := []) dL_law_772 cw_L_135 hm hr (fun v hv => X12_blind_ok hz (by omega) hm hv) rfl (Nat.le_of_ble_eq_true rfl) (by show _ ≤ 1011; omega) (by show _ ≤ 17440; omega) (fun r8 hr => ?_)
  refine ml_lstore (pc := 775) dL_law_775 (Nat.le_of_ble_eq_true rfl) (mm_st2_s (mm_st2_s (mm_st2_s (mm_st2_s (mm_st2_s mm_st2_i))))) ?_
  refine ml_aload_n (pc := 777) dL_law_777 rfl (mm_get_s (mm_get_s mm_get_0)) ?_
  refine mb_cVi (pc := 778) (As := []) (rest := []) dL_law_778 cw_L_96 hm hr (fun v hv => X12_thrown_ok hz (by omega) hm hv) rfl (Nat.le_of_ble_eq_true rfl) (by show _ ≤ 1011; omega) (by show _ ≤ 17440; omega) (fun r9 hr => ?_)
  refine ml_iload (pc := 781) dL_law_781 (mm_get_s (mm_get_s (mm_get_s (mm_get_s (mm_get_s mm_get_0))))) ?_
  refine mb_icmp_eq (pc := 783) 788 dL_law_783 rfl hr (fun hr => ?_) (fun hr => ?_)
  · refine ml_iload (pc := 788) dL_law_788 (mm_get_s (mm_get_s (mm_get_s (mm_get_s (mm_get_s mm_get_0))))) ?_
    refine mb_if_ne (pc := 790) 804 dL_law_790 rfl hr (fun hr => ?_) (fun hr => ?_)
    · exact mg_cs (by omega) (by omega) (mg_weak (mm_le_s (mm_le_s (mm_le_s (mm_le_s (mm_le_s (mm_le_n (mm_le_n (mm_le_n mm_le_0)))))))) (L_law_b804_ok hz hnc hd hx hm (by omega) hk23 hr))
    · refine ml_aload_n (pc := 793) dL_law_793 rfl (mm_get_s (mm_get_s (mm_get_s mm_get_0))) ?_
      refine mg_iconst (pc := 794) dL_law_794 kc_0 ?_
      refine mb_al (pc := 795) dL_law_795 hr (fun y10 hr => ?_)
      refine ml_lload (pc := 796) dL_law_796 (mm_get_s (mm_get_s (mm_get_s (mm_get_s (mm_get_s (mm_get_s mm_get_0)))))) ?_
      refine mg_lcmp (pc := 798) dL_law_798 ?_
      refine mb_if_eq (pc := 799) 804 dL_law_799 rfl hr (fun hr => ?_) (fun hr => ?_)
      · exact mg_cs (by omega) (by omega) (mg_weak (mm_le_s (mm_le_s (mm_le_s (mm_le_s (mm_le_s (mm_le_n (mm_le_n (mm_le_n mm_le_0)))))))) (L_law_b804_ok hz hnc hd hx hm (by omega) hk23 hr))
      · refine mg_iconst (pc := 802) dL_law_802 kc_0 ?_
        exact mb_lwret dL_law_803 rfl rfl (by show _ ≤ 1011; omega) (by show _ ≤ 17440; omega) hr
  · refine mg_iconst (pc := 786) dL_law_786 kc_0 ?_
    exact mb_lwret dL_law_787 rfl rfl (by show _ ≤ 1011; omega) (by show _ ≤ 17440; omega) hr
def L_law_b725 (e : mm_E) (k23 : Int32 → mm_V → Option (Int32 × mm_V)) (a0 : Nat) (a1 : Nat) (a2 : Nat) (a3 : Nat) (i4 : Int32) (m : mm_V) : Option (Int32 × mm_V) := L_law_b1713 e k23 a0 a1 a2 a3 i4  m
theorem L_law_b725_ok {K : mm_K} {e : mm_E} (hz : e.2.1 = K.2.2.2.2) (hnc : va_Nc "java/lang/IllegalArgumentException" "java/util/NoSuchElementException" K.2.1) {d : Nat} (hd : 258 ≤ d) {a0 : Nat} {a1 : Nat} {a2 : Nat} {a3 : Nat} {i4 : Int32} (hx : e.1 a1 = some (11, 19)) (hm : e.1 a2 = some (12, 75)) {k : Nat} (hk : k + 1 ≤ 514) {k23 : Int32 → mm_V → Option (Int32 × mm_V)} (hk23 : ∀ (w4 : Int32) (m : mm_V) (r : Int32 × mm_V), k23 w4 m = some r → mm_G K ML_law d (1011, 17440, .inl (some (.int r.1)), (e.1, r.2), none) 23 [some (.ref a0), some (.ref a1), some (.ref a2), some (.ref a3), some (.int w4), none, none, none] [] (e.1, m) none (493 + (k + 1)) (14332 + 6 * (k + 1))) {m : mm_V} {r : Int32 × mm_V} (hr : L_law_b725 e k23 a0 a1 a2 a3 i4 m = some r) : mm_G K ML_law d (1011, 17440, .inl (some (.int r.1)), (e.1, r.2), none) 725 [some (.ref a0), some (.ref a1), some (.ref a2), some (.ref a3), some (.int i4), none, none, none] [] (e.1, m) none (493 + (k + 1)) (14332 + 6 * (k + 1)) := by
  obtain ⟨d, rfl⟩ : ∃ d', d = d' + 1 := ⟨d - 1, by omega⟩
  unfold L_law_b725 at hr
  refine mg_goto (pc := 725) 1713 dL_law_725 rfl ?_
  exact mg_cs (by omega) (by omega) (mg_weak (mm_le_s (mm_le_s (mm_le_s (mm_le_s (mm_le_s (mm_le_n (mm_le_n (mm_le_n mm_le_0)))))))) (L_law_b1713_ok hz hnc hd hx hm (by omega) hk23 hr))
def L_law_b692 (e : mm_E) (k23 : Int32 → mm_V → Option (Int32 × mm_V)) (a0 : Nat) (a1 : Nat) (a2 : Nat) (a3 : Nat) (i4 : Int32) (i5 : Int32) (t1 : Int32) (t2 : Int32) (m : mm_V) : Option (Int32 × mm_V) := (X12_has e a2 t1 t2 m).bind fun r1 => (X12_thrown e a2 r1.2).bind fun r2 => if r2.1 = i5 then (if ¬ i5 = 0 then (L_law_b725 e k23 a0 a1 a2 a3 i4  r2.2) else ((mm_al e.1 r2.2 a3 (0 : Int32)).bind fun y3 => if (lg_cmp y3 r1.1.toInt64) = 0 then (L_law_b725 e k23 a0 a1 a2 a3 i4  r2.2) else (mm_rz (0 : Int32) r2.2))) else (mm_rz (0 : Int32) r2.2)
theorem L_law_b692_ok {K : mm_K} {e : mm_E} (hz : e.2.1 = K.2.2.2.2) (hnc : va_Nc "java/lang/IllegalArgumentException" "java/util/NoSuchElementException" K.2.1) {d : Nat} (hd : 258 ≤ d) {a0 : Nat} {a1 : Nat} {a2 : Nat} {a3 : Nat} {i4 : Int32} {i5 : Int32} {t1 : Int32} {t2 : Int32} (hx : e.1 a1 = some (11, 19)) (hm : e.1 a2 = some (12, 75)) {k : Nat} (hk : k + 1 ≤ 514) {k23 : Int32 → mm_V → Option (Int32 × mm_V)} (hk23 : ∀ (w4 : Int32) (m : mm_V) (r : Int32 × mm_V), k23 w4 m = some r → mm_G K ML_law d (1011, 17440, .inl (some (.int r.1)), (e.1, r.2), none) 23 [some (.ref a0), some (.ref a1), some (.ref a2), some (.ref a3), some (.int w4), none, none, none] [] (e.1, m) none (493 + (k + 1)) (14332 + 6 * (k + 1))) {m : mm_V} {r : Int32 × mm_V} (hr : L_law_b692 e k23 a0 a1 a2 a3 i4 i5 t1 t2 m = some r) : mm_G K ML_law d (1011, 17440, .inl (some (.int r.1)), (e.1, r.2), none) 692 [some (.ref a0), some (.ref a1), some (.ref a2), some (.ref a3), some (.int i4), some (.int i5), none, none] [.int t2, .int t1, .ref a2] (e.1, m) none (493 + (k + 1)) (14332 + 6 * (k + 1)) := by
  obtain ⟨d, rfl⟩ : ∃ d', d = d' + 1 := ⟨d - 1, by omega⟩
  unfold L_law_b692 at hr
  refine mb_cVi (pc := 692) (As := [.int t1, .int t2]) (rest := []) dL_law_692 cw_L_131 hm hr (fun v hv => X12_has_ok hz (by omega) hm hv) rfl (Nat.le_of_ble_eq_true rfl) (by show _ ≤ 1011; omega) (by show _ ≤ 17440; omega) (fun r1 hr => ?_)
  refine ml_istore (pc := 695) dL_law_695 (Nat.le_of_ble_eq_true rfl) (mm_st1_s (mm_st1_s (mm_st1_s (mm_st1_s (mm_st1_s mm_st1_i))))) ?_
  refine ml_aload_n (pc := 697) dL_law_697 rfl (mm_get_s (mm_get_s mm_get_0)) ?_
  refine mb_cVi (pc := 698) (As := []) (rest := []) dL_law_698 cw_L_96 hm hr (fun v hv => X12_thrown_ok hz (by omega) hm hv) rfl (Nat.le_of_ble_eq_true rfl) (by show _ ≤ 1011; omega) (by show _ ≤ 17440; omega) (fun r2 hr => ?_)
  refine ml_iload (pc := 701) dL_law_701 (mm_get_s (mm_get_s (mm_get_s (mm_get_s (mm_get_s mm_get_0))))) ?_
  refine mb_icmp_eq (pc := 703) 708 dL_law_703 rfl hr (fun hr => ?_) (fun hr => ?_)
  · refine ml_iload (pc := 708) dL_law_708 (mm_get_s (mm_get_s (mm_get_s (mm_get_s (mm_get_s mm_get_0))))) ?_
    refine mb_if_ne (pc := 710) 725 dL_law_710 rfl hr (fun hr => ?_) (fun hr => ?_)
    · exact mg_cs (by omega) (by omega) (mg_weak (mm_le_s (mm_le_s (mm_le_s (mm_le_s (mm_le_s (mm_le_n (mm_le_n (mm_le_n mm_le_0)))))))) (L_law_b725_ok hz hnc hd hx hm (by omega) hk23 hr))
    · refine ml_aload_n (pc := 713) dL_law_713 rfl (mm_get_s (mm_get_s (mm_get_s mm_get_0))) ?_
      refine mg_iconst (pc := 714) dL_law_714 kc_0 ?_
      refine mb_al (pc := 715) dL_law_715 hr (fun y3 hr => ?_)
      refine ml_iload (pc := 716) dL_law_716 (mm_get_s (mm_get_s (mm_get_s (mm_get_s (mm_get_s (mm_get_s mm_get_0)))))) ?_
      refine mg_i2l (pc := 718) dL_law_718 ?_
      refine mg_lcmp (pc := 719) dL_law_719 ?_
      refine mb_if_eq (pc := 720) 725 dL_law_720 rfl hr (fun hr => ?_) (fun hr => ?_)
      · exact mg_cs (by omega) (by omega) (mg_weak (mm_le_s (mm_le_s (mm_le_s (mm_le_s (mm_le_s (mm_le_n (mm_le_n (mm_le_n mm_le_0)))))))) (L_law_b725_ok hz hnc hd hx hm (by omega) hk23 hr))
      · refine mg_iconst (pc := 723) dL_law_723 kc_0 ?_
        exact mb_lwret dL_law_724 rfl rfl (by show _ ≤ 1011; omega) (by show _ ≤ 17440; omega) hr
  · refine mg_iconst (pc := 706) dL_law_706 kc_0 ?_
    exact mb_lwret dL_law_707 rfl rfl (by show _ ≤ 1011; omega) (by show _ ≤ 17440; omega) hr
def L_law_b665 (e : mm_E) (k23 : Int32 → mm_V → Option (Int32 × mm_V)) (a0 : Nat) (a1 : Nat) (a2 : Nat) (a3 : Nat) (i4 : Int32) (t1 : Int32) (t2 : Int32) (m : mm_V) : Option (Int32 × mm_V) := (L_has e a1 t1 t2 a3 m).bind fun r1 => (mm_ai e.1 r1.2 31 a0 (i4 + (1 : Int32))).bind fun x2 => (mm_ai e.1 r1.2 31 a0 (i4 + (2 : Int32))).bind fun x3 => if x3 = 0 then (L_law_b692 e k23 a0 a1 a2 a3 i4 r1.1 x2 (0 : Int32) r1.2) else (L_law_b692 e k23 a0 a1 a2 a3 i4 r1.1 x2 (1 : Int32) r1.2)
theorem L_law_b665_ok {K : mm_K} {e : mm_E} (hz : e.2.1 = K.2.2.2.2) (hnc : va_Nc "java/lang/IllegalArgumentException" "java/util/NoSuchElementException" K.2.1) {d : Nat} (hd : 258 ≤ d) {a0 : Nat} {a1 : Nat} {a2 : Nat} {a3 : Nat} {i4 : Int32} {t1 : Int32} {t2 : Int32} (hx : e.1 a1 = some (11, 19)) (hm : e.1 a2 = some (12, 75)) {k : Nat} (hk : k + 1 ≤ 514) {k23 : Int32 → mm_V → Option (Int32 × mm_V)} (hk23 : ∀ (w4 : Int32) (m : mm_V) (r : Int32 × mm_V), k23 w4 m = some r → mm_G K ML_law d (1011, 17440, .inl (some (.int r.1)), (e.1, r.2), none) 23 [some (.ref a0), some (.ref a1), some (.ref a2), some (.ref a3), some (.int w4), none, none, none] [] (e.1, m) none (493 + (k + 1)) (14332 + 6 * (k + 1))) {m : mm_V} {r : Int32 × mm_V} (hr : L_law_b665 e k23 a0 a1 a2 a3 i4 t1 t2 m = some r) : mm_G K ML_law d (1011, 17440, .inl (some (.int r.1)), (e.1, r.2), none) 665 [some (.ref a0), some (.ref a1), some (.ref a2), some (.ref a3), some (.int i4), none, none, none] [.int t2, .int t1, .ref a1] (e.1, m) none (493 + (k + 1)) (14332 + 6 * (k + 1)) := by
  obtain ⟨d, rfl⟩ : ∃ d', d = d' + 1 := ⟨d - 1, by omega⟩
  unfold L_law_b665 at hr
  refine ml_aload_n (pc := 665) dL_law_665 rfl (mm_get_s (mm_get_s (mm_get_s mm_get_0))) ?_
  refine mb_wS (pc := 666) (As := [.ref a1, .int t1, .int t2, .ref a3]) (rest := []) dL_law_666 cx_128 hr (fun v hv => L_has_ok hz hnc (by omega) hx hv) rfl (Nat.le_of_ble_eq_true rfl) (by show _ ≤ 1011; omega) (by show _ ≤ 17440; omega) (fun r1 hr => ?_)
  refine ml_istore (pc := 669) dL_law_669 (Nat.le_of_ble_eq_true rfl) (mm_st1_s (mm_st1_s (mm_st1_s (mm_st1_s mm_st1_i)))) ?_
  refine ml_aload_n (pc := 671) dL_law_671 rfl (mm_get_s (mm_get_s mm_get_0)) ?_
  refine ml_aload_n (pc := 672) dL_law_672 rfl mm_get_0 ?_
  refine ml_iload (pc := 673) dL_law_673 (mm_get_s (mm_get_s (mm_get_s (mm_get_s mm_get_0)))) ?_
  refine mg_iconst (pc := 675) dL_law_675 kc_1 ?_
  refine mg_iadd (pc := 676) dL_law_676 ?_
  refine mb_ax (pc := 677) dL_law_677 hr (fun x2 hr => ?_)
  refine ml_aload_n (pc := 678) dL_law_678 rfl mm_get_0 ?_
  refine ml_iload (pc := 679) dL_law_679 (mm_get_s (mm_get_s (mm_get_s (mm_get_s mm_get_0)))) ?_
  refine mg_iconst (pc := 681) dL_law_681 kc_2 ?_
  refine mg_iadd (pc := 682) dL_law_682 ?_
  refine mb_ax (pc := 683) dL_law_683 hr (fun x3 hr => ?_)
  refine mb_if_eq (pc := 684) 691 dL_law_684 rfl hr (fun hr => ?_) (fun hr => ?_)
  · refine mg_iconst (pc := 691) dL_law_691 kc_0 ?_
    exact mg_cs (by omega) (by omega) (mg_weak (mm_le_s (mm_le_s (mm_le_s (mm_le_s (mm_le_s (mm_le_s (mm_le_n (mm_le_n mm_le_0)))))))) (L_law_b692_ok hz hnc hd hx hm (by omega) hk23 hr))
  · refine mg_iconst (pc := 687) dL_law_687 kc_1 ?_
    refine mg_goto (pc := 688) 692 dL_law_688 rfl ?_
    exact mg_cs (by omega) (by omega) (mg_weak (mm_le_s (mm_le_s (mm_le_s (mm_le_s (mm_le_s (mm_le_s (mm_le_n (mm_le_n mm_le_0)))))))) (L_law_b692_ok hz hnc hd hx hm (by omega) hk23 hr))
def L_law_b644 (e : mm_E) (k23 : Int32 → mm_V → Option (Int32 × mm_V)) (a0 : Nat) (a1 : Nat) (a2 : Nat) (a3 : Nat) (i4 : Int32) (m : mm_V) : Option (Int32 × mm_V) := (mm_ai e.1 m 31 a0 (i4 + (1 : Int32))).bind fun x1 => (mm_ai e.1 m 31 a0 (i4 + (2 : Int32))).bind fun x2 => if x2 = 0 then (L_law_b665 e k23 a0 a1 a2 a3 i4 x1 (0 : Int32) m) else (L_law_b665 e k23 a0 a1 a2 a3 i4 x1 (1 : Int32) m)
theorem L_law_b644_ok {K : mm_K} {e : mm_E} (hz : e.2.1 = K.2.2.2.2) (hnc : va_Nc "java/lang/IllegalArgumentException" "java/util/NoSuchElementException" K.2.1) {d : Nat} (hd : 258 ≤ d) {a0 : Nat} {a1 : Nat} {a2 : Nat} {a3 : Nat} {i4 : Int32} (hx : e.1 a1 = some (11, 19)) (hm : e.1 a2 = some (12, 75)) {k : Nat} (hk : k + 1 ≤ 514) {k23 : Int32 → mm_V → Option (Int32 × mm_V)} (hk23 : ∀ (w4 : Int32) (m : mm_V) (r : Int32 × mm_V), k23 w4 m = some r → mm_G K ML_law d (1011, 17440, .inl (some (.int r.1)), (e.1, r.2), none) 23 [some (.ref a0), some (.ref a1), some (.ref a2), some (.ref a3), some (.int w4), none, none, none] [] (e.1, m) none (493 + (k + 1)) (14332 + 6 * (k + 1))) {m : mm_V} {r : Int32 × mm_V} (hr : L_law_b644 e k23 a0 a1 a2 a3 i4 m = some r) : mm_G K ML_law d (1011, 17440, .inl (some (.int r.1)), (e.1, r.2), none) 644 [some (.ref a0), some (.ref a1), some (.ref a2), some (.ref a3), some (.int i4), none, none, none] [] (e.1, m) none (493 + (k + 1)) (14332 + 6 * (k + 1)) := by
  obtain ⟨d, rfl⟩ : ∃ d', d = d' + 1 := ⟨d - 1, by omega⟩
  unfold L_law_b644 at hr
  refine ml_aload_n (pc := 644) dL_law_644 rfl (mm_get_s mm_get_0) ?_
  refine ml_aload_n (pc := 645) dL_law_645 rfl mm_get_0 ?_
  refine ml_iload (pc := 646) dL_law_646 (mm_get_s (mm_get_s (mm_get_s (mm_get_s mm_get_0)))) ?_
  refine mg_iconst (pc := 648) dL_law_648 kc_1 ?_
  refine mg_iadd (pc := 649) dL_law_649 ?_
  refine mb_ax (pc := 650) dL_law_650 hr (fun x1 hr => ?_)
  refine ml_aload_n (pc := 651) dL_law_651 rfl mm_get_0 ?_
  refine ml_iload (pc := 652) dL_law_652 (mm_get_s (mm_get_s (mm_get_s (mm_get_s mm_get_0)))) ?_
  refine mg_iconst (pc := 654) dL_law_654 kc_2 ?_
  refine mg_iadd (pc := 655) dL_law_655 ?_
  refine mb_ax (pc := 656) dL_law_656 hr (fun x2 hr => ?_)
  refine mb_if_eq (pc := 657) 664 dL_law_657 rfl hr (fun hr => ?_) (fun hr => ?_)
  · refine mg_iconst (pc := 664) dL_law_664 kc_0 ?_
    exact mg_cs (by omega) (by omega) (mg_weak (mm_le_s (mm_le_s (mm_le_s (mm_le_s (mm_le_s (mm_le_n (mm_le_n (mm_le_n mm_le_0)))))))) (L_law_b665_ok hz hnc hd hx hm (by omega) hk23 hr))
  · refine mg_iconst (pc := 660) dL_law_660 kc_1 ?_
    refine mg_goto (pc := 661) 665 dL_law_661 rfl ?_
    exact mg_cs (by omega) (by omega) (mg_weak (mm_le_s (mm_le_s (mm_le_s (mm_le_s (mm_le_s (mm_le_n (mm_le_n (mm_le_n mm_le_0)))))))) (L_law_b665_ok hz hnc hd hx hm (by omega) hk23 hr))
def L_law_b641 (e : mm_E) (k23 : Int32 → mm_V → Option (Int32 × mm_V)) (a0 : Nat) (a1 : Nat) (a2 : Nat) (a3 : Nat) (i4 : Int32) (m : mm_V) : Option (Int32 × mm_V) := L_law_b1713 e k23 a0 a1 a2 a3 i4  m
theorem L_law_b641_ok {K : mm_K} {e : mm_E} (hz : e.2.1 = K.2.2.2.2) (hnc : va_Nc "java/lang/IllegalArgumentException" "java/util/NoSuchElementException" K.2.1) {d : Nat} (hd : 258 ≤ d) {a0 : Nat} {a1 : Nat} {a2 : Nat} {a3 : Nat} {i4 : Int32} (hx : e.1 a1 = some (11, 19)) (hm : e.1 a2 = some (12, 75)) {k : Nat} (hk : k + 1 ≤ 514) {k23 : Int32 → mm_V → Option (Int32 × mm_V)} (hk23 : ∀ (w4 : Int32) (m : mm_V) (r : Int32 × mm_V), k23 w4 m = some r → mm_G K ML_law d (1011, 17440, .inl (some (.int r.1)), (e.1, r.2), none) 23 [some (.ref a0), some (.ref a1), some (.ref a2), some (.ref a3), some (.int w4), none, none, none] [] (e.1, m) none (493 + (k + 1)) (14332 + 6 * (k + 1))) {m : mm_V} {r : Int32 × mm_V} (hr : L_law_b641 e k23 a0 a1 a2 a3 i4 m = some r) : mm_G K ML_law d (1011, 17440, .inl (some (.int r.1)), (e.1, r.2), none) 641 [some (.ref a0), some (.ref a1), some (.ref a2), some (.ref a3), some (.int i4), none, none, none] [] (e.1, m) none (493 + (k + 1)) (14332 + 6 * (k + 1)) := by
  obtain ⟨d, rfl⟩ : ∃ d', d = d' + 1 := ⟨d - 1, by omega⟩
  unfold L_law_b641 at hr
  refine mg_goto (pc := 641) 1713 dL_law_641 rfl ?_
  exact mg_cs (by omega) (by omega) (mg_weak (mm_le_s (mm_le_s (mm_le_s (mm_le_s (mm_le_s (mm_le_n (mm_le_n (mm_le_n mm_le_0)))))))) (L_law_b1713_ok hz hnc hd hx hm (by omega) hk23 hr))
def L_law_b588 (e : mm_E) (k23 : Int32 → mm_V → Option (Int32 × mm_V)) (a0 : Nat) (a1 : Nat) (a2 : Nat) (a3 : Nat) (i4 : Int32) (m : mm_V) : Option (Int32 × mm_V) := (mm_ai e.1 m 31 a0 (i4 + (1 : Int32))).bind fun x1 => (L_ends e a1 x1 a3 m).bind fun r2 => (mm_ai e.1 r2.2 31 a0 (i4 + (1 : Int32))).bind fun x3 => (X12_ends e a2 x3 r2.2).bind fun r4 => (X12_thrown e a2 r4.2).bind fun r5 => if r5.1 = r2.1 then (if ¬ r2.1 = 0 then (L_law_b641 e k23 a0 a1 a2 a3 i4  r5.2) else ((mm_al e.1 r5.2 a3 (0 : Int32)).bind fun y6 => if (lg_cmp y6 r4.1.toInt64) = 0 then (L_law_b641 e k23 a0 a1 a2 a3 i4  r5.2) else (mm_rz (0 : Int32) r5.2))) else (mm_rz (0 : Int32) r5.2)
theorem L_law_b588_ok {K : mm_K} {e : mm_E} (hz : e.2.1 = K.2.2.2.2) (hnc : va_Nc "java/lang/IllegalArgumentException" "java/util/NoSuchElementException" K.2.1) {d : Nat} (hd : 258 ≤ d) {a0 : Nat} {a1 : Nat} {a2 : Nat} {a3 : Nat} {i4 : Int32} (hx : e.1 a1 = some (11, 19)) (hm : e.1 a2 = some (12, 75)) {k : Nat} (hk : k + 1 ≤ 514) {k23 : Int32 → mm_V → Option (Int32 × mm_V)} (hk23 : ∀ (w4 : Int32) (m : mm_V) (r : Int32 × mm_V), k23 w4 m = some r → mm_G K ML_law d (1011, 17440, .inl (some (.int r.1)), (e.1, r.2), none) 23 [some (.ref a0), some (.ref a1), some (.ref a2), some (.ref a3), some (.int w4), none, none, none] [] (e.1, m) none (493 + (k + 1)) (14332 + 6 * (k + 1))) {m : mm_V} {r : Int32 × mm_V} (hr : L_law_b588 e k23 a0 a1 a2 a3 i4 m = some r) : mm_G K ML_law d (1011, 17440, .inl (some (.int r.1)), (e.1, r.2), none) 588 [some (.ref a0), some (.ref a1), some (.ref a2), some (.ref a3), some (.int i4), none, none, none] [] (e.1, m) none (493 + (k + 1)) (14332 + 6 * (k + 1)) := by
  obtain ⟨d, rfl⟩ : ∃ d', d = d' + 1 := ⟨d - 1, by omega⟩
  unfold L_law_b588 at hr
  refine ml_aload_n (pc := 588) dL_law_588 rfl (mm_get_s mm_get_0) ?_
  refine ml_aload_n (pc := 589) dL_law_589 rfl mm_get_0 ?_
  refine ml_iload (pc := 590) dL_law_590 (mm_get_s (mm_get_s (mm_get_s (mm_get_s mm_get_0)))) ?_
  refine mg_iconst (pc := 592) dL_law_592 kc_1 ?_
  refine mg_iadd (pc := 593) dL_law_593 ?_
  refine mb_ax (pc := 594) dL_law_594 hr (fun x1 hr => ?_)
  refine ml_aload_n (pc := 595) dL_law_595 rfl (mm_get_s (mm_get_s (mm_get_s mm_get_0))) ?_
  refine mb_wS (pc := 596) (As := [.ref a1, .int x1, .ref a3]) (rest := []) dL_law_596 cx_125 hr (fun v hv => L_ends_ok hz hnc (by omega) hx hv) rfl (Nat.le_of_ble_eq_true rfl) (by show _ ≤ 1011; omega) (by show _ ≤ 17440; omega) (fun r2 hr => ?_)
  refine ml_istore (pc := 599) dL_law_599 (Nat.le_of_ble_eq_true rfl) (mm_st1_s (mm_st1_s (mm_st1_s (mm_st1_s mm_st1_i)))) ?_
  refine ml_aload_n (pc := 601) dL_law_601 rfl (mm_get_s (mm_get_s mm_get_0)) ?_
  refine ml_aload_n (pc := 602) dL_law_602 rfl mm_get_0 ?_
  refine ml_iload (pc := 603) dL_law_603 (mm_get_s (mm_get_s (mm_get_s (mm_get_s mm_get_0)))) ?_
  refine mg_iconst (pc := 605) dL_law_605 kc_1 ?_
  refine mg_iadd (pc := 606) dL_law_606 ?_
  refine mb_ax (pc := 607) dL_law_607 hr (fun x3 hr => ?_)
  refine mb_cVi (pc := 608) (As := [.int x3]) (rest := []) dL_law_608 cw_L_127 hm hr (fun v hv => X12_ends_ok hz (by omega) hm hv) rfl (Nat.le_of_ble_eq_true rfl) (by show _ ≤ 1011; omega) (by show _ ≤ 17440; omega) (fun r4 hr => ?_)
  refine ml_istore (pc := 611) dL_law_611 (Nat.le_of_ble_eq_true rfl) (mm_st1_s (mm_st1_s (mm_st1_s (mm_st1_s (mm_st1_s mm_st1_i))))) ?_
  refine ml_aload_n (pc := 613) dL_law_613 rfl (mm_get_s (mm_get_s mm_get_0)) ?_
  refine mb_cVi (pc := 614) (As := []) (rest := []) dL_law_614 cw_L_96 hm hr (fun v hv => X12_thrown_ok hz (by omega) hm hv) rfl (Nat.le_of_ble_eq_true rfl) (by show _ ≤ 1011; omega) (by show _ ≤ 17440; omega) (fun r5 hr => ?_)
  refine ml_iload (pc := 617) dL_law_617 (mm_get_s (mm_get_s (mm_get_s (mm_get_s (mm_get_s mm_get_0))))) ?_
  refine mb_icmp_eq (pc := 619) 624 dL_law_619 rfl hr (fun hr => ?_) (fun hr => ?_)
  · refine ml_iload (pc := 624) dL_law_624 (mm_get_s (mm_get_s (mm_get_s (mm_get_s (mm_get_s mm_get_0))))) ?_
    refine mb_if_ne (pc := 626) 641 dL_law_626 rfl hr (fun hr => ?_) (fun hr => ?_)
    · exact mg_cs (by omega) (by omega) (mg_weak (mm_le_s (mm_le_s (mm_le_s (mm_le_s (mm_le_s (mm_le_n (mm_le_n (mm_le_n mm_le_0)))))))) (L_law_b641_ok hz hnc hd hx hm (by omega) hk23 hr))
    · refine ml_aload_n (pc := 629) dL_law_629 rfl (mm_get_s (mm_get_s (mm_get_s mm_get_0))) ?_
      refine mg_iconst (pc := 630) dL_law_630 kc_0 ?_
      refine mb_al (pc := 631) dL_law_631 hr (fun y6 hr => ?_)
      refine ml_iload (pc := 632) dL_law_632 (mm_get_s (mm_get_s (mm_get_s (mm_get_s (mm_get_s (mm_get_s mm_get_0)))))) ?_
      refine mg_i2l (pc := 634) dL_law_634 ?_
      refine mg_lcmp (pc := 635) dL_law_635 ?_
      refine mb_if_eq (pc := 636) 641 dL_law_636 rfl hr (fun hr => ?_) (fun hr => ?_)
      · exact mg_cs (by omega) (by omega) (mg_weak (mm_le_s (mm_le_s (mm_le_s (mm_le_s (mm_le_s (mm_le_n (mm_le_n (mm_le_n mm_le_0)))))))) (L_law_b641_ok hz hnc hd hx hm (by omega) hk23 hr))
      · refine mg_iconst (pc := 639) dL_law_639 kc_0 ?_
        exact mb_lwret dL_law_640 rfl rfl (by show _ ≤ 1011; omega) (by show _ ≤ 17440; omega) hr
  · refine mg_iconst (pc := 622) dL_law_622 kc_0 ?_
    exact mb_lwret dL_law_623 rfl rfl (by show _ ≤ 1011; omega) (by show _ ≤ 17440; omega) hr
def L_law_b575 (e : mm_E) (k23 : Int32 → mm_V → Option (Int32 × mm_V)) (a0 : Nat) (a1 : Nat) (a2 : Nat) (a3 : Nat) (i4 : Int32) (m : mm_V) : Option (Int32 × mm_V) := (X11_undo e a1 m).bind fun r1 => (X12_undo e a2 r1.2).bind fun r2 => if r1.1 = r2.1 then (L_law_b1713 e k23 a0 a1 a2 a3 i4  r2.2) else (mm_rz (0 : Int32) r2.2)
theorem L_law_b575_ok {K : mm_K} {e : mm_E} (hz : e.2.1 = K.2.2.2.2) (hnc : va_Nc "java/lang/IllegalArgumentException" "java/util/NoSuchElementException" K.2.1) {d : Nat} (hd : 258 ≤ d) {a0 : Nat} {a1 : Nat} {a2 : Nat} {a3 : Nat} {i4 : Int32} (hx : e.1 a1 = some (11, 19)) (hm : e.1 a2 = some (12, 75)) {k : Nat} (hk : k + 1 ≤ 514) {k23 : Int32 → mm_V → Option (Int32 × mm_V)} (hk23 : ∀ (w4 : Int32) (m : mm_V) (r : Int32 × mm_V), k23 w4 m = some r → mm_G K ML_law d (1011, 17440, .inl (some (.int r.1)), (e.1, r.2), none) 23 [some (.ref a0), some (.ref a1), some (.ref a2), some (.ref a3), some (.int w4), none, none, none] [] (e.1, m) none (493 + (k + 1)) (14332 + 6 * (k + 1))) {m : mm_V} {r : Int32 × mm_V} (hr : L_law_b575 e k23 a0 a1 a2 a3 i4 m = some r) : mm_G K ML_law d (1011, 17440, .inl (some (.int r.1)), (e.1, r.2), none) 575 [some (.ref a0), some (.ref a1), some (.ref a2), some (.ref a3), some (.int i4), none, none, none] [] (e.1, m) none (493 + (k + 1)) (14332 + 6 * (k + 1)) := by
  obtain ⟨d, rfl⟩ : ∃ d', d = d' + 1 := ⟨d - 1, by omega⟩
  unfold L_law_b575 at hr
  refine ml_aload_n (pc := 575) dL_law_575 rfl (mm_get_s mm_get_0) ?_
  refine mb_cVi (pc := 576) (As := []) (rest := []) dL_law_576 cw_L_121 hx hr (fun v hv => X11_undo_ok hz (by omega) hx hv) rfl (Nat.le_of_ble_eq_true rfl) (by show _ ≤ 1011; omega) (by show _ ≤ 17440; omega) (fun r1 hr => ?_)
  refine ml_aload_n (pc := 579) dL_law_579 rfl (mm_get_s (mm_get_s mm_get_0)) ?_
  refine mb_cVi (pc := 580) (As := []) (rest := [.int r1.1]) dL_law_580 cw_L_124 hm hr (fun v hv => X12_undo_ok hz (by omega) hm hv) rfl (Nat.le_of_ble_eq_true rfl) (by show _ ≤ 1011; omega) (by show _ ≤ 17440; omega) (fun r2 hr => ?_)
  refine mb_icmp_eq (pc := 583) 1713 dL_law_583 rfl hr (fun hr => ?_) (fun hr => ?_)
  · exact mg_cs (by omega) (by omega) (mg_weak (mm_le_s (mm_le_s (mm_le_s (mm_le_s (mm_le_s (mm_le_n (mm_le_n (mm_le_n mm_le_0)))))))) (L_law_b1713_ok hz hnc hd hx hm (by omega) hk23 hr))
  · refine mg_iconst (pc := 586) dL_law_586 kc_0 ?_
    exact mb_lwret dL_law_587 rfl rfl (by show _ ≤ 1011; omega) (by show _ ≤ 17440; omega) hr
def L_law_b572 (e : mm_E) (k23 : Int32 → mm_V → Option (Int32 × mm_V)) (a0 : Nat) (a1 : Nat) (a2 : Nat) (a3 : Nat) (i4 : Int32) (m : mm_V) : Option (Int32 × mm_V) := L_law_b1713 e k23 a0 a1 a2 a3 i4  m
theorem L_law_b572_ok {K : mm_K} {e : mm_E} (hz : e.2.1 = K.2.2.2.2) (hnc : va_Nc "java/lang/IllegalArgumentException" "java/util/NoSuchElementException" K.2.1) {d : Nat} (hd : 258 ≤ d) {a0 : Nat} {a1 : Nat} {a2 : Nat} {a3 : Nat} {i4 : Int32} (hx : e.1 a1 = some (11, 19)) (hm : e.1 a2 = some (12, 75)) {k : Nat} (hk : k + 1 ≤ 514) {k23 : Int32 → mm_V → Option (Int32 × mm_V)} (hk23 : ∀ (w4 : Int32) (m : mm_V) (r : Int32 × mm_V), k23 w4 m = some r → mm_G K ML_law d (1011, 17440, .inl (some (.int r.1)), (e.1, r.2), none) 23 [some (.ref a0), some (.ref a1), some (.ref a2), some (.ref a3), some (.int w4), none, none, none] [] (e.1, m) none (493 + (k + 1)) (14332 + 6 * (k + 1))) {m : mm_V} {r : Int32 × mm_V} (hr : L_law_b572 e k23 a0 a1 a2 a3 i4 m = some r) : mm_G K ML_law d (1011, 17440, .inl (some (.int r.1)), (e.1, r.2), none) 572 [some (.ref a0), some (.ref a1), some (.ref a2), some (.ref a3), some (.int i4), none, none, none] [] (e.1, m) none (493 + (k + 1)) (14332 + 6 * (k + 1)) := by
  obtain ⟨d, rfl⟩ : ∃ d', d = d' + 1 := ⟨d - 1, by omega⟩
  unfold L_law_b572 at hr
  refine mg_goto (pc := 572) 1713 dL_law_572 rfl ?_
  exact mg_cs (by omega) (by omega) (mg_weak (mm_le_s (mm_le_s (mm_le_s (mm_le_s (mm_le_s (mm_le_n (mm_le_n (mm_le_n mm_le_0)))))))) (L_law_b1713_ok hz hnc hd hx hm (by omega) hk23 hr))
def L_law_b519 (e : mm_E) (k23 : Int32 → mm_V → Option (Int32 × mm_V)) (a0 : Nat) (a1 : Nat) (a2 : Nat) (a3 : Nat) (i4 : Int32) (m : mm_V) : Option (Int32 × mm_V) := (mm_ai e.1 m 31 a0 (i4 + (1 : Int32))).bind fun x1 => (L_play e a1 x1 a3 m).bind fun r2 => (mm_ai e.1 r2.2 31 a0 (i4 + (1 : Int32))).bind fun x3 => (X12_play e a2 x3 r2.2).bind fun r4 => (X12_thrown e a2 r4.2).bind fun r5 => if r5.1 = r2.1 then (if ¬ r2.1 = 0 then (L_law_b572 e k23 a0 a1 a2 a3 i4  r5.2) else ((mm_al e.1 r5.2 a3 (0 : Int32)).bind fun y6 => if (lg_cmp y6 r4.1.toInt64) = 0 then (L_law_b572 e k23 a0 a1 a2 a3 i4  r5.2) else (mm_rz (0 : Int32) r5.2))) else (mm_rz (0 : Int32) r5.2)
theorem L_law_b519_ok {K : mm_K} {e : mm_E} (hz : e.2.1 = K.2.2.2.2) (hnc : va_Nc "java/lang/IllegalArgumentException" "java/util/NoSuchElementException" K.2.1) {d : Nat} (hd : 258 ≤ d) {a0 : Nat} {a1 : Nat} {a2 : Nat} {a3 : Nat} {i4 : Int32} (hx : e.1 a1 = some (11, 19)) (hm : e.1 a2 = some (12, 75)) {k : Nat} (hk : k + 1 ≤ 514) {k23 : Int32 → mm_V → Option (Int32 × mm_V)} (hk23 : ∀ (w4 : Int32) (m : mm_V) (r : Int32 × mm_V), k23 w4 m = some r → mm_G K ML_law d (1011, 17440, .inl (some (.int r.1)), (e.1, r.2), none) 23 [some (.ref a0), some (.ref a1), some (.ref a2), some (.ref a3), some (.int w4), none, none, none] [] (e.1, m) none (493 + (k + 1)) (14332 + 6 * (k + 1))) {m : mm_V} {r : Int32 × mm_V} (hr : L_law_b519 e k23 a0 a1 a2 a3 i4 m = some r) : mm_G K ML_law d (1011, 17440, .inl (some (.int r.1)), (e.1, r.2), none) 519 [some (.ref a0), some (.ref a1), some (.ref a2), some (.ref a3), some (.int i4), none, none, none] [] (e.1, m) none (493 + (k + 1)) (14332 + 6 * (k + 1)) := by
  obtain ⟨d, rfl⟩ : ∃ d', d = d' + 1 := ⟨d - 1, by omega⟩
  unfold L_law_b519 at hr
  refine ml_aload_n (pc := 519) dL_law_519 rfl (mm_get_s mm_get_0) ?_
  refine ml_aload_n (pc := 520) dL_law_520 rfl mm_get_0 ?_
  refine ml_iload (pc := 521) dL_law_521 (mm_get_s (mm_get_s (mm_get_s (mm_get_s mm_get_0)))) ?_
  refine mg_iconst (pc := 523) dL_law_523 kc_1 ?_
  refine mg_iadd (pc := 524) dL_law_524 ?_
  refine mb_ax (pc := 525) dL_law_525 hr (fun x1 hr => ?_)
  refine ml_aload_n (pc := 526) dL_law_526 rfl (mm_get_s (mm_get_s (mm_get_s mm_get_0))) ?_
  refine mb_wS (pc := 527) (As := [.ref a1, .int x1, .ref a3]) (rest := []) dL_law_527 cx_118 hr (fun v hv => L_play_ok hz hnc (by omega) hx hv) rfl (Nat.le_of_ble_eq_true rfl) (by show _ ≤ 1011; omega) (by show _ ≤ 17440; omega) (fun r2 hr => ?_)
  refine ml_istore (pc := 530) dL_law_530 (Nat.le_of_ble_eq_true rfl) (mm_st1_s (mm_st1_s (mm_st1_s (mm_st1_s mm_st1_i)))) ?_
  refine ml_aload_n (pc := 532) dL_law_532 rfl (mm_get_s (mm_get_s mm_get_0)) ?_
  refine ml_aload_n (pc := 533) dL_law_533 rfl mm_get_0 ?_
  refine ml_iload (pc := 534) dL_law_534 (mm_get_s (mm_get_s (mm_get_s (mm_get_s mm_get_0)))) ?_
  refine mg_iconst (pc := 536) dL_law_536 kc_1 ?_
  refine mg_iadd (pc := 537) dL_law_537 ?_
  refine mb_ax (pc := 538) dL_law_538 hr (fun x3 hr => ?_)
  refine mb_cVi (pc := 539) (As := [.int x3]) (rest := []) dL_law_539 cw_L_120 hm hr (fun v hv => X12_play_ok hz (by omega) hm hv) rfl (Nat.le_of_ble_eq_true rfl) (by show _ ≤ 1011; omega) (by show _ ≤ 17440; omega) (fun r4 hr => ?_)
  refine ml_istore (pc := 542) dL_law_542 (Nat.le_of_ble_eq_true rfl) (mm_st1_s (mm_st1_s (mm_st1_s (mm_st1_s (mm_st1_s mm_st1_i))))) ?_
  refine ml_aload_n (pc := 544) dL_law_544 rfl (mm_get_s (mm_get_s mm_get_0)) ?_
  refine mb_cVi (pc := 545) (As := []) (rest := []) dL_law_545 cw_L_96 hm hr (fun v hv => X12_thrown_ok hz (by omega) hm hv) rfl (Nat.le_of_ble_eq_true rfl) (by show _ ≤ 1011; omega) (by show _ ≤ 17440; omega) (fun r5 hr => ?_)
  refine ml_iload (pc := 548) dL_law_548 (mm_get_s (mm_get_s (mm_get_s (mm_get_s (mm_get_s mm_get_0))))) ?_
  refine mb_icmp_eq (pc := 550) 555 dL_law_550 rfl hr (fun hr => ?_) (fun hr => ?_)
  · refine ml_iload (pc := 555) dL_law_555 (mm_get_s (mm_get_s (mm_get_s (mm_get_s (mm_get_s mm_get_0))))) ?_
    refine mb_if_ne (pc := 557) 572 dL_law_557 rfl hr (fun hr => ?_) (fun hr => ?_)
    · exact mg_cs (by omega) (by omega) (mg_weak (mm_le_s (mm_le_s (mm_le_s (mm_le_s (mm_le_s (mm_le_n (mm_le_n (mm_le_n mm_le_0)))))))) (L_law_b572_ok hz hnc hd hx hm (by omega) hk23 hr))
    · refine ml_aload_n (pc := 560) dL_law_560 rfl (mm_get_s (mm_get_s (mm_get_s mm_get_0))) ?_
      refine mg_iconst (pc := 561) dL_law_561 kc_0 ?_
      refine mb_al (pc := 562) dL_law_562 hr (fun y6 hr => ?_)
      refine ml_iload (pc := 563) dL_law_563 (mm_get_s (mm_get_s (mm_get_s (mm_get_s (mm_get_s (mm_get_s mm_get_0)))))) ?_
      refine mg_i2l (pc := 565) dL_law_565 ?_
      refine mg_lcmp (pc := 566) dL_law_566 ?_
      refine mb_if_eq (pc := 567) 572 dL_law_567 rfl hr (fun hr => ?_) (fun hr => ?_)
      · exact mg_cs (by omega) (by omega) (mg_weak (mm_le_s (mm_le_s (mm_le_s (mm_le_s (mm_le_s (mm_le_n (mm_le_n (mm_le_n mm_le_0)))))))) (L_law_b572_ok hz hnc hd hx hm (by omega) hk23 hr))
      · refine mg_iconst (pc := 570) dL_law_570 kc_0 ?_
        exact mb_lwret dL_law_571 rfl rfl (by show _ ≤ 1011; omega) (by show _ ≤ 17440; omega) hr
  · refine mg_iconst (pc := 553) dL_law_553 kc_0 ?_
    exact mb_lwret dL_law_554 rfl rfl (by show _ ≤ 1011; omega) (by show _ ≤ 17440; omega) hr
def L_law_b494 (e : mm_E) (k23 : Int32 → mm_V → Option (Int32 × mm_V)) (a0 : Nat) (a1 : Nat) (a2 : Nat) (a3 : Nat) (i4 : Int32) (m : mm_V) : Option (Int32 × mm_V) := (mm_ai e.1 m 31 a0 (i4 + (1 : Int32))).bind fun x1 => (X11_draw e a1 x1 m).bind fun r2 => (mm_ai e.1 r2.2 31 a0 (i4 + (1 : Int32))).bind fun x3 => (X12_draw e a2 x3 r2.2).bind fun r4 => if r2.1 = r4.1 then (L_law_b1713 e k23 a0 a1 a2 a3 i4  r4.2) else (mm_rz (0 : Int32) r4.2)
theorem L_law_b494_ok {K : mm_K} {e : mm_E} (hz : e.2.1 = K.2.2.2.2) (hnc : va_Nc "java/lang/IllegalArgumentException" "java/util/NoSuchElementException" K.2.1) {d : Nat} (hd : 258 ≤ d) {a0 : Nat} {a1 : Nat} {a2 : Nat} {a3 : Nat} {i4 : Int32} (hx : e.1 a1 = some (11, 19)) (hm : e.1 a2 = some (12, 75)) {k : Nat} (hk : k + 1 ≤ 514) {k23 : Int32 → mm_V → Option (Int32 × mm_V)} (hk23 : ∀ (w4 : Int32) (m : mm_V) (r : Int32 × mm_V), k23 w4 m = some r → mm_G K ML_law d (1011, 17440, .inl (some (.int r.1)), (e.1, r.2), none) 23 [some (.ref a0), some (.ref a1), some (.ref a2), some (.ref a3), some (.int w4), none, none, none] [] (e.1, m) none (493 + (k + 1)) (14332 + 6 * (k + 1))) {m : mm_V} {r : Int32 × mm_V} (hr : L_law_b494 e k23 a0 a1 a2 a3 i4 m = some r) : mm_G K ML_law d (1011, 17440, .inl (some (.int r.1)), (e.1, r.2), none) 494 [some (.ref a0), some (.ref a1), some (.ref a2), some (.ref a3), some (.int i4), none, none, none] [] (e.1, m) none (493 + (k + 1)) (14332 + 6 * (k + 1)) := by
  obtain ⟨d, rfl⟩ : ∃ d', d = d' + 1 := ⟨d - 1, by omega⟩
  unfold L_law_b494 at hr
  refine ml_aload_n (pc := 494) dL_law_494 rfl (mm_get_s mm_get_0) ?_
  refine ml_aload_n (pc := 495) dL_law_495 rfl mm_get_0 ?_
  refine ml_iload (pc := 496) dL_law_496 (mm_get_s (mm_get_s (mm_get_s (mm_get_s mm_get_0)))) ?_
  refine mg_iconst (pc := 498) dL_law_498 kc_1 ?_
  refine mg_iadd (pc := 499) dL_law_499 ?_
  refine mb_ax (pc := 500) dL_law_500 hr (fun x1 hr => ?_)
  refine mb_cVi (pc := 501) (As := [.int x1]) (rest := []) dL_law_501 cw_L_114 hx hr (fun v hv => X11_draw_ok hz (by omega) hx hv) rfl (Nat.le_of_ble_eq_true rfl) (by show _ ≤ 1011; omega) (by show _ ≤ 17440; omega) (fun r2 hr => ?_)
  refine ml_aload_n (pc := 504) dL_law_504 rfl (mm_get_s (mm_get_s mm_get_0)) ?_
  refine ml_aload_n (pc := 505) dL_law_505 rfl mm_get_0 ?_
  refine ml_iload (pc := 506) dL_law_506 (mm_get_s (mm_get_s (mm_get_s (mm_get_s mm_get_0)))) ?_
  refine mg_iconst (pc := 508) dL_law_508 kc_1 ?_
  refine mg_iadd (pc := 509) dL_law_509 ?_
  refine mb_ax (pc := 510) dL_law_510 hr (fun x3 hr => ?_)
  refine mb_cVi (pc := 511) (As := [.int x3]) (rest := [.int r2.1]) dL_law_511 cw_L_117 hm hr (fun v hv => X12_draw_ok hz (by omega) hm hv) rfl (Nat.le_of_ble_eq_true rfl) (by show _ ≤ 1011; omega) (by show _ ≤ 17440; omega) (fun r4 hr => ?_)
  refine mb_icmp_eq (pc := 514) 1713 dL_law_514 rfl hr (fun hr => ?_) (fun hr => ?_)
  · exact mg_cs (by omega) (by omega) (mg_weak (mm_le_s (mm_le_s (mm_le_s (mm_le_s (mm_le_s (mm_le_n (mm_le_n (mm_le_n mm_le_0)))))))) (L_law_b1713_ok hz hnc hd hx hm (by omega) hk23 hr))
  · refine mg_iconst (pc := 517) dL_law_517 kc_0 ?_
    exact mb_lwret dL_law_518 rfl rfl (by show _ ≤ 1011; omega) (by show _ ≤ 17440; omega) hr
def L_law_b491 (e : mm_E) (k23 : Int32 → mm_V → Option (Int32 × mm_V)) (a0 : Nat) (a1 : Nat) (a2 : Nat) (a3 : Nat) (i4 : Int32) (m : mm_V) : Option (Int32 × mm_V) := L_law_b1713 e k23 a0 a1 a2 a3 i4  m
theorem L_law_b491_ok {K : mm_K} {e : mm_E} (hz : e.2.1 = K.2.2.2.2) (hnc : va_Nc "java/lang/IllegalArgumentException" "java/util/NoSuchElementException" K.2.1) {d : Nat} (hd : 258 ≤ d) {a0 : Nat} {a1 : Nat} {a2 : Nat} {a3 : Nat} {i4 : Int32} (hx : e.1 a1 = some (11, 19)) (hm : e.1 a2 = some (12, 75)) {k : Nat} (hk : k + 1 ≤ 514) {k23 : Int32 → mm_V → Option (Int32 × mm_V)} (hk23 : ∀ (w4 : Int32) (m : mm_V) (r : Int32 × mm_V), k23 w4 m = some r → mm_G K ML_law d (1011, 17440, .inl (some (.int r.1)), (e.1, r.2), none) 23 [some (.ref a0), some (.ref a1), some (.ref a2), some (.ref a3), some (.int w4), none, none, none] [] (e.1, m) none (493 + (k + 1)) (14332 + 6 * (k + 1))) {m : mm_V} {r : Int32 × mm_V} (hr : L_law_b491 e k23 a0 a1 a2 a3 i4 m = some r) : mm_G K ML_law d (1011, 17440, .inl (some (.int r.1)), (e.1, r.2), none) 491 [some (.ref a0), some (.ref a1), some (.ref a2), some (.ref a3), some (.int i4), none, none, none] [] (e.1, m) none (493 + (k + 1)) (14332 + 6 * (k + 1)) := by
  obtain ⟨d, rfl⟩ : ∃ d', d = d' + 1 := ⟨d - 1, by omega⟩
  unfold L_law_b491 at hr
  refine mg_goto (pc := 491) 1713 dL_law_491 rfl ?_
  exact mg_cs (by omega) (by omega) (mg_weak (mm_le_s (mm_le_s (mm_le_s (mm_le_s (mm_le_s (mm_le_n (mm_le_n (mm_le_n mm_le_0)))))))) (L_law_b1713_ok hz hnc hd hx hm (by omega) hk23 hr))
def L_law_b426 (e : mm_E) (k23 : Int32 → mm_V → Option (Int32 × mm_V)) (a0 : Nat) (a1 : Nat) (a2 : Nat) (a3 : Nat) (i4 : Int32) (m : mm_V) : Option (Int32 × mm_V) := (mm_ai e.1 m 31 a0 (i4 + (1 : Int32))).bind fun x1 => (mm_ai e.1 m 31 a0 (i4 + (2 : Int32))).bind fun x2 => (L_person e a1 x1 x2 a3 m).bind fun r3 => (mm_ai e.1 r3.2 31 a0 (i4 + (1 : Int32))).bind fun x4 => (mm_ai e.1 r3.2 31 a0 (i4 + (2 : Int32))).bind fun x5 => (X12_person e a2 x4 x5 r3.2).bind fun r6 => (X12_thrown e a2 r6.2).bind fun r7 => if r7.1 = r3.1 then (if ¬ r3.1 = 0 then (L_law_b491 e k23 a0 a1 a2 a3 i4  r7.2) else ((mm_al e.1 r7.2 a3 (0 : Int32)).bind fun y8 => if (lg_cmp y8 r6.1.toInt64) = 0 then (L_law_b491 e k23 a0 a1 a2 a3 i4  r7.2) else (mm_rz (0 : Int32) r7.2))) else (mm_rz (0 : Int32) r7.2)
theorem L_law_b426_ok {K : mm_K} {e : mm_E} (hz : e.2.1 = K.2.2.2.2) (hnc : va_Nc "java/lang/IllegalArgumentException" "java/util/NoSuchElementException" K.2.1) {d : Nat} (hd : 258 ≤ d) {a0 : Nat} {a1 : Nat} {a2 : Nat} {a3 : Nat} {i4 : Int32} (hx : e.1 a1 = some (11, 19)) (hm : e.1 a2 = some (12, 75)) {k : Nat} (hk : k + 1 ≤ 514) {k23 : Int32 → mm_V → Option (Int32 × mm_V)} (hk23 : ∀ (w4 : Int32) (m : mm_V) (r : Int32 × mm_V), k23 w4 m = some r → mm_G K ML_law d (1011, 17440, .inl (some (.int r.1)), (e.1, r.2), none) 23 [some (.ref a0), some (.ref a1), some (.ref a2), some (.ref a3), some (.int w4), none, none, none] [] (e.1, m) none (493 + (k + 1)) (14332 + 6 * (k + 1))) {m : mm_V} {r : Int32 × mm_V} (hr : L_law_b426 e k23 a0 a1 a2 a3 i4 m = some r) : mm_G K ML_law d (1011, 17440, .inl (some (.int r.1)), (e.1, r.2), none) 426 [some (.ref a0), some (.ref a1), some (.ref a2), some (.ref a3), some (.int i4), none, none, none] [] (e.1, m) none (493 + (k + 1)) (14332 + 6 * (k + 1)) := by
  obtain ⟨d, rfl⟩ : ∃ d', d = d' + 1 := ⟨d - 1, by omega⟩
  unfold L_law_b426 at hr
  refine ml_aload_n (pc := 426) dL_law_426 rfl (mm_get_s mm_get_0) ?_
  refine ml_aload_n (pc := 427) dL_law_427 rfl mm_get_0 ?_
  refine ml_iload (pc := 428) dL_law_428 (mm_get_s (mm_get_s (mm_get_s (mm_get_s mm_get_0)))) ?_
  refine mg_iconst (pc := 430) dL_law_430 kc_1 ?_
  refine mg_iadd (pc := 431) dL_law_431 ?_
  refine mb_ax (pc := 432) dL_law_432 hr (fun x1 hr => ?_)
  refine ml_aload_n (pc := 433) dL_law_433 rfl mm_get_0 ?_
  refine ml_iload (pc := 434) dL_law_434 (mm_get_s (mm_get_s (mm_get_s (mm_get_s mm_get_0)))) ?_
  refine mg_iconst (pc := 436) dL_law_436 kc_2 ?_
  refine mg_iadd (pc := 437) dL_law_437 ?_
  refine mb_ax (pc := 438) dL_law_438 hr (fun x2 hr => ?_)
  refine ml_aload_n (pc := 439) dL_law_439 rfl (mm_get_s (mm_get_s (mm_get_s mm_get_0))) ?_
  refine mb_wS (pc := 440) (As := [.ref a1, .int x1, .int x2, .ref a3]) (rest := []) dL_law_440 cx_111 hr (fun v hv => L_person_ok hz hnc (by omega) hx hv) rfl (Nat.le_of_ble_eq_true rfl) (by show _ ≤ 1011; omega) (by show _ ≤ 17440; omega) (fun r3 hr => ?_)
  refine ml_istore (pc := 443) dL_law_443 (Nat.le_of_ble_eq_true rfl) (mm_st1_s (mm_st1_s (mm_st1_s (mm_st1_s mm_st1_i)))) ?_
  refine ml_aload_n (pc := 445) dL_law_445 rfl (mm_get_s (mm_get_s mm_get_0)) ?_
  refine ml_aload_n (pc := 446) dL_law_446 rfl mm_get_0 ?_
  refine ml_iload (pc := 447) dL_law_447 (mm_get_s (mm_get_s (mm_get_s (mm_get_s mm_get_0)))) ?_
  refine mg_iconst (pc := 449) dL_law_449 kc_1 ?_
  refine mg_iadd (pc := 450) dL_law_450 ?_
  refine mb_ax (pc := 451) dL_law_451 hr (fun x4 hr => ?_)
  refine ml_aload_n (pc := 452) dL_law_452 rfl mm_get_0 ?_
  refine ml_iload (pc := 453) dL_law_453 (mm_get_s (mm_get_s (mm_get_s (mm_get_s mm_get_0)))) ?_
  refine mg_iconst (pc := 455) dL_law_455 kc_2 ?_
  refine mg_iadd (pc := 456) dL_law_456 ?_
  refine mb_ax (pc := 457) dL_law_457 hr (fun x5 hr => ?_)
  refine mb_cVi (pc := 458) (As := [.int x4, .int x5]) (rest := []) dL_law_458 cw_L_113 hm hr (fun v hv => X12_person_ok hz (by omega) hm hv) rfl (Nat.le_of_ble_eq_true rfl) (by show _ ≤ 1011; omega) (by show _ ≤ 17440; omega) (fun r6 hr => ?_)
  refine ml_istore (pc := 461) dL_law_461 (Nat.le_of_ble_eq_true rfl) (mm_st1_s (mm_st1_s (mm_st1_s (mm_st1_s (mm_st1_s mm_st1_i))))) ?_
  refine ml_aload_n (pc := 463) dL_law_463 rfl (mm_get_s (mm_get_s mm_get_0)) ?_
  refine mb_cVi (pc := 464) (As := []) (rest := []) dL_law_464 cw_L_96 hm hr (fun v hv => X12_thrown_ok hz (by omega) hm hv) rfl (Nat.le_of_ble_eq_true rfl) (by show _ ≤ 1011; omega) (by show _ ≤ 17440; omega) (fun r7 hr => ?_)
  refine ml_iload (pc := 467) dL_law_467 (mm_get_s (mm_get_s (mm_get_s (mm_get_s (mm_get_s mm_get_0))))) ?_
  refine mb_icmp_eq (pc := 469) 474 dL_law_469 rfl hr (fun hr => ?_) (fun hr => ?_)
  · refine ml_iload (pc := 474) dL_law_474 (mm_get_s (mm_get_s (mm_get_s (mm_get_s (mm_get_s mm_get_0))))) ?_
    refine mb_if_ne (pc := 476) 491 dL_law_476 rfl hr (fun hr => ?_) (fun hr => ?_)
    · exact mg_cs (by omega) (by omega) (mg_weak (mm_le_s (mm_le_s (mm_le_s (mm_le_s (mm_le_s (mm_le_n (mm_le_n (mm_le_n mm_le_0)))))))) (L_law_b491_ok hz hnc hd hx hm (by omega) hk23 hr))
    · refine ml_aload_n (pc := 479) dL_law_479 rfl (mm_get_s (mm_get_s (mm_get_s mm_get_0))) ?_
      refine mg_iconst (pc := 480) dL_law_480 kc_0 ?_
      refine mb_al (pc := 481) dL_law_481 hr (fun y8 hr => ?_)
      refine ml_iload (pc := 482) dL_law_482 (mm_get_s (mm_get_s (mm_get_s (mm_get_s (mm_get_s (mm_get_s mm_get_0)))))) ?_
      refine mg_i2l (pc := 484) dL_law_484 ?_
      refine mg_lcmp (pc := 485) dL_law_485 ?_
      refine mb_if_eq (pc := 486) 491 dL_law_486 rfl hr (fun hr => ?_) (fun hr => ?_)
      · exact mg_cs (by omega) (by omega) (mg_weak (mm_le_s (mm_le_s (mm_le_s (mm_le_s (mm_le_s (mm_le_n (mm_le_n (mm_le_n mm_le_0)))))))) (L_law_b491_ok hz hnc hd hx hm (by omega) hk23 hr))
      · refine mg_iconst (pc := 489) dL_law_489 kc_0 ?_
        exact mb_lwret dL_law_490 rfl rfl (by show _ ≤ 1011; omega) (by show _ ≤ 17440; omega) hr
  · refine mg_iconst (pc := 472) dL_law_472 kc_0 ?_
    exact mb_lwret dL_law_473 rfl rfl (by show _ ≤ 1011; omega) (by show _ ≤ 17440; omega) hr
def L_law_b423 (e : mm_E) (k23 : Int32 → mm_V → Option (Int32 × mm_V)) (a0 : Nat) (a1 : Nat) (a2 : Nat) (a3 : Nat) (i4 : Int32) (m : mm_V) : Option (Int32 × mm_V) := L_law_b1713 e k23 a0 a1 a2 a3 i4  m
theorem L_law_b423_ok {K : mm_K} {e : mm_E} (hz : e.2.1 = K.2.2.2.2) (hnc : va_Nc "java/lang/IllegalArgumentException" "java/util/NoSuchElementException" K.2.1) {d : Nat} (hd : 258 ≤ d) {a0 : Nat} {a1 : Nat} {a2 : Nat} {a3 : Nat} {i4 : Int32} (hx : e.1 a1 = some (11, 19)) (hm : e.1 a2 = some (12, 75)) {k : Nat} (hk : k + 1 ≤ 514) {k23 : Int32 → mm_V → Option (Int32 × mm_V)} (hk23 : ∀ (w4 : Int32) (m : mm_V) (r : Int32 × mm_V), k23 w4 m = some r → mm_G K ML_law d (1011, 17440, .inl (some (.int r.1)), (e.1, r.2), none) 23 [some (.ref a0), some (.ref a1), some (.ref a2), some (.ref a3), some (.int w4), none, none, none] [] (e.1, m) none (493 + (k + 1)) (14332 + 6 * (k + 1))) {m : mm_V} {r : Int32 × mm_V} (hr : L_law_b423 e k23 a0 a1 a2 a3 i4 m = some r) : mm_G K ML_law d (1011, 17440, .inl (some (.int r.1)), (e.1, r.2), none) 423 [some (.ref a0), some (.ref a1), some (.ref a2), some (.ref a3), some (.int i4), none, none, none] [] (e.1, m) none (493 + (k + 1)) (14332 + 6 * (k + 1)) := by
  obtain ⟨d, rfl⟩ : ∃ d', d = d' + 1 := ⟨d - 1, by omega⟩
  unfold L_law_b423 at hr
  refine mg_goto (pc := 423) 1713 dL_law_423 rfl ?_
  exact mg_cs (by omega) (by omega) (mg_weak (mm_le_s (mm_le_s (mm_le_s (mm_le_s (mm_le_s (mm_le_n (mm_le_n (mm_le_n mm_le_0)))))))) (L_law_b1713_ok hz hnc hd hx hm (by omega) hk23 hr))
def L_law_b358 (e : mm_E) (k23 : Int32 → mm_V → Option (Int32 × mm_V)) (a0 : Nat) (a1 : Nat) (a2 : Nat) (a3 : Nat) (i4 : Int32) (m : mm_V) : Option (Int32 × mm_V) := (mm_ai e.1 m 31 a0 (i4 + (1 : Int32))).bind fun x1 => (mm_ai e.1 m 31 a0 (i4 + (2 : Int32))).bind fun x2 => (L_fan e a1 x1 x2 a3 m).bind fun r3 => (mm_ai e.1 r3.2 31 a0 (i4 + (1 : Int32))).bind fun x4 => (mm_ai e.1 r3.2 31 a0 (i4 + (2 : Int32))).bind fun x5 => (X12_fan e a2 x4 x5 r3.2).bind fun r6 => (X12_thrown e a2 r6.2).bind fun r7 => if r7.1 = r3.1 then (if ¬ r3.1 = 0 then (L_law_b423 e k23 a0 a1 a2 a3 i4  r7.2) else ((mm_al e.1 r7.2 a3 (0 : Int32)).bind fun y8 => if (lg_cmp y8 r6.1.toInt64) = 0 then (L_law_b423 e k23 a0 a1 a2 a3 i4  r7.2) else (mm_rz (0 : Int32) r7.2))) else (mm_rz (0 : Int32) r7.2)
theorem L_law_b358_ok {K : mm_K} {e : mm_E} (hz : e.2.1 = K.2.2.2.2) (hnc : va_Nc "java/lang/IllegalArgumentException" "java/util/NoSuchElementException" K.2.1) {d : Nat} (hd : 258 ≤ d) {a0 : Nat} {a1 : Nat} {a2 : Nat} {a3 : Nat} {i4 : Int32} (hx : e.1 a1 = some (11, 19)) (hm : e.1 a2 = some (12, 75)) {k : Nat} (hk : k + 1 ≤ 514) {k23 : Int32 → mm_V → Option (Int32 × mm_V)} (hk23 : ∀ (w4 : Int32) (m : mm_V) (r : Int32 × mm_V), k23 w4 m = some r → mm_G K ML_law d (1011, 17440, .inl (some (.int r.1)), (e.1, r.2), none) 23 [some (.ref a0), some (.ref a1), some (.ref a2), some (.ref a3), some (.int w4), none, none, none] [] (e.1, m) none (493 + (k + 1)) (14332 + 6 * (k + 1))) {m : mm_V} {r : Int32 × mm_V} (hr : L_law_b358 e k23 a0 a1 a2 a3 i4 m = some r) : mm_G K ML_law d (1011, 17440, .inl (some (.int r.1)), (e.1, r.2), none) 358 [some (.ref a0), some (.ref a1), some (.ref a2), some (.ref a3), some (.int i4), none, none, none] [] (e.1, m) none (493 + (k + 1)) (14332 + 6 * (k + 1)) := by
  obtain ⟨d, rfl⟩ : ∃ d', d = d' + 1 := ⟨d - 1, by omega⟩
  unfold L_law_b358 at hr
  refine ml_aload_n (pc := 358) dL_law_358 rfl (mm_get_s mm_get_0) ?_
  refine ml_aload_n (pc := 359) dL_law_359 rfl mm_get_0 ?_
  refine ml_iload (pc := 360) dL_law_360 (mm_get_s (mm_get_s (mm_get_s (mm_get_s mm_get_0)))) ?_
  refine mg_iconst (pc := 362) dL_law_362 kc_1 ?_
  refine mg_iadd (pc := 363) dL_law_363 ?_
  refine mb_ax (pc := 364) dL_law_364 hr (fun x1 hr => ?_)
  refine ml_aload_n (pc := 365) dL_law_365 rfl mm_get_0 ?_
  refine ml_iload (pc := 366) dL_law_366 (mm_get_s (mm_get_s (mm_get_s (mm_get_s mm_get_0)))) ?_
  refine mg_iconst (pc := 368) dL_law_368 kc_2 ?_
  refine mg_iadd (pc := 369) dL_law_369 ?_
  refine mb_ax (pc := 370) dL_law_370 hr (fun x2 hr => ?_)
  refine ml_aload_n (pc := 371) dL_law_371 rfl (mm_get_s (mm_get_s (mm_get_s mm_get_0))) ?_
  refine mb_wS (pc := 372) (As := [.ref a1, .int x1, .int x2, .ref a3]) (rest := []) dL_law_372 cx_107 hr (fun v hv => L_fan_ok hz hnc (by omega) hx hv) rfl (Nat.le_of_ble_eq_true rfl) (by show _ ≤ 1011; omega) (by show _ ≤ 17440; omega) (fun r3 hr => ?_)
  refine ml_istore (pc := 375) dL_law_375 (Nat.le_of_ble_eq_true rfl) (mm_st1_s (mm_st1_s (mm_st1_s (mm_st1_s mm_st1_i)))) ?_
  refine ml_aload_n (pc := 377) dL_law_377 rfl (mm_get_s (mm_get_s mm_get_0)) ?_
  refine ml_aload_n (pc := 378) dL_law_378 rfl mm_get_0 ?_
  refine ml_iload (pc := 379) dL_law_379 (mm_get_s (mm_get_s (mm_get_s (mm_get_s mm_get_0)))) ?_
  refine mg_iconst (pc := 381) dL_law_381 kc_1 ?_
  refine mg_iadd (pc := 382) dL_law_382 ?_
  refine mb_ax (pc := 383) dL_law_383 hr (fun x4 hr => ?_)
  refine ml_aload_n (pc := 384) dL_law_384 rfl mm_get_0 ?_
  refine ml_iload (pc := 385) dL_law_385 (mm_get_s (mm_get_s (mm_get_s (mm_get_s mm_get_0)))) ?_
  refine mg_iconst (pc := 387) dL_law_387 kc_2 ?_
  refine mg_iadd (pc := 388) dL_law_388 ?_
  refine mb_ax (pc := 389) dL_law_389 hr (fun x5 hr => ?_)
  refine mb_cVi (pc := 390) (As := [.int x4, .int x5]) (rest := []) dL_law_390 cw_L_110 hm hr (fun v hv => X12_fan_ok hz (by omega) hm hv) rfl (Nat.le_of_ble_eq_true rfl) (by show _ ≤ 1011; omega) (by show _ ≤ 17440; omega) (fun r6 hr => ?_)
  refine ml_istore (pc := 393) dL_law_393 (Nat.le_of_ble_eq_true rfl) (mm_st1_s (mm_st1_s (mm_st1_s (mm_st1_s (mm_st1_s mm_st1_i))))) ?_
  refine ml_aload_n (pc := 395) dL_law_395 rfl (mm_get_s (mm_get_s mm_get_0)) ?_
  refine mb_cVi (pc := 396) (As := []) (rest := []) dL_law_396 cw_L_96 hm hr (fun v hv => X12_thrown_ok hz (by omega) hm hv) rfl (Nat.le_of_ble_eq_true rfl) (by show _ ≤ 1011; omega) (by show _ ≤ 17440; omega) (fun r7 hr => ?_)
  refine ml_iload (pc := 399) dL_law_399 (mm_get_s (mm_get_s (mm_get_s (mm_get_s (mm_get_s mm_get_0))))) ?_
  refine mb_icmp_eq (pc := 401) 406 dL_law_401 rfl hr (fun hr => ?_) (fun hr => ?_)
  · refine ml_iload (pc := 406) dL_law_406 (mm_get_s (mm_get_s (mm_get_s (mm_get_s (mm_get_s mm_get_0))))) ?_
    refine mb_if_ne (pc := 408) 423 dL_law_408 rfl hr (fun hr => ?_) (fun hr => ?_)
    · exact mg_cs (by omega) (by omega) (mg_weak (mm_le_s (mm_le_s (mm_le_s (mm_le_s (mm_le_s (mm_le_n (mm_le_n (mm_le_n mm_le_0)))))))) (L_law_b423_ok hz hnc hd hx hm (by omega) hk23 hr))
    · refine ml_aload_n (pc := 411) dL_law_411 rfl (mm_get_s (mm_get_s (mm_get_s mm_get_0))) ?_
      refine mg_iconst (pc := 412) dL_law_412 kc_0 ?_
      refine mb_al (pc := 413) dL_law_413 hr (fun y8 hr => ?_)
      refine ml_iload (pc := 414) dL_law_414 (mm_get_s (mm_get_s (mm_get_s (mm_get_s (mm_get_s (mm_get_s mm_get_0)))))) ?_
      refine mg_i2l (pc := 416) dL_law_416 ?_
      refine mg_lcmp (pc := 417) dL_law_417 ?_
      refine mb_if_eq (pc := 418) 423 dL_law_418 rfl hr (fun hr => ?_) (fun hr => ?_)
      · exact mg_cs (by omega) (by omega) (mg_weak (mm_le_s (mm_le_s (mm_le_s (mm_le_s (mm_le_s (mm_le_n (mm_le_n (mm_le_n mm_le_0)))))))) (L_law_b423_ok hz hnc hd hx hm (by omega) hk23 hr))
      · refine mg_iconst (pc := 421) dL_law_421 kc_0 ?_
        exact mb_lwret dL_law_422 rfl rfl (by show _ ≤ 1011; omega) (by show _ ≤ 17440; omega) hr
  · refine mg_iconst (pc := 404) dL_law_404 kc_0 ?_
    exact mb_lwret dL_law_405 rfl rfl (by show _ ≤ 1011; omega) (by show _ ≤ 17440; omega) hr
def L_law_b355 (e : mm_E) (k23 : Int32 → mm_V → Option (Int32 × mm_V)) (a0 : Nat) (a1 : Nat) (a2 : Nat) (a3 : Nat) (i4 : Int32) (m : mm_V) : Option (Int32 × mm_V) := L_law_b1713 e k23 a0 a1 a2 a3 i4  m
theorem L_law_b355_ok {K : mm_K} {e : mm_E} (hz : e.2.1 = K.2.2.2.2) (hnc : va_Nc "java/lang/IllegalArgumentException" "java/util/NoSuchElementException" K.2.1) {d : Nat} (hd : 258 ≤ d) {a0 : Nat} {a1 : Nat} {a2 : Nat} {a3 : Nat} {i4 : Int32} (hx : e.1 a1 = some (11, 19)) (hm : e.1 a2 = some (12, 75)) {k : Nat} (hk : k + 1 ≤ 514) {k23 : Int32 → mm_V → Option (Int32 × mm_V)} (hk23 : ∀ (w4 : Int32) (m : mm_V) (r : Int32 × mm_V), k23 w4 m = some r → mm_G K ML_law d (1011, 17440, .inl (some (.int r.1)), (e.1, r.2), none) 23 [some (.ref a0), some (.ref a1), some (.ref a2), some (.ref a3), some (.int w4), none, none, none] [] (e.1, m) none (493 + (k + 1)) (14332 + 6 * (k + 1))) {m : mm_V} {r : Int32 × mm_V} (hr : L_law_b355 e k23 a0 a1 a2 a3 i4 m = some r) : mm_G K ML_law d (1011, 17440, .inl (some (.int r.1)), (e.1, r.2), none) 355 [some (.ref a0), some (.ref a1), some (.ref a2), some (.ref a3), some (.int i4), none, none, none] [] (e.1, m) none (493 + (k + 1)) (14332 + 6 * (k + 1)) := by
  obtain ⟨d, rfl⟩ : ∃ d', d = d' + 1 := ⟨d - 1, by omega⟩
  unfold L_law_b355 at hr
  refine mg_goto (pc := 355) 1713 dL_law_355 rfl ?_
  exact mg_cs (by omega) (by omega) (mg_weak (mm_le_s (mm_le_s (mm_le_s (mm_le_s (mm_le_s (mm_le_n (mm_le_n (mm_le_n mm_le_0)))))))) (L_law_b1713_ok hz hnc hd hx hm (by omega) hk23 hr))
def L_law_b302 (e : mm_E) (k23 : Int32 → mm_V → Option (Int32 × mm_V)) (a0 : Nat) (a1 : Nat) (a2 : Nat) (a3 : Nat) (i4 : Int32) (m : mm_V) : Option (Int32 × mm_V) := (mm_ai e.1 m 31 a0 (i4 + (1 : Int32))).bind fun x1 => (L_count e a1 x1 a3 m).bind fun r2 => (mm_ai e.1 r2.2 31 a0 (i4 + (1 : Int32))).bind fun x3 => (X12_count e a2 x3 r2.2).bind fun r4 => (X12_thrown e a2 r4.2).bind fun r5 => if r5.1 = r2.1 then (if ¬ r2.1 = 0 then (L_law_b355 e k23 a0 a1 a2 a3 i4  r5.2) else ((mm_al e.1 r5.2 a3 (0 : Int32)).bind fun y6 => if (lg_cmp y6 r4.1.toInt64) = 0 then (L_law_b355 e k23 a0 a1 a2 a3 i4  r5.2) else (mm_rz (0 : Int32) r5.2))) else (mm_rz (0 : Int32) r5.2)
theorem L_law_b302_ok {K : mm_K} {e : mm_E} (hz : e.2.1 = K.2.2.2.2) (hnc : va_Nc "java/lang/IllegalArgumentException" "java/util/NoSuchElementException" K.2.1) {d : Nat} (hd : 258 ≤ d) {a0 : Nat} {a1 : Nat} {a2 : Nat} {a3 : Nat} {i4 : Int32} (hx : e.1 a1 = some (11, 19)) (hm : e.1 a2 = some (12, 75)) {k : Nat} (hk : k + 1 ≤ 514) {k23 : Int32 → mm_V → Option (Int32 × mm_V)} (hk23 : ∀ (w4 : Int32) (m : mm_V) (r : Int32 × mm_V), k23 w4 m = some r → mm_G K ML_law d (1011, 17440, .inl (some (.int r.1)), (e.1, r.2), none) 23 [some (.ref a0), some (.ref a1), some (.ref a2), some (.ref a3), some (.int w4), none, none, none] [] (e.1, m) none (493 + (k + 1)) (14332 + 6 * (k + 1))) {m : mm_V} {r : Int32 × mm_V} (hr : L_law_b302 e k23 a0 a1 a2 a3 i4 m = some r) : mm_G K ML_law d (1011, 17440, .inl (some (.int r.1)), (e.1, r.2), none) 302 [some (.ref a0), some (.ref a1), some (.ref a2), some (.ref a3), some (.int i4), none, none, none] [] (e.1, m) none (493 + (k + 1)) (14332 + 6 * (k + 1)) := by
  obtain ⟨d, rfl⟩ : ∃ d', d = d' + 1 := ⟨d - 1, by omega⟩
  unfold L_law_b302 at hr
  refine ml_aload_n (pc := 302) dL_law_302 rfl (mm_get_s mm_get_0) ?_
  refine ml_aload_n (pc := 303) dL_law_303 rfl mm_get_0 ?_
  refine ml_iload (pc := 304) dL_law_304 (mm_get_s (mm_get_s (mm_get_s (mm_get_s mm_get_0)))) ?_
  refine mg_iconst (pc := 306) dL_law_306 kc_1 ?_
  refine mg_iadd (pc := 307) dL_law_307 ?_
  refine mb_ax (pc := 308) dL_law_308 hr (fun x1 hr => ?_)
  refine ml_aload_n (pc := 309) dL_law_309 rfl (mm_get_s (mm_get_s (mm_get_s mm_get_0))) ?_
  refine mb_wS (pc := 310) (As := [.ref a1, .int x1, .ref a3]) (rest := []) dL_law_310 cx_104 hr (fun v hv => L_count_ok hz hnc (by omega) hx hv) rfl (Nat.le_of_ble_eq_true rfl) (by show _ ≤ 1011; omega) (by show _ ≤ 17440; omega) (fun r2 hr => ?_)
  refine ml_istore (pc := 313) dL_law_313 (Nat.le_of_ble_eq_true rfl) (mm_st1_s (mm_st1_s (mm_st1_s (mm_st1_s mm_st1_i)))) ?_
  refine ml_aload_n (pc := 315) dL_law_315 rfl (mm_get_s (mm_get_s mm_get_0)) ?_
  refine ml_aload_n (pc := 316) dL_law_316 rfl mm_get_0 ?_
  refine ml_iload (pc := 317) dL_law_317 (mm_get_s (mm_get_s (mm_get_s (mm_get_s mm_get_0)))) ?_
  refine mg_iconst (pc := 319) dL_law_319 kc_1 ?_
  refine mg_iadd (pc := 320) dL_law_320 ?_
  refine mb_ax (pc := 321) dL_law_321 hr (fun x3 hr => ?_)
  refine mb_cVi (pc := 322) (As := [.int x3]) (rest := []) dL_law_322 cw_L_106 hm hr (fun v hv => X12_count_ok hz (by omega) hm hv) rfl (Nat.le_of_ble_eq_true rfl) (by show _ ≤ 1011; omega) (by show _ ≤ 17440; omega) (fun r4 hr => ?_)
  refine ml_istore (pc := 325) dL_law_325 (Nat.le_of_ble_eq_true rfl) (mm_st1_s (mm_st1_s (mm_st1_s (mm_st1_s (mm_st1_s mm_st1_i))))) ?_
  refine ml_aload_n (pc := 327) dL_law_327 rfl (mm_get_s (mm_get_s mm_get_0)) ?_
  refine mb_cVi (pc := 328) (As := []) (rest := []) dL_law_328 cw_L_96 hm hr (fun v hv => X12_thrown_ok hz (by omega) hm hv) rfl (Nat.le_of_ble_eq_true rfl) (by show _ ≤ 1011; omega) (by show _ ≤ 17440; omega) (fun r5 hr => ?_)
  refine ml_iload (pc := 331) dL_law_331 (mm_get_s (mm_get_s (mm_get_s (mm_get_s (mm_get_s mm_get_0))))) ?_
  refine mb_icmp_eq (pc := 333) 338 dL_law_333 rfl hr (fun hr => ?_) (fun hr => ?_)
  · refine ml_iload (pc := 338) dL_law_338 (mm_get_s (mm_get_s (mm_get_s (mm_get_s (mm_get_s mm_get_0))))) ?_
    refine mb_if_ne (pc := 340) 355 dL_law_340 rfl hr (fun hr => ?_) (fun hr => ?_)
    · exact mg_cs (by omega) (by omega) (mg_weak (mm_le_s (mm_le_s (mm_le_s (mm_le_s (mm_le_s (mm_le_n (mm_le_n (mm_le_n mm_le_0)))))))) (L_law_b355_ok hz hnc hd hx hm (by omega) hk23 hr))
    · refine ml_aload_n (pc := 343) dL_law_343 rfl (mm_get_s (mm_get_s (mm_get_s mm_get_0))) ?_
      refine mg_iconst (pc := 344) dL_law_344 kc_0 ?_
      refine mb_al (pc := 345) dL_law_345 hr (fun y6 hr => ?_)
      refine ml_iload (pc := 346) dL_law_346 (mm_get_s (mm_get_s (mm_get_s (mm_get_s (mm_get_s (mm_get_s mm_get_0)))))) ?_
      refine mg_i2l (pc := 348) dL_law_348 ?_
      refine mg_lcmp (pc := 349) dL_law_349 ?_
      refine mb_if_eq (pc := 350) 355 dL_law_350 rfl hr (fun hr => ?_) (fun hr => ?_)
      · exact mg_cs (by omega) (by omega) (mg_weak (mm_le_s (mm_le_s (mm_le_s (mm_le_s (mm_le_s (mm_le_n (mm_le_n (mm_le_n mm_le_0)))))))) (L_law_b355_ok hz hnc hd hx hm (by omega) hk23 hr))
      · refine mg_iconst (pc := 353) dL_law_353 kc_0 ?_
        exact mb_lwret dL_law_354 rfl rfl (by show _ ≤ 1011; omega) (by show _ ≤ 17440; omega) hr
  · refine mg_iconst (pc := 336) dL_law_336 kc_0 ?_
    exact mb_lwret dL_law_337 rfl rfl (by show _ ≤ 1011; omega) (by show _ ≤ 17440; omega) hr
def L_law_b289 (e : mm_E) (k23 : Int32 → mm_V → Option (Int32 × mm_V)) (a0 : Nat) (a1 : Nat) (a2 : Nat) (a3 : Nat) (i4 : Int32) (m : mm_V) : Option (Int32 × mm_V) := (X11_fault e a1 m).bind fun r1 => (X12_fault e a2 r1.2).bind fun r2 => if r1.1 = r2.1 then (L_law_b1713 e k23 a0 a1 a2 a3 i4  r2.2) else (mm_rz (0 : Int32) r2.2)
theorem L_law_b289_ok {K : mm_K} {e : mm_E} (hz : e.2.1 = K.2.2.2.2) (hnc : va_Nc "java/lang/IllegalArgumentException" "java/util/NoSuchElementException" K.2.1) {d : Nat} (hd : 258 ≤ d) {a0 : Nat} {a1 : Nat} {a2 : Nat} {a3 : Nat} {i4 : Int32} (hx : e.1 a1 = some (11, 19)) (hm : e.1 a2 = some (12, 75)) {k : Nat} (hk : k + 1 ≤ 514) {k23 : Int32 → mm_V → Option (Int32 × mm_V)} (hk23 : ∀ (w4 : Int32) (m : mm_V) (r : Int32 × mm_V), k23 w4 m = some r → mm_G K ML_law d (1011, 17440, .inl (some (.int r.1)), (e.1, r.2), none) 23 [some (.ref a0), some (.ref a1), some (.ref a2), some (.ref a3), some (.int w4), none, none, none] [] (e.1, m) none (493 + (k + 1)) (14332 + 6 * (k + 1))) {m : mm_V} {r : Int32 × mm_V} (hr : L_law_b289 e k23 a0 a1 a2 a3 i4 m = some r) : mm_G K ML_law d (1011, 17440, .inl (some (.int r.1)), (e.1, r.2), none) 289 [some (.ref a0), some (.ref a1), some (.ref a2), some (.ref a3), some (.int i4), none, none, none] [] (e.1, m) none (493 + (k + 1)) (14332 + 6 * (k + 1)) := by
  obtain ⟨d, rfl⟩ : ∃ d', d = d' + 1 := ⟨d - 1, by omega⟩
  unfold L_law_b289 at hr
  refine ml_aload_n (pc := 289) dL_law_289 rfl (mm_get_s mm_get_0) ?_
  refine mb_cVi (pc := 290) (As := []) (rest := []) dL_law_290 cw_L_100 hx hr (fun v hv => X11_fault_ok hz (by omega) hx hv) rfl (Nat.le_of_ble_eq_true rfl) (by show _ ≤ 1011; omega) (by show _ ≤ 17440; omega) (fun r1 hr => ?_)
  refine ml_aload_n (pc := 293) dL_law_293 rfl (mm_get_s (mm_get_s mm_get_0)) ?_
  refine mb_cVi (pc := 294) (As := []) (rest := [.int r1.1]) dL_law_294 cw_L_103 hm hr (fun v hv => X12_fault_ok hz (by omega) hm hv) rfl (Nat.le_of_ble_eq_true rfl) (by show _ ≤ 1011; omega) (by show _ ≤ 17440; omega) (fun r2 hr => ?_)
  refine mb_icmp_eq (pc := 297) 1713 dL_law_297 rfl hr (fun hr => ?_) (fun hr => ?_)
  · exact mg_cs (by omega) (by omega) (mg_weak (mm_le_s (mm_le_s (mm_le_s (mm_le_s (mm_le_s (mm_le_n (mm_le_n (mm_le_n mm_le_0)))))))) (L_law_b1713_ok hz hnc hd hx hm (by omega) hk23 hr))
  · refine mg_iconst (pc := 300) dL_law_300 kc_0 ?_
    exact mb_lwret dL_law_301 rfl rfl (by show _ ≤ 1011; omega) (by show _ ≤ 17440; omega) hr
def L_law_b286 (e : mm_E) (k23 : Int32 → mm_V → Option (Int32 × mm_V)) (a0 : Nat) (a1 : Nat) (a2 : Nat) (a3 : Nat) (i4 : Int32) (m : mm_V) : Option (Int32 × mm_V) := L_law_b1713 e k23 a0 a1 a2 a3 i4  m
theorem L_law_b286_ok {K : mm_K} {e : mm_E} (hz : e.2.1 = K.2.2.2.2) (hnc : va_Nc "java/lang/IllegalArgumentException" "java/util/NoSuchElementException" K.2.1) {d : Nat} (hd : 258 ≤ d) {a0 : Nat} {a1 : Nat} {a2 : Nat} {a3 : Nat} {i4 : Int32} (hx : e.1 a1 = some (11, 19)) (hm : e.1 a2 = some (12, 75)) {k : Nat} (hk : k + 1 ≤ 514) {k23 : Int32 → mm_V → Option (Int32 × mm_V)} (hk23 : ∀ (w4 : Int32) (m : mm_V) (r : Int32 × mm_V), k23 w4 m = some r → mm_G K ML_law d (1011, 17440, .inl (some (.int r.1)), (e.1, r.2), none) 23 [some (.ref a0), some (.ref a1), some (.ref a2), some (.ref a3), some (.int w4), none, none, none] [] (e.1, m) none (493 + (k + 1)) (14332 + 6 * (k + 1))) {m : mm_V} {r : Int32 × mm_V} (hr : L_law_b286 e k23 a0 a1 a2 a3 i4 m = some r) : mm_G K ML_law d (1011, 17440, .inl (some (.int r.1)), (e.1, r.2), none) 286 [some (.ref a0), some (.ref a1), some (.ref a2), some (.ref a3), some (.int i4), none, none, none] [] (e.1, m) none (493 + (k + 1)) (14332 + 6 * (k + 1)) := by
  obtain ⟨d, rfl⟩ : ∃ d', d = d' + 1 := ⟨d - 1, by omega⟩
  unfold L_law_b286 at hr
  refine mg_goto (pc := 286) 1713 dL_law_286 rfl ?_
  exact mg_cs (by omega) (by omega) (mg_weak (mm_le_s (mm_le_s (mm_le_s (mm_le_s (mm_le_s (mm_le_n (mm_le_n (mm_le_n mm_le_0)))))))) (L_law_b1713_ok hz hnc hd hx hm (by omega) hk23 hr))
def L_law_b233 (e : mm_E) (k23 : Int32 → mm_V → Option (Int32 × mm_V)) (a0 : Nat) (a1 : Nat) (a2 : Nat) (a3 : Nat) (i4 : Int32) (m : mm_V) : Option (Int32 × mm_V) := (mm_ai e.1 m 31 a0 (i4 + (1 : Int32))).bind fun x1 => (L_table e a1 x1 a3 m).bind fun r2 => (mm_ai e.1 r2.2 31 a0 (i4 + (1 : Int32))).bind fun x3 => (X12_table e a2 x3 r2.2).bind fun r4 => (X12_thrown e a2 r4.2).bind fun r5 => if r5.1 = r2.1 then (if ¬ r2.1 = 0 then (L_law_b286 e k23 a0 a1 a2 a3 i4  r5.2) else ((mm_al e.1 r5.2 a3 (0 : Int32)).bind fun y6 => if (lg_cmp y6 r4.1.toInt64) = 0 then (L_law_b286 e k23 a0 a1 a2 a3 i4  r5.2) else (mm_rz (0 : Int32) r5.2))) else (mm_rz (0 : Int32) r5.2)
theorem L_law_b233_ok {K : mm_K} {e : mm_E} (hz : e.2.1 = K.2.2.2.2) (hnc : va_Nc "java/lang/IllegalArgumentException" "java/util/NoSuchElementException" K.2.1) {d : Nat} (hd : 258 ≤ d) {a0 : Nat} {a1 : Nat} {a2 : Nat} {a3 : Nat} {i4 : Int32} (hx : e.1 a1 = some (11, 19)) (hm : e.1 a2 = some (12, 75)) {k : Nat} (hk : k + 1 ≤ 514) {k23 : Int32 → mm_V → Option (Int32 × mm_V)} (hk23 : ∀ (w4 : Int32) (m : mm_V) (r : Int32 × mm_V), k23 w4 m = some r → mm_G K ML_law d (1011, 17440, .inl (some (.int r.1)), (e.1, r.2), none) 23 [some (.ref a0), some (.ref a1), some (.ref a2), some (.ref a3), some (.int w4), none, none, none] [] (e.1, m) none (493 + (k + 1)) (14332 + 6 * (k + 1))) {m : mm_V} {r : Int32 × mm_V} (hr : L_law_b233 e k23 a0 a1 a2 a3 i4 m = some r) : mm_G K ML_law d (1011, 17440, .inl (some (.int r.1)), (e.1, r.2), none) 233 [some (.ref a0), some (.ref a1), some (.ref a2), some (.ref a3), some (.int i4), none, none, none] [] (e.1, m) none (493 + (k + 1)) (14332 + 6 * (k + 1)) := by
  obtain ⟨d, rfl⟩ : ∃ d', d = d' + 1 := ⟨d - 1, by omega⟩
  unfold L_law_b233 at hr
  refine ml_aload_n (pc := 233) dL_law_233 rfl (mm_get_s mm_get_0) ?_
  refine ml_aload_n (pc := 234) dL_law_234 rfl mm_get_0 ?_
  refine ml_iload (pc := 235) dL_law_235 (mm_get_s (mm_get_s (mm_get_s (mm_get_s mm_get_0)))) ?_
  refine mg_iconst (pc := 237) dL_law_237 kc_1 ?_
  refine mg_iadd (pc := 238) dL_law_238 ?_
  refine mb_ax (pc := 239) dL_law_239 hr (fun x1 hr => ?_)
  refine ml_aload_n (pc := 240) dL_law_240 rfl (mm_get_s (mm_get_s (mm_get_s mm_get_0))) ?_
  refine mb_wS (pc := 241) (As := [.ref a1, .int x1, .ref a3]) (rest := []) dL_law_241 cx_90 hr (fun v hv => L_table_ok hz hnc (by omega) hx hv) rfl (Nat.le_of_ble_eq_true rfl) (by show _ ≤ 1011; omega) (by show _ ≤ 17440; omega) (fun r2 hr => ?_)
  refine ml_istore (pc := 244) dL_law_244 (Nat.le_of_ble_eq_true rfl) (mm_st1_s (mm_st1_s (mm_st1_s (mm_st1_s mm_st1_i)))) ?_
  refine ml_aload_n (pc := 246) dL_law_246 rfl (mm_get_s (mm_get_s mm_get_0)) ?_
  refine ml_aload_n (pc := 247) dL_law_247 rfl mm_get_0 ?_
  refine ml_iload (pc := 248) dL_law_248 (mm_get_s (mm_get_s (mm_get_s (mm_get_s mm_get_0)))) ?_
  refine mg_iconst (pc := 250) dL_law_250 kc_1 ?_
  refine mg_iadd (pc := 251) dL_law_251 ?_
  refine mb_ax (pc := 252) dL_law_252 hr (fun x3 hr => ?_)
  refine mb_cVi (pc := 253) (As := [.int x3]) (rest := []) dL_law_253 cw_L_95 hm hr (fun v hv => X12_table_ok hz (by omega) hm hv) rfl (Nat.le_of_ble_eq_true rfl) (by show _ ≤ 1011; omega) (by show _ ≤ 17440; omega) (fun r4 hr => ?_)
  refine ml_istore (pc := 256) dL_law_256 (Nat.le_of_ble_eq_true rfl) (mm_st1_s (mm_st1_s (mm_st1_s (mm_st1_s (mm_st1_s mm_st1_i))))) ?_
  refine ml_aload_n (pc := 258) dL_law_258 rfl (mm_get_s (mm_get_s mm_get_0)) ?_
  refine mb_cVi (pc := 259) (As := []) (rest := []) dL_law_259 cw_L_96 hm hr (fun v hv => X12_thrown_ok hz (by omega) hm hv) rfl (Nat.le_of_ble_eq_true rfl) (by show _ ≤ 1011; omega) (by show _ ≤ 17440; omega) (fun r5 hr => ?_)
  refine ml_iload (pc := 262) dL_law_262 (mm_get_s (mm_get_s (mm_get_s (mm_get_s (mm_get_s mm_get_0))))) ?_
  refine mb_icmp_eq (pc := 264) 269 dL_law_264 rfl hr (fun hr => ?_) (fun hr => ?_)
  · refine ml_iload (pc := 269) dL_law_269 (mm_get_s (mm_get_s (mm_get_s (mm_get_s (mm_get_s mm_get_0))))) ?_
    refine mb_if_ne (pc := 271) 286 dL_law_271 rfl hr (fun hr => ?_) (fun hr => ?_)
    · exact mg_cs (by omega) (by omega) (mg_weak (mm_le_s (mm_le_s (mm_le_s (mm_le_s (mm_le_s (mm_le_n (mm_le_n (mm_le_n mm_le_0)))))))) (L_law_b286_ok hz hnc hd hx hm (by omega) hk23 hr))
    · refine ml_aload_n (pc := 274) dL_law_274 rfl (mm_get_s (mm_get_s (mm_get_s mm_get_0))) ?_
      refine mg_iconst (pc := 275) dL_law_275 kc_0 ?_
      refine mb_al (pc := 276) dL_law_276 hr (fun y6 hr => ?_)
      refine ml_iload (pc := 277) dL_law_277 (mm_get_s (mm_get_s (mm_get_s (mm_get_s (mm_get_s (mm_get_s mm_get_0)))))) ?_
      refine mg_i2l (pc := 279) dL_law_279 ?_
      refine mg_lcmp (pc := 280) dL_law_280 ?_
      refine mb_if_eq (pc := 281) 286 dL_law_281 rfl hr (fun hr => ?_) (fun hr => ?_)
      · exact mg_cs (by omega) (by omega) (mg_weak (mm_le_s (mm_le_s (mm_le_s (mm_le_s (mm_le_s (mm_le_n (mm_le_n (mm_le_n mm_le_0)))))))) (L_law_b286_ok hz hnc hd hx hm (by omega) hk23 hr))
      · refine mg_iconst (pc := 284) dL_law_284 kc_0 ?_
        exact mb_lwret dL_law_285 rfl rfl (by show _ ≤ 1011; omega) (by show _ ≤ 17440; omega) hr
  · refine mg_iconst (pc := 267) dL_law_267 kc_0 ?_
    exact mb_lwret dL_law_268 rfl rfl (by show _ ≤ 1011; omega) (by show _ ≤ 17440; omega) hr
def L_law_b160 (e : mm_E) (k23 : Int32 → mm_V → Option (Int32 × mm_V)) (a0 : Nat) (a1 : Nat) (a2 : Nat) (a3 : Nat) (i4 : Int32) (m : mm_V) : Option (Int32 × mm_V) := (mm_ai e.1 m 31 a0 (i4 + (1 : Int32))).bind fun x1 => (mm_ai e.1 m 31 a0 (i4 + (2 : Int32))).bind fun x2 => (mm_ai e.1 m 31 a0 (i4 + (3 : Int32))).bind fun x3 => (mm_ai e.1 m 31 a0 (i4 + (4 : Int32))).bind fun x4 => (mm_ai e.1 m 31 a0 (i4 + (5 : Int32))).bind fun x5 => (X11_feed e a1 x1 x2 x3 x4 x5 m).bind fun r6 => (mm_ai e.1 r6.2 31 a0 (i4 + (1 : Int32))).bind fun x7 => (mm_ai e.1 r6.2 31 a0 (i4 + (2 : Int32))).bind fun x8 => (mm_ai e.1 r6.2 31 a0 (i4 + (3 : Int32))).bind fun x9 => (mm_ai e.1 r6.2 31 a0 (i4 + (4 : Int32))).bind fun x10 => (mm_ai e.1 r6.2 31 a0 (i4 + (5 : Int32))).bind fun x11 => (X12_feed e a2 x7 x8 x9 x10 x11 r6.2).bind fun r12 => if r6.1 = r12.1 then (L_law_b1713 e k23 a0 a1 a2 a3 i4  r12.2) else (mm_rz (0 : Int32) r12.2)
theorem L_law_b160_ok {K : mm_K} {e : mm_E} (hz : e.2.1 = K.2.2.2.2) (hnc : va_Nc "java/lang/IllegalArgumentException" "java/util/NoSuchElementException" K.2.1) {d : Nat} (hd : 258 ≤ d) {a0 : Nat} {a1 : Nat} {a2 : Nat} {a3 : Nat} {i4 : Int32} (hx : e.1 a1 = some (11, 19)) (hm : e.1 a2 = some (12, 75)) {k : Nat} (hk : k + 1 ≤ 514) {k23 : Int32 → mm_V → Option (Int32 × mm_V)} (hk23 : ∀ (w4 : Int32) (m : mm_V) (r : Int32 × mm_V), k23 w4 m = some r → mm_G K ML_law d (1011, 17440, .inl (some (.int r.1)), (e.1, r.2), none) 23 [some (.ref a0), some (.ref a1), some (.ref a2), some (.ref a3), some (.int w4), none, none, none] [] (e.1, m) none (493 + (k + 1)) (14332 + 6 * (k + 1))) {m : mm_V} {r : Int32 × mm_V} (hr : L_law_b160 e k23 a0 a1 a2 a3 i4 m = some r) : mm_G K ML_law d (1011, 17440, .inl (some (.int r.1)), (e.1, r.2), none) 160 [some (.ref a0), some (.ref a1), some (.ref a2), some (.ref a3), some (.int i4), none, none, none] [] (e.1, m) none (493 + (k + 1)) (14332 + 6 * (k + 1)) := by
  obtain ⟨d, rfl⟩ : ∃ d', d = d' + 1 := ⟨d - 1, by omega⟩
  unfold L_law_b160 at hr
  refine ml_aload_n (pc := 160) dL_law_160 rfl (mm_get_s mm_get_0) ?_
  refine ml_aload_n (pc := 161) dL_law_161 rfl mm_get_0 ?_
  refine ml_iload (pc := 162) dL_law_162 (mm_get_s (mm_get_s (mm_get_s (mm_get_s mm_get_0)))) ?_
  refine mg_iconst (pc := 164) dL_law_164 kc_1 ?_
  refine mg_iadd (pc := 165) dL_law_165 ?_
  refine mb_ax (pc := 166) dL_law_166 hr (fun x1 hr => ?_)
  refine ml_aload_n (pc := 167) dL_law_167 rfl mm_get_0 ?_
  refine ml_iload (pc := 168) dL_law_168 (mm_get_s (mm_get_s (mm_get_s (mm_get_s mm_get_0)))) ?_
  refine mg_iconst (pc := 170) dL_law_170 kc_2 ?_
  refine mg_iadd (pc := 171) dL_law_171 ?_
  refine mb_ax (pc := 172) dL_law_172 hr (fun x2 hr => ?_)
  refine ml_aload_n (pc := 173) dL_law_173 rfl mm_get_0 ?_
  refine ml_iload (pc := 174) dL_law_174 (mm_get_s (mm_get_s (mm_get_s (mm_get_s mm_get_0)))) ?_
  refine mg_iconst (pc := 176) dL_law_176 kc_3 ?_
  refine mg_iadd (pc := 177) dL_law_177 ?_
  refine mb_ax (pc := 178) dL_law_178 hr (fun x3 hr => ?_)
  refine ml_aload_n (pc := 179) dL_law_179 rfl mm_get_0 ?_
  refine ml_iload (pc := 180) dL_law_180 (mm_get_s (mm_get_s (mm_get_s (mm_get_s mm_get_0)))) ?_
  refine mg_iconst (pc := 182) dL_law_182 kc_4 ?_
  refine mg_iadd (pc := 183) dL_law_183 ?_
  refine mb_ax (pc := 184) dL_law_184 hr (fun x4 hr => ?_)
  refine ml_aload_n (pc := 185) dL_law_185 rfl mm_get_0 ?_
  refine ml_iload (pc := 186) dL_law_186 (mm_get_s (mm_get_s (mm_get_s (mm_get_s mm_get_0)))) ?_
  refine mg_iconst (pc := 188) dL_law_188 kc_5 ?_
  refine mg_iadd (pc := 189) dL_law_189 ?_
  refine mb_ax (pc := 190) dL_law_190 hr (fun x5 hr => ?_)
  refine mb_cVi (pc := 191) (As := [.int x1, .int x2, .int x3, .int x4, .int x5]) (rest := []) dL_law_191 cw_L_85 hx hr (fun v hv => X11_feed_ok hz (by omega) hx hv) rfl (Nat.le_of_ble_eq_true rfl) (by show _ ≤ 1011; omega) (by show _ ≤ 17440; omega) (fun r6 hr => ?_)
  refine ml_aload_n (pc := 194) dL_law_194 rfl (mm_get_s (mm_get_s mm_get_0)) ?_
  refine ml_aload_n (pc := 195) dL_law_195 rfl mm_get_0 ?_
  refine ml_iload (pc := 196) dL_law_196 (mm_get_s (mm_get_s (mm_get_s (mm_get_s mm_get_0)))) ?_
  refine mg_iconst (pc := 198) dL_law_198 kc_1 ?_
  refine mg_iadd (pc := 199) dL_law_199 ?_
  refine mb_ax (pc := 200) dL_law_200 hr (fun x7 hr => ?_)
  refine ml_aload_n (pc := 201) dL_law_201 rfl mm_get_0 ?_
  refine ml_iload (pc := 202) dL_law_202 (mm_get_s (mm_get_s (mm_get_s (mm_get_s mm_get_0)))) ?_
  refine mg_iconst (pc := 204) dL_law_204 kc_2 ?_
  refine mg_iadd (pc := 205) dL_law_205 ?_
  refine mb_ax (pc := 206) dL_law_206 hr (fun x8 hr => ?_)
  refine ml_aload_n (pc := 207) dL_law_207 rfl mm_get_0 ?_
  refine ml_iload (pc := 208) dL_law_208 (mm_get_s (mm_get_s (mm_get_s (mm_get_s mm_get_0)))) ?_
  refine mg_iconst (pc := 210) dL_law_210 kc_3 ?_
  refine mg_iadd (pc := 211) dL_law_211 ?_
  refine mb_ax (pc := 212) dL_law_212 hr (fun x9 hr => ?_)
  refine ml_aload_n (pc := 213) dL_law_213 rfl mm_get_0 ?_
  refine ml_iload (pc := 214) dL_law_214 (mm_get_s (mm_get_s (mm_get_s (mm_get_s mm_get_0)))) ?_
  refine mg_iconst (pc := 216) dL_law_216 kc_4 ?_
  refine mg_iadd (pc := 217) dL_law_217 ?_
  refine mb_ax (pc := 218) dL_law_218 hr (fun x10 hr => ?_)
  refine ml_aload_n (pc := 219) dL_law_219 rfl mm_get_0 ?_
  refine ml_iload (pc := 220) dL_law_220 (mm_get_s (mm_get_s (mm_get_s (mm_get_s mm_get_0)))) ?_
  refine mg_iconst (pc := 222) dL_law_222 kc_5 ?_
  refine mg_iadd (pc := 223) dL_law_223 ?_
  refine mb_ax (pc := 224) dL_law_224 hr (fun x11 hr => ?_)
  refine mb_cVi (pc := 225) (As := [.int x7, .int x8, .int x9, .int x10, .int x11]) (rest := [.int r6.1]) dL_law_225 cw_L_89 hm hr (fun v hv => X12_feed_ok hz (by omega) hm hv) rfl (Nat.le_of_ble_eq_true rfl) (by show _ ≤ 1011; omega) (by show _ ≤ 17440; omega) (fun r12 hr => ?_)
  refine mb_icmp_eq (pc := 228) 1713 dL_law_228 rfl hr (fun hr => ?_) (fun hr => ?_)
  · exact mg_cs (by omega) (by omega) (mg_weak (mm_le_s (mm_le_s (mm_le_s (mm_le_s (mm_le_s (mm_le_n (mm_le_n (mm_le_n mm_le_0)))))))) (L_law_b1713_ok hz hnc hd hx hm (by omega) hk23 hr))
  · refine mg_iconst (pc := 231) dL_law_231 kc_0 ?_
    exact mb_lwret dL_law_232 rfl rfl (by show _ ≤ 1011; omega) (by show _ ≤ 17440; omega) hr
def L_law_L23 (e : mm_E) (a0 a1 a2 a3 : Nat) : Nat → Int32 → mm_V → Option (Int32 × mm_V)
  | 0, _, _ => none
  | n + 1, i4, m => (mm_lx e.1 a0).bind fun x1 => if (x1 - (6 : Int32)) < i4 then (mm_rz (1 : Int32) m) else ((mm_ai e.1 m 31 a0 i4).bind fun x2 => if (x2 &&& (31 : Int32)) = (0 : Int32) then (L_law_b160 e (L_law_L23 e a0 a1 a2 a3 n) a0 a1 a2 a3 i4  m) else (if (x2 &&& (31 : Int32)) = (1 : Int32) then (L_law_b233 e (L_law_L23 e a0 a1 a2 a3 n) a0 a1 a2 a3 i4  m) else (if (x2 &&& (31 : Int32)) = (2 : Int32) then (L_law_b289 e (L_law_L23 e a0 a1 a2 a3 n) a0 a1 a2 a3 i4  m) else (if (x2 &&& (31 : Int32)) = (3 : Int32) then (L_law_b302 e (L_law_L23 e a0 a1 a2 a3 n) a0 a1 a2 a3 i4  m) else (if (x2 &&& (31 : Int32)) = (4 : Int32) then (L_law_b358 e (L_law_L23 e a0 a1 a2 a3 n) a0 a1 a2 a3 i4  m) else (if (x2 &&& (31 : Int32)) = (5 : Int32) then (L_law_b426 e (L_law_L23 e a0 a1 a2 a3 n) a0 a1 a2 a3 i4  m) else (if (x2 &&& (31 : Int32)) = (6 : Int32) then (L_law_b494 e (L_law_L23 e a0 a1 a2 a3 n) a0 a1 a2 a3 i4  m) else (if (x2 &&& (31 : Int32)) = (7 : Int32) then (L_law_b519 e (L_law_L23 e a0 a1 a2 a3 n) a0 a1 a2 a3 i4  m) else (if (x2 &&& (31 : Int32)) = (8 : Int32) then (L_law_b575 e (L_law_L23 e a0 a1 a2 a3 n) a0 a1 a2 a3 i4  m) else (if (x2 &&& (31 : Int32)) = (9 : Int32) then (L_law_b588 e (L_law_L23 e a0 a1 a2 a3 n) a0 a1 a2 a3 i4  m) else (if (x2 &&& (31 : Int32)) = (10 : Int32) then (L_law_b644 e (L_law_L23 e a0 a1 a2 a3 n) a0 a1 a2 a3 i4  m) else (if (x2 &&& (31 : Int32)) = (11 : Int32) then (L_law_b728 e (L_law_L23 e a0 a1 a2 a3 n) a0 a1 a2 a3 i4  m) else (if (x2 &&& (31 : Int32)) = (12 : Int32) then (L_law_b807 e (L_law_L23 e a0 a1 a2 a3 n) a0 a1 a2 a3 i4  m) else (if (x2 &&& (31 : Int32)) = (13 : Int32) then (L_law_b902 e (L_law_L23 e a0 a1 a2 a3 n) a0 a1 a2 a3 i4  m) else (if (x2 &&& (31 : Int32)) = (14 : Int32) then (L_law_b970 e (L_law_L23 e a0 a1 a2 a3 n) a0 a1 a2 a3 i4  m) else (if (x2 &&& (31 : Int32)) = (15 : Int32) then (L_law_b1037 e (L_law_L23 e a0 a1 a2 a3 n) a0 a1 a2 a3 i4  m) else (if (x2 &&& (31 : Int32)) = (16 : Int32) then (L_law_b1117 e (L_law_L23 e a0 a1 a2 a3 n) a0 a1 a2 a3 i4  m) else (if (x2 &&& (31 : Int32)) = (17 : Int32) then (L_law_b1185 e (L_law_L23 e a0 a1 a2 a3 n) a0 a1 a2 a3 i4  m) else (if (x2 &&& (31 : Int32)) = (18 : Int32) then (L_law_b1253 e (L_law_L23 e a0 a1 a2 a3 n) a0 a1 a2 a3 i4  m) else (if (x2 &&& (31 : Int32)) = (19 : Int32) then (L_law_b1373 e (L_law_L23 e a0 a1 a2 a3 n) a0 a1 a2 a3 i4  m) else (if (x2 &&& (31 : Int32)) = (20 : Int32) then (L_law_b1429 e (L_law_L23 e a0 a1 a2 a3 n) a0 a1 a2 a3 i4  m) else (if (x2 &&& (31 : Int32)) = (21 : Int32) then (L_law_b1485 e (L_law_L23 e a0 a1 a2 a3 n) a0 a1 a2 a3 i4  m) else (if (x2 &&& (31 : Int32)) = (22 : Int32) then (L_law_b1541 e (L_law_L23 e a0 a1 a2 a3 n) a0 a1 a2 a3 i4  m) else (if (x2 &&& (31 : Int32)) = (23 : Int32) then (L_law_b1609 e (L_law_L23 e a0 a1 a2 a3 n) a0 a1 a2 a3 i4  m) else (if (x2 &&& (31 : Int32)) = (24 : Int32) then (L_law_b1689 e (L_law_L23 e a0 a1 a2 a3 n) a0 a1 a2 a3 i4  m) else (if (x2 &&& (31 : Int32)) = (25 : Int32) then (L_law_b1700 e (L_law_L23 e a0 a1 a2 a3 n) a0 a1 a2 a3 i4  m) else (L_law_b1713 e (L_law_L23 e a0 a1 a2 a3 n) a0 a1 a2 a3 i4  m)))))))))))))))))))))))))))
theorem L_law_L23_ok {K : mm_K} {e : mm_E} (hz : e.2.1 = K.2.2.2.2) (hnc : va_Nc "java/lang/IllegalArgumentException" "java/util/NoSuchElementException" K.2.1) {d : Nat} (hd : 258 ≤ d) {a0 a1 a2 a3 : Nat} (hx : e.1 a1 = some (11, 19)) (hm : e.1 a2 = some (12, 75)) : ∀ (n k : Nat) (i4 : Int32) (m : mm_V) (r : Int32 × mm_V) (hk : k + n = 514), L_law_L23 e a0 a1 a2 a3 n i4 m = some r → mm_G K ML_law d (1011, 17440, .inl (some (.int r.1)), (e.1, r.2), none) 23 [some (.ref a0), some (.ref a1), some (.ref a2), some (.ref a3), some (.int i4), none, none, none] [] (e.1, m) none (493 + k) (14332 + 6 * k) := by
  obtain ⟨d, rfl⟩ : ∃ d', d = d' + 1 := ⟨d - 1, by omega⟩
  intro n
  induction n with
  | zero => intro k i4 m r hk hr; unfold L_law_L23 at hr; cases hr
  | succ n ih =>
    intro k i4 m r hk hr
    unfold L_law_L23 at hr
    refine ml_iload (pc := 23) dL_law_23 (mm_get_s (mm_get_s (mm_get_s (mm_get_s mm_get_0)))) ?_
    refine ml_aload_n (pc := 25) dL_law_25 rfl mm_get_0 ?_
    refine mb_lx (pc := 26) dL_law_26 hr (fun x1 hr => ?_)
    refine mg_bipush (pc := 27) dL_law_27 kb_6 ?_
    refine mg_isub (pc := 29) dL_law_29 ?_
    refine mb_icmp_gt (pc := 30) 1719 dL_law_30 rfl hr (fun hr => ?_) (fun hr => ?_)
    · refine mg_iconst (pc := 1719) dL_law_1719 kc_1 ?_
      exact mb_lwret dL_law_1720 rfl rfl (by show _ ≤ 1011; omega) (by show _ ≤ 17440; omega) hr
    · refine ml_aload_n (pc := 33) dL_law_33 rfl mm_get_0 ?_
      refine ml_iload (pc := 34) dL_law_34 (mm_get_s (mm_get_s (mm_get_s (mm_get_s mm_get_0)))) ?_
      refine mb_ax (pc := 36) dL_law_36 hr (fun x2 hr => ?_)
      refine mg_bipush (pc := 37) dL_law_37 kb_31 ?_
      refine mg_iand (pc := 39) dL_law_39 ?_
      refine mb_ite hr (fun hc hr => ?_) (fun hc3 hr => ?_)
      · refine mg_tableK (pc := 40) (120) 160 dL_law_40 hc (by decide +kernel) rfl ?_
        exact mg_cs (by omega) (by omega) (mg_weak (mm_le_s (mm_le_s (mm_le_s (mm_le_s (mm_le_s (mm_le_n (mm_le_n (mm_le_n mm_le_0)))))))) (L_law_b160_ok hz hnc hd hx hm (by omega) (fun i m r hr => ih (k + 1) i m r (by omega) hr) hr))
      refine mb_ite hr (fun hc hr => ?_) (fun hc4 hr => ?_)
      · refine mg_tableK (pc := 40) (193) 233 dL_law_40 hc (by decide +kernel) rfl ?_
        exact mg_cs (by omega) (by omega) (mg_weak (mm_le_s (mm_le_s (mm_le_s (mm_le_s (mm_le_s (mm_le_n (mm_le_n (mm_le_n mm_le_0)))))))) (L_law_b233_ok hz hnc hd hx hm (by omega) (fun i m r hr => ih (k + 1) i m r (by omega) hr) hr))
      refine mb_ite hr (fun hc hr => ?_) (fun hc5 hr => ?_)
      · refine mg_tableK (pc := 40) (249) 289 dL_law_40 hc (by decide +kernel) rfl ?_
        exact mg_cs (by omega) (by omega) (mg_weak (mm_le_s (mm_le_s (mm_le_s (mm_le_s (mm_le_s (mm_le_n (mm_le_n (mm_le_n mm_le_0)))))))) (L_law_b289_ok hz hnc hd hx hm (by omega) (fun i m r hr => ih (k + 1) i m r (by omega) hr) hr))
      refine mb_ite hr (fun hc hr => ?_) (fun hc6 hr => ?_)
      · refine mg_tableK (pc := 40) (262) 302 dL_law_40 hc (by decide +kernel) rfl ?_
        exact mg_cs (by omega) (by omega) (mg_weak (mm_le_s (mm_le_s (mm_le_s (mm_le_s (mm_le_s (mm_le_n (mm_le_n (mm_le_n mm_le_0)))))))) (L_law_b302_ok hz hnc hd hx hm (by omega) (fun i m r hr => ih (k + 1) i m r (by omega) hr) hr))
      refine mb_ite hr (fun hc hr => ?_) (fun hc7 hr => ?_)
      · refine mg_tableK (pc := 40) (318) 358 dL_law_40 hc (by decide +kernel) rfl ?_
        exact mg_cs (by omega) (by omega) (mg_weak (mm_le_s (mm_le_s (mm_le_s (mm_le_s (mm_le_s (mm_le_n (mm_le_n (mm_le_n mm_le_0)))))))) (L_law_b358_ok hz hnc hd hx hm (by omega) (fun i m r hr => ih (k + 1) i m r (by omega) hr) hr))
      refine mb_ite hr (fun hc hr => ?_) (fun hc8 hr => ?_)
      · refine mg_tableK (pc := 40) (386) 426 dL_law_40 hc (by decide +kernel) rfl ?_
        exact mg_cs (by omega) (by omega) (mg_weak (mm_le_s (mm_le_s (mm_le_s (mm_le_s (mm_le_s (mm_le_n (mm_le_n (mm_le_n mm_le_0)))))))) (L_law_b426_ok hz hnc hd hx hm (by omega) (fun i m r hr => ih (k + 1) i m r (by omega) hr) hr))
      refine mb_ite hr (fun hc hr => ?_) (fun hc9 hr => ?_)
      · refine mg_tableK (pc := 40) (454) 494 dL_law_40 hc (by decide +kernel) rfl ?_
        exact mg_cs (by omega) (by omega) (mg_weak (mm_le_s (mm_le_s (mm_le_s (mm_le_s (mm_le_s (mm_le_n (mm_le_n (mm_le_n mm_le_0)))))))) (L_law_b494_ok hz hnc hd hx hm (by omega) (fun i m r hr => ih (k + 1) i m r (by omega) hr) hr))
      refine mb_ite hr (fun hc hr => ?_) (fun hc10 hr => ?_)
      · refine mg_tableK (pc := 40) (479) 519 dL_law_40 hc (by decide +kernel) rfl ?_
        exact mg_cs (by omega) (by omega) (mg_weak (mm_le_s (mm_le_s (mm_le_s (mm_le_s (mm_le_s (mm_le_n (mm_le_n (mm_le_n mm_le_0)))))))) (L_law_b519_ok hz hnc hd hx hm (by omega) (fun i m r hr => ih (k + 1) i m r (by omega) hr) hr))
      refine mb_ite hr (fun hc hr => ?_) (fun hc11 hr => ?_)
      · refine mg_tableK (pc := 40) (535) 575 dL_law_40 hc (by decide +kernel) rfl ?_
        exact mg_cs (by omega) (by omega) (mg_weak (mm_le_s (mm_le_s (mm_le_s (mm_le_s (mm_le_s (mm_le_n (mm_le_n (mm_le_n mm_le_0)))))))) (L_law_b575_ok hz hnc hd hx hm (by omega) (fun i m r hr => ih (k + 1) i m r (by omega) hr) hr))
      refine mb_ite hr (fun hc hr => ?_) (fun hc12 hr => ?_)
      · refine mg_tableK (pc := 40) (548) 588 dL_law_40 hc (by decide +kernel) rfl ?_
        exact mg_cs (by omega) (by omega) (mg_weak (mm_le_s (mm_le_s (mm_le_s (mm_le_s (mm_le_s (mm_le_n (mm_le_n (mm_le_n mm_le_0)))))))) (L_law_b588_ok hz hnc hd hx hm (by omega) (fun i m r hr => ih (k + 1) i m r (by omega) hr) hr))
      refine mb_ite hr (fun hc hr => ?_) (fun hc13 hr => ?_)
      · refine mg_tableK (pc := 40) (604) 644 dL_law_40 hc (by decide +kernel) rfl ?_
        exact mg_cs (by omega) (by omega) (mg_weak (mm_le_s (mm_le_s (mm_le_s (mm_le_s (mm_le_s (mm_le_n (mm_le_n (mm_le_n mm_le_0)))))))) (L_law_b644_ok hz hnc hd hx hm (by omega) (fun i m r hr => ih (k + 1) i m r (by omega) hr) hr))
      refine mb_ite hr (fun hc hr => ?_) (fun hc14 hr => ?_)
      · refine mg_tableK (pc := 40) (688) 728 dL_law_40 hc (by decide +kernel) rfl ?_
        exact mg_cs (by omega) (by omega) (mg_weak (mm_le_s (mm_le_s (mm_le_s (mm_le_s (mm_le_s (mm_le_n (mm_le_n (mm_le_n mm_le_0)))))))) (L_law_b728_ok hz hnc hd hx hm (by omega) (fun i m r hr => ih (k + 1) i m r (by omega) hr) hr))
      refine mb_ite hr (fun hc hr => ?_) (fun hc15 hr => ?_)
      · refine mg_tableK (pc := 40) (767) 807 dL_law_40 hc (by decide +kernel) rfl ?_
        exact mg_cs (by omega) (by omega) (mg_weak (mm_le_s (mm_le_s (mm_le_s (mm_le_s (mm_le_s (mm_le_n (mm_le_n (mm_le_n mm_le_0)))))))) (L_law_b807_ok hz hnc hd hx hm (by omega) (fun i m r hr => ih (k + 1) i m r (by omega) hr) hr))
      refine mb_ite hr (fun hc hr => ?_) (fun hc16 hr => ?_)
      · refine mg_tableK (pc := 40) (862) 902 dL_law_40 hc (by decide +kernel) rfl ?_
        exact mg_cs (by omega) (by omega) (mg_weak (mm_le_s (mm_le_s (mm_le_s (mm_le_s (mm_le_s (mm_le_n (mm_le_n (mm_le_n mm_le_0)))))))) (L_law_b902_ok hz hnc hd hx hm (by omega) (fun i m r hr => ih (k + 1) i m r (by omega) hr) hr))
      refine mb_ite hr (fun hc hr => ?_) (fun hc17 hr => ?_)
      · refine mg_tableK (pc := 40) (930) 970 dL_law_40 hc (by decide +kernel) rfl ?_
        exact mg_cs (by omega) (by omega) (mg_weak (mm_le_s (mm_le_s (mm_le_s (mm_le_s (mm_le_s (mm_le_n (mm_le_n (mm_le_n mm_le_0)))))))) (L_law_b970_ok hz hnc hd hx hm (by omega) (fun i m r hr => ih (k + 1) i m r (by omega) hr) hr))
      refine mb_ite hr (fun hc hr => ?_) (fun hc18 hr => ?_)
      · refine mg_tableK (pc := 40) (997) 1037 dL_law_40 hc (by decide +kernel) rfl ?_
        exact mg_cs (by omega) (by omega) (mg_weak (mm_le_s (mm_le_s (mm_le_s (mm_le_s (mm_le_s (mm_le_n (mm_le_n (mm_le_n mm_le_0)))))))) (L_law_b1037_ok hz hnc hd hx hm (by omega) (fun i m r hr => ih (k + 1) i m r (by omega) hr) hr))
      refine mb_ite hr (fun hc hr => ?_) (fun hc19 hr => ?_)
      · refine mg_tableK (pc := 40) (1077) 1117 dL_law_40 hc (by decide +kernel) rfl ?_
        exact mg_cs (by omega) (by omega) (mg_weak (mm_le_s (mm_le_s (mm_le_s (mm_le_s (mm_le_s (mm_le_n (mm_le_n (mm_le_n mm_le_0)))))))) (L_law_b1117_ok hz hnc hd hx hm (by omega) (fun i m r hr => ih (k + 1) i m r (by omega) hr) hr))
      refine mb_ite hr (fun hc hr => ?_) (fun hc20 hr => ?_)
      · refine mg_tableK (pc := 40) (1145) 1185 dL_law_40 hc (by decide +kernel) rfl ?_
        exact mg_cs (by omega) (by omega) (mg_weak (mm_le_s (mm_le_s (mm_le_s (mm_le_s (mm_le_s (mm_le_n (mm_le_n (mm_le_n mm_le_0)))))))) (L_law_b1185_ok hz hnc hd hx hm (by omega) (fun i m r hr => ih (k + 1) i m r (by omega) hr) hr))
      refine mb_ite hr (fun hc hr => ?_) (fun hc21 hr => ?_)
      · refine mg_tableK (pc := 40) (1213) 1253 dL_law_40 hc (by decide +kernel) rfl ?_
        exact mg_cs (by omega) (by omega) (mg_weak (mm_le_s (mm_le_s (mm_le_s (mm_le_s (mm_le_s (mm_le_n (mm_le_n (mm_le_n mm_le_0)))))))) (L_law_b1253_ok hz hnc hd hx hm (by omega) (fun i m r hr => ih (k + 1) i m r (by omega) hr) hr))
      refine mb_ite hr (fun hc hr => ?_) (fun hc22 hr => ?_)
      · refine mg_tableK (pc := 40) (1333) 1373 dL_law_40 hc (by decide +kernel) rfl ?_
        exact mg_cs (by omega) (by omega) (mg_weak (mm_le_s (mm_le_s (mm_le_s (mm_le_s (mm_le_s (mm_le_n (mm_le_n (mm_le_n mm_le_0)))))))) (L_law_b1373_ok hz hnc hd hx hm (by omega) (fun i m r hr => ih (k + 1) i m r (by omega) hr) hr))
      refine mb_ite hr (fun hc hr => ?_) (fun hc23 hr => ?_)
      · refine mg_tableK (pc := 40) (1389) 1429 dL_law_40 hc (by decide +kernel) rfl ?_
        exact mg_cs (by omega) (by omega) (mg_weak (mm_le_s (mm_le_s (mm_le_s (mm_le_s (mm_le_s (mm_le_n (mm_le_n (mm_le_n mm_le_0)))))))) (L_law_b1429_ok hz hnc hd hx hm (by omega) (fun i m r hr => ih (k + 1) i m r (by omega) hr) hr))
      refine mb_ite hr (fun hc hr => ?_) (fun hc24 hr => ?_)
      · refine mg_tableK (pc := 40) (1445) 1485 dL_law_40 hc (by decide +kernel) rfl ?_
        exact mg_cs (by omega) (by omega) (mg_weak (mm_le_s (mm_le_s (mm_le_s (mm_le_s (mm_le_s (mm_le_n (mm_le_n (mm_le_n mm_le_0)))))))) (L_law_b1485_ok hz hnc hd hx hm (by omega) (fun i m r hr => ih (k + 1) i m r (by omega) hr) hr))
      refine mb_ite hr (fun hc hr => ?_) (fun hc25 hr => ?_)
      · refine mg_tableK (pc := 40) (1501) 1541 dL_law_40 hc (by decide +kernel) rfl ?_
        exact mg_cs (by omega) (by omega) (mg_weak (mm_le_s (mm_le_s (mm_le_s (mm_le_s (mm_le_s (mm_le_n (mm_le_n (mm_le_n mm_le_0)))))))) (L_law_b1541_ok hz hnc hd hx hm (by omega) (fun i m r hr => ih (k + 1) i m r (by omega) hr) hr))
      refine mb_ite hr (fun hc hr => ?_) (fun hc26 hr => ?_)
      · refine mg_tableK (pc := 40) (1569) 1609 dL_law_40 hc (by decide +kernel) rfl ?_
        exact mg_cs (by omega) (by omega) (mg_weak (mm_le_s (mm_le_s (mm_le_s (mm_le_s (mm_le_s (mm_le_n (mm_le_n (mm_le_n mm_le_0)))))))) (L_law_b1609_ok hz hnc hd hx hm (by omega) (fun i m r hr => ih (k + 1) i m r (by omega) hr) hr))
      refine mb_ite hr (fun hc hr => ?_) (fun hc27 hr => ?_)
      · refine mg_tableK (pc := 40) (1649) 1689 dL_law_40 hc (by decide +kernel) rfl ?_
        exact mg_cs (by omega) (by omega) (mg_weak (mm_le_s (mm_le_s (mm_le_s (mm_le_s (mm_le_s (mm_le_n (mm_le_n (mm_le_n mm_le_0)))))))) (L_law_b1689_ok hz hnc hd hx hm (by omega) (fun i m r hr => ih (k + 1) i m r (by omega) hr) hr))
      refine mb_ite hr (fun hc hr => ?_) (fun hc28 hr => ?_)
      · refine mg_tableK (pc := 40) (1660) 1700 dL_law_40 hc (by decide +kernel) rfl ?_
        exact mg_cs (by omega) (by omega) (mg_weak (mm_le_s (mm_le_s (mm_le_s (mm_le_s (mm_le_s (mm_le_n (mm_le_n (mm_le_n mm_le_0)))))))) (L_law_b1700_ok hz hnc hd hx hm (by omega) (fun i m r hr => ih (k + 1) i m r (by omega) hr) hr))
      refine mg_tableD (pc := 40) 1713 dL_law_40 ((mm_nin_c hc3 (mm_nin_c hc4 (mm_nin_c hc5 (mm_nin_c hc6 (mm_nin_c hc7 (mm_nin_c hc8 (mm_nin_c hc9 (mm_nin_c hc10 (mm_nin_c hc11 (mm_nin_c hc12 (mm_nin_c hc13 (mm_nin_c hc14 (mm_nin_c hc15 (mm_nin_c hc16 (mm_nin_c hc17 (mm_nin_c hc18 (mm_nin_c hc19 (mm_nin_c hc20 (mm_nin_c hc21 (mm_nin_c hc22 (mm_nin_c hc23 (mm_nin_c hc24 (mm_nin_c hc25 (mm_nin_c hc26 (mm_nin_c hc27 (mm_nin_c hc28 mm_nin_0)))))))))))))))))))))))))) : ∀ y ∈ [(0 : Int32), (1 : Int32), (2 : Int32), (3 : Int32), (4 : Int32), (5 : Int32), (6 : Int32), (7 : Int32), (8 : Int32), (9 : Int32), (10 : Int32), (11 : Int32), (12 : Int32), (13 : Int32), (14 : Int32), (15 : Int32), (16 : Int32), (17 : Int32), (18 : Int32), (19 : Int32), (20 : Int32), (21 : Int32), (22 : Int32), (23 : Int32), (24 : Int32), (25 : Int32)], ¬ (x2 &&& (31 : Int32)) = y) (by decide +kernel) rfl ?_
      exact mg_cs (by omega) (by omega) (mg_weak (mm_le_s (mm_le_s (mm_le_s (mm_le_s (mm_le_s (mm_le_n (mm_le_n (mm_le_n mm_le_0)))))))) (L_law_b1713_ok hz hnc hd hx hm (by omega) (fun i m r hr => ih (k + 1) i m r (by omega) hr) hr))
