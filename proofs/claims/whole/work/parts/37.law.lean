abbrev ML_law (q : String × List (Nat × Nat × Nat × Nat)) : mm_M := (⟨RL, q.1, "([I)Z"⟩, cL_law, 8, some .boolean, q.2)
theorem kc_6 : Int32.ofInt (6) = (6 : Int32) := by decide
theorem tw_706 : Cond.methodLink "SootQueenLaw" 178 ⟨"SootQueen", "restore", "()Z"⟩ ∈ lw_tbl := List.mem_append_right _ (List.mem_of_getElem? (i := 706) (by decide +kernel))
theorem tw_709 : Cond.code ⟨"SootQueen", "restore", "()Z"⟩ prog_1_method_27_code 1 (some .boolean) ∈ lw_tbl := List.mem_append_right _ (List.mem_of_getElem? (i := 709) (by decide +kernel))
theorem tw_707 : Cond.instanceMethod ⟨"SootQueen", "restore", "()Z"⟩ ∈ lw_tbl := List.mem_append_right _ (List.mem_of_getElem? (i := 707) (by decide +kernel))
theorem tw_708 : Cond.selects "SootQueen" ⟨"SootQueen", "restore", "()Z"⟩ ⟨"SootQueen", "restore", "()Z"⟩ ∈ lw_tbl := List.mem_append_right _ (List.mem_of_getElem? (i := 708) (by decide +kernel))
theorem cw_L_178 : mm_CV RL 178 MX11_restore 11 0 := ⟨⟨Or.inl tw_706, tw_709, tw_1, ⟨by decide, by decide⟩, by decide +kernel, by decide⟩, tw_707, by decide, (RX11, TX11, 19), rfl, tw_708⟩
theorem tw_1967 : Cond.methodLink "SootQueenLaw" 182 ⟨"SootQueenModel", "restore", "()Z"⟩ ∈ lw_tbl := List.mem_append_right _ (List.mem_of_getElem? (i := 1967) (by decide +kernel))
theorem tw_1970 : Cond.code ⟨"SootQueenModel", "restore", "()Z"⟩ prog_14_method_101_code 1 (some .boolean) ∈ lw_tbl := List.mem_append_right _ (List.mem_of_getElem? (i := 1970) (by decide +kernel))
theorem tw_1968 : Cond.instanceMethod ⟨"SootQueenModel", "restore", "()Z"⟩ ∈ lw_tbl := List.mem_append_right _ (List.mem_of_getElem? (i := 1968) (by decide +kernel))
theorem tw_1969 : Cond.selects "SootQueenModel" ⟨"SootQueenModel", "restore", "()Z"⟩ ⟨"SootQueenModel", "restore", "()Z"⟩ ∈ lw_tbl := List.mem_append_right _ (List.mem_of_getElem? (i := 1969) (by decide +kernel))
theorem cw_L_182 : mm_CV RL 182 MX12_restore 12 0 := ⟨⟨Or.inl tw_1967, tw_1970, tw_14, ⟨by decide, by decide⟩, by decide +kernel, by decide⟩, tw_1968, by decide, (RX12, TX12, 75), rfl, tw_1969⟩
theorem tw_694 : Cond.methodLink "SootQueenLaw" 174 ⟨"SootQueen", "image", "()V"⟩ ∈ lw_tbl := List.mem_append_right _ (List.mem_of_getElem? (i := 694) (by decide +kernel))
theorem tw_697 : Cond.code ⟨"SootQueen", "image", "()V"⟩ prog_1_method_26_code 1 none ∈ lw_tbl := List.mem_append_right _ (List.mem_of_getElem? (i := 697) (by decide +kernel))
theorem tw_695 : Cond.instanceMethod ⟨"SootQueen", "image", "()V"⟩ ∈ lw_tbl := List.mem_append_right _ (List.mem_of_getElem? (i := 695) (by decide +kernel))
theorem tw_696 : Cond.selects "SootQueen" ⟨"SootQueen", "image", "()V"⟩ ⟨"SootQueen", "image", "()V"⟩ ∈ lw_tbl := List.mem_append_right _ (List.mem_of_getElem? (i := 696) (by decide +kernel))
theorem cw_L_174 : mm_CV RL 174 MX11_image 11 0 := ⟨⟨Or.inl tw_694, tw_697, tw_1, ⟨by decide, by decide⟩, by decide +kernel, by decide⟩, tw_695, by decide, (RX11, TX11, 19), rfl, tw_696⟩
theorem tw_1963 : Cond.methodLink "SootQueenLaw" 177 ⟨"SootQueenModel", "image", "()V"⟩ ∈ lw_tbl := List.mem_append_right _ (List.mem_of_getElem? (i := 1963) (by decide +kernel))
theorem tw_1966 : Cond.code ⟨"SootQueenModel", "image", "()V"⟩ prog_14_method_100_code 1 none ∈ lw_tbl := List.mem_append_right _ (List.mem_of_getElem? (i := 1966) (by decide +kernel))
theorem tw_1964 : Cond.instanceMethod ⟨"SootQueenModel", "image", "()V"⟩ ∈ lw_tbl := List.mem_append_right _ (List.mem_of_getElem? (i := 1964) (by decide +kernel))
theorem tw_1965 : Cond.selects "SootQueenModel" ⟨"SootQueenModel", "image", "()V"⟩ ⟨"SootQueenModel", "image", "()V"⟩ ∈ lw_tbl := List.mem_append_right _ (List.mem_of_getElem? (i := 1965) (by decide +kernel))
theorem cw_L_177 : mm_CV RL 177 MX12_image 12 0 := ⟨⟨Or.inl tw_1963, tw_1966, tw_14, ⟨by decide, by decide⟩, by decide +kernel, by decide⟩, tw_1964, by decide, (RX12, TX12, 75), rfl, tw_1965⟩
theorem tw_1340 : Cond.methodLink "SootQueenLaw" 171 ⟨"SootQueenLaw", "face", "(LSootQueen;III[J)I"⟩ ∈ lw_tbl := List.mem_append_right _ (List.mem_of_getElem? (i := 1340) (by decide +kernel))
theorem tw_1342 : Cond.codeWith ML_face.1 ML_face.2.1 ML_face.2.2.1 ML_face.2.2.2.1 ML_face.2.2.2.2 ∈ lw_tbl := List.mem_append_right _ (List.mem_of_getElem? (i := 1342) (by decide +kernel))
theorem tw_0 : Cond.initialized "SootQueenLaw" ∈ lw_tbl := List.mem_append_right _ (List.mem_of_getElem? (i := 0) (by decide +kernel))
theorem tw_1341 : Cond.static ⟨"SootQueenLaw", "face", "(LSootQueen;III[J)I"⟩ ∈ lw_tbl := List.mem_append_right _ (List.mem_of_getElem? (i := 1341) (by decide +kernel))
theorem cx_171 : mm_CSW RL 171 ML_face 5 := ⟨tw_1340, tw_1342, tw_0, ⟨by decide, by decide⟩, by decide +kernel, by decide, tw_1341⟩
theorem tw_1926 : Cond.methodLink "SootQueenLaw" 173 ⟨"SootQueenModel", "face", "(III)I"⟩ ∈ lw_tbl := List.mem_append_right _ (List.mem_of_getElem? (i := 1926) (by decide +kernel))
theorem tw_1929 : Cond.code ⟨"SootQueenModel", "face", "(III)I"⟩ prog_14_method_92_code 5 (some .int) ∈ lw_tbl := List.mem_append_right _ (List.mem_of_getElem? (i := 1929) (by decide +kernel))
theorem tw_1927 : Cond.instanceMethod ⟨"SootQueenModel", "face", "(III)I"⟩ ∈ lw_tbl := List.mem_append_right _ (List.mem_of_getElem? (i := 1927) (by decide +kernel))
theorem tw_1928 : Cond.selects "SootQueenModel" ⟨"SootQueenModel", "face", "(III)I"⟩ ⟨"SootQueenModel", "face", "(III)I"⟩ ∈ lw_tbl := List.mem_append_right _ (List.mem_of_getElem? (i := 1928) (by decide +kernel))
theorem cw_L_173 : mm_CV RL 173 MX12_face 12 3 := ⟨⟨Or.inl tw_1926, tw_1929, tw_14, ⟨by decide, by decide⟩, by decide +kernel, by decide⟩, tw_1927, by decide, (RX12, TX12, 75), rfl, tw_1928⟩
theorem tw_1629 : Cond.methodLink "SootQueenLaw" 96 ⟨"SootQueenModel", "thrown", "()I"⟩ ∈ lw_tbl := List.mem_append_right _ (List.mem_of_getElem? (i := 1629) (by decide +kernel))
theorem tw_1632 : Cond.code ⟨"SootQueenModel", "thrown", "()I"⟩ prog_14_method_2_code 1 (some .int) ∈ lw_tbl := List.mem_append_right _ (List.mem_of_getElem? (i := 1632) (by decide +kernel))
theorem tw_1630 : Cond.instanceMethod ⟨"SootQueenModel", "thrown", "()I"⟩ ∈ lw_tbl := List.mem_append_right _ (List.mem_of_getElem? (i := 1630) (by decide +kernel))
theorem tw_1631 : Cond.selects "SootQueenModel" ⟨"SootQueenModel", "thrown", "()I"⟩ ⟨"SootQueenModel", "thrown", "()I"⟩ ∈ lw_tbl := List.mem_append_right _ (List.mem_of_getElem? (i := 1631) (by decide +kernel))
theorem cw_L_96 : mm_CV RL 96 MX12_thrown 12 0 := ⟨⟨Or.inl tw_1629, tw_1632, tw_14, ⟨by decide, by decide⟩, by decide +kernel, by decide⟩, tw_1630, by decide, (RX12, TX12, 75), rfl, tw_1631⟩
theorem tw_1324 : Cond.methodLink "SootQueenLaw" 168 ⟨"SootQueenLaw", "habit", "(LSootQueen;II[J)I"⟩ ∈ lw_tbl := List.mem_append_right _ (List.mem_of_getElem? (i := 1324) (by decide +kernel))
theorem tw_1326 : Cond.codeWith ML_habit.1 ML_habit.2.1 ML_habit.2.2.1 ML_habit.2.2.2.1 ML_habit.2.2.2.2 ∈ lw_tbl := List.mem_append_right _ (List.mem_of_getElem? (i := 1326) (by decide +kernel))
theorem tw_1325 : Cond.static ⟨"SootQueenLaw", "habit", "(LSootQueen;II[J)I"⟩ ∈ lw_tbl := List.mem_append_right _ (List.mem_of_getElem? (i := 1325) (by decide +kernel))
theorem cx_168 : mm_CSW RL 168 ML_habit 4 := ⟨tw_1324, tw_1326, tw_0, ⟨by decide, by decide⟩, by decide +kernel, by decide, tw_1325⟩
theorem tw_1918 : Cond.methodLink "SootQueenLaw" 170 ⟨"SootQueenModel", "habit", "(II)I"⟩ ∈ lw_tbl := List.mem_append_right _ (List.mem_of_getElem? (i := 1918) (by decide +kernel))
theorem tw_1921 : Cond.code ⟨"SootQueenModel", "habit", "(II)I"⟩ prog_14_method_91_code 5 (some .int) ∈ lw_tbl := List.mem_append_right _ (List.mem_of_getElem? (i := 1921) (by decide +kernel))
theorem tw_1919 : Cond.instanceMethod ⟨"SootQueenModel", "habit", "(II)I"⟩ ∈ lw_tbl := List.mem_append_right _ (List.mem_of_getElem? (i := 1919) (by decide +kernel))
theorem tw_1920 : Cond.selects "SootQueenModel" ⟨"SootQueenModel", "habit", "(II)I"⟩ ⟨"SootQueenModel", "habit", "(II)I"⟩ ∈ lw_tbl := List.mem_append_right _ (List.mem_of_getElem? (i := 1920) (by decide +kernel))
theorem cw_L_170 : mm_CV RL 170 MX12_habit 12 2 := ⟨⟨Or.inl tw_1918, tw_1921, tw_14, ⟨by decide, by decide⟩, by decide +kernel, by decide⟩, tw_1919, by decide, (RX12, TX12, 75), rfl, tw_1920⟩
theorem tw_1317 : Cond.methodLink "SootQueenLaw" 165 ⟨"SootQueenLaw", "rank", "(LSootQueen;I[J)I"⟩ ∈ lw_tbl := List.mem_append_right _ (List.mem_of_getElem? (i := 1317) (by decide +kernel))
theorem tw_1319 : Cond.codeWith ML_rank.1 ML_rank.2.1 ML_rank.2.2.1 ML_rank.2.2.2.1 ML_rank.2.2.2.2 ∈ lw_tbl := List.mem_append_right _ (List.mem_of_getElem? (i := 1319) (by decide +kernel))
theorem tw_1318 : Cond.static ⟨"SootQueenLaw", "rank", "(LSootQueen;I[J)I"⟩ ∈ lw_tbl := List.mem_append_right _ (List.mem_of_getElem? (i := 1318) (by decide +kernel))
theorem cx_165 : mm_CSW RL 165 ML_rank 3 := ⟨tw_1317, tw_1319, tw_0, ⟨by decide, by decide⟩, by decide +kernel, by decide, tw_1318⟩
theorem tw_1865 : Cond.methodLink "SootQueenLaw" 167 ⟨"SootQueenModel", "rank", "(I)I"⟩ ∈ lw_tbl := List.mem_append_right _ (List.mem_of_getElem? (i := 1865) (by decide +kernel))
theorem tw_1868 : Cond.code ⟨"SootQueenModel", "rank", "(I)I"⟩ prog_14_method_77_code 4 (some .int) ∈ lw_tbl := List.mem_append_right _ (List.mem_of_getElem? (i := 1868) (by decide +kernel))
theorem tw_1866 : Cond.instanceMethod ⟨"SootQueenModel", "rank", "(I)I"⟩ ∈ lw_tbl := List.mem_append_right _ (List.mem_of_getElem? (i := 1866) (by decide +kernel))
theorem tw_1867 : Cond.selects "SootQueenModel" ⟨"SootQueenModel", "rank", "(I)I"⟩ ⟨"SootQueenModel", "rank", "(I)I"⟩ ∈ lw_tbl := List.mem_append_right _ (List.mem_of_getElem? (i := 1867) (by decide +kernel))
theorem cw_L_167 : mm_CV RL 167 MX12_rank 12 1 := ⟨⟨Or.inl tw_1865, tw_1868, tw_14, ⟨by decide, by decide⟩, by decide +kernel, by decide⟩, tw_1866, by decide, (RX12, TX12, 75), rfl, tw_1867⟩
theorem tw_1306 : Cond.methodLink "SootQueenLaw" 162 ⟨"SootQueenLaw", "isOut", "(LSootQueen;I[J)I"⟩ ∈ lw_tbl := List.mem_append_right _ (List.mem_of_getElem? (i := 1306) (by decide +kernel))
theorem tw_1308 : Cond.codeWith ML_isOut.1 ML_isOut.2.1 ML_isOut.2.2.1 ML_isOut.2.2.2.1 ML_isOut.2.2.2.2 ∈ lw_tbl := List.mem_append_right _ (List.mem_of_getElem? (i := 1308) (by decide +kernel))
theorem tw_1307 : Cond.static ⟨"SootQueenLaw", "isOut", "(LSootQueen;I[J)I"⟩ ∈ lw_tbl := List.mem_append_right _ (List.mem_of_getElem? (i := 1307) (by decide +kernel))
theorem cx_162 : mm_CSW RL 162 ML_isOut 3 := ⟨tw_1306, tw_1308, tw_0, ⟨by decide, by decide⟩, by decide +kernel, by decide, tw_1307⟩
theorem tw_1861 : Cond.methodLink "SootQueenLaw" 164 ⟨"SootQueenModel", "isOut", "(I)I"⟩ ∈ lw_tbl := List.mem_append_right _ (List.mem_of_getElem? (i := 1861) (by decide +kernel))
theorem tw_1864 : Cond.code ⟨"SootQueenModel", "isOut", "(I)I"⟩ prog_14_method_76_code 2 (some .int) ∈ lw_tbl := List.mem_append_right _ (List.mem_of_getElem? (i := 1864) (by decide +kernel))
theorem tw_1862 : Cond.instanceMethod ⟨"SootQueenModel", "isOut", "(I)I"⟩ ∈ lw_tbl := List.mem_append_right _ (List.mem_of_getElem? (i := 1862) (by decide +kernel))
theorem tw_1863 : Cond.selects "SootQueenModel" ⟨"SootQueenModel", "isOut", "(I)I"⟩ ⟨"SootQueenModel", "isOut", "(I)I"⟩ ∈ lw_tbl := List.mem_append_right _ (List.mem_of_getElem? (i := 1863) (by decide +kernel))
theorem cw_L_164 : mm_CV RL 164 MX12_isOut 12 1 := ⟨⟨Or.inl tw_1861, tw_1864, tw_14, ⟨by decide, by decide⟩, by decide +kernel, by decide⟩, tw_1862, by decide, (RX12, TX12, 75), rfl, tw_1863⟩
theorem tw_1295 : Cond.methodLink "SootQueenLaw" 159 ⟨"SootQueenLaw", "wouldLose", "(LSootQueen;I[J)I"⟩ ∈ lw_tbl := List.mem_append_right _ (List.mem_of_getElem? (i := 1295) (by decide +kernel))
theorem tw_1297 : Cond.codeWith ML_wouldLose.1 ML_wouldLose.2.1 ML_wouldLose.2.2.1 ML_wouldLose.2.2.2.1 ML_wouldLose.2.2.2.2 ∈ lw_tbl := List.mem_append_right _ (List.mem_of_getElem? (i := 1297) (by decide +kernel))
theorem tw_1296 : Cond.static ⟨"SootQueenLaw", "wouldLose", "(LSootQueen;I[J)I"⟩ ∈ lw_tbl := List.mem_append_right _ (List.mem_of_getElem? (i := 1296) (by decide +kernel))
theorem cx_159 : mm_CSW RL 159 ML_wouldLose 3 := ⟨tw_1295, tw_1297, tw_0, ⟨by decide, by decide⟩, by decide +kernel, by decide, tw_1296⟩
theorem tw_1857 : Cond.methodLink "SootQueenLaw" 161 ⟨"SootQueenModel", "wouldLose", "(I)I"⟩ ∈ lw_tbl := List.mem_append_right _ (List.mem_of_getElem? (i := 1857) (by decide +kernel))
theorem tw_1860 : Cond.code ⟨"SootQueenModel", "wouldLose", "(I)I"⟩ prog_14_method_75_code 8 (some .int) ∈ lw_tbl := List.mem_append_right _ (List.mem_of_getElem? (i := 1860) (by decide +kernel))
theorem tw_1858 : Cond.instanceMethod ⟨"SootQueenModel", "wouldLose", "(I)I"⟩ ∈ lw_tbl := List.mem_append_right _ (List.mem_of_getElem? (i := 1858) (by decide +kernel))
theorem tw_1859 : Cond.selects "SootQueenModel" ⟨"SootQueenModel", "wouldLose", "(I)I"⟩ ⟨"SootQueenModel", "wouldLose", "(I)I"⟩ ∈ lw_tbl := List.mem_append_right _ (List.mem_of_getElem? (i := 1859) (by decide +kernel))
theorem cw_L_161 : mm_CV RL 161 MX12_wouldLose 12 1 := ⟨⟨Or.inl tw_1857, tw_1860, tw_14, ⟨by decide, by decide⟩, by decide +kernel, by decide⟩, tw_1858, by decide, (RX12, TX12, 75), rfl, tw_1859⟩
theorem tw_1951 : Cond.methodLink "SootQueenLaw" 158 ⟨"SootQueenModel", "evenings", "(IIIZI)I"⟩ ∈ lw_tbl := List.mem_append_right _ (List.mem_of_getElem? (i := 1951) (by decide +kernel))
theorem tw_1954 : Cond.code ⟨"SootQueenModel", "evenings", "(IIIZI)I"⟩ prog_14_method_99_code 11 (some .int) ∈ lw_tbl := List.mem_append_right _ (List.mem_of_getElem? (i := 1954) (by decide +kernel))
theorem tw_1952 : Cond.instanceMethod ⟨"SootQueenModel", "evenings", "(IIIZI)I"⟩ ∈ lw_tbl := List.mem_append_right _ (List.mem_of_getElem? (i := 1952) (by decide +kernel))
theorem tw_1953 : Cond.selects "SootQueenModel" ⟨"SootQueenModel", "evenings", "(IIIZI)I"⟩ ⟨"SootQueenModel", "evenings", "(IIIZI)I"⟩ ∈ lw_tbl := List.mem_append_right _ (List.mem_of_getElem? (i := 1953) (by decide +kernel))
theorem cw_L_158 : mm_CV RL 158 MX12_evenings 12 5 := ⟨⟨Or.inl tw_1951, tw_1954, tw_14, ⟨by decide, by decide⟩, by decide +kernel, by decide⟩, tw_1952, by decide, (RX12, TX12, 75), rfl, tw_1953⟩
theorem tw_1281 : Cond.methodLink "SootQueenLaw" 155 ⟨"SootQueenLaw", "evenings", "(LSootQueen;IIIZI[J)I"⟩ ∈ lw_tbl := List.mem_append_right _ (List.mem_of_getElem? (i := 1281) (by decide +kernel))
theorem tw_1283 : Cond.codeWith ML_evenings.1 ML_evenings.2.1 ML_evenings.2.2.1 ML_evenings.2.2.2.1 ML_evenings.2.2.2.2 ∈ lw_tbl := List.mem_append_right _ (List.mem_of_getElem? (i := 1283) (by decide +kernel))
theorem tw_1282 : Cond.static ⟨"SootQueenLaw", "evenings", "(LSootQueen;IIIZI[J)I"⟩ ∈ lw_tbl := List.mem_append_right _ (List.mem_of_getElem? (i := 1282) (by decide +kernel))
theorem cx_155 : mm_CSW RL 155 ML_evenings 7 := ⟨tw_1281, tw_1283, tw_0, ⟨by decide, by decide⟩, by decide +kernel, by decide, tw_1282⟩
theorem tw_1237 : Cond.methodLink "SootQueenLaw" 152 ⟨"SootQueenLaw", "seats", "(LSootQueen;II[J)I"⟩ ∈ lw_tbl := List.mem_append_right _ (List.mem_of_getElem? (i := 1237) (by decide +kernel))
theorem tw_1239 : Cond.codeWith ML_seats.1 ML_seats.2.1 ML_seats.2.2.1 ML_seats.2.2.2.1 ML_seats.2.2.2.2 ∈ lw_tbl := List.mem_append_right _ (List.mem_of_getElem? (i := 1239) (by decide +kernel))
theorem tw_1238 : Cond.static ⟨"SootQueenLaw", "seats", "(LSootQueen;II[J)I"⟩ ∈ lw_tbl := List.mem_append_right _ (List.mem_of_getElem? (i := 1238) (by decide +kernel))
theorem cx_152 : mm_CSW RL 152 ML_seats 4 := ⟨tw_1237, tw_1239, tw_0, ⟨by decide, by decide⟩, by decide +kernel, by decide, tw_1238⟩
theorem tw_1931 : Cond.methodLink "SootQueenLaw" 154 ⟨"SootQueenModel", "seats", "(II)I"⟩ ∈ lw_tbl := List.mem_append_right _ (List.mem_of_getElem? (i := 1931) (by decide +kernel))
theorem tw_1934 : Cond.code ⟨"SootQueenModel", "seats", "(II)I"⟩ prog_14_method_97_code 9 (some .int) ∈ lw_tbl := List.mem_append_right _ (List.mem_of_getElem? (i := 1934) (by decide +kernel))
theorem tw_1932 : Cond.instanceMethod ⟨"SootQueenModel", "seats", "(II)I"⟩ ∈ lw_tbl := List.mem_append_right _ (List.mem_of_getElem? (i := 1932) (by decide +kernel))
theorem tw_1933 : Cond.selects "SootQueenModel" ⟨"SootQueenModel", "seats", "(II)I"⟩ ⟨"SootQueenModel", "seats", "(II)I"⟩ ∈ lw_tbl := List.mem_append_right _ (List.mem_of_getElem? (i := 1933) (by decide +kernel))
theorem cw_L_154 : mm_CV RL 154 MX12_seats 12 2 := ⟨⟨Or.inl tw_1931, tw_1934, tw_14, ⟨by decide, by decide⟩, by decide +kernel, by decide⟩, tw_1932, by decide, (RX12, TX12, 75), rfl, tw_1933⟩
theorem tw_1226 : Cond.methodLink "SootQueenLaw" 149 ⟨"SootQueenLaw", "choose", "(LSootQueen;II[J)I"⟩ ∈ lw_tbl := List.mem_append_right _ (List.mem_of_getElem? (i := 1226) (by decide +kernel))
theorem tw_1228 : Cond.codeWith ML_choose.1 ML_choose.2.1 ML_choose.2.2.1 ML_choose.2.2.2.1 ML_choose.2.2.2.2 ∈ lw_tbl := List.mem_append_right _ (List.mem_of_getElem? (i := 1228) (by decide +kernel))
theorem tw_1227 : Cond.static ⟨"SootQueenLaw", "choose", "(LSootQueen;II[J)I"⟩ ∈ lw_tbl := List.mem_append_right _ (List.mem_of_getElem? (i := 1227) (by decide +kernel))
theorem cx_149 : mm_CSW RL 149 ML_choose 4 := ⟨tw_1226, tw_1228, tw_0, ⟨by decide, by decide⟩, by decide +kernel, by decide, tw_1227⟩
theorem tw_1906 : Cond.methodLink "SootQueenLaw" 151 ⟨"SootQueenModel", "choose", "(II)I"⟩ ∈ lw_tbl := List.mem_append_right _ (List.mem_of_getElem? (i := 1906) (by decide +kernel))
theorem tw_1909 : Cond.code ⟨"SootQueenModel", "choose", "(II)I"⟩ prog_14_method_87_code 5 (some .int) ∈ lw_tbl := List.mem_append_right _ (List.mem_of_getElem? (i := 1909) (by decide +kernel))
theorem tw_1907 : Cond.instanceMethod ⟨"SootQueenModel", "choose", "(II)I"⟩ ∈ lw_tbl := List.mem_append_right _ (List.mem_of_getElem? (i := 1907) (by decide +kernel))
theorem tw_1908 : Cond.selects "SootQueenModel" ⟨"SootQueenModel", "choose", "(II)I"⟩ ⟨"SootQueenModel", "choose", "(II)I"⟩ ∈ lw_tbl := List.mem_append_right _ (List.mem_of_getElem? (i := 1908) (by decide +kernel))
theorem cw_L_151 : mm_CV RL 151 MX12_choose 12 2 := ⟨⟨Or.inl tw_1906, tw_1909, tw_14, ⟨by decide, by decide⟩, by decide +kernel, by decide⟩, tw_1907, by decide, (RX12, TX12, 75), rfl, tw_1908⟩
theorem tw_1219 : Cond.methodLink "SootQueenLaw" 146 ⟨"SootQueenLaw", "hold", "(LSootQueen;III[J)I"⟩ ∈ lw_tbl := List.mem_append_right _ (List.mem_of_getElem? (i := 1219) (by decide +kernel))
theorem tw_1221 : Cond.codeWith ML_hold.1 ML_hold.2.1 ML_hold.2.2.1 ML_hold.2.2.2.1 ML_hold.2.2.2.2 ∈ lw_tbl := List.mem_append_right _ (List.mem_of_getElem? (i := 1221) (by decide +kernel))
theorem tw_1220 : Cond.static ⟨"SootQueenLaw", "hold", "(LSootQueen;III[J)I"⟩ ∈ lw_tbl := List.mem_append_right _ (List.mem_of_getElem? (i := 1220) (by decide +kernel))
theorem cx_146 : mm_CSW RL 146 ML_hold 5 := ⟨tw_1219, tw_1221, tw_0, ⟨by decide, by decide⟩, by decide +kernel, by decide, tw_1220⟩
theorem tw_1914 : Cond.methodLink "SootQueenLaw" 148 ⟨"SootQueenModel", "hold", "(III)I"⟩ ∈ lw_tbl := List.mem_append_right _ (List.mem_of_getElem? (i := 1914) (by decide +kernel))
theorem tw_1917 : Cond.code ⟨"SootQueenModel", "hold", "(III)I"⟩ prog_14_method_89_code 7 (some .int) ∈ lw_tbl := List.mem_append_right _ (List.mem_of_getElem? (i := 1917) (by decide +kernel))
theorem tw_1915 : Cond.instanceMethod ⟨"SootQueenModel", "hold", "(III)I"⟩ ∈ lw_tbl := List.mem_append_right _ (List.mem_of_getElem? (i := 1915) (by decide +kernel))
theorem tw_1916 : Cond.selects "SootQueenModel" ⟨"SootQueenModel", "hold", "(III)I"⟩ ⟨"SootQueenModel", "hold", "(III)I"⟩ ∈ lw_tbl := List.mem_append_right _ (List.mem_of_getElem? (i := 1916) (by decide +kernel))
theorem cw_L_148 : mm_CV RL 148 MX12_hold 12 3 := ⟨⟨Or.inl tw_1914, tw_1917, tw_14, ⟨by decide, by decide⟩, by decide +kernel, by decide⟩, tw_1915, by decide, (RX12, TX12, 75), rfl, tw_1916⟩
theorem tw_1212 : Cond.methodLink "SootQueenLaw" 143 ⟨"SootQueenLaw", "peeped", "(LSootQueen;II[J)I"⟩ ∈ lw_tbl := List.mem_append_right _ (List.mem_of_getElem? (i := 1212) (by decide +kernel))
theorem tw_1214 : Cond.codeWith ML_peeped.1 ML_peeped.2.1 ML_peeped.2.2.1 ML_peeped.2.2.2.1 ML_peeped.2.2.2.2 ∈ lw_tbl := List.mem_append_right _ (List.mem_of_getElem? (i := 1214) (by decide +kernel))
theorem tw_1213 : Cond.static ⟨"SootQueenLaw", "peeped", "(LSootQueen;II[J)I"⟩ ∈ lw_tbl := List.mem_append_right _ (List.mem_of_getElem? (i := 1213) (by decide +kernel))
theorem cx_143 : mm_CSW RL 143 ML_peeped 4 := ⟨tw_1212, tw_1214, tw_0, ⟨by decide, by decide⟩, by decide +kernel, by decide, tw_1213⟩
theorem tw_1910 : Cond.methodLink "SootQueenLaw" 145 ⟨"SootQueenModel", "peeped", "(II)J"⟩ ∈ lw_tbl := List.mem_append_right _ (List.mem_of_getElem? (i := 1910) (by decide +kernel))
theorem tw_1913 : Cond.code ⟨"SootQueenModel", "peeped", "(II)J"⟩ prog_14_method_88_code 10 (some .long) ∈ lw_tbl := List.mem_append_right _ (List.mem_of_getElem? (i := 1913) (by decide +kernel))
theorem tw_1911 : Cond.instanceMethod ⟨"SootQueenModel", "peeped", "(II)J"⟩ ∈ lw_tbl := List.mem_append_right _ (List.mem_of_getElem? (i := 1911) (by decide +kernel))
theorem tw_1912 : Cond.selects "SootQueenModel" ⟨"SootQueenModel", "peeped", "(II)J"⟩ ⟨"SootQueenModel", "peeped", "(II)J"⟩ ∈ lw_tbl := List.mem_append_right _ (List.mem_of_getElem? (i := 1912) (by decide +kernel))
theorem cw_L_145 : mm_CV RL 145 MX12_peeped 12 2 := ⟨⟨Or.inl tw_1910, tw_1913, tw_14, ⟨by decide, by decide⟩, by decide +kernel, by decide⟩, tw_1911, by decide, (RX12, TX12, 75), rfl, tw_1912⟩
theorem tw_1157 : Cond.methodLink "SootQueenLaw" 140 ⟨"SootQueenLaw", "belief", "(LSootQueen;II[J)I"⟩ ∈ lw_tbl := List.mem_append_right _ (List.mem_of_getElem? (i := 1157) (by decide +kernel))
theorem tw_1159 : Cond.codeWith ML_belief.1 ML_belief.2.1 ML_belief.2.2.1 ML_belief.2.2.2.1 ML_belief.2.2.2.2 ∈ lw_tbl := List.mem_append_right _ (List.mem_of_getElem? (i := 1159) (by decide +kernel))
theorem tw_1158 : Cond.static ⟨"SootQueenLaw", "belief", "(LSootQueen;II[J)I"⟩ ∈ lw_tbl := List.mem_append_right _ (List.mem_of_getElem? (i := 1158) (by decide +kernel))
theorem cx_140 : mm_CSW RL 140 ML_belief 4 := ⟨tw_1157, tw_1159, tw_0, ⟨by decide, by decide⟩, by decide +kernel, by decide, tw_1158⟩
theorem tw_1886 : Cond.methodLink "SootQueenLaw" 142 ⟨"SootQueenModel", "belief", "(II)I"⟩ ∈ lw_tbl := List.mem_append_right _ (List.mem_of_getElem? (i := 1886) (by decide +kernel))
theorem tw_1889 : Cond.code ⟨"SootQueenModel", "belief", "(II)I"⟩ prog_14_method_86_code 3 (some .int) ∈ lw_tbl := List.mem_append_right _ (List.mem_of_getElem? (i := 1889) (by decide +kernel))
theorem tw_1887 : Cond.instanceMethod ⟨"SootQueenModel", "belief", "(II)I"⟩ ∈ lw_tbl := List.mem_append_right _ (List.mem_of_getElem? (i := 1887) (by decide +kernel))
theorem tw_1888 : Cond.selects "SootQueenModel" ⟨"SootQueenModel", "belief", "(II)I"⟩ ⟨"SootQueenModel", "belief", "(II)I"⟩ ∈ lw_tbl := List.mem_append_right _ (List.mem_of_getElem? (i := 1888) (by decide +kernel))
theorem cw_L_142 : mm_CV RL 142 MX12_belief 12 2 := ⟨⟨Or.inl tw_1886, tw_1889, tw_14, ⟨by decide, by decide⟩, by decide +kernel, by decide⟩, tw_1887, by decide, (RX12, TX12, 75), rfl, tw_1888⟩
theorem tw_1881 : Cond.methodLink "SootQueenLaw" 139 ⟨"SootQueenModel", "two", "(IZI)J"⟩ ∈ lw_tbl := List.mem_append_right _ (List.mem_of_getElem? (i := 1881) (by decide +kernel))
theorem tw_1884 : Cond.code ⟨"SootQueenModel", "two", "(IZI)J"⟩ prog_14_method_81_code 14 (some .long) ∈ lw_tbl := List.mem_append_right _ (List.mem_of_getElem? (i := 1884) (by decide +kernel))
theorem tw_1882 : Cond.instanceMethod ⟨"SootQueenModel", "two", "(IZI)J"⟩ ∈ lw_tbl := List.mem_append_right _ (List.mem_of_getElem? (i := 1882) (by decide +kernel))
theorem tw_1883 : Cond.selects "SootQueenModel" ⟨"SootQueenModel", "two", "(IZI)J"⟩ ⟨"SootQueenModel", "two", "(IZI)J"⟩ ∈ lw_tbl := List.mem_append_right _ (List.mem_of_getElem? (i := 1883) (by decide +kernel))
theorem cw_L_139 : mm_CV RL 139 MX12_two 12 3 := ⟨⟨Or.inl tw_1881, tw_1884, tw_14, ⟨by decide, by decide⟩, by decide +kernel, by decide⟩, tw_1882, by decide, (RX12, TX12, 75), rfl, tw_1883⟩
theorem tw_1143 : Cond.methodLink "SootQueenLaw" 136 ⟨"SootQueenLaw", "two", "(LSootQueen;IZI[J)I"⟩ ∈ lw_tbl := List.mem_append_right _ (List.mem_of_getElem? (i := 1143) (by decide +kernel))
theorem tw_1145 : Cond.codeWith ML_two.1 ML_two.2.1 ML_two.2.2.1 ML_two.2.2.2.1 ML_two.2.2.2.2 ∈ lw_tbl := List.mem_append_right _ (List.mem_of_getElem? (i := 1145) (by decide +kernel))
theorem tw_1144 : Cond.static ⟨"SootQueenLaw", "two", "(LSootQueen;IZI[J)I"⟩ ∈ lw_tbl := List.mem_append_right _ (List.mem_of_getElem? (i := 1144) (by decide +kernel))
theorem cx_136 : mm_CSW RL 136 ML_two 5 := ⟨tw_1143, tw_1145, tw_0, ⟨by decide, by decide⟩, by decide +kernel, by decide, tw_1144⟩
theorem tw_1115 : Cond.methodLink "SootQueenLaw" 132 ⟨"SootQueenLaw", "blind", "(LSootQueen;III[J)I"⟩ ∈ lw_tbl := List.mem_append_right _ (List.mem_of_getElem? (i := 1115) (by decide +kernel))
theorem tw_1117 : Cond.codeWith ML_blind.1 ML_blind.2.1 ML_blind.2.2.1 ML_blind.2.2.2.1 ML_blind.2.2.2.2 ∈ lw_tbl := List.mem_append_right _ (List.mem_of_getElem? (i := 1117) (by decide +kernel))
theorem tw_1116 : Cond.static ⟨"SootQueenLaw", "blind", "(LSootQueen;III[J)I"⟩ ∈ lw_tbl := List.mem_append_right _ (List.mem_of_getElem? (i := 1116) (by decide +kernel))
theorem cx_132 : mm_CSW RL 132 ML_blind 5 := ⟨tw_1115, tw_1117, tw_0, ⟨by decide, by decide⟩, by decide +kernel, by decide, tw_1116⟩
theorem tw_1869 : Cond.methodLink "SootQueenLaw" 135 ⟨"SootQueenModel", "blind", "(III)J"⟩ ∈ lw_tbl := List.mem_append_right _ (List.mem_of_getElem? (i := 1869) (by decide +kernel))
theorem tw_1872 : Cond.code ⟨"SootQueenModel", "blind", "(III)J"⟩ prog_14_method_80_code 12 (some .long) ∈ lw_tbl := List.mem_append_right _ (List.mem_of_getElem? (i := 1872) (by decide +kernel))
theorem tw_1870 : Cond.instanceMethod ⟨"SootQueenModel", "blind", "(III)J"⟩ ∈ lw_tbl := List.mem_append_right _ (List.mem_of_getElem? (i := 1870) (by decide +kernel))
theorem tw_1871 : Cond.selects "SootQueenModel" ⟨"SootQueenModel", "blind", "(III)J"⟩ ⟨"SootQueenModel", "blind", "(III)J"⟩ ∈ lw_tbl := List.mem_append_right _ (List.mem_of_getElem? (i := 1871) (by decide +kernel))
theorem cw_L_135 : mm_CV RL 135 MX12_blind 12 3 := ⟨⟨Or.inl tw_1869, tw_1872, tw_14, ⟨by decide, by decide⟩, by decide +kernel, by decide⟩, tw_1870, by decide, (RX12, TX12, 75), rfl, tw_1871⟩
theorem tw_1853 : Cond.methodLink "SootQueenLaw" 131 ⟨"SootQueenModel", "has", "(IZ)I"⟩ ∈ lw_tbl := List.mem_append_right _ (List.mem_of_getElem? (i := 1853) (by decide +kernel))
theorem tw_1856 : Cond.code ⟨"SootQueenModel", "has", "(IZ)I"⟩ prog_14_method_74_code 3 (some .int) ∈ lw_tbl := List.mem_append_right _ (List.mem_of_getElem? (i := 1856) (by decide +kernel))
theorem tw_1854 : Cond.instanceMethod ⟨"SootQueenModel", "has", "(IZ)I"⟩ ∈ lw_tbl := List.mem_append_right _ (List.mem_of_getElem? (i := 1854) (by decide +kernel))
theorem tw_1855 : Cond.selects "SootQueenModel" ⟨"SootQueenModel", "has", "(IZ)I"⟩ ⟨"SootQueenModel", "has", "(IZ)I"⟩ ∈ lw_tbl := List.mem_append_right _ (List.mem_of_getElem? (i := 1855) (by decide +kernel))
theorem cw_L_131 : mm_CV RL 131 MX12_has 12 2 := ⟨⟨Or.inl tw_1853, tw_1856, tw_14, ⟨by decide, by decide⟩, by decide +kernel, by decide⟩, tw_1854, by decide, (RX12, TX12, 75), rfl, tw_1855⟩
theorem tw_1104 : Cond.methodLink "SootQueenLaw" 128 ⟨"SootQueenLaw", "has", "(LSootQueen;IZ[J)I"⟩ ∈ lw_tbl := List.mem_append_right _ (List.mem_of_getElem? (i := 1104) (by decide +kernel))
theorem tw_1106 : Cond.codeWith ML_has.1 ML_has.2.1 ML_has.2.2.1 ML_has.2.2.2.1 ML_has.2.2.2.2 ∈ lw_tbl := List.mem_append_right _ (List.mem_of_getElem? (i := 1106) (by decide +kernel))
theorem tw_1105 : Cond.static ⟨"SootQueenLaw", "has", "(LSootQueen;IZ[J)I"⟩ ∈ lw_tbl := List.mem_append_right _ (List.mem_of_getElem? (i := 1105) (by decide +kernel))
theorem cx_128 : mm_CSW RL 128 ML_has 4 := ⟨tw_1104, tw_1106, tw_0, ⟨by decide, by decide⟩, by decide +kernel, by decide, tw_1105⟩
theorem tw_1072 : Cond.methodLink "SootQueenLaw" 125 ⟨"SootQueenLaw", "ends", "(LSootQueen;I[J)I"⟩ ∈ lw_tbl := List.mem_append_right _ (List.mem_of_getElem? (i := 1072) (by decide +kernel))
theorem tw_1074 : Cond.codeWith ML_ends.1 ML_ends.2.1 ML_ends.2.2.1 ML_ends.2.2.2.1 ML_ends.2.2.2.2 ∈ lw_tbl := List.mem_append_right _ (List.mem_of_getElem? (i := 1074) (by decide +kernel))
theorem tw_1073 : Cond.static ⟨"SootQueenLaw", "ends", "(LSootQueen;I[J)I"⟩ ∈ lw_tbl := List.mem_append_right _ (List.mem_of_getElem? (i := 1073) (by decide +kernel))
theorem cx_125 : mm_CSW RL 125 ML_ends 3 := ⟨tw_1072, tw_1074, tw_0, ⟨by decide, by decide⟩, by decide +kernel, by decide, tw_1073⟩
theorem tw_1833 : Cond.methodLink "SootQueenLaw" 127 ⟨"SootQueenModel", "ends", "(I)I"⟩ ∈ lw_tbl := List.mem_append_right _ (List.mem_of_getElem? (i := 1833) (by decide +kernel))
theorem tw_1836 : Cond.code ⟨"SootQueenModel", "ends", "(I)I"⟩ prog_14_method_73_code 2 (some .int) ∈ lw_tbl := List.mem_append_right _ (List.mem_of_getElem? (i := 1836) (by decide +kernel))
theorem tw_1834 : Cond.instanceMethod ⟨"SootQueenModel", "ends", "(I)I"⟩ ∈ lw_tbl := List.mem_append_right _ (List.mem_of_getElem? (i := 1834) (by decide +kernel))
theorem tw_1835 : Cond.selects "SootQueenModel" ⟨"SootQueenModel", "ends", "(I)I"⟩ ⟨"SootQueenModel", "ends", "(I)I"⟩ ∈ lw_tbl := List.mem_append_right _ (List.mem_of_getElem? (i := 1835) (by decide +kernel))
theorem cw_L_127 : mm_CV RL 127 MX12_ends 12 1 := ⟨⟨Or.inl tw_1833, tw_1836, tw_14, ⟨by decide, by decide⟩, by decide +kernel, by decide⟩, tw_1834, by decide, (RX12, TX12, 75), rfl, tw_1835⟩
theorem tw_681 : Cond.methodLink "SootQueenLaw" 121 ⟨"SootQueen", "undo", "()I"⟩ ∈ lw_tbl := List.mem_append_right _ (List.mem_of_getElem? (i := 681) (by decide +kernel))
theorem tw_684 : Cond.code ⟨"SootQueen", "undo", "()I"⟩ prog_1_method_10_code 1 (some .int) ∈ lw_tbl := List.mem_append_right _ (List.mem_of_getElem? (i := 684) (by decide +kernel))
theorem tw_682 : Cond.instanceMethod ⟨"SootQueen", "undo", "()I"⟩ ∈ lw_tbl := List.mem_append_right _ (List.mem_of_getElem? (i := 682) (by decide +kernel))
theorem tw_683 : Cond.selects "SootQueen" ⟨"SootQueen", "undo", "()I"⟩ ⟨"SootQueen", "undo", "()I"⟩ ∈ lw_tbl := List.mem_append_right _ (List.mem_of_getElem? (i := 683) (by decide +kernel))
theorem cw_L_121 : mm_CV RL 121 MX11_undo 11 0 := ⟨⟨Or.inl tw_681, tw_684, tw_1, ⟨by decide, by decide⟩, by decide +kernel, by decide⟩, tw_682, by decide, (RX11, TX11, 19), rfl, tw_683⟩
theorem tw_1825 : Cond.methodLink "SootQueenLaw" 124 ⟨"SootQueenModel", "undo", "()I"⟩ ∈ lw_tbl := List.mem_append_right _ (List.mem_of_getElem? (i := 1825) (by decide +kernel))
theorem tw_1828 : Cond.code ⟨"SootQueenModel", "undo", "()I"⟩ prog_14_method_69_code 2 (some .int) ∈ lw_tbl := List.mem_append_right _ (List.mem_of_getElem? (i := 1828) (by decide +kernel))
theorem tw_1826 : Cond.instanceMethod ⟨"SootQueenModel", "undo", "()I"⟩ ∈ lw_tbl := List.mem_append_right _ (List.mem_of_getElem? (i := 1826) (by decide +kernel))
theorem tw_1827 : Cond.selects "SootQueenModel" ⟨"SootQueenModel", "undo", "()I"⟩ ⟨"SootQueenModel", "undo", "()I"⟩ ∈ lw_tbl := List.mem_append_right _ (List.mem_of_getElem? (i := 1827) (by decide +kernel))
theorem cw_L_124 : mm_CV RL 124 MX12_undo 12 0 := ⟨⟨Or.inl tw_1825, tw_1828, tw_14, ⟨by decide, by decide⟩, by decide +kernel, by decide⟩, tw_1826, by decide, (RX12, TX12, 75), rfl, tw_1827⟩
theorem tw_1057 : Cond.methodLink "SootQueenLaw" 118 ⟨"SootQueenLaw", "play", "(LSootQueen;I[J)I"⟩ ∈ lw_tbl := List.mem_append_right _ (List.mem_of_getElem? (i := 1057) (by decide +kernel))
theorem tw_1059 : Cond.codeWith ML_play.1 ML_play.2.1 ML_play.2.2.1 ML_play.2.2.2.1 ML_play.2.2.2.2 ∈ lw_tbl := List.mem_append_right _ (List.mem_of_getElem? (i := 1059) (by decide +kernel))
theorem tw_1058 : Cond.static ⟨"SootQueenLaw", "play", "(LSootQueen;I[J)I"⟩ ∈ lw_tbl := List.mem_append_right _ (List.mem_of_getElem? (i := 1058) (by decide +kernel))
theorem cx_118 : mm_CSW RL 118 ML_play 3 := ⟨tw_1057, tw_1059, tw_0, ⟨by decide, by decide⟩, by decide +kernel, by decide, tw_1058⟩
theorem tw_1821 : Cond.methodLink "SootQueenLaw" 120 ⟨"SootQueenModel", "play", "(I)I"⟩ ∈ lw_tbl := List.mem_append_right _ (List.mem_of_getElem? (i := 1821) (by decide +kernel))
theorem tw_1824 : Cond.code ⟨"SootQueenModel", "play", "(I)I"⟩ prog_14_method_68_code 3 (some .int) ∈ lw_tbl := List.mem_append_right _ (List.mem_of_getElem? (i := 1824) (by decide +kernel))
theorem tw_1822 : Cond.instanceMethod ⟨"SootQueenModel", "play", "(I)I"⟩ ∈ lw_tbl := List.mem_append_right _ (List.mem_of_getElem? (i := 1822) (by decide +kernel))
theorem tw_1823 : Cond.selects "SootQueenModel" ⟨"SootQueenModel", "play", "(I)I"⟩ ⟨"SootQueenModel", "play", "(I)I"⟩ ∈ lw_tbl := List.mem_append_right _ (List.mem_of_getElem? (i := 1823) (by decide +kernel))
theorem cw_L_120 : mm_CV RL 120 MX12_play 12 1 := ⟨⟨Or.inl tw_1821, tw_1824, tw_14, ⟨by decide, by decide⟩, by decide +kernel, by decide⟩, tw_1822, by decide, (RX12, TX12, 75), rfl, tw_1823⟩
theorem tw_610 : Cond.methodLink "SootQueenLaw" 114 ⟨"SootQueen", "draw", "(I)I"⟩ ∈ lw_tbl := List.mem_append_right _ (List.mem_of_getElem? (i := 610) (by decide +kernel))
theorem tw_613 : Cond.code ⟨"SootQueen", "draw", "(I)I"⟩ prog_1_method_8_code 3 (some .int) ∈ lw_tbl := List.mem_append_right _ (List.mem_of_getElem? (i := 613) (by decide +kernel))
theorem tw_611 : Cond.instanceMethod ⟨"SootQueen", "draw", "(I)I"⟩ ∈ lw_tbl := List.mem_append_right _ (List.mem_of_getElem? (i := 611) (by decide +kernel))
theorem tw_612 : Cond.selects "SootQueen" ⟨"SootQueen", "draw", "(I)I"⟩ ⟨"SootQueen", "draw", "(I)I"⟩ ∈ lw_tbl := List.mem_append_right _ (List.mem_of_getElem? (i := 612) (by decide +kernel))
theorem cw_L_114 : mm_CV RL 114 MX11_draw 11 1 := ⟨⟨Or.inl tw_610, tw_613, tw_1, ⟨by decide, by decide⟩, by decide +kernel, by decide⟩, tw_611, by decide, (RX11, TX11, 19), rfl, tw_612⟩
theorem tw_1805 : Cond.methodLink "SootQueenLaw" 117 ⟨"SootQueenModel", "draw", "(I)I"⟩ ∈ lw_tbl := List.mem_append_right _ (List.mem_of_getElem? (i := 1805) (by decide +kernel))
theorem tw_1808 : Cond.code ⟨"SootQueenModel", "draw", "(I)I"⟩ prog_14_method_67_code 2 (some .int) ∈ lw_tbl := List.mem_append_right _ (List.mem_of_getElem? (i := 1808) (by decide +kernel))
theorem tw_1806 : Cond.instanceMethod ⟨"SootQueenModel", "draw", "(I)I"⟩ ∈ lw_tbl := List.mem_append_right _ (List.mem_of_getElem? (i := 1806) (by decide +kernel))
theorem tw_1807 : Cond.selects "SootQueenModel" ⟨"SootQueenModel", "draw", "(I)I"⟩ ⟨"SootQueenModel", "draw", "(I)I"⟩ ∈ lw_tbl := List.mem_append_right _ (List.mem_of_getElem? (i := 1807) (by decide +kernel))
theorem cw_L_117 : mm_CV RL 117 MX12_draw 12 1 := ⟨⟨Or.inl tw_1805, tw_1808, tw_14, ⟨by decide, by decide⟩, by decide +kernel, by decide⟩, tw_1806, by decide, (RX12, TX12, 75), rfl, tw_1807⟩
theorem tw_1041 : Cond.methodLink "SootQueenLaw" 111 ⟨"SootQueenLaw", "person", "(LSootQueen;II[J)I"⟩ ∈ lw_tbl := List.mem_append_right _ (List.mem_of_getElem? (i := 1041) (by decide +kernel))
theorem tw_1043 : Cond.codeWith ML_person.1 ML_person.2.1 ML_person.2.2.1 ML_person.2.2.2.1 ML_person.2.2.2.2 ∈ lw_tbl := List.mem_append_right _ (List.mem_of_getElem? (i := 1043) (by decide +kernel))
theorem tw_1042 : Cond.static ⟨"SootQueenLaw", "person", "(LSootQueen;II[J)I"⟩ ∈ lw_tbl := List.mem_append_right _ (List.mem_of_getElem? (i := 1042) (by decide +kernel))
theorem cx_111 : mm_CSW RL 111 ML_person 4 := ⟨tw_1041, tw_1043, tw_0, ⟨by decide, by decide⟩, by decide +kernel, by decide, tw_1042⟩
theorem tw_1779 : Cond.methodLink "SootQueenLaw" 113 ⟨"SootQueenModel", "person", "(II)I"⟩ ∈ lw_tbl := List.mem_append_right _ (List.mem_of_getElem? (i := 1779) (by decide +kernel))
theorem tw_1782 : Cond.code ⟨"SootQueenModel", "person", "(II)I"⟩ prog_14_method_62_code 4 (some .int) ∈ lw_tbl := List.mem_append_right _ (List.mem_of_getElem? (i := 1782) (by decide +kernel))
theorem tw_1780 : Cond.instanceMethod ⟨"SootQueenModel", "person", "(II)I"⟩ ∈ lw_tbl := List.mem_append_right _ (List.mem_of_getElem? (i := 1780) (by decide +kernel))
theorem tw_1781 : Cond.selects "SootQueenModel" ⟨"SootQueenModel", "person", "(II)I"⟩ ⟨"SootQueenModel", "person", "(II)I"⟩ ∈ lw_tbl := List.mem_append_right _ (List.mem_of_getElem? (i := 1781) (by decide +kernel))
theorem cw_L_113 : mm_CV RL 113 MX12_person 12 2 := ⟨⟨Or.inl tw_1779, tw_1782, tw_14, ⟨by decide, by decide⟩, by decide +kernel, by decide⟩, tw_1780, by decide, (RX12, TX12, 75), rfl, tw_1781⟩
theorem tw_1022 : Cond.methodLink "SootQueenLaw" 107 ⟨"SootQueenLaw", "fan", "(LSootQueen;II[J)I"⟩ ∈ lw_tbl := List.mem_append_right _ (List.mem_of_getElem? (i := 1022) (by decide +kernel))
theorem tw_1024 : Cond.codeWith ML_fan.1 ML_fan.2.1 ML_fan.2.2.1 ML_fan.2.2.2.1 ML_fan.2.2.2.2 ∈ lw_tbl := List.mem_append_right _ (List.mem_of_getElem? (i := 1024) (by decide +kernel))
theorem tw_1023 : Cond.static ⟨"SootQueenLaw", "fan", "(LSootQueen;II[J)I"⟩ ∈ lw_tbl := List.mem_append_right _ (List.mem_of_getElem? (i := 1023) (by decide +kernel))
theorem cx_107 : mm_CSW RL 107 ML_fan 4 := ⟨tw_1022, tw_1024, tw_0, ⟨by decide, by decide⟩, by decide +kernel, by decide, tw_1023⟩
theorem tw_1771 : Cond.methodLink "SootQueenLaw" 110 ⟨"SootQueenModel", "fan", "(II)I"⟩ ∈ lw_tbl := List.mem_append_right _ (List.mem_of_getElem? (i := 1771) (by decide +kernel))
theorem tw_1774 : Cond.code ⟨"SootQueenModel", "fan", "(II)I"⟩ prog_14_method_55_code 3 (some .int) ∈ lw_tbl := List.mem_append_right _ (List.mem_of_getElem? (i := 1774) (by decide +kernel))
theorem tw_1772 : Cond.instanceMethod ⟨"SootQueenModel", "fan", "(II)I"⟩ ∈ lw_tbl := List.mem_append_right _ (List.mem_of_getElem? (i := 1772) (by decide +kernel))
theorem tw_1773 : Cond.selects "SootQueenModel" ⟨"SootQueenModel", "fan", "(II)I"⟩ ⟨"SootQueenModel", "fan", "(II)I"⟩ ∈ lw_tbl := List.mem_append_right _ (List.mem_of_getElem? (i := 1773) (by decide +kernel))
theorem cw_L_110 : mm_CV RL 110 MX12_fan 12 2 := ⟨⟨Or.inl tw_1771, tw_1774, tw_14, ⟨by decide, by decide⟩, by decide +kernel, by decide⟩, tw_1772, by decide, (RX12, TX12, 75), rfl, tw_1773⟩
theorem tw_989 : Cond.methodLink "SootQueenLaw" 104 ⟨"SootQueenLaw", "count", "(LSootQueen;I[J)I"⟩ ∈ lw_tbl := List.mem_append_right _ (List.mem_of_getElem? (i := 989) (by decide +kernel))
theorem tw_991 : Cond.codeWith ML_count.1 ML_count.2.1 ML_count.2.2.1 ML_count.2.2.2.1 ML_count.2.2.2.2 ∈ lw_tbl := List.mem_append_right _ (List.mem_of_getElem? (i := 991) (by decide +kernel))
theorem tw_990 : Cond.static ⟨"SootQueenLaw", "count", "(LSootQueen;I[J)I"⟩ ∈ lw_tbl := List.mem_append_right _ (List.mem_of_getElem? (i := 990) (by decide +kernel))
theorem cx_104 : mm_CSW RL 104 ML_count 3 := ⟨tw_989, tw_991, tw_0, ⟨by decide, by decide⟩, by decide +kernel, by decide, tw_990⟩
theorem tw_1760 : Cond.methodLink "SootQueenLaw" 106 ⟨"SootQueenModel", "count", "(I)I"⟩ ∈ lw_tbl := List.mem_append_right _ (List.mem_of_getElem? (i := 1760) (by decide +kernel))
theorem tw_1763 : Cond.code ⟨"SootQueenModel", "count", "(I)I"⟩ prog_14_method_52_code 2 (some .int) ∈ lw_tbl := List.mem_append_right _ (List.mem_of_getElem? (i := 1763) (by decide +kernel))
theorem tw_1761 : Cond.instanceMethod ⟨"SootQueenModel", "count", "(I)I"⟩ ∈ lw_tbl := List.mem_append_right _ (List.mem_of_getElem? (i := 1761) (by decide +kernel))
theorem tw_1762 : Cond.selects "SootQueenModel" ⟨"SootQueenModel", "count", "(I)I"⟩ ⟨"SootQueenModel", "count", "(I)I"⟩ ∈ lw_tbl := List.mem_append_right _ (List.mem_of_getElem? (i := 1762) (by decide +kernel))
theorem cw_L_106 : mm_CV RL 106 MX12_count 12 1 := ⟨⟨Or.inl tw_1760, tw_1763, tw_14, ⟨by decide, by decide⟩, by decide +kernel, by decide⟩, tw_1761, by decide, (RX12, TX12, 75), rfl, tw_1762⟩
theorem tw_606 : Cond.methodLink "SootQueenLaw" 100 ⟨"SootQueen", "fault", "()I"⟩ ∈ lw_tbl := List.mem_append_right _ (List.mem_of_getElem? (i := 606) (by decide +kernel))
theorem tw_609 : Cond.code ⟨"SootQueen", "fault", "()I"⟩ prog_1_method_4_code 1 (some .int) ∈ lw_tbl := List.mem_append_right _ (List.mem_of_getElem? (i := 609) (by decide +kernel))
theorem tw_607 : Cond.instanceMethod ⟨"SootQueen", "fault", "()I"⟩ ∈ lw_tbl := List.mem_append_right _ (List.mem_of_getElem? (i := 607) (by decide +kernel))
theorem tw_608 : Cond.selects "SootQueen" ⟨"SootQueen", "fault", "()I"⟩ ⟨"SootQueen", "fault", "()I"⟩ ∈ lw_tbl := List.mem_append_right _ (List.mem_of_getElem? (i := 608) (by decide +kernel))
theorem cw_L_100 : mm_CV RL 100 MX11_fault 11 0 := ⟨⟨Or.inl tw_606, tw_609, tw_1, ⟨by decide, by decide⟩, by decide +kernel, by decide⟩, tw_607, by decide, (RX11, TX11, 19), rfl, tw_608⟩
theorem tw_1756 : Cond.methodLink "SootQueenLaw" 103 ⟨"SootQueenModel", "fault", "()I"⟩ ∈ lw_tbl := List.mem_append_right _ (List.mem_of_getElem? (i := 1756) (by decide +kernel))
theorem tw_1759 : Cond.code ⟨"SootQueenModel", "fault", "()I"⟩ prog_14_method_36_code 1 (some .int) ∈ lw_tbl := List.mem_append_right _ (List.mem_of_getElem? (i := 1759) (by decide +kernel))
theorem tw_1757 : Cond.instanceMethod ⟨"SootQueenModel", "fault", "()I"⟩ ∈ lw_tbl := List.mem_append_right _ (List.mem_of_getElem? (i := 1757) (by decide +kernel))
theorem tw_1758 : Cond.selects "SootQueenModel" ⟨"SootQueenModel", "fault", "()I"⟩ ⟨"SootQueenModel", "fault", "()I"⟩ ∈ lw_tbl := List.mem_append_right _ (List.mem_of_getElem? (i := 1758) (by decide +kernel))
theorem cw_L_103 : mm_CV RL 103 MX12_fault 12 0 := ⟨⟨Or.inl tw_1756, tw_1759, tw_14, ⟨by decide, by decide⟩, by decide +kernel, by decide⟩, tw_1757, by decide, (RX12, TX12, 75), rfl, tw_1758⟩
theorem tw_710 : Cond.methodLink "SootQueenLaw" 90 ⟨"SootQueenLaw", "table", "(LSootQueen;I[J)I"⟩ ∈ lw_tbl := List.mem_append_right _ (List.mem_of_getElem? (i := 710) (by decide +kernel))
theorem tw_712 : Cond.codeWith ML_table.1 ML_table.2.1 ML_table.2.2.1 ML_table.2.2.2.1 ML_table.2.2.2.2 ∈ lw_tbl := List.mem_append_right _ (List.mem_of_getElem? (i := 712) (by decide +kernel))
theorem tw_711 : Cond.static ⟨"SootQueenLaw", "table", "(LSootQueen;I[J)I"⟩ ∈ lw_tbl := List.mem_append_right _ (List.mem_of_getElem? (i := 711) (by decide +kernel))
theorem cx_90 : mm_CSW RL 90 ML_table 3 := ⟨tw_710, tw_712, tw_0, ⟨by decide, by decide⟩, by decide +kernel, by decide, tw_711⟩
theorem tw_1641 : Cond.methodLink "SootQueenLaw" 95 ⟨"SootQueenModel", "table", "(I)I"⟩ ∈ lw_tbl := List.mem_append_right _ (List.mem_of_getElem? (i := 1641) (by decide +kernel))
theorem tw_1644 : Cond.code ⟨"SootQueenModel", "table", "(I)I"⟩ prog_14_method_35_code 4 (some .int) ∈ lw_tbl := List.mem_append_right _ (List.mem_of_getElem? (i := 1644) (by decide +kernel))
theorem tw_1642 : Cond.instanceMethod ⟨"SootQueenModel", "table", "(I)I"⟩ ∈ lw_tbl := List.mem_append_right _ (List.mem_of_getElem? (i := 1642) (by decide +kernel))
theorem tw_1643 : Cond.selects "SootQueenModel" ⟨"SootQueenModel", "table", "(I)I"⟩ ⟨"SootQueenModel", "table", "(I)I"⟩ ∈ lw_tbl := List.mem_append_right _ (List.mem_of_getElem? (i := 1643) (by decide +kernel))
theorem cw_L_95 : mm_CV RL 95 MX12_table 12 1 := ⟨⟨Or.inl tw_1641, tw_1644, tw_14, ⟨by decide, by decide⟩, by decide +kernel, by decide⟩, tw_1642, by decide, (RX12, TX12, 75), rfl, tw_1643⟩
theorem tw_598 : Cond.methodLink "SootQueenLaw" 85 ⟨"SootQueen", "feed", "(IIIII)I"⟩ ∈ lw_tbl := List.mem_append_right _ (List.mem_of_getElem? (i := 598) (by decide +kernel))
theorem tw_601 : Cond.code ⟨"SootQueen", "feed", "(IIIII)I"⟩ prog_1_method_2_code 6 (some .int) ∈ lw_tbl := List.mem_append_right _ (List.mem_of_getElem? (i := 601) (by decide +kernel))
theorem tw_599 : Cond.instanceMethod ⟨"SootQueen", "feed", "(IIIII)I"⟩ ∈ lw_tbl := List.mem_append_right _ (List.mem_of_getElem? (i := 599) (by decide +kernel))
theorem tw_600 : Cond.selects "SootQueen" ⟨"SootQueen", "feed", "(IIIII)I"⟩ ⟨"SootQueen", "feed", "(IIIII)I"⟩ ∈ lw_tbl := List.mem_append_right _ (List.mem_of_getElem? (i := 600) (by decide +kernel))
theorem cw_L_85 : mm_CV RL 85 MX11_feed 11 5 := ⟨⟨Or.inl tw_598, tw_601, tw_1, ⟨by decide, by decide⟩, by decide +kernel, by decide⟩, tw_599, by decide, (RX11, TX11, 19), rfl, tw_600⟩
theorem tw_1633 : Cond.methodLink "SootQueenLaw" 89 ⟨"SootQueenModel", "feed", "(IIIII)I"⟩ ∈ lw_tbl := List.mem_append_right _ (List.mem_of_getElem? (i := 1633) (by decide +kernel))
theorem tw_1636 : Cond.code ⟨"SootQueenModel", "feed", "(IIIII)I"⟩ prog_14_method_6_code 6 (some .int) ∈ lw_tbl := List.mem_append_right _ (List.mem_of_getElem? (i := 1636) (by decide +kernel))
theorem tw_1634 : Cond.instanceMethod ⟨"SootQueenModel", "feed", "(IIIII)I"⟩ ∈ lw_tbl := List.mem_append_right _ (List.mem_of_getElem? (i := 1634) (by decide +kernel))
theorem tw_1635 : Cond.selects "SootQueenModel" ⟨"SootQueenModel", "feed", "(IIIII)I"⟩ ⟨"SootQueenModel", "feed", "(IIIII)I"⟩ ∈ lw_tbl := List.mem_append_right _ (List.mem_of_getElem? (i := 1635) (by decide +kernel))
theorem cw_L_89 : mm_CV RL 89 MX12_feed 12 5 := ⟨⟨Or.inl tw_1633, tw_1636, tw_14, ⟨by decide, by decide⟩, by decide +kernel, by decide⟩, tw_1634, by decide, (RX12, TX12, 75), rfl, tw_1635⟩
theorem kb_31 : (Int8.ofInt (31)).toInt32 = (31 : Int32) := by decide
def L_law_b1713 (e : mm_E) (k23 : Int32 → mm_V → Option (Int32 × mm_V)) (a0 : Nat) (a1 : Nat) (a2 : Nat) (a3 : Nat) (i4 : Int32) (m : mm_V) : Option (Int32 × mm_V) := k23 (i4 + 6) m
theorem L_law_b1713_ok {K : mm_K} {q : String × List (Nat × Nat × Nat × Nat)} {e : mm_E} (hz : e.2.1 = K.2.2.2.2) (hnc : va_Nc "java/lang/IllegalArgumentException" "java/util/NoSuchElementException" K.2.1) {d : Nat} (hd : 258 ≤ d) {a0 : Nat} {a1 : Nat} {a2 : Nat} {a3 : Nat} {i4 : Int32} (hx : e.1 a1 = some (11, 19)) (hm : e.1 a2 = some (12, 75)) {k : Nat} (hk : k + 1 ≤ 514) {k23 : Int32 → mm_V → Option (Int32 × mm_V)} (hk23 : ∀ (w4 : Int32) (m : mm_V) (r : Int32 × mm_V), k23 w4 m = some r → mm_G K (ML_law q) d (1011, 17440, .inl (some (.int r.1)), (e.1, r.2), none) 23 [some (.ref a0), some (.ref a1), some (.ref a2), some (.ref a3), some (.int w4), none, none, none] [] (e.1, m) none (493 + (k + 1)) (14332 + 6 * (k + 1))) {m : mm_V} {r : Int32 × mm_V} (hr : L_law_b1713 e k23 a0 a1 a2 a3 i4 m = some r) : mm_G K (ML_law q) d (1011, 17440, .inl (some (.int r.1)), (e.1, r.2), none) 1713 [some (.ref a0), some (.ref a1), some (.ref a2), some (.ref a3), some (.int i4), none, none, none] [] (e.1, m) none (493 + (k + 1)) (14332 + 6 * (k + 1)) := by
  obtain ⟨d, rfl⟩ : ∃ d', d = d' + 1 := ⟨d - 1, by omega⟩
  unfold L_law_b1713 at hr
  refine ml_iinc (pc := 1713) dL_law_1713 (mm_get_s (mm_get_s (mm_get_s (mm_get_s mm_get_0)))) (congrArg (fun z => i4 + z) kc_6) (Nat.le_of_ble_eq_true rfl) (mm_st1_s (mm_st1_s (mm_st1_s mm_st1_r))) ?_
  refine mg_goto (pc := 1716) 23 dL_law_1716 rfl ?_
  exact mg_cs (by omega) (by omega) (mg_weak (mm_le_s (mm_le_s (mm_le_s (mm_le_s (mm_le_s (mm_le_n (mm_le_n (mm_le_n mm_le_0)))))))) (hk23 _ _ _ hr))
def L_law_b1700 (e : mm_E) (k23 : Int32 → mm_V → Option (Int32 × mm_V)) (a0 : Nat) (a1 : Nat) (a2 : Nat) (a3 : Nat) (i4 : Int32) (m : mm_V) : Option (Int32 × mm_V) := (X11_restore e a1 m).bind fun r1 => (X12_restore e a2 r1.2).bind fun r2 => if r1.1 = r2.1 then (L_law_b1713 e k23 a0 a1 a2 a3 i4  r2.2) else (mm_rz (0 : Int32) r2.2)
theorem L_law_b1700_ok {K : mm_K} {q : String × List (Nat × Nat × Nat × Nat)} {e : mm_E} (hz : e.2.1 = K.2.2.2.2) (hnc : va_Nc "java/lang/IllegalArgumentException" "java/util/NoSuchElementException" K.2.1) {d : Nat} (hd : 258 ≤ d) {a0 : Nat} {a1 : Nat} {a2 : Nat} {a3 : Nat} {i4 : Int32} (hx : e.1 a1 = some (11, 19)) (hm : e.1 a2 = some (12, 75)) {k : Nat} (hk : k + 1 ≤ 514) {k23 : Int32 → mm_V → Option (Int32 × mm_V)} (hk23 : ∀ (w4 : Int32) (m : mm_V) (r : Int32 × mm_V), k23 w4 m = some r → mm_G K (ML_law q) d (1011, 17440, .inl (some (.int r.1)), (e.1, r.2), none) 23 [some (.ref a0), some (.ref a1), some (.ref a2), some (.ref a3), some (.int w4), none, none, none] [] (e.1, m) none (493 + (k + 1)) (14332 + 6 * (k + 1))) {m : mm_V} {r : Int32 × mm_V} (hr : L_law_b1700 e k23 a0 a1 a2 a3 i4 m = some r) : mm_G K (ML_law q) d (1011, 17440, .inl (some (.int r.1)), (e.1, r.2), none) 1700 [some (.ref a0), some (.ref a1), some (.ref a2), some (.ref a3), some (.int i4), none, none, none] [] (e.1, m) none (493 + (k + 0)) (14332 + 6 * (k + 0)) := by
  obtain ⟨d, rfl⟩ : ∃ d', d = d' + 1 := ⟨d - 1, by omega⟩
  unfold L_law_b1700 at hr
  refine ml_aload_n (pc := 1700) dL_law_1700 rfl (mm_get_s mm_get_0) ?_
  refine mb_cVi (pc := 1701) (As := []) (rest := []) dL_law_1701 cw_L_178 hx hr (fun v hv => X11_restore_ok hz (by omega) hx hv) rfl (Nat.le_of_ble_eq_true rfl) (by show _ ≤ 1011; omega) (by show _ ≤ 17440; omega) (fun r1 hr => ?_)
  refine ml_aload_n (pc := 1704) dL_law_1704 rfl (mm_get_s (mm_get_s mm_get_0)) ?_
  refine mb_cVi (pc := 1705) (As := []) (rest := [.int r1.1]) dL_law_1705 cw_L_182 hm hr (fun v hv => X12_restore_ok hz (by omega) hm hv) rfl (Nat.le_of_ble_eq_true rfl) (by show _ ≤ 1011; omega) (by show _ ≤ 17440; omega) (fun r2 hr => ?_)
  refine mb_icmp_eq (pc := 1708) 1713 dL_law_1708 rfl hr (fun hr => ?_) (fun hr => ?_)
  · exact mg_cs (by omega) (by omega) (mg_weak (mm_le_s (mm_le_s (mm_le_s (mm_le_s (mm_le_s (mm_le_n (mm_le_n (mm_le_n mm_le_0)))))))) (L_law_b1713_ok hz hnc hd hx hm (by omega) hk23 hr))
  · refine mg_iconst (pc := 1711) dL_law_1711 kc_0 ?_
    exact mb_lwret dL_law_1712 rfl rfl (by show _ ≤ 1011; omega) (by show _ ≤ 17440; omega) hr
def L_law_b1689 (e : mm_E) (k23 : Int32 → mm_V → Option (Int32 × mm_V)) (a0 : Nat) (a1 : Nat) (a2 : Nat) (a3 : Nat) (i4 : Int32) (m : mm_V) : Option (Int32 × mm_V) := (X11_image e a1 m).bind fun r1 => (X12_image e a2 r1).bind fun r2 => L_law_b1713 e k23 a0 a1 a2 a3 i4  r2
theorem L_law_b1689_ok {K : mm_K} {q : String × List (Nat × Nat × Nat × Nat)} {e : mm_E} (hz : e.2.1 = K.2.2.2.2) (hnc : va_Nc "java/lang/IllegalArgumentException" "java/util/NoSuchElementException" K.2.1) {d : Nat} (hd : 258 ≤ d) {a0 : Nat} {a1 : Nat} {a2 : Nat} {a3 : Nat} {i4 : Int32} (hx : e.1 a1 = some (11, 19)) (hm : e.1 a2 = some (12, 75)) {k : Nat} (hk : k + 1 ≤ 514) {k23 : Int32 → mm_V → Option (Int32 × mm_V)} (hk23 : ∀ (w4 : Int32) (m : mm_V) (r : Int32 × mm_V), k23 w4 m = some r → mm_G K (ML_law q) d (1011, 17440, .inl (some (.int r.1)), (e.1, r.2), none) 23 [some (.ref a0), some (.ref a1), some (.ref a2), some (.ref a3), some (.int w4), none, none, none] [] (e.1, m) none (493 + (k + 1)) (14332 + 6 * (k + 1))) {m : mm_V} {r : Int32 × mm_V} (hr : L_law_b1689 e k23 a0 a1 a2 a3 i4 m = some r) : mm_G K (ML_law q) d (1011, 17440, .inl (some (.int r.1)), (e.1, r.2), none) 1689 [some (.ref a0), some (.ref a1), some (.ref a2), some (.ref a3), some (.int i4), none, none, none] [] (e.1, m) none (493 + (k + 0)) (14332 + 6 * (k + 0)) := by
  obtain ⟨d, rfl⟩ : ∃ d', d = d' + 1 := ⟨d - 1, by omega⟩
  unfold L_law_b1689 at hr
  refine ml_aload_n (pc := 1689) dL_law_1689 rfl (mm_get_s mm_get_0) ?_
  refine mb_cVv (pc := 1690) (As := []) (rest := []) dL_law_1690 cw_L_174 hx hr (fun v hv => X11_image_ok hz (by omega) hx hv) rfl (Nat.le_of_ble_eq_true rfl) (by show _ ≤ 1011; omega) (by show _ ≤ 17440; omega) (fun r1 hr => ?_)
  refine ml_aload_n (pc := 1693) dL_law_1693 rfl (mm_get_s (mm_get_s mm_get_0)) ?_
  refine mb_cVv (pc := 1694) (As := []) (rest := []) dL_law_1694 cw_L_177 hm hr (fun v hv => X12_image_ok hz (by omega) hm hv) rfl (Nat.le_of_ble_eq_true rfl) (by show _ ≤ 1011; omega) (by show _ ≤ 17440; omega) (fun r2 hr => ?_)
  refine mg_goto (pc := 1697) 1713 dL_law_1697 rfl ?_
  exact mg_cs (by omega) (by omega) (mg_weak (mm_le_s (mm_le_s (mm_le_s (mm_le_s (mm_le_s (mm_le_n (mm_le_n (mm_le_n mm_le_0)))))))) (L_law_b1713_ok hz hnc hd hx hm (by omega) hk23 hr))
def L_law_b1686 (e : mm_E) (k23 : Int32 → mm_V → Option (Int32 × mm_V)) (a0 : Nat) (a1 : Nat) (a2 : Nat) (a3 : Nat) (i4 : Int32) (m : mm_V) : Option (Int32 × mm_V) := L_law_b1713 e k23 a0 a1 a2 a3 i4  m
theorem L_law_b1686_ok {K : mm_K} {q : String × List (Nat × Nat × Nat × Nat)} {e : mm_E} (hz : e.2.1 = K.2.2.2.2) (hnc : va_Nc "java/lang/IllegalArgumentException" "java/util/NoSuchElementException" K.2.1) {d : Nat} (hd : 258 ≤ d) {a0 : Nat} {a1 : Nat} {a2 : Nat} {a3 : Nat} {i4 : Int32} (hx : e.1 a1 = some (11, 19)) (hm : e.1 a2 = some (12, 75)) {k : Nat} (hk : k + 1 ≤ 514) {k23 : Int32 → mm_V → Option (Int32 × mm_V)} (hk23 : ∀ (w4 : Int32) (m : mm_V) (r : Int32 × mm_V), k23 w4 m = some r → mm_G K (ML_law q) d (1011, 17440, .inl (some (.int r.1)), (e.1, r.2), none) 23 [some (.ref a0), some (.ref a1), some (.ref a2), some (.ref a3), some (.int w4), none, none, none] [] (e.1, m) none (493 + (k + 1)) (14332 + 6 * (k + 1))) {m : mm_V} {r : Int32 × mm_V} (hr : L_law_b1686 e k23 a0 a1 a2 a3 i4 m = some r) : mm_G K (ML_law q) d (1011, 17440, .inl (some (.int r.1)), (e.1, r.2), none) 1686 [some (.ref a0), some (.ref a1), some (.ref a2), some (.ref a3), some (.int i4), none, none, none] [] (e.1, m) none (493 + (k + 1)) (14332 + 6 * (k + 1)) := by
  obtain ⟨d, rfl⟩ : ∃ d', d = d' + 1 := ⟨d - 1, by omega⟩
  unfold L_law_b1686 at hr
  refine mg_goto (pc := 1686) 1713 dL_law_1686 rfl ?_
  exact mg_cs (by omega) (by omega) (mg_weak (mm_le_s (mm_le_s (mm_le_s (mm_le_s (mm_le_s (mm_le_n (mm_le_n (mm_le_n mm_le_0)))))))) (L_law_b1713_ok hz hnc hd hx hm (by omega) hk23 hr))
def L_law_b1609 (e : mm_E) (k23 : Int32 → mm_V → Option (Int32 × mm_V)) (a0 : Nat) (a1 : Nat) (a2 : Nat) (a3 : Nat) (i4 : Int32) (m : mm_V) : Option (Int32 × mm_V) := (mm_ai e.1 m 31 a0 (i4 + (1 : Int32))).bind fun x1 => (mm_ai e.1 m 31 a0 (i4 + (2 : Int32))).bind fun x2 => (mm_ai e.1 m 31 a0 (i4 + (3 : Int32))).bind fun x3 => (L_face e a1 x1 x2 x3 a3 m).bind fun r4 => (mm_ai e.1 r4.2 31 a0 (i4 + (1 : Int32))).bind fun x5 => (mm_ai e.1 r4.2 31 a0 (i4 + (2 : Int32))).bind fun x6 => (mm_ai e.1 r4.2 31 a0 (i4 + (3 : Int32))).bind fun x7 => (X12_face e a2 x5 x6 x7 r4.2).bind fun r8 => (X12_thrown e a2 r8.2).bind fun r9 => if r9.1 = r4.1 then (if ¬ r4.1 = 0 then (L_law_b1686 e k23 a0 a1 a2 a3 i4  r9.2) else ((mm_al e.1 r9.2 a3 (0 : Int32)).bind fun y10 => if (lg_cmp y10 r8.1.toInt64) = 0 then (L_law_b1686 e k23 a0 a1 a2 a3 i4  r9.2) else (mm_rz (0 : Int32) r9.2))) else (mm_rz (0 : Int32) r9.2)
theorem L_law_b1609_ok {K : mm_K} {q : String × List (Nat × Nat × Nat × Nat)} {e : mm_E} (hz : e.2.1 = K.2.2.2.2) (hnc : va_Nc "java/lang/IllegalArgumentException" "java/util/NoSuchElementException" K.2.1) {d : Nat} (hd : 258 ≤ d) {a0 : Nat} {a1 : Nat} {a2 : Nat} {a3 : Nat} {i4 : Int32} (hx : e.1 a1 = some (11, 19)) (hm : e.1 a2 = some (12, 75)) {k : Nat} (hk : k + 1 ≤ 514) {k23 : Int32 → mm_V → Option (Int32 × mm_V)} (hk23 : ∀ (w4 : Int32) (m : mm_V) (r : Int32 × mm_V), k23 w4 m = some r → mm_G K (ML_law q) d (1011, 17440, .inl (some (.int r.1)), (e.1, r.2), none) 23 [some (.ref a0), some (.ref a1), some (.ref a2), some (.ref a3), some (.int w4), none, none, none] [] (e.1, m) none (493 + (k + 1)) (14332 + 6 * (k + 1))) {m : mm_V} {r : Int32 × mm_V} (hr : L_law_b1609 e k23 a0 a1 a2 a3 i4 m = some r) : mm_G K (ML_law q) d (1011, 17440, .inl (some (.int r.1)), (e.1, r.2), none) 1609 [some (.ref a0), some (.ref a1), some (.ref a2), some (.ref a3), some (.int i4), none, none, none] [] (e.1, m) none (493 + (k + 0)) (14332 + 6 * (k + 0)) := by
  obtain ⟨d, rfl⟩ : ∃ d', d = d' + 1 := ⟨d - 1, by omega⟩
  unfold L_law_b1609 at hr
  refine ml_aload_n (pc := 1609) dL_law_1609 rfl (mm_get_s mm_get_0) ?_
  refine ml_aload_n (pc := 1610) dL_law_1610 rfl mm_get_0 ?_
  refine ml_iload (pc := 1611) dL_law_1611 (mm_get_s (mm_get_s (mm_get_s (mm_get_s mm_get_0)))) ?_
  refine mg_iconst (pc := 1613) dL_law_1613 kc_1 ?_
  refine mg_iadd (pc := 1614) dL_law_1614 ?_
  refine mb_ax (pc := 1615) dL_law_1615 hr (fun x1 hr => ?_)
  refine ml_aload_n (pc := 1616) dL_law_1616 rfl mm_get_0 ?_
  refine ml_iload (pc := 1617) dL_law_1617 (mm_get_s (mm_get_s (mm_get_s (mm_get_s mm_get_0)))) ?_
  refine mg_iconst (pc := 1619) dL_law_1619 kc_2 ?_
  refine mg_iadd (pc := 1620) dL_law_1620 ?_
  refine mb_ax (pc := 1621) dL_law_1621 hr (fun x2 hr => ?_)
  refine ml_aload_n (pc := 1622) dL_law_1622 rfl mm_get_0 ?_
  refine ml_iload (pc := 1623) dL_law_1623 (mm_get_s (mm_get_s (mm_get_s (mm_get_s mm_get_0)))) ?_
  refine mg_iconst (pc := 1625) dL_law_1625 kc_3 ?_
  refine mg_iadd (pc := 1626) dL_law_1626 ?_
  refine mb_ax (pc := 1627) dL_law_1627 hr (fun x3 hr => ?_)
  refine ml_aload_n (pc := 1628) dL_law_1628 rfl (mm_get_s (mm_get_s (mm_get_s mm_get_0))) ?_
  refine mb_wS (pc := 1629) (As := [.ref a1, .int x1, .int x2, .int x3, .ref a3]) (rest := []) dL_law_1629 cx_171 hr (fun v hv => L_face_ok hz hnc (by omega) hx hv) rfl (Nat.le_of_ble_eq_true rfl) (by show _ ≤ 1011; omega) (by show _ ≤ 17440; omega) (fun r4 hr => ?_)
  refine ml_istore (pc := 1632) dL_law_1632 (Nat.le_of_ble_eq_true rfl) (mm_st1_s (mm_st1_s (mm_st1_s (mm_st1_s mm_st1_i)))) ?_
  refine ml_aload_n (pc := 1634) dL_law_1634 rfl (mm_get_s (mm_get_s mm_get_0)) ?_
  refine ml_aload_n (pc := 1635) dL_law_1635 rfl mm_get_0 ?_
  refine ml_iload (pc := 1636) dL_law_1636 (mm_get_s (mm_get_s (mm_get_s (mm_get_s mm_get_0)))) ?_
  refine mg_iconst (pc := 1638) dL_law_1638 kc_1 ?_
  refine mg_iadd (pc := 1639) dL_law_1639 ?_
  refine mb_ax (pc := 1640) dL_law_1640 hr (fun x5 hr => ?_)
  refine ml_aload_n (pc := 1641) dL_law_1641 rfl mm_get_0 ?_
  refine ml_iload (pc := 1642) dL_law_1642 (mm_get_s (mm_get_s (mm_get_s (mm_get_s mm_get_0)))) ?_
  refine mg_iconst (pc := 1644) dL_law_1644 kc_2 ?_
  refine mg_iadd (pc := 1645) dL_law_1645 ?_
  refine mb_ax (pc := 1646) dL_law_1646 hr (fun x6 hr => ?_)
  refine ml_aload_n (pc := 1647) dL_law_1647 rfl mm_get_0 ?_
  refine ml_iload (pc := 1648) dL_law_1648 (mm_get_s (mm_get_s (mm_get_s (mm_get_s mm_get_0)))) ?_
  refine mg_iconst (pc := 1650) dL_law_1650 kc_3 ?_
  refine mg_iadd (pc := 1651) dL_law_1651 ?_
  refine mb_ax (pc := 1652) dL_law_1652 hr (fun x7 hr => ?_)
  refine mb_cVi (pc := 1653) (As := [.int x5, .int x6, .int x7]) (rest := []) dL_law_1653 cw_L_173 hm hr (fun v hv => X12_face_ok hz (by omega) hm hv) rfl (Nat.le_of_ble_eq_true rfl) (by show _ ≤ 1011; omega) (by show _ ≤ 17440; omega) (fun r8 hr => ?_)
  refine ml_istore (pc := 1656) dL_law_1656 (Nat.le_of_ble_eq_true rfl) (mm_st1_s (mm_st1_s (mm_st1_s (mm_st1_s (mm_st1_s mm_st1_i))))) ?_
  refine ml_aload_n (pc := 1658) dL_law_1658 rfl (mm_get_s (mm_get_s mm_get_0)) ?_
  refine mb_cVi (pc := 1659) (As := []) (rest := []) dL_law_1659 cw_L_96 hm hr (fun v hv => X12_thrown_ok hz (by omega) hm hv) rfl (Nat.le_of_ble_eq_true rfl) (by show _ ≤ 1011; omega) (by show _ ≤ 17440; omega) (fun r9 hr => ?_)
  refine ml_iload (pc := 1662) dL_law_1662 (mm_get_s (mm_get_s (mm_get_s (mm_get_s (mm_get_s mm_get_0))))) ?_
  refine mb_icmp_eq (pc := 1664) 1669 dL_law_1664 rfl hr (fun hr => ?_) (fun hr => ?_)
  · refine ml_iload (pc := 1669) dL_law_1669 (mm_get_s (mm_get_s (mm_get_s (mm_get_s (mm_get_s mm_get_0))))) ?_
    refine mb_if_ne (pc := 1671) 1686 dL_law_1671 rfl hr (fun hr => ?_) (fun hr => ?_)
    · exact mg_cs (by omega) (by omega) (mg_weak (mm_le_s (mm_le_s (mm_le_s (mm_le_s (mm_le_s (mm_le_n (mm_le_n (mm_le_n mm_le_0)))))))) (L_law_b1686_ok hz hnc hd hx hm (by omega) hk23 hr))
    · refine ml_aload_n (pc := 1674) dL_law_1674 rfl (mm_get_s (mm_get_s (mm_get_s mm_get_0))) ?_
      refine mg_iconst (pc := 1675) dL_law_1675 kc_0 ?_
      refine mb_al (pc := 1676) dL_law_1676 hr (fun y10 hr => ?_)
      refine ml_iload (pc := 1677) dL_law_1677 (mm_get_s (mm_get_s (mm_get_s (mm_get_s (mm_get_s (mm_get_s mm_get_0)))))) ?_
      refine mg_i2l (pc := 1679) dL_law_1679 ?_
      refine mg_lcmp (pc := 1680) dL_law_1680 ?_
      refine mb_if_eq (pc := 1681) 1686 dL_law_1681 rfl hr (fun hr => ?_) (fun hr => ?_)
      · exact mg_cs (by omega) (by omega) (mg_weak (mm_le_s (mm_le_s (mm_le_s (mm_le_s (mm_le_s (mm_le_n (mm_le_n (mm_le_n mm_le_0)))))))) (L_law_b1686_ok hz hnc hd hx hm (by omega) hk23 hr))
      · refine mg_iconst (pc := 1684) dL_law_1684 kc_0 ?_
        exact mb_lwret dL_law_1685 rfl rfl (by show _ ≤ 1011; omega) (by show _ ≤ 17440; omega) hr
  · refine mg_iconst (pc := 1667) dL_law_1667 kc_0 ?_
    exact mb_lwret dL_law_1668 rfl rfl (by show _ ≤ 1011; omega) (by show _ ≤ 17440; omega) hr
def L_law_b1606 (e : mm_E) (k23 : Int32 → mm_V → Option (Int32 × mm_V)) (a0 : Nat) (a1 : Nat) (a2 : Nat) (a3 : Nat) (i4 : Int32) (m : mm_V) : Option (Int32 × mm_V) := L_law_b1713 e k23 a0 a1 a2 a3 i4  m
theorem L_law_b1606_ok {K : mm_K} {q : String × List (Nat × Nat × Nat × Nat)} {e : mm_E} (hz : e.2.1 = K.2.2.2.2) (hnc : va_Nc "java/lang/IllegalArgumentException" "java/util/NoSuchElementException" K.2.1) {d : Nat} (hd : 258 ≤ d) {a0 : Nat} {a1 : Nat} {a2 : Nat} {a3 : Nat} {i4 : Int32} (hx : e.1 a1 = some (11, 19)) (hm : e.1 a2 = some (12, 75)) {k : Nat} (hk : k + 1 ≤ 514) {k23 : Int32 → mm_V → Option (Int32 × mm_V)} (hk23 : ∀ (w4 : Int32) (m : mm_V) (r : Int32 × mm_V), k23 w4 m = some r → mm_G K (ML_law q) d (1011, 17440, .inl (some (.int r.1)), (e.1, r.2), none) 23 [some (.ref a0), some (.ref a1), some (.ref a2), some (.ref a3), some (.int w4), none, none, none] [] (e.1, m) none (493 + (k + 1)) (14332 + 6 * (k + 1))) {m : mm_V} {r : Int32 × mm_V} (hr : L_law_b1606 e k23 a0 a1 a2 a3 i4 m = some r) : mm_G K (ML_law q) d (1011, 17440, .inl (some (.int r.1)), (e.1, r.2), none) 1606 [some (.ref a0), some (.ref a1), some (.ref a2), some (.ref a3), some (.int i4), none, none, none] [] (e.1, m) none (493 + (k + 1)) (14332 + 6 * (k + 1)) := by
  obtain ⟨d, rfl⟩ : ∃ d', d = d' + 1 := ⟨d - 1, by omega⟩
  unfold L_law_b1606 at hr
  refine mg_goto (pc := 1606) 1713 dL_law_1606 rfl ?_
  exact mg_cs (by omega) (by omega) (mg_weak (mm_le_s (mm_le_s (mm_le_s (mm_le_s (mm_le_s (mm_le_n (mm_le_n (mm_le_n mm_le_0)))))))) (L_law_b1713_ok hz hnc hd hx hm (by omega) hk23 hr))
def L_law_b1541 (e : mm_E) (k23 : Int32 → mm_V → Option (Int32 × mm_V)) (a0 : Nat) (a1 : Nat) (a2 : Nat) (a3 : Nat) (i4 : Int32) (m : mm_V) : Option (Int32 × mm_V) := (mm_ai e.1 m 31 a0 (i4 + (1 : Int32))).bind fun x1 => (mm_ai e.1 m 31 a0 (i4 + (2 : Int32))).bind fun x2 => (L_habit e a1 x1 x2 a3 m).bind fun r3 => (mm_ai e.1 r3.2 31 a0 (i4 + (1 : Int32))).bind fun x4 => (mm_ai e.1 r3.2 31 a0 (i4 + (2 : Int32))).bind fun x5 => (X12_habit e a2 x4 x5 r3.2).bind fun r6 => (X12_thrown e a2 r6.2).bind fun r7 => if r7.1 = r3.1 then (if ¬ r3.1 = 0 then (L_law_b1606 e k23 a0 a1 a2 a3 i4  r7.2) else ((mm_al e.1 r7.2 a3 (0 : Int32)).bind fun y8 => if (lg_cmp y8 r6.1.toInt64) = 0 then (L_law_b1606 e k23 a0 a1 a2 a3 i4  r7.2) else (mm_rz (0 : Int32) r7.2))) else (mm_rz (0 : Int32) r7.2)
theorem L_law_b1541_ok {K : mm_K} {q : String × List (Nat × Nat × Nat × Nat)} {e : mm_E} (hz : e.2.1 = K.2.2.2.2) (hnc : va_Nc "java/lang/IllegalArgumentException" "java/util/NoSuchElementException" K.2.1) {d : Nat} (hd : 258 ≤ d) {a0 : Nat} {a1 : Nat} {a2 : Nat} {a3 : Nat} {i4 : Int32} (hx : e.1 a1 = some (11, 19)) (hm : e.1 a2 = some (12, 75)) {k : Nat} (hk : k + 1 ≤ 514) {k23 : Int32 → mm_V → Option (Int32 × mm_V)} (hk23 : ∀ (w4 : Int32) (m : mm_V) (r : Int32 × mm_V), k23 w4 m = some r → mm_G K (ML_law q) d (1011, 17440, .inl (some (.int r.1)), (e.1, r.2), none) 23 [some (.ref a0), some (.ref a1), some (.ref a2), some (.ref a3), some (.int w4), none, none, none] [] (e.1, m) none (493 + (k + 1)) (14332 + 6 * (k + 1))) {m : mm_V} {r : Int32 × mm_V} (hr : L_law_b1541 e k23 a0 a1 a2 a3 i4 m = some r) : mm_G K (ML_law q) d (1011, 17440, .inl (some (.int r.1)), (e.1, r.2), none) 1541 [some (.ref a0), some (.ref a1), some (.ref a2), some (.ref a3), some (.int i4), none, none, none] [] (e.1, m) none (493 + (k + 0)) (14332 + 6 * (k + 0)) := by
  obtain ⟨d, rfl⟩ : ∃ d', d = d' + 1 := ⟨d - 1, by omega⟩
  unfold L_law_b1541 at hr
  refine ml_aload_n (pc := 1541) dL_law_1541 rfl (mm_get_s mm_get_0) ?_
  refine ml_aload_n (pc := 1542) dL_law_1542 rfl mm_get_0 ?_
  refine ml_iload (pc := 1543) dL_law_1543 (mm_get_s (mm_get_s (mm_get_s (mm_get_s mm_get_0)))) ?_
  refine mg_iconst (pc := 1545) dL_law_1545 kc_1 ?_
  refine mg_iadd (pc := 1546) dL_law_1546 ?_
  refine mb_ax (pc := 1547) dL_law_1547 hr (fun x1 hr => ?_)
  refine ml_aload_n (pc := 1548) dL_law_1548 rfl mm_get_0 ?_
  refine ml_iload (pc := 1549) dL_law_1549 (mm_get_s (mm_get_s (mm_get_s (mm_get_s mm_get_0)))) ?_
  refine mg_iconst (pc := 1551) dL_law_1551 kc_2 ?_
  refine mg_iadd (pc := 1552) dL_law_1552 ?_
  refine mb_ax (pc := 1553) dL_law_1553 hr (fun x2 hr => ?_)
  refine ml_aload_n (pc := 1554) dL_law_1554 rfl (mm_get_s (mm_get_s (mm_get_s mm_get_0))) ?_
  refine mb_wS (pc := 1555) (As := [.ref a1, .int x1, .int x2, .ref a3]) (rest := []) dL_law_1555 cx_168 hr (fun v hv => L_habit_ok hz hnc (by omega) hx hv) rfl (Nat.le_of_ble_eq_true rfl) (by show _ ≤ 1011; omega) (by show _ ≤ 17440; omega) (fun r3 hr => ?_)
  refine ml_istore (pc := 1558) dL_law_1558 (Nat.le_of_ble_eq_true rfl) (mm_st1_s (mm_st1_s (mm_st1_s (mm_st1_s mm_st1_i)))) ?_
  refine ml_aload_n (pc := 1560) dL_law_1560 rfl (mm_get_s (mm_get_s mm_get_0)) ?_
  refine ml_aload_n (pc := 1561) dL_law_1561 rfl mm_get_0 ?_
  refine ml_iload (pc := 1562) dL_law_1562 (mm_get_s (mm_get_s (mm_get_s (mm_get_s mm_get_0)))) ?_
  refine mg_iconst (pc := 1564) dL_law_1564 kc_1 ?_
  refine mg_iadd (pc := 1565) dL_law_1565 ?_
  refine mb_ax (pc := 1566) dL_law_1566 hr (fun x4 hr => ?_)
  refine ml_aload_n (pc := 1567) dL_law_1567 rfl mm_get_0 ?_
  refine ml_iload (pc := 1568) dL_law_1568 (mm_get_s (mm_get_s (mm_get_s (mm_get_s mm_get_0)))) ?_
  refine mg_iconst (pc := 1570) dL_law_1570 kc_2 ?_
  refine mg_iadd (pc := 1571) dL_law_1571 ?_
  refine mb_ax (pc := 1572) dL_law_1572 hr (fun x5 hr => ?_)
  refine mb_cVi (pc := 1573) (As := [.int x4, .int x5]) (rest := []) dL_law_1573 cw_L_170 hm hr (fun v hv => X12_habit_ok hz (by omega) hm hv) rfl (Nat.le_of_ble_eq_true rfl) (by show _ ≤ 1011; omega) (by show _ ≤ 17440; omega) (fun r6 hr => ?_)
  refine ml_istore (pc := 1576) dL_law_1576 (Nat.le_of_ble_eq_true rfl) (mm_st1_s (mm_st1_s (mm_st1_s (mm_st1_s (mm_st1_s mm_st1_i))))) ?_
  refine ml_aload_n (pc := 1578) dL_law_1578 rfl (mm_get_s (mm_get_s mm_get_0)) ?_
  refine mb_cVi (pc := 1579) (As := []) (rest := []) dL_law_1579 cw_L_96 hm hr (fun v hv => X12_thrown_ok hz (by omega) hm hv) rfl (Nat.le_of_ble_eq_true rfl) (by show _ ≤ 1011; omega) (by show _ ≤ 17440; omega) (fun r7 hr => ?_)
  refine ml_iload (pc := 1582) dL_law_1582 (mm_get_s (mm_get_s (mm_get_s (mm_get_s (mm_get_s mm_get_0))))) ?_
  refine mb_icmp_eq (pc := 1584) 1589 dL_law_1584 rfl hr (fun hr => ?_) (fun hr => ?_)
  · refine ml_iload (pc := 1589) dL_law_1589 (mm_get_s (mm_get_s (mm_get_s (mm_get_s (mm_get_s mm_get_0))))) ?_
    refine mb_if_ne (pc := 1591) 1606 dL_law_1591 rfl hr (fun hr => ?_) (fun hr => ?_)
    · exact mg_cs (by omega) (by omega) (mg_weak (mm_le_s (mm_le_s (mm_le_s (mm_le_s (mm_le_s (mm_le_n (mm_le_n (mm_le_n mm_le_0)))))))) (L_law_b1606_ok hz hnc hd hx hm (by omega) hk23 hr))
    · refine ml_aload_n (pc := 1594) dL_law_1594 rfl (mm_get_s (mm_get_s (mm_get_s mm_get_0))) ?_
      refine mg_iconst (pc := 1595) dL_law_1595 kc_0 ?_
      refine mb_al (pc := 1596) dL_law_1596 hr (fun y8 hr => ?_)
      refine ml_iload (pc := 1597) dL_law_1597 (mm_get_s (mm_get_s (mm_get_s (mm_get_s (mm_get_s (mm_get_s mm_get_0)))))) ?_
      refine mg_i2l (pc := 1599) dL_law_1599 ?_
      refine mg_lcmp (pc := 1600) dL_law_1600 ?_
      refine mb_if_eq (pc := 1601) 1606 dL_law_1601 rfl hr (fun hr => ?_) (fun hr => ?_)
      · exact mg_cs (by omega) (by omega) (mg_weak (mm_le_s (mm_le_s (mm_le_s (mm_le_s (mm_le_s (mm_le_n (mm_le_n (mm_le_n mm_le_0)))))))) (L_law_b1606_ok hz hnc hd hx hm (by omega) hk23 hr))
      · refine mg_iconst (pc := 1604) dL_law_1604 kc_0 ?_
        exact mb_lwret dL_law_1605 rfl rfl (by show _ ≤ 1011; omega) (by show _ ≤ 17440; omega) hr
  · refine mg_iconst (pc := 1587) dL_law_1587 kc_0 ?_
    exact mb_lwret dL_law_1588 rfl rfl (by show _ ≤ 1011; omega) (by show _ ≤ 17440; omega) hr
def L_law_b1538 (e : mm_E) (k23 : Int32 → mm_V → Option (Int32 × mm_V)) (a0 : Nat) (a1 : Nat) (a2 : Nat) (a3 : Nat) (i4 : Int32) (m : mm_V) : Option (Int32 × mm_V) := L_law_b1713 e k23 a0 a1 a2 a3 i4  m
theorem L_law_b1538_ok {K : mm_K} {q : String × List (Nat × Nat × Nat × Nat)} {e : mm_E} (hz : e.2.1 = K.2.2.2.2) (hnc : va_Nc "java/lang/IllegalArgumentException" "java/util/NoSuchElementException" K.2.1) {d : Nat} (hd : 258 ≤ d) {a0 : Nat} {a1 : Nat} {a2 : Nat} {a3 : Nat} {i4 : Int32} (hx : e.1 a1 = some (11, 19)) (hm : e.1 a2 = some (12, 75)) {k : Nat} (hk : k + 1 ≤ 514) {k23 : Int32 → mm_V → Option (Int32 × mm_V)} (hk23 : ∀ (w4 : Int32) (m : mm_V) (r : Int32 × mm_V), k23 w4 m = some r → mm_G K (ML_law q) d (1011, 17440, .inl (some (.int r.1)), (e.1, r.2), none) 23 [some (.ref a0), some (.ref a1), some (.ref a2), some (.ref a3), some (.int w4), none, none, none] [] (e.1, m) none (493 + (k + 1)) (14332 + 6 * (k + 1))) {m : mm_V} {r : Int32 × mm_V} (hr : L_law_b1538 e k23 a0 a1 a2 a3 i4 m = some r) : mm_G K (ML_law q) d (1011, 17440, .inl (some (.int r.1)), (e.1, r.2), none) 1538 [some (.ref a0), some (.ref a1), some (.ref a2), some (.ref a3), some (.int i4), none, none, none] [] (e.1, m) none (493 + (k + 1)) (14332 + 6 * (k + 1)) := by
  obtain ⟨d, rfl⟩ : ∃ d', d = d' + 1 := ⟨d - 1, by omega⟩
  unfold L_law_b1538 at hr
  refine mg_goto (pc := 1538) 1713 dL_law_1538 rfl ?_
  exact mg_cs (by omega) (by omega) (mg_weak (mm_le_s (mm_le_s (mm_le_s (mm_le_s (mm_le_s (mm_le_n (mm_le_n (mm_le_n mm_le_0)))))))) (L_law_b1713_ok hz hnc hd hx hm (by omega) hk23 hr))
def L_law_b1485 (e : mm_E) (k23 : Int32 → mm_V → Option (Int32 × mm_V)) (a0 : Nat) (a1 : Nat) (a2 : Nat) (a3 : Nat) (i4 : Int32) (m : mm_V) : Option (Int32 × mm_V) := (mm_ai e.1 m 31 a0 (i4 + (1 : Int32))).bind fun x1 => (L_rank e a1 x1 a3 m).bind fun r2 => (mm_ai e.1 r2.2 31 a0 (i4 + (1 : Int32))).bind fun x3 => (X12_rank e a2 x3 r2.2).bind fun r4 => (X12_thrown e a2 r4.2).bind fun r5 => if r5.1 = r2.1 then (if ¬ r2.1 = 0 then (L_law_b1538 e k23 a0 a1 a2 a3 i4  r5.2) else ((mm_al e.1 r5.2 a3 (0 : Int32)).bind fun y6 => if (lg_cmp y6 r4.1.toInt64) = 0 then (L_law_b1538 e k23 a0 a1 a2 a3 i4  r5.2) else (mm_rz (0 : Int32) r5.2))) else (mm_rz (0 : Int32) r5.2)
theorem L_law_b1485_ok {K : mm_K} {q : String × List (Nat × Nat × Nat × Nat)} {e : mm_E} (hz : e.2.1 = K.2.2.2.2) (hnc : va_Nc "java/lang/IllegalArgumentException" "java/util/NoSuchElementException" K.2.1) {d : Nat} (hd : 258 ≤ d) {a0 : Nat} {a1 : Nat} {a2 : Nat} {a3 : Nat} {i4 : Int32} (hx : e.1 a1 = some (11, 19)) (hm : e.1 a2 = some (12, 75)) {k : Nat} (hk : k + 1 ≤ 514) {k23 : Int32 → mm_V → Option (Int32 × mm_V)} (hk23 : ∀ (w4 : Int32) (m : mm_V) (r : Int32 × mm_V), k23 w4 m = some r → mm_G K (ML_law q) d (1011, 17440, .inl (some (.int r.1)), (e.1, r.2), none) 23 [some (.ref a0), some (.ref a1), some (.ref a2), some (.ref a3), some (.int w4), none, none, none] [] (e.1, m) none (493 + (k + 1)) (14332 + 6 * (k + 1))) {m : mm_V} {r : Int32 × mm_V} (hr : L_law_b1485 e k23 a0 a1 a2 a3 i4 m = some r) : mm_G K (ML_law q) d (1011, 17440, .inl (some (.int r.1)), (e.1, r.2), none) 1485 [some (.ref a0), some (.ref a1), some (.ref a2), some (.ref a3), some (.int i4), none, none, none] [] (e.1, m) none (493 + (k + 0)) (14332 + 6 * (k + 0)) := by
  obtain ⟨d, rfl⟩ : ∃ d', d = d' + 1 := ⟨d - 1, by omega⟩
  unfold L_law_b1485 at hr
  refine ml_aload_n (pc := 1485) dL_law_1485 rfl (mm_get_s mm_get_0) ?_
  refine ml_aload_n (pc := 1486) dL_law_1486 rfl mm_get_0 ?_
  refine ml_iload (pc := 1487) dL_law_1487 (mm_get_s (mm_get_s (mm_get_s (mm_get_s mm_get_0)))) ?_
  refine mg_iconst (pc := 1489) dL_law_1489 kc_1 ?_
  refine mg_iadd (pc := 1490) dL_law_1490 ?_
  refine mb_ax (pc := 1491) dL_law_1491 hr (fun x1 hr => ?_)
  refine ml_aload_n (pc := 1492) dL_law_1492 rfl (mm_get_s (mm_get_s (mm_get_s mm_get_0))) ?_
  refine mb_wS (pc := 1493) (As := [.ref a1, .int x1, .ref a3]) (rest := []) dL_law_1493 cx_165 hr (fun v hv => L_rank_ok hz hnc (by omega) hx hv) rfl (Nat.le_of_ble_eq_true rfl) (by show _ ≤ 1011; omega) (by show _ ≤ 17440; omega) (fun r2 hr => ?_)
  refine ml_istore (pc := 1496) dL_law_1496 (Nat.le_of_ble_eq_true rfl) (mm_st1_s (mm_st1_s (mm_st1_s (mm_st1_s mm_st1_i)))) ?_
  refine ml_aload_n (pc := 1498) dL_law_1498 rfl (mm_get_s (mm_get_s mm_get_0)) ?_
  refine ml_aload_n (pc := 1499) dL_law_1499 rfl mm_get_0 ?_
  refine ml_iload (pc := 1500) dL_law_1500 (mm_get_s (mm_get_s (mm_get_s (mm_get_s mm_get_0)))) ?_
  refine mg_iconst (pc := 1502) dL_law_1502 kc_1 ?_
  refine mg_iadd (pc := 1503) dL_law_1503 ?_
  refine mb_ax (pc := 1504) dL_law_1504 hr (fun x3 hr => ?_)
  refine mb_cVi (pc := 1505) (As := [.int x3]) (rest := []) dL_law_1505 cw_L_167 hm hr (fun v hv => X12_rank_ok hz (by omega) hm hv) rfl (Nat.le_of_ble_eq_true rfl) (by show _ ≤ 1011; omega) (by show _ ≤ 17440; omega) (fun r4 hr => ?_)
  refine ml_istore (pc := 1508) dL_law_1508 (Nat.le_of_ble_eq_true rfl) (mm_st1_s (mm_st1_s (mm_st1_s (mm_st1_s (mm_st1_s mm_st1_i))))) ?_
  refine ml_aload_n (pc := 1510) dL_law_1510 rfl (mm_get_s (mm_get_s mm_get_0)) ?_
  refine mb_cVi (pc := 1511) (As := []) (rest := []) dL_law_1511 cw_L_96 hm hr (fun v hv => X12_thrown_ok hz (by omega) hm hv) rfl (Nat.le_of_ble_eq_true rfl) (by show _ ≤ 1011; omega) (by show _ ≤ 17440; omega) (fun r5 hr => ?_)
  refine ml_iload (pc := 1514) dL_law_1514 (mm_get_s (mm_get_s (mm_get_s (mm_get_s (mm_get_s mm_get_0))))) ?_
  refine mb_icmp_eq (pc := 1516) 1521 dL_law_1516 rfl hr (fun hr => ?_) (fun hr => ?_)
  · refine ml_iload (pc := 1521) dL_law_1521 (mm_get_s (mm_get_s (mm_get_s (mm_get_s (mm_get_s mm_get_0))))) ?_
    refine mb_if_ne (pc := 1523) 1538 dL_law_1523 rfl hr (fun hr => ?_) (fun hr => ?_)
    · exact mg_cs (by omega) (by omega) (mg_weak (mm_le_s (mm_le_s (mm_le_s (mm_le_s (mm_le_s (mm_le_n (mm_le_n (mm_le_n mm_le_0)))))))) (L_law_b1538_ok hz hnc hd hx hm (by omega) hk23 hr))
    · refine ml_aload_n (pc := 1526) dL_law_1526 rfl (mm_get_s (mm_get_s (mm_get_s mm_get_0))) ?_
      refine mg_iconst (pc := 1527) dL_law_1527 kc_0 ?_
      refine mb_al (pc := 1528) dL_law_1528 hr (fun y6 hr => ?_)
      refine ml_iload (pc := 1529) dL_law_1529 (mm_get_s (mm_get_s (mm_get_s (mm_get_s (mm_get_s (mm_get_s mm_get_0)))))) ?_
      refine mg_i2l (pc := 1531) dL_law_1531 ?_
      refine mg_lcmp (pc := 1532) dL_law_1532 ?_
      refine mb_if_eq (pc := 1533) 1538 dL_law_1533 rfl hr (fun hr => ?_) (fun hr => ?_)
      · exact mg_cs (by omega) (by omega) (mg_weak (mm_le_s (mm_le_s (mm_le_s (mm_le_s (mm_le_s (mm_le_n (mm_le_n (mm_le_n mm_le_0)))))))) (L_law_b1538_ok hz hnc hd hx hm (by omega) hk23 hr))
      · refine mg_iconst (pc := 1536) dL_law_1536 kc_0 ?_
        exact mb_lwret dL_law_1537 rfl rfl (by show _ ≤ 1011; omega) (by show _ ≤ 17440; omega) hr
  · refine mg_iconst (pc := 1519) dL_law_1519 kc_0 ?_
    exact mb_lwret dL_law_1520 rfl rfl (by show _ ≤ 1011; omega) (by show _ ≤ 17440; omega) hr
def L_law_b1482 (e : mm_E) (k23 : Int32 → mm_V → Option (Int32 × mm_V)) (a0 : Nat) (a1 : Nat) (a2 : Nat) (a3 : Nat) (i4 : Int32) (m : mm_V) : Option (Int32 × mm_V) := L_law_b1713 e k23 a0 a1 a2 a3 i4  m
theorem L_law_b1482_ok {K : mm_K} {q : String × List (Nat × Nat × Nat × Nat)} {e : mm_E} (hz : e.2.1 = K.2.2.2.2) (hnc : va_Nc "java/lang/IllegalArgumentException" "java/util/NoSuchElementException" K.2.1) {d : Nat} (hd : 258 ≤ d) {a0 : Nat} {a1 : Nat} {a2 : Nat} {a3 : Nat} {i4 : Int32} (hx : e.1 a1 = some (11, 19)) (hm : e.1 a2 = some (12, 75)) {k : Nat} (hk : k + 1 ≤ 514) {k23 : Int32 → mm_V → Option (Int32 × mm_V)} (hk23 : ∀ (w4 : Int32) (m : mm_V) (r : Int32 × mm_V), k23 w4 m = some r → mm_G K (ML_law q) d (1011, 17440, .inl (some (.int r.1)), (e.1, r.2), none) 23 [some (.ref a0), some (.ref a1), some (.ref a2), some (.ref a3), some (.int w4), none, none, none] [] (e.1, m) none (493 + (k + 1)) (14332 + 6 * (k + 1))) {m : mm_V} {r : Int32 × mm_V} (hr : L_law_b1482 e k23 a0 a1 a2 a3 i4 m = some r) : mm_G K (ML_law q) d (1011, 17440, .inl (some (.int r.1)), (e.1, r.2), none) 1482 [some (.ref a0), some (.ref a1), some (.ref a2), some (.ref a3), some (.int i4), none, none, none] [] (e.1, m) none (493 + (k + 1)) (14332 + 6 * (k + 1)) := by
  obtain ⟨d, rfl⟩ : ∃ d', d = d' + 1 := ⟨d - 1, by omega⟩
  unfold L_law_b1482 at hr
  refine mg_goto (pc := 1482) 1713 dL_law_1482 rfl ?_
  exact mg_cs (by omega) (by omega) (mg_weak (mm_le_s (mm_le_s (mm_le_s (mm_le_s (mm_le_s (mm_le_n (mm_le_n (mm_le_n mm_le_0)))))))) (L_law_b1713_ok hz hnc hd hx hm (by omega) hk23 hr))
def L_law_b1429 (e : mm_E) (k23 : Int32 → mm_V → Option (Int32 × mm_V)) (a0 : Nat) (a1 : Nat) (a2 : Nat) (a3 : Nat) (i4 : Int32) (m : mm_V) : Option (Int32 × mm_V) := (mm_ai e.1 m 31 a0 (i4 + (1 : Int32))).bind fun x1 => (L_isOut e a1 x1 a3 m).bind fun r2 => (mm_ai e.1 r2.2 31 a0 (i4 + (1 : Int32))).bind fun x3 => (X12_isOut e a2 x3 r2.2).bind fun r4 => (X12_thrown e a2 r4.2).bind fun r5 => if r5.1 = r2.1 then (if ¬ r2.1 = 0 then (L_law_b1482 e k23 a0 a1 a2 a3 i4  r5.2) else ((mm_al e.1 r5.2 a3 (0 : Int32)).bind fun y6 => if (lg_cmp y6 r4.1.toInt64) = 0 then (L_law_b1482 e k23 a0 a1 a2 a3 i4  r5.2) else (mm_rz (0 : Int32) r5.2))) else (mm_rz (0 : Int32) r5.2)
theorem L_law_b1429_ok {K : mm_K} {q : String × List (Nat × Nat × Nat × Nat)} {e : mm_E} (hz : e.2.1 = K.2.2.2.2) (hnc : va_Nc "java/lang/IllegalArgumentException" "java/util/NoSuchElementException" K.2.1) {d : Nat} (hd : 258 ≤ d) {a0 : Nat} {a1 : Nat} {a2 : Nat} {a3 : Nat} {i4 : Int32} (hx : e.1 a1 = some (11, 19)) (hm : e.1 a2 = some (12, 75)) {k : Nat} (hk : k + 1 ≤ 514) {k23 : Int32 → mm_V → Option (Int32 × mm_V)} (hk23 : ∀ (w4 : Int32) (m : mm_V) (r : Int32 × mm_V), k23 w4 m = some r → mm_G K (ML_law q) d (1011, 17440, .inl (some (.int r.1)), (e.1, r.2), none) 23 [some (.ref a0), some (.ref a1), some (.ref a2), some (.ref a3), some (.int w4), none, none, none] [] (e.1, m) none (493 + (k + 1)) (14332 + 6 * (k + 1))) {m : mm_V} {r : Int32 × mm_V} (hr : L_law_b1429 e k23 a0 a1 a2 a3 i4 m = some r) : mm_G K (ML_law q) d (1011, 17440, .inl (some (.int r.1)), (e.1, r.2), none) 1429 [some (.ref a0), some (.ref a1), some (.ref a2), some (.ref a3), some (.int i4), none, none, none] [] (e.1, m) none (493 + (k + 0)) (14332 + 6 * (k + 0)) := by
  obtain ⟨d, rfl⟩ : ∃ d', d = d' + 1 := ⟨d - 1, by omega⟩
  unfold L_law_b1429 at hr
  refine ml_aload_n (pc := 1429) dL_law_1429 rfl (mm_get_s mm_get_0) ?_
  refine ml_aload_n (pc := 1430) dL_law_1430 rfl mm_get_0 ?_
  refine ml_iload (pc := 1431) dL_law_1431 (mm_get_s (mm_get_s (mm_get_s (mm_get_s mm_get_0)))) ?_
  refine mg_iconst (pc := 1433) dL_law_1433 kc_1 ?_
  refine mg_iadd (pc := 1434) dL_law_1434 ?_
  refine mb_ax (pc := 1435) dL_law_1435 hr (fun x1 hr => ?_)
  refine ml_aload_n (pc := 1436) dL_law_1436 rfl (mm_get_s (mm_get_s (mm_get_s mm_get_0))) ?_
  refine mb_wS (pc := 1437) (As := [.ref a1, .int x1, .ref a3]) (rest := []) dL_law_1437 cx_162 hr (fun v hv => L_isOut_ok hz hnc (by omega) hx hv) rfl (Nat.le_of_ble_eq_true rfl) (by show _ ≤ 1011; omega) (by show _ ≤ 17440; omega) (fun r2 hr => ?_)
  refine ml_istore (pc := 1440) dL_law_1440 (Nat.le_of_ble_eq_true rfl) (mm_st1_s (mm_st1_s (mm_st1_s (mm_st1_s mm_st1_i)))) ?_
  refine ml_aload_n (pc := 1442) dL_law_1442 rfl (mm_get_s (mm_get_s mm_get_0)) ?_
  refine ml_aload_n (pc := 1443) dL_law_1443 rfl mm_get_0 ?_
  refine ml_iload (pc := 1444) dL_law_1444 (mm_get_s (mm_get_s (mm_get_s (mm_get_s mm_get_0)))) ?_
  refine mg_iconst (pc := 1446) dL_law_1446 kc_1 ?_
  refine mg_iadd (pc := 1447) dL_law_1447 ?_
  refine mb_ax (pc := 1448) dL_law_1448 hr (fun x3 hr => ?_)
  refine mb_cVi (pc := 1449) (As := [.int x3]) (rest := []) dL_law_1449 cw_L_164 hm hr (fun v hv => X12_isOut_ok hz (by omega) hm hv) rfl (Nat.le_of_ble_eq_true rfl) (by show _ ≤ 1011; omega) (by show _ ≤ 17440; omega) (fun r4 hr => ?_)
  refine ml_istore (pc := 1452) dL_law_1452 (Nat.le_of_ble_eq_true rfl) (mm_st1_s (mm_st1_s (mm_st1_s (mm_st1_s (mm_st1_s mm_st1_i))))) ?_
  refine ml_aload_n (pc := 1454) dL_law_1454 rfl (mm_get_s (mm_get_s mm_get_0)) ?_
  refine mb_cVi (pc := 1455) (As := []) (rest := []) dL_law_1455 cw_L_96 hm hr (fun v hv => X12_thrown_ok hz (by omega) hm hv) rfl (Nat.le_of_ble_eq_true rfl) (by show _ ≤ 1011; omega) (by show _ ≤ 17440; omega) (fun r5 hr => ?_)
  refine ml_iload (pc := 1458) dL_law_1458 (mm_get_s (mm_get_s (mm_get_s (mm_get_s (mm_get_s mm_get_0))))) ?_
  refine mb_icmp_eq (pc := 1460) 1465 dL_law_1460 rfl hr (fun hr => ?_) (fun hr => ?_)
  · refine ml_iload (pc := 1465) dL_law_1465 (mm_get_s (mm_get_s (mm_get_s (mm_get_s (mm_get_s mm_get_0))))) ?_
    refine mb_if_ne (pc := 1467) 1482 dL_law_1467 rfl hr (fun hr => ?_) (fun hr => ?_)
    · exact mg_cs (by omega) (by omega) (mg_weak (mm_le_s (mm_le_s (mm_le_s (mm_le_s (mm_le_s (mm_le_n (mm_le_n (mm_le_n mm_le_0)))))))) (L_law_b1482_ok hz hnc hd hx hm (by omega) hk23 hr))
    · refine ml_aload_n (pc := 1470) dL_law_1470 rfl (mm_get_s (mm_get_s (mm_get_s mm_get_0))) ?_
      refine mg_iconst (pc := 1471) dL_law_1471 kc_0 ?_
      refine mb_al (pc := 1472) dL_law_1472 hr (fun y6 hr => ?_)
      refine ml_iload (pc := 1473) dL_law_1473 (mm_get_s (mm_get_s (mm_get_s (mm_get_s (mm_get_s (mm_get_s mm_get_0)))))) ?_
      refine mg_i2l (pc := 1475) dL_law_1475 ?_
      refine mg_lcmp (pc := 1476) dL_law_1476 ?_
      refine mb_if_eq (pc := 1477) 1482 dL_law_1477 rfl hr (fun hr => ?_) (fun hr => ?_)
      · exact mg_cs (by omega) (by omega) (mg_weak (mm_le_s (mm_le_s (mm_le_s (mm_le_s (mm_le_s (mm_le_n (mm_le_n (mm_le_n mm_le_0)))))))) (L_law_b1482_ok hz hnc hd hx hm (by omega) hk23 hr))
      · refine mg_iconst (pc := 1480) dL_law_1480 kc_0 ?_
        exact mb_lwret dL_law_1481 rfl rfl (by show _ ≤ 1011; omega) (by show _ ≤ 17440; omega) hr
  · refine mg_iconst (pc := 1463) dL_law_1463 kc_0 ?_
    exact mb_lwret dL_law_1464 rfl rfl (by show _ ≤ 1011; omega) (by show _ ≤ 17440; omega) hr
def L_law_b1426 (e : mm_E) (k23 : Int32 → mm_V → Option (Int32 × mm_V)) (a0 : Nat) (a1 : Nat) (a2 : Nat) (a3 : Nat) (i4 : Int32) (m : mm_V) : Option (Int32 × mm_V) := L_law_b1713 e k23 a0 a1 a2 a3 i4  m
theorem L_law_b1426_ok {K : mm_K} {q : String × List (Nat × Nat × Nat × Nat)} {e : mm_E} (hz : e.2.1 = K.2.2.2.2) (hnc : va_Nc "java/lang/IllegalArgumentException" "java/util/NoSuchElementException" K.2.1) {d : Nat} (hd : 258 ≤ d) {a0 : Nat} {a1 : Nat} {a2 : Nat} {a3 : Nat} {i4 : Int32} (hx : e.1 a1 = some (11, 19)) (hm : e.1 a2 = some (12, 75)) {k : Nat} (hk : k + 1 ≤ 514) {k23 : Int32 → mm_V → Option (Int32 × mm_V)} (hk23 : ∀ (w4 : Int32) (m : mm_V) (r : Int32 × mm_V), k23 w4 m = some r → mm_G K (ML_law q) d (1011, 17440, .inl (some (.int r.1)), (e.1, r.2), none) 23 [some (.ref a0), some (.ref a1), some (.ref a2), some (.ref a3), some (.int w4), none, none, none] [] (e.1, m) none (493 + (k + 1)) (14332 + 6 * (k + 1))) {m : mm_V} {r : Int32 × mm_V} (hr : L_law_b1426 e k23 a0 a1 a2 a3 i4 m = some r) : mm_G K (ML_law q) d (1011, 17440, .inl (some (.int r.1)), (e.1, r.2), none) 1426 [some (.ref a0), some (.ref a1), some (.ref a2), some (.ref a3), some (.int i4), none, none, none] [] (e.1, m) none (493 + (k + 1)) (14332 + 6 * (k + 1)) := by
  obtain ⟨d, rfl⟩ : ∃ d', d = d' + 1 := ⟨d - 1, by omega⟩
  unfold L_law_b1426 at hr
  refine mg_goto (pc := 1426) 1713 dL_law_1426 rfl ?_
  exact mg_cs (by omega) (by omega) (mg_weak (mm_le_s (mm_le_s (mm_le_s (mm_le_s (mm_le_s (mm_le_n (mm_le_n (mm_le_n mm_le_0)))))))) (L_law_b1713_ok hz hnc hd hx hm (by omega) hk23 hr))
def L_law_b1373 (e : mm_E) (k23 : Int32 → mm_V → Option (Int32 × mm_V)) (a0 : Nat) (a1 : Nat) (a2 : Nat) (a3 : Nat) (i4 : Int32) (m : mm_V) : Option (Int32 × mm_V) := (mm_ai e.1 m 31 a0 (i4 + (1 : Int32))).bind fun x1 => (L_wouldLose e a1 x1 a3 m).bind fun r2 => (mm_ai e.1 r2.2 31 a0 (i4 + (1 : Int32))).bind fun x3 => (X12_wouldLose e a2 x3 r2.2).bind fun r4 => (X12_thrown e a2 r4.2).bind fun r5 => if r5.1 = r2.1 then (if ¬ r2.1 = 0 then (L_law_b1426 e k23 a0 a1 a2 a3 i4  r5.2) else ((mm_al e.1 r5.2 a3 (0 : Int32)).bind fun y6 => if (lg_cmp y6 r4.1.toInt64) = 0 then (L_law_b1426 e k23 a0 a1 a2 a3 i4  r5.2) else (mm_rz (0 : Int32) r5.2))) else (mm_rz (0 : Int32) r5.2)
theorem L_law_b1373_ok {K : mm_K} {q : String × List (Nat × Nat × Nat × Nat)} {e : mm_E} (hz : e.2.1 = K.2.2.2.2) (hnc : va_Nc "java/lang/IllegalArgumentException" "java/util/NoSuchElementException" K.2.1) {d : Nat} (hd : 258 ≤ d) {a0 : Nat} {a1 : Nat} {a2 : Nat} {a3 : Nat} {i4 : Int32} (hx : e.1 a1 = some (11, 19)) (hm : e.1 a2 = some (12, 75)) {k : Nat} (hk : k + 1 ≤ 514) {k23 : Int32 → mm_V → Option (Int32 × mm_V)} (hk23 : ∀ (w4 : Int32) (m : mm_V) (r : Int32 × mm_V), k23 w4 m = some r → mm_G K (ML_law q) d (1011, 17440, .inl (some (.int r.1)), (e.1, r.2), none) 23 [some (.ref a0), some (.ref a1), some (.ref a2), some (.ref a3), some (.int w4), none, none, none] [] (e.1, m) none (493 + (k + 1)) (14332 + 6 * (k + 1))) {m : mm_V} {r : Int32 × mm_V} (hr : L_law_b1373 e k23 a0 a1 a2 a3 i4 m = some r) : mm_G K (ML_law q) d (1011, 17440, .inl (some (.int r.1)), (e.1, r.2), none) 1373 [some (.ref a0), some (.ref a1), some (.ref a2), some (.ref a3), some (.int i4), none, none, none] [] (e.1, m) none (493 + (k + 0)) (14332 + 6 * (k + 0)) := by
  obtain ⟨d, rfl⟩ : ∃ d', d = d' + 1 := ⟨d - 1, by omega⟩
  unfold L_law_b1373 at hr
  refine ml_aload_n (pc := 1373) dL_law_1373 rfl (mm_get_s mm_get_0) ?_
  refine ml_aload_n (pc := 1374) dL_law_1374 rfl mm_get_0 ?_
  refine ml_iload (pc := 1375) dL_law_1375 (mm_get_s (mm_get_s (mm_get_s (mm_get_s mm_get_0)))) ?_
  refine mg_iconst (pc := 1377) dL_law_1377 kc_1 ?_
  refine mg_iadd (pc := 1378) dL_law_1378 ?_
  refine mb_ax (pc := 1379) dL_law_1379 hr (fun x1 hr => ?_)
  refine ml_aload_n (pc := 1380) dL_law_1380 rfl (mm_get_s (mm_get_s (mm_get_s mm_get_0))) ?_
  refine mb_wS (pc := 1381) (As := [.ref a1, .int x1, .ref a3]) (rest := []) dL_law_1381 cx_159 hr (fun v hv => L_wouldLose_ok hz hnc (by omega) hx hv) rfl (Nat.le_of_ble_eq_true rfl) (by show _ ≤ 1011; omega) (by show _ ≤ 17440; omega) (fun r2 hr => ?_)
  refine ml_istore (pc := 1384) dL_law_1384 (Nat.le_of_ble_eq_true rfl) (mm_st1_s (mm_st1_s (mm_st1_s (mm_st1_s mm_st1_i)))) ?_
  refine ml_aload_n (pc := 1386) dL_law_1386 rfl (mm_get_s (mm_get_s mm_get_0)) ?_
  refine ml_aload_n (pc := 1387) dL_law_1387 rfl mm_get_0 ?_
  refine ml_iload (pc := 1388) dL_law_1388 (mm_get_s (mm_get_s (mm_get_s (mm_get_s mm_get_0)))) ?_
  refine mg_iconst (pc := 1390) dL_law_1390 kc_1 ?_
  refine mg_iadd (pc := 1391) dL_law_1391 ?_
  refine mb_ax (pc := 1392) dL_law_1392 hr (fun x3 hr => ?_)
  refine mb_cVi (pc := 1393) (As := [.int x3]) (rest := []) dL_law_1393 cw_L_161 hm hr (fun v hv => X12_wouldLose_ok hz (by omega) hm hv) rfl (Nat.le_of_ble_eq_true rfl) (by show _ ≤ 1011; omega) (by show _ ≤ 17440; omega) (fun r4 hr => ?_)
  refine ml_istore (pc := 1396) dL_law_1396 (Nat.le_of_ble_eq_true rfl) (mm_st1_s (mm_st1_s (mm_st1_s (mm_st1_s (mm_st1_s mm_st1_i))))) ?_
  refine ml_aload_n (pc := 1398) dL_law_1398 rfl (mm_get_s (mm_get_s mm_get_0)) ?_
  refine mb_cVi (pc := 1399) (As := []) (rest := []) dL_law_1399 cw_L_96 hm hr (fun v hv => X12_thrown_ok hz (by omega) hm hv) rfl (Nat.le_of_ble_eq_true rfl) (by show _ ≤ 1011; omega) (by show _ ≤ 17440; omega) (fun r5 hr => ?_)
  refine ml_iload (pc := 1402) dL_law_1402 (mm_get_s (mm_get_s (mm_get_s (mm_get_s (mm_get_s mm_get_0))))) ?_
  refine mb_icmp_eq (pc := 1404) 1409 dL_law_1404 rfl hr (fun hr => ?_) (fun hr => ?_)
  · refine ml_iload (pc := 1409) dL_law_1409 (mm_get_s (mm_get_s (mm_get_s (mm_get_s (mm_get_s mm_get_0))))) ?_
    refine mb_if_ne (pc := 1411) 1426 dL_law_1411 rfl hr (fun hr => ?_) (fun hr => ?_)
    · exact mg_cs (by omega) (by omega) (mg_weak (mm_le_s (mm_le_s (mm_le_s (mm_le_s (mm_le_s (mm_le_n (mm_le_n (mm_le_n mm_le_0)))))))) (L_law_b1426_ok hz hnc hd hx hm (by omega) hk23 hr))
    · refine ml_aload_n (pc := 1414) dL_law_1414 rfl (mm_get_s (mm_get_s (mm_get_s mm_get_0))) ?_
      refine mg_iconst (pc := 1415) dL_law_1415 kc_0 ?_
      refine mb_al (pc := 1416) dL_law_1416 hr (fun y6 hr => ?_)
      refine ml_iload (pc := 1417) dL_law_1417 (mm_get_s (mm_get_s (mm_get_s (mm_get_s (mm_get_s (mm_get_s mm_get_0)))))) ?_
      refine mg_i2l (pc := 1419) dL_law_1419 ?_
      refine mg_lcmp (pc := 1420) dL_law_1420 ?_
      refine mb_if_eq (pc := 1421) 1426 dL_law_1421 rfl hr (fun hr => ?_) (fun hr => ?_)
      · exact mg_cs (by omega) (by omega) (mg_weak (mm_le_s (mm_le_s (mm_le_s (mm_le_s (mm_le_s (mm_le_n (mm_le_n (mm_le_n mm_le_0)))))))) (L_law_b1426_ok hz hnc hd hx hm (by omega) hk23 hr))
      · refine mg_iconst (pc := 1424) dL_law_1424 kc_0 ?_
        exact mb_lwret dL_law_1425 rfl rfl (by show _ ≤ 1011; omega) (by show _ ≤ 17440; omega) hr
  · refine mg_iconst (pc := 1407) dL_law_1407 kc_0 ?_
    exact mb_lwret dL_law_1408 rfl rfl (by show _ ≤ 1011; omega) (by show _ ≤ 17440; omega) hr
def L_law_b1370 (e : mm_E) (k23 : Int32 → mm_V → Option (Int32 × mm_V)) (a0 : Nat) (a1 : Nat) (a2 : Nat) (a3 : Nat) (i4 : Int32) (m : mm_V) : Option (Int32 × mm_V) := L_law_b1713 e k23 a0 a1 a2 a3 i4  m
theorem L_law_b1370_ok {K : mm_K} {q : String × List (Nat × Nat × Nat × Nat)} {e : mm_E} (hz : e.2.1 = K.2.2.2.2) (hnc : va_Nc "java/lang/IllegalArgumentException" "java/util/NoSuchElementException" K.2.1) {d : Nat} (hd : 258 ≤ d) {a0 : Nat} {a1 : Nat} {a2 : Nat} {a3 : Nat} {i4 : Int32} (hx : e.1 a1 = some (11, 19)) (hm : e.1 a2 = some (12, 75)) {k : Nat} (hk : k + 1 ≤ 514) {k23 : Int32 → mm_V → Option (Int32 × mm_V)} (hk23 : ∀ (w4 : Int32) (m : mm_V) (r : Int32 × mm_V), k23 w4 m = some r → mm_G K (ML_law q) d (1011, 17440, .inl (some (.int r.1)), (e.1, r.2), none) 23 [some (.ref a0), some (.ref a1), some (.ref a2), some (.ref a3), some (.int w4), none, none, none] [] (e.1, m) none (493 + (k + 1)) (14332 + 6 * (k + 1))) {m : mm_V} {r : Int32 × mm_V} (hr : L_law_b1370 e k23 a0 a1 a2 a3 i4 m = some r) : mm_G K (ML_law q) d (1011, 17440, .inl (some (.int r.1)), (e.1, r.2), none) 1370 [some (.ref a0), some (.ref a1), some (.ref a2), some (.ref a3), some (.int i4), none, none, none] [] (e.1, m) none (493 + (k + 1)) (14332 + 6 * (k + 1)) := by
  obtain ⟨d, rfl⟩ : ∃ d', d = d' + 1 := ⟨d - 1, by omega⟩
  unfold L_law_b1370 at hr
  refine mg_goto (pc := 1370) 1713 dL_law_1370 rfl ?_
  exact mg_cs (by omega) (by omega) (mg_weak (mm_le_s (mm_le_s (mm_le_s (mm_le_s (mm_le_s (mm_le_n (mm_le_n (mm_le_n mm_le_0)))))))) (L_law_b1713_ok hz hnc hd hx hm (by omega) hk23 hr))
def L_law_b1331 (e : mm_E) (k23 : Int32 → mm_V → Option (Int32 × mm_V)) (a0 : Nat) (a1 : Nat) (a2 : Nat) (a3 : Nat) (i4 : Int32) (i5 : Int32) (t1 : Int32) (t2 : Int32) (t3 : Int32) (t4 : Int32) (m : mm_V) : Option (Int32 × mm_V) := (mm_ai e.1 m 31 a0 (i4 + (5 : Int32))).bind fun x1 => (X12_evenings e a2 t1 t2 t3 t4 x1 m).bind fun r2 => (X12_thrown e a2 r2.2).bind fun r3 => if r3.1 = i5 then (if ¬ i5 = 0 then (L_law_b1370 e k23 a0 a1 a2 a3 i4  r3.2) else ((mm_al e.1 r3.2 a3 (0 : Int32)).bind fun y4 => if (lg_cmp y4 r2.1.toInt64) = 0 then (L_law_b1370 e k23 a0 a1 a2 a3 i4  r3.2) else (mm_rz (0 : Int32) r3.2))) else (mm_rz (0 : Int32) r3.2)
theorem L_law_b1331_ok {K : mm_K} {q : String × List (Nat × Nat × Nat × Nat)} {e : mm_E} (hz : e.2.1 = K.2.2.2.2) (hnc : va_Nc "java/lang/IllegalArgumentException" "java/util/NoSuchElementException" K.2.1) {d : Nat} (hd : 258 ≤ d) {a0 : Nat} {a1 : Nat} {a2 : Nat} {a3 : Nat} {i4 : Int32} {i5 : Int32} {t1 : Int32} {t2 : Int32} {t3 : Int32} {t4 : Int32} (hx : e.1 a1 = some (11, 19)) (hm : e.1 a2 = some (12, 75)) {k : Nat} (hk : k + 1 ≤ 514) {k23 : Int32 → mm_V → Option (Int32 × mm_V)} (hk23 : ∀ (w4 : Int32) (m : mm_V) (r : Int32 × mm_V), k23 w4 m = some r → mm_G K (ML_law q) d (1011, 17440, .inl (some (.int r.1)), (e.1, r.2), none) 23 [some (.ref a0), some (.ref a1), some (.ref a2), some (.ref a3), some (.int w4), none, none, none] [] (e.1, m) none (493 + (k + 1)) (14332 + 6 * (k + 1))) {m : mm_V} {r : Int32 × mm_V} (hr : L_law_b1331 e k23 a0 a1 a2 a3 i4 i5 t1 t2 t3 t4 m = some r) : mm_G K (ML_law q) d (1011, 17440, .inl (some (.int r.1)), (e.1, r.2), none) 1331 [some (.ref a0), some (.ref a1), some (.ref a2), some (.ref a3), some (.int i4), some (.int i5), none, none] [.int t4, .int t3, .int t2, .int t1, .ref a2] (e.1, m) none (493 + (k + 1)) (14332 + 6 * (k + 1)) := by
  obtain ⟨d, rfl⟩ : ∃ d', d = d' + 1 := ⟨d - 1, by omega⟩
  unfold L_law_b1331 at hr
  refine ml_aload_n (pc := 1331) dL_law_1331 rfl mm_get_0 ?_
  refine ml_iload (pc := 1332) dL_law_1332 (mm_get_s (mm_get_s (mm_get_s (mm_get_s mm_get_0)))) ?_
  refine mg_iconst (pc := 1334) dL_law_1334 kc_5 ?_
  refine mg_iadd (pc := 1335) dL_law_1335 ?_
  refine mb_ax (pc := 1336) dL_law_1336 hr (fun x1 hr => ?_)
  refine mb_cVi (pc := 1337) (As := [.int t1, .int t2, .int t3, .int t4, .int x1]) (rest := []) dL_law_1337 cw_L_158 hm hr (fun v hv => X12_evenings_ok hz (by omega) hm hv) rfl (Nat.le_of_ble_eq_true rfl) (by show _ ≤ 1011; omega) (by show _ ≤ 17440; omega) (fun r2 hr => ?_)
  refine ml_istore (pc := 1340) dL_law_1340 (Nat.le_of_ble_eq_true rfl) (mm_st1_s (mm_st1_s (mm_st1_s (mm_st1_s (mm_st1_s mm_st1_i))))) ?_
  refine ml_aload_n (pc := 1342) dL_law_1342 rfl (mm_get_s (mm_get_s mm_get_0)) ?_
  refine mb_cVi (pc := 1343) (As := []) (rest := []) dL_law_1343 cw_L_96 hm hr (fun v hv => X12_thrown_ok hz (by omega) hm hv) rfl (Nat.le_of_ble_eq_true rfl) (by show _ ≤ 1011; omega) (by show _ ≤ 17440; omega) (fun r3 hr => ?_)
  refine ml_iload (pc := 1346) dL_law_1346 (mm_get_s (mm_get_s (mm_get_s (mm_get_s (mm_get_s mm_get_0))))) ?_
  refine mb_icmp_eq (pc := 1348) 1353 dL_law_1348 rfl hr (fun hr => ?_) (fun hr => ?_)
  · refine ml_iload (pc := 1353) dL_law_1353 (mm_get_s (mm_get_s (mm_get_s (mm_get_s (mm_get_s mm_get_0))))) ?_
    refine mb_if_ne (pc := 1355) 1370 dL_law_1355 rfl hr (fun hr => ?_) (fun hr => ?_)
    · exact mg_cs (by omega) (by omega) (mg_weak (mm_le_s (mm_le_s (mm_le_s (mm_le_s (mm_le_s (mm_le_n (mm_le_n (mm_le_n mm_le_0)))))))) (L_law_b1370_ok hz hnc hd hx hm (by omega) hk23 hr))
    · refine ml_aload_n (pc := 1358) dL_law_1358 rfl (mm_get_s (mm_get_s (mm_get_s mm_get_0))) ?_
      refine mg_iconst (pc := 1359) dL_law_1359 kc_0 ?_
      refine mb_al (pc := 1360) dL_law_1360 hr (fun y4 hr => ?_)
      refine ml_iload (pc := 1361) dL_law_1361 (mm_get_s (mm_get_s (mm_get_s (mm_get_s (mm_get_s (mm_get_s mm_get_0)))))) ?_
      refine mg_i2l (pc := 1363) dL_law_1363 ?_
      refine mg_lcmp (pc := 1364) dL_law_1364 ?_
      refine mb_if_eq (pc := 1365) 1370 dL_law_1365 rfl hr (fun hr => ?_) (fun hr => ?_)
      · exact mg_cs (by omega) (by omega) (mg_weak (mm_le_s (mm_le_s (mm_le_s (mm_le_s (mm_le_s (mm_le_n (mm_le_n (mm_le_n mm_le_0)))))))) (L_law_b1370_ok hz hnc hd hx hm (by omega) hk23 hr))
      · refine mg_iconst (pc := 1368) dL_law_1368 kc_0 ?_
        exact mb_lwret dL_law_1369 rfl rfl (by show _ ≤ 1011; omega) (by show _ ≤ 17440; omega) hr
  · refine mg_iconst (pc := 1351) dL_law_1351 kc_0 ?_
    exact mb_lwret dL_law_1352 rfl rfl (by show _ ≤ 1011; omega) (by show _ ≤ 17440; omega) hr
def L_law_b1286 (e : mm_E) (k23 : Int32 → mm_V → Option (Int32 × mm_V)) (a0 : Nat) (a1 : Nat) (a2 : Nat) (a3 : Nat) (i4 : Int32) (t1 : Int32) (t2 : Int32) (t3 : Int32) (t4 : Int32) (m : mm_V) : Option (Int32 × mm_V) := (mm_ai e.1 m 31 a0 (i4 + (5 : Int32))).bind fun x1 => (L_evenings e a1 t1 t2 t3 t4 x1 a3 m).bind fun r2 => (mm_ai e.1 r2.2 31 a0 (i4 + (1 : Int32))).bind fun x3 => (mm_ai e.1 r2.2 31 a0 (i4 + (2 : Int32))).bind fun x4 => (mm_ai e.1 r2.2 31 a0 (i4 + (3 : Int32))).bind fun x5 => (mm_ai e.1 r2.2 31 a0 (i4 + (4 : Int32))).bind fun x6 => if x6 = 0 then (L_law_b1331 e k23 a0 a1 a2 a3 i4 r2.1 x3 x4 x5 (0 : Int32) r2.2) else (L_law_b1331 e k23 a0 a1 a2 a3 i4 r2.1 x3 x4 x5 (1 : Int32) r2.2)
theorem L_law_b1286_ok {K : mm_K} {q : String × List (Nat × Nat × Nat × Nat)} {e : mm_E} (hz : e.2.1 = K.2.2.2.2) (hnc : va_Nc "java/lang/IllegalArgumentException" "java/util/NoSuchElementException" K.2.1) {d : Nat} (hd : 258 ≤ d) {a0 : Nat} {a1 : Nat} {a2 : Nat} {a3 : Nat} {i4 : Int32} {t1 : Int32} {t2 : Int32} {t3 : Int32} {t4 : Int32} (hx : e.1 a1 = some (11, 19)) (hm : e.1 a2 = some (12, 75)) {k : Nat} (hk : k + 1 ≤ 514) {k23 : Int32 → mm_V → Option (Int32 × mm_V)} (hk23 : ∀ (w4 : Int32) (m : mm_V) (r : Int32 × mm_V), k23 w4 m = some r → mm_G K (ML_law q) d (1011, 17440, .inl (some (.int r.1)), (e.1, r.2), none) 23 [some (.ref a0), some (.ref a1), some (.ref a2), some (.ref a3), some (.int w4), none, none, none] [] (e.1, m) none (493 + (k + 1)) (14332 + 6 * (k + 1))) {m : mm_V} {r : Int32 × mm_V} (hr : L_law_b1286 e k23 a0 a1 a2 a3 i4 t1 t2 t3 t4 m = some r) : mm_G K (ML_law q) d (1011, 17440, .inl (some (.int r.1)), (e.1, r.2), none) 1286 [some (.ref a0), some (.ref a1), some (.ref a2), some (.ref a3), some (.int i4), none, none, none] [.int t4, .int t3, .int t2, .int t1, .ref a1] (e.1, m) none (493 + (k + 0)) (14332 + 6 * (k + 0)) := by
  obtain ⟨d, rfl⟩ : ∃ d', d = d' + 1 := ⟨d - 1, by omega⟩
  unfold L_law_b1286 at hr
  refine ml_aload_n (pc := 1286) dL_law_1286 rfl mm_get_0 ?_
  refine ml_iload (pc := 1287) dL_law_1287 (mm_get_s (mm_get_s (mm_get_s (mm_get_s mm_get_0)))) ?_
  refine mg_iconst (pc := 1289) dL_law_1289 kc_5 ?_
  refine mg_iadd (pc := 1290) dL_law_1290 ?_
  refine mb_ax (pc := 1291) dL_law_1291 hr (fun x1 hr => ?_)
  refine ml_aload_n (pc := 1292) dL_law_1292 rfl (mm_get_s (mm_get_s (mm_get_s mm_get_0))) ?_
  refine mb_wS (pc := 1293) (As := [.ref a1, .int t1, .int t2, .int t3, .int t4, .int x1, .ref a3]) (rest := []) dL_law_1293 cx_155 hr (fun v hv => L_evenings_ok hz hnc (by omega) hx hv) rfl (Nat.le_of_ble_eq_true rfl) (by show _ ≤ 1011; omega) (by show _ ≤ 17440; omega) (fun r2 hr => ?_)
  refine ml_istore (pc := 1296) dL_law_1296 (Nat.le_of_ble_eq_true rfl) (mm_st1_s (mm_st1_s (mm_st1_s (mm_st1_s mm_st1_i)))) ?_
  refine ml_aload_n (pc := 1298) dL_law_1298 rfl (mm_get_s (mm_get_s mm_get_0)) ?_
  refine ml_aload_n (pc := 1299) dL_law_1299 rfl mm_get_0 ?_
  refine ml_iload (pc := 1300) dL_law_1300 (mm_get_s (mm_get_s (mm_get_s (mm_get_s mm_get_0)))) ?_
  refine mg_iconst (pc := 1302) dL_law_1302 kc_1 ?_
  refine mg_iadd (pc := 1303) dL_law_1303 ?_
  refine mb_ax (pc := 1304) dL_law_1304 hr (fun x3 hr => ?_)
  refine ml_aload_n (pc := 1305) dL_law_1305 rfl mm_get_0 ?_
  refine ml_iload (pc := 1306) dL_law_1306 (mm_get_s (mm_get_s (mm_get_s (mm_get_s mm_get_0)))) ?_
  refine mg_iconst (pc := 1308) dL_law_1308 kc_2 ?_
  refine mg_iadd (pc := 1309) dL_law_1309 ?_
  refine mb_ax (pc := 1310) dL_law_1310 hr (fun x4 hr => ?_)
  refine ml_aload_n (pc := 1311) dL_law_1311 rfl mm_get_0 ?_
  refine ml_iload (pc := 1312) dL_law_1312 (mm_get_s (mm_get_s (mm_get_s (mm_get_s mm_get_0)))) ?_
  refine mg_iconst (pc := 1314) dL_law_1314 kc_3 ?_
  refine mg_iadd (pc := 1315) dL_law_1315 ?_
  refine mb_ax (pc := 1316) dL_law_1316 hr (fun x5 hr => ?_)
  refine ml_aload_n (pc := 1317) dL_law_1317 rfl mm_get_0 ?_
  refine ml_iload (pc := 1318) dL_law_1318 (mm_get_s (mm_get_s (mm_get_s (mm_get_s mm_get_0)))) ?_
  refine mg_iconst (pc := 1320) dL_law_1320 kc_4 ?_
  refine mg_iadd (pc := 1321) dL_law_1321 ?_
  refine mb_ax (pc := 1322) dL_law_1322 hr (fun x6 hr => ?_)
  refine mb_if_eq (pc := 1323) 1330 dL_law_1323 rfl hr (fun hr => ?_) (fun hr => ?_)
  · refine mg_iconst (pc := 1330) dL_law_1330 kc_0 ?_
    exact mg_cs (by omega) (by omega) (mg_weak (mm_le_s (mm_le_s (mm_le_s (mm_le_s (mm_le_s (mm_le_s (mm_le_n (mm_le_n mm_le_0)))))))) (L_law_b1331_ok hz hnc hd hx hm (by omega) hk23 hr))
  · refine mg_iconst (pc := 1326) dL_law_1326 kc_1 ?_
    refine mg_goto (pc := 1327) 1331 dL_law_1327 rfl ?_
    exact mg_cs (by omega) (by omega) (mg_weak (mm_le_s (mm_le_s (mm_le_s (mm_le_s (mm_le_s (mm_le_s (mm_le_n (mm_le_n mm_le_0)))))))) (L_law_b1331_ok hz hnc hd hx hm (by omega) hk23 hr))
def L_law_b1253 (e : mm_E) (k23 : Int32 → mm_V → Option (Int32 × mm_V)) (a0 : Nat) (a1 : Nat) (a2 : Nat) (a3 : Nat) (i4 : Int32) (m : mm_V) : Option (Int32 × mm_V) := (mm_ai e.1 m 31 a0 (i4 + (1 : Int32))).bind fun x1 => (mm_ai e.1 m 31 a0 (i4 + (2 : Int32))).bind fun x2 => (mm_ai e.1 m 31 a0 (i4 + (3 : Int32))).bind fun x3 => (mm_ai e.1 m 31 a0 (i4 + (4 : Int32))).bind fun x4 => if x4 = 0 then (L_law_b1286 e k23 a0 a1 a2 a3 i4 x1 x2 x3 (0 : Int32) m) else (L_law_b1286 e k23 a0 a1 a2 a3 i4 x1 x2 x3 (1 : Int32) m)
theorem L_law_b1253_ok {K : mm_K} {q : String × List (Nat × Nat × Nat × Nat)} {e : mm_E} (hz : e.2.1 = K.2.2.2.2) (hnc : va_Nc "java/lang/IllegalArgumentException" "java/util/NoSuchElementException" K.2.1) {d : Nat} (hd : 258 ≤ d) {a0 : Nat} {a1 : Nat} {a2 : Nat} {a3 : Nat} {i4 : Int32} (hx : e.1 a1 = some (11, 19)) (hm : e.1 a2 = some (12, 75)) {k : Nat} (hk : k + 1 ≤ 514) {k23 : Int32 → mm_V → Option (Int32 × mm_V)} (hk23 : ∀ (w4 : Int32) (m : mm_V) (r : Int32 × mm_V), k23 w4 m = some r → mm_G K (ML_law q) d (1011, 17440, .inl (some (.int r.1)), (e.1, r.2), none) 23 [some (.ref a0), some (.ref a1), some (.ref a2), some (.ref a3), some (.int w4), none, none, none] [] (e.1, m) none (493 + (k + 1)) (14332 + 6 * (k + 1))) {m : mm_V} {r : Int32 × mm_V} (hr : L_law_b1253 e k23 a0 a1 a2 a3 i4 m = some r) : mm_G K (ML_law q) d (1011, 17440, .inl (some (.int r.1)), (e.1, r.2), none) 1253 [some (.ref a0), some (.ref a1), some (.ref a2), some (.ref a3), some (.int i4), none, none, none] [] (e.1, m) none (493 + (k + 0)) (14332 + 6 * (k + 0)) := by
  obtain ⟨d, rfl⟩ : ∃ d', d = d' + 1 := ⟨d - 1, by omega⟩
  unfold L_law_b1253 at hr
  refine ml_aload_n (pc := 1253) dL_law_1253 rfl (mm_get_s mm_get_0) ?_
  refine ml_aload_n (pc := 1254) dL_law_1254 rfl mm_get_0 ?_
  refine ml_iload (pc := 1255) dL_law_1255 (mm_get_s (mm_get_s (mm_get_s (mm_get_s mm_get_0)))) ?_
  refine mg_iconst (pc := 1257) dL_law_1257 kc_1 ?_
  refine mg_iadd (pc := 1258) dL_law_1258 ?_
  refine mb_ax (pc := 1259) dL_law_1259 hr (fun x1 hr => ?_)
  refine ml_aload_n (pc := 1260) dL_law_1260 rfl mm_get_0 ?_
  refine ml_iload (pc := 1261) dL_law_1261 (mm_get_s (mm_get_s (mm_get_s (mm_get_s mm_get_0)))) ?_
  refine mg_iconst (pc := 1263) dL_law_1263 kc_2 ?_
  refine mg_iadd (pc := 1264) dL_law_1264 ?_
  refine mb_ax (pc := 1265) dL_law_1265 hr (fun x2 hr => ?_)
  refine ml_aload_n (pc := 1266) dL_law_1266 rfl mm_get_0 ?_
  refine ml_iload (pc := 1267) dL_law_1267 (mm_get_s (mm_get_s (mm_get_s (mm_get_s mm_get_0)))) ?_
  refine mg_iconst (pc := 1269) dL_law_1269 kc_3 ?_
  refine mg_iadd (pc := 1270) dL_law_1270 ?_
  refine mb_ax (pc := 1271) dL_law_1271 hr (fun x3 hr => ?_)
  refine ml_aload_n (pc := 1272) dL_law_1272 rfl mm_get_0 ?_
  refine ml_iload (pc := 1273) dL_law_1273 (mm_get_s (mm_get_s (mm_get_s (mm_get_s mm_get_0)))) ?_
  refine mg_iconst (pc := 1275) dL_law_1275 kc_4 ?_
  refine mg_iadd (pc := 1276) dL_law_1276 ?_
  refine mb_ax (pc := 1277) dL_law_1277 hr (fun x4 hr => ?_)
  refine mb_if_eq (pc := 1278) 1285 dL_law_1278 rfl hr (fun hr => ?_) (fun hr => ?_)
  · refine mg_iconst (pc := 1285) dL_law_1285 kc_0 ?_
    exact mg_cs (by omega) (by omega) (mg_weak (mm_le_s (mm_le_s (mm_le_s (mm_le_s (mm_le_s (mm_le_n (mm_le_n (mm_le_n mm_le_0)))))))) (L_law_b1286_ok hz hnc hd hx hm (by omega) hk23 hr))
  · refine mg_iconst (pc := 1281) dL_law_1281 kc_1 ?_
    refine mg_goto (pc := 1282) 1286 dL_law_1282 rfl ?_
    exact mg_cs (by omega) (by omega) (mg_weak (mm_le_s (mm_le_s (mm_le_s (mm_le_s (mm_le_s (mm_le_n (mm_le_n (mm_le_n mm_le_0)))))))) (L_law_b1286_ok hz hnc hd hx hm (by omega) hk23 hr))
def L_law_b1250 (e : mm_E) (k23 : Int32 → mm_V → Option (Int32 × mm_V)) (a0 : Nat) (a1 : Nat) (a2 : Nat) (a3 : Nat) (i4 : Int32) (m : mm_V) : Option (Int32 × mm_V) := L_law_b1713 e k23 a0 a1 a2 a3 i4  m
theorem L_law_b1250_ok {K : mm_K} {q : String × List (Nat × Nat × Nat × Nat)} {e : mm_E} (hz : e.2.1 = K.2.2.2.2) (hnc : va_Nc "java/lang/IllegalArgumentException" "java/util/NoSuchElementException" K.2.1) {d : Nat} (hd : 258 ≤ d) {a0 : Nat} {a1 : Nat} {a2 : Nat} {a3 : Nat} {i4 : Int32} (hx : e.1 a1 = some (11, 19)) (hm : e.1 a2 = some (12, 75)) {k : Nat} (hk : k + 1 ≤ 514) {k23 : Int32 → mm_V → Option (Int32 × mm_V)} (hk23 : ∀ (w4 : Int32) (m : mm_V) (r : Int32 × mm_V), k23 w4 m = some r → mm_G K (ML_law q) d (1011, 17440, .inl (some (.int r.1)), (e.1, r.2), none) 23 [some (.ref a0), some (.ref a1), some (.ref a2), some (.ref a3), some (.int w4), none, none, none] [] (e.1, m) none (493 + (k + 1)) (14332 + 6 * (k + 1))) {m : mm_V} {r : Int32 × mm_V} (hr : L_law_b1250 e k23 a0 a1 a2 a3 i4 m = some r) : mm_G K (ML_law q) d (1011, 17440, .inl (some (.int r.1)), (e.1, r.2), none) 1250 [some (.ref a0), some (.ref a1), some (.ref a2), some (.ref a3), some (.int i4), none, none, none] [] (e.1, m) none (493 + (k + 1)) (14332 + 6 * (k + 1)) := by
  obtain ⟨d, rfl⟩ : ∃ d', d = d' + 1 := ⟨d - 1, by omega⟩
  unfold L_law_b1250 at hr
  refine mg_goto (pc := 1250) 1713 dL_law_1250 rfl ?_
  exact mg_cs (by omega) (by omega) (mg_weak (mm_le_s (mm_le_s (mm_le_s (mm_le_s (mm_le_s (mm_le_n (mm_le_n (mm_le_n mm_le_0)))))))) (L_law_b1713_ok hz hnc hd hx hm (by omega) hk23 hr))
def L_law_b1185 (e : mm_E) (k23 : Int32 → mm_V → Option (Int32 × mm_V)) (a0 : Nat) (a1 : Nat) (a2 : Nat) (a3 : Nat) (i4 : Int32) (m : mm_V) : Option (Int32 × mm_V) := (mm_ai e.1 m 31 a0 (i4 + (1 : Int32))).bind fun x1 => (mm_ai e.1 m 31 a0 (i4 + (2 : Int32))).bind fun x2 => (L_seats e a1 x1 x2 a3 m).bind fun r3 => (mm_ai e.1 r3.2 31 a0 (i4 + (1 : Int32))).bind fun x4 => (mm_ai e.1 r3.2 31 a0 (i4 + (2 : Int32))).bind fun x5 => (X12_seats e a2 x4 x5 r3.2).bind fun r6 => (X12_thrown e a2 r6.2).bind fun r7 => if r7.1 = r3.1 then (if ¬ r3.1 = 0 then (L_law_b1250 e k23 a0 a1 a2 a3 i4  r7.2) else ((mm_al e.1 r7.2 a3 (0 : Int32)).bind fun y8 => if (lg_cmp y8 r6.1.toInt64) = 0 then (L_law_b1250 e k23 a0 a1 a2 a3 i4  r7.2) else (mm_rz (0 : Int32) r7.2))) else (mm_rz (0 : Int32) r7.2)
theorem L_law_b1185_ok {K : mm_K} {q : String × List (Nat × Nat × Nat × Nat)} {e : mm_E} (hz : e.2.1 = K.2.2.2.2) (hnc : va_Nc "java/lang/IllegalArgumentException" "java/util/NoSuchElementException" K.2.1) {d : Nat} (hd : 258 ≤ d) {a0 : Nat} {a1 : Nat} {a2 : Nat} {a3 : Nat} {i4 : Int32} (hx : e.1 a1 = some (11, 19)) (hm : e.1 a2 = some (12, 75)) {k : Nat} (hk : k + 1 ≤ 514) {k23 : Int32 → mm_V → Option (Int32 × mm_V)} (hk23 : ∀ (w4 : Int32) (m : mm_V) (r : Int32 × mm_V), k23 w4 m = some r → mm_G K (ML_law q) d (1011, 17440, .inl (some (.int r.1)), (e.1, r.2), none) 23 [some (.ref a0), some (.ref a1), some (.ref a2), some (.ref a3), some (.int w4), none, none, none] [] (e.1, m) none (493 + (k + 1)) (14332 + 6 * (k + 1))) {m : mm_V} {r : Int32 × mm_V} (hr : L_law_b1185 e k23 a0 a1 a2 a3 i4 m = some r) : mm_G K (ML_law q) d (1011, 17440, .inl (some (.int r.1)), (e.1, r.2), none) 1185 [some (.ref a0), some (.ref a1), some (.ref a2), some (.ref a3), some (.int i4), none, none, none] [] (e.1, m) none (493 + (k + 0)) (14332 + 6 * (k + 0)) := by
  obtain ⟨d, rfl⟩ : ∃ d', d = d' + 1 := ⟨d - 1, by omega⟩
  unfold L_law_b1185 at hr
  refine ml_aload_n (pc := 1185) dL_law_1185 rfl (mm_get_s mm_get_0) ?_
  refine ml_aload_n (pc := 1186) dL_law_1186 rfl mm_get_0 ?_
  refine ml_iload (pc := 1187) dL_law_1187 (mm_get_s (mm_get_s (mm_get_s (mm_get_s mm_get_0)))) ?_
  refine mg_iconst (pc := 1189) dL_law_1189 kc_1 ?_
  refine mg_iadd (pc := 1190) dL_law_1190 ?_
  refine mb_ax (pc := 1191) dL_law_1191 hr (fun x1 hr => ?_)
  refine ml_aload_n (pc := 1192) dL_law_1192 rfl mm_get_0 ?_
  refine ml_iload (pc := 1193) dL_law_1193 (mm_get_s (mm_get_s (mm_get_s (mm_get_s mm_get_0)))) ?_
  refine mg_iconst (pc := 1195) dL_law_1195 kc_2 ?_
  refine mg_iadd (pc := 1196) dL_law_1196 ?_
  refine mb_ax (pc := 1197) dL_law_1197 hr (fun x2 hr => ?_)
  refine ml_aload_n (pc := 1198) dL_law_1198 rfl (mm_get_s (mm_get_s (mm_get_s mm_get_0))) ?_
  refine mb_wS (pc := 1199) (As := [.ref a1, .int x1, .int x2, .ref a3]) (rest := []) dL_law_1199 cx_152 hr (fun v hv => L_seats_ok hz hnc (by omega) hx hv) rfl (Nat.le_of_ble_eq_true rfl) (by show _ ≤ 1011; omega) (by show _ ≤ 17440; omega) (fun r3 hr => ?_)
  refine ml_istore (pc := 1202) dL_law_1202 (Nat.le_of_ble_eq_true rfl) (mm_st1_s (mm_st1_s (mm_st1_s (mm_st1_s mm_st1_i)))) ?_
  refine ml_aload_n (pc := 1204) dL_law_1204 rfl (mm_get_s (mm_get_s mm_get_0)) ?_
  refine ml_aload_n (pc := 1205) dL_law_1205 rfl mm_get_0 ?_
  refine ml_iload (pc := 1206) dL_law_1206 (mm_get_s (mm_get_s (mm_get_s (mm_get_s mm_get_0)))) ?_
  refine mg_iconst (pc := 1208) dL_law_1208 kc_1 ?_
  refine mg_iadd (pc := 1209) dL_law_1209 ?_
  refine mb_ax (pc := 1210) dL_law_1210 hr (fun x4 hr => ?_)
  refine ml_aload_n (pc := 1211) dL_law_1211 rfl mm_get_0 ?_
  refine ml_iload (pc := 1212) dL_law_1212 (mm_get_s (mm_get_s (mm_get_s (mm_get_s mm_get_0)))) ?_
  refine mg_iconst (pc := 1214) dL_law_1214 kc_2 ?_
  refine mg_iadd (pc := 1215) dL_law_1215 ?_
  refine mb_ax (pc := 1216) dL_law_1216 hr (fun x5 hr => ?_)
  refine mb_cVi (pc := 1217) (As := [.int x4, .int x5]) (rest := []) dL_law_1217 cw_L_154 hm hr (fun v hv => X12_seats_ok hz (by omega) hm hv) rfl (Nat.le_of_ble_eq_true rfl) (by show _ ≤ 1011; omega) (by show _ ≤ 17440; omega) (fun r6 hr => ?_)
  refine ml_istore (pc := 1220) dL_law_1220 (Nat.le_of_ble_eq_true rfl) (mm_st1_s (mm_st1_s (mm_st1_s (mm_st1_s (mm_st1_s mm_st1_i))))) ?_
  refine ml_aload_n (pc := 1222) dL_law_1222 rfl (mm_get_s (mm_get_s mm_get_0)) ?_
  refine mb_cVi (pc := 1223) (As := []) (rest := []) dL_law_1223 cw_L_96 hm hr (fun v hv => X12_thrown_ok hz (by omega) hm hv) rfl (Nat.le_of_ble_eq_true rfl) (by show _ ≤ 1011; omega) (by show _ ≤ 17440; omega) (fun r7 hr => ?_)
  refine ml_iload (pc := 1226) dL_law_1226 (mm_get_s (mm_get_s (mm_get_s (mm_get_s (mm_get_s mm_get_0))))) ?_
  refine mb_icmp_eq (pc := 1228) 1233 dL_law_1228 rfl hr (fun hr => ?_) (fun hr => ?_)
  · refine ml_iload (pc := 1233) dL_law_1233 (mm_get_s (mm_get_s (mm_get_s (mm_get_s (mm_get_s mm_get_0))))) ?_
    refine mb_if_ne (pc := 1235) 1250 dL_law_1235 rfl hr (fun hr => ?_) (fun hr => ?_)
    · exact mg_cs (by omega) (by omega) (mg_weak (mm_le_s (mm_le_s (mm_le_s (mm_le_s (mm_le_s (mm_le_n (mm_le_n (mm_le_n mm_le_0)))))))) (L_law_b1250_ok hz hnc hd hx hm (by omega) hk23 hr))
    · refine ml_aload_n (pc := 1238) dL_law_1238 rfl (mm_get_s (mm_get_s (mm_get_s mm_get_0))) ?_
      refine mg_iconst (pc := 1239) dL_law_1239 kc_0 ?_
      refine mb_al (pc := 1240) dL_law_1240 hr (fun y8 hr => ?_)
      refine ml_iload (pc := 1241) dL_law_1241 (mm_get_s (mm_get_s (mm_get_s (mm_get_s (mm_get_s (mm_get_s mm_get_0)))))) ?_
      refine mg_i2l (pc := 1243) dL_law_1243 ?_
      refine mg_lcmp (pc := 1244) dL_law_1244 ?_
      refine mb_if_eq (pc := 1245) 1250 dL_law_1245 rfl hr (fun hr => ?_) (fun hr => ?_)
      · exact mg_cs (by omega) (by omega) (mg_weak (mm_le_s (mm_le_s (mm_le_s (mm_le_s (mm_le_s (mm_le_n (mm_le_n (mm_le_n mm_le_0)))))))) (L_law_b1250_ok hz hnc hd hx hm (by omega) hk23 hr))
      · refine mg_iconst (pc := 1248) dL_law_1248 kc_0 ?_
        exact mb_lwret dL_law_1249 rfl rfl (by show _ ≤ 1011; omega) (by show _ ≤ 17440; omega) hr
  · refine mg_iconst (pc := 1231) dL_law_1231 kc_0 ?_
    exact mb_lwret dL_law_1232 rfl rfl (by show _ ≤ 1011; omega) (by show _ ≤ 17440; omega) hr
def L_law_b1182 (e : mm_E) (k23 : Int32 → mm_V → Option (Int32 × mm_V)) (a0 : Nat) (a1 : Nat) (a2 : Nat) (a3 : Nat) (i4 : Int32) (m : mm_V) : Option (Int32 × mm_V) := L_law_b1713 e k23 a0 a1 a2 a3 i4  m
theorem L_law_b1182_ok {K : mm_K} {q : String × List (Nat × Nat × Nat × Nat)} {e : mm_E} (hz : e.2.1 = K.2.2.2.2) (hnc : va_Nc "java/lang/IllegalArgumentException" "java/util/NoSuchElementException" K.2.1) {d : Nat} (hd : 258 ≤ d) {a0 : Nat} {a1 : Nat} {a2 : Nat} {a3 : Nat} {i4 : Int32} (hx : e.1 a1 = some (11, 19)) (hm : e.1 a2 = some (12, 75)) {k : Nat} (hk : k + 1 ≤ 514) {k23 : Int32 → mm_V → Option (Int32 × mm_V)} (hk23 : ∀ (w4 : Int32) (m : mm_V) (r : Int32 × mm_V), k23 w4 m = some r → mm_G K (ML_law q) d (1011, 17440, .inl (some (.int r.1)), (e.1, r.2), none) 23 [some (.ref a0), some (.ref a1), some (.ref a2), some (.ref a3), some (.int w4), none, none, none] [] (e.1, m) none (493 + (k + 1)) (14332 + 6 * (k + 1))) {m : mm_V} {r : Int32 × mm_V} (hr : L_law_b1182 e k23 a0 a1 a2 a3 i4 m = some r) : mm_G K (ML_law q) d (1011, 17440, .inl (some (.int r.1)), (e.1, r.2), none) 1182 [some (.ref a0), some (.ref a1), some (.ref a2), some (.ref a3), some (.int i4), none, none, none] [] (e.1, m) none (493 + (k + 1)) (14332 + 6 * (k + 1)) := by
  obtain ⟨d, rfl⟩ : ∃ d', d = d' + 1 := ⟨d - 1, by omega⟩
  unfold L_law_b1182 at hr
  refine mg_goto (pc := 1182) 1713 dL_law_1182 rfl ?_
  exact mg_cs (by omega) (by omega) (mg_weak (mm_le_s (mm_le_s (mm_le_s (mm_le_s (mm_le_s (mm_le_n (mm_le_n (mm_le_n mm_le_0)))))))) (L_law_b1713_ok hz hnc hd hx hm (by omega) hk23 hr))
def L_law_b1117 (e : mm_E) (k23 : Int32 → mm_V → Option (Int32 × mm_V)) (a0 : Nat) (a1 : Nat) (a2 : Nat) (a3 : Nat) (i4 : Int32) (m : mm_V) : Option (Int32 × mm_V) := (mm_ai e.1 m 31 a0 (i4 + (1 : Int32))).bind fun x1 => (mm_ai e.1 m 31 a0 (i4 + (2 : Int32))).bind fun x2 => (L_choose e a1 x1 x2 a3 m).bind fun r3 => (mm_ai e.1 r3.2 31 a0 (i4 + (1 : Int32))).bind fun x4 => (mm_ai e.1 r3.2 31 a0 (i4 + (2 : Int32))).bind fun x5 => (X12_choose e a2 x4 x5 r3.2).bind fun r6 => (X12_thrown e a2 r6.2).bind fun r7 => if r7.1 = r3.1 then (if ¬ r3.1 = 0 then (L_law_b1182 e k23 a0 a1 a2 a3 i4  r7.2) else ((mm_al e.1 r7.2 a3 (0 : Int32)).bind fun y8 => if (lg_cmp y8 r6.1.toInt64) = 0 then (L_law_b1182 e k23 a0 a1 a2 a3 i4  r7.2) else (mm_rz (0 : Int32) r7.2))) else (mm_rz (0 : Int32) r7.2)
theorem L_law_b1117_ok {K : mm_K} {q : String × List (Nat × Nat × Nat × Nat)} {e : mm_E} (hz : e.2.1 = K.2.2.2.2) (hnc : va_Nc "java/lang/IllegalArgumentException" "java/util/NoSuchElementException" K.2.1) {d : Nat} (hd : 258 ≤ d) {a0 : Nat} {a1 : Nat} {a2 : Nat} {a3 : Nat} {i4 : Int32} (hx : e.1 a1 = some (11, 19)) (hm : e.1 a2 = some (12, 75)) {k : Nat} (hk : k + 1 ≤ 514) {k23 : Int32 → mm_V → Option (Int32 × mm_V)} (hk23 : ∀ (w4 : Int32) (m : mm_V) (r : Int32 × mm_V), k23 w4 m = some r → mm_G K (ML_law q) d (1011, 17440, .inl (some (.int r.1)), (e.1, r.2), none) 23 [some (.ref a0), some (.ref a1), some (.ref a2), some (.ref a3), some (.int w4), none, none, none] [] (e.1, m) none (493 + (k + 1)) (14332 + 6 * (k + 1))) {m : mm_V} {r : Int32 × mm_V} (hr : L_law_b1117 e k23 a0 a1 a2 a3 i4 m = some r) : mm_G K (ML_law q) d (1011, 17440, .inl (some (.int r.1)), (e.1, r.2), none) 1117 [some (.ref a0), some (.ref a1), some (.ref a2), some (.ref a3), some (.int i4), none, none, none] [] (e.1, m) none (493 + (k + 0)) (14332 + 6 * (k + 0)) := by
  obtain ⟨d, rfl⟩ : ∃ d', d = d' + 1 := ⟨d - 1, by omega⟩
  unfold L_law_b1117 at hr
  refine ml_aload_n (pc := 1117) dL_law_1117 rfl (mm_get_s mm_get_0) ?_
  refine ml_aload_n (pc := 1118) dL_law_1118 rfl mm_get_0 ?_
  refine ml_iload (pc := 1119) dL_law_1119 (mm_get_s (mm_get_s (mm_get_s (mm_get_s mm_get_0)))) ?_
  refine mg_iconst (pc := 1121) dL_law_1121 kc_1 ?_
  refine mg_iadd (pc := 1122) dL_law_1122 ?_
  refine mb_ax (pc := 1123) dL_law_1123 hr (fun x1 hr => ?_)
  refine ml_aload_n (pc := 1124) dL_law_1124 rfl mm_get_0 ?_
  refine ml_iload (pc := 1125) dL_law_1125 (mm_get_s (mm_get_s (mm_get_s (mm_get_s mm_get_0)))) ?_
  refine mg_iconst (pc := 1127) dL_law_1127 kc_2 ?_
  refine mg_iadd (pc := 1128) dL_law_1128 ?_
  refine mb_ax (pc := 1129) dL_law_1129 hr (fun x2 hr => ?_)
  refine ml_aload_n (pc := 1130) dL_law_1130 rfl (mm_get_s (mm_get_s (mm_get_s mm_get_0))) ?_
  refine mb_wS (pc := 1131) (As := [.ref a1, .int x1, .int x2, .ref a3]) (rest := []) dL_law_1131 cx_149 hr (fun v hv => L_choose_ok hz hnc (by omega) hx hv) rfl (Nat.le_of_ble_eq_true rfl) (by show _ ≤ 1011; omega) (by show _ ≤ 17440; omega) (fun r3 hr => ?_)
  refine ml_istore (pc := 1134) dL_law_1134 (Nat.le_of_ble_eq_true rfl) (mm_st1_s (mm_st1_s (mm_st1_s (mm_st1_s mm_st1_i)))) ?_
  refine ml_aload_n (pc := 1136) dL_law_1136 rfl (mm_get_s (mm_get_s mm_get_0)) ?_
  refine ml_aload_n (pc := 1137) dL_law_1137 rfl mm_get_0 ?_
  refine ml_iload (pc := 1138) dL_law_1138 (mm_get_s (mm_get_s (mm_get_s (mm_get_s mm_get_0)))) ?_
  refine mg_iconst (pc := 1140) dL_law_1140 kc_1 ?_
  refine mg_iadd (pc := 1141) dL_law_1141 ?_
  refine mb_ax (pc := 1142) dL_law_1142 hr (fun x4 hr => ?_)
  refine ml_aload_n (pc := 1143) dL_law_1143 rfl mm_get_0 ?_
  refine ml_iload (pc := 1144) dL_law_1144 (mm_get_s (mm_get_s (mm_get_s (mm_get_s mm_get_0)))) ?_
  refine mg_iconst (pc := 1146) dL_law_1146 kc_2 ?_
  refine mg_iadd (pc := 1147) dL_law_1147 ?_
  refine mb_ax (pc := 1148) dL_law_1148 hr (fun x5 hr => ?_)
  refine mb_cVi (pc := 1149) (As := [.int x4, .int x5]) (rest := []) dL_law_1149 cw_L_151 hm hr (fun v hv => X12_choose_ok hz (by omega) hm hv) rfl (Nat.le_of_ble_eq_true rfl) (by show _ ≤ 1011; omega) (by show _ ≤ 17440; omega) (fun r6 hr => ?_)
  refine ml_istore (pc := 1152) dL_law_1152 (Nat.le_of_ble_eq_true rfl) (mm_st1_s (mm_st1_s (mm_st1_s (mm_st1_s (mm_st1_s mm_st1_i))))) ?_
  refine ml_aload_n (pc := 1154) dL_law_1154 rfl (mm_get_s (mm_get_s mm_get_0)) ?_
  refine mb_cVi (pc := 1155) (As := []) (rest := []) dL_law_1155 cw_L_96 hm hr (fun v hv => X12_thrown_ok hz (by omega) hm hv) rfl (Nat.le_of_ble_eq_true rfl) (by show _ ≤ 1011; omega) (by show _ ≤ 17440; omega) (fun r7 hr => ?_)
  refine ml_iload (pc := 1158) dL_law_1158 (mm_get_s (mm_get_s (mm_get_s (mm_get_s (mm_get_s mm_get_0))))) ?_
  refine mb_icmp_eq (pc := 1160) 1165 dL_law_1160 rfl hr (fun hr => ?_) (fun hr => ?_)
  · refine ml_iload (pc := 1165) dL_law_1165 (mm_get_s (mm_get_s (mm_get_s (mm_get_s (mm_get_s mm_get_0))))) ?_
    refine mb_if_ne (pc := 1167) 1182 dL_law_1167 rfl hr (fun hr => ?_) (fun hr => ?_)
    · exact mg_cs (by omega) (by omega) (mg_weak (mm_le_s (mm_le_s (mm_le_s (mm_le_s (mm_le_s (mm_le_n (mm_le_n (mm_le_n mm_le_0)))))))) (L_law_b1182_ok hz hnc hd hx hm (by omega) hk23 hr))
    · refine ml_aload_n (pc := 1170) dL_law_1170 rfl (mm_get_s (mm_get_s (mm_get_s mm_get_0))) ?_
      refine mg_iconst (pc := 1171) dL_law_1171 kc_0 ?_
      refine mb_al (pc := 1172) dL_law_1172 hr (fun y8 hr => ?_)
      refine ml_iload (pc := 1173) dL_law_1173 (mm_get_s (mm_get_s (mm_get_s (mm_get_s (mm_get_s (mm_get_s mm_get_0)))))) ?_
      refine mg_i2l (pc := 1175) dL_law_1175 ?_
      refine mg_lcmp (pc := 1176) dL_law_1176 ?_
      refine mb_if_eq (pc := 1177) 1182 dL_law_1177 rfl hr (fun hr => ?_) (fun hr => ?_)
      · exact mg_cs (by omega) (by omega) (mg_weak (mm_le_s (mm_le_s (mm_le_s (mm_le_s (mm_le_s (mm_le_n (mm_le_n (mm_le_n mm_le_0)))))))) (L_law_b1182_ok hz hnc hd hx hm (by omega) hk23 hr))
      · refine mg_iconst (pc := 1180) dL_law_1180 kc_0 ?_
        exact mb_lwret dL_law_1181 rfl rfl (by show _ ≤ 1011; omega) (by show _ ≤ 17440; omega) hr
  · refine mg_iconst (pc := 1163) dL_law_1163 kc_0 ?_
    exact mb_lwret dL_law_1164 rfl rfl (by show _ ≤ 1011; omega) (by show _ ≤ 17440; omega) hr
def L_law_b1114 (e : mm_E) (k23 : Int32 → mm_V → Option (Int32 × mm_V)) (a0 : Nat) (a1 : Nat) (a2 : Nat) (a3 : Nat) (i4 : Int32) (m : mm_V) : Option (Int32 × mm_V) := L_law_b1713 e k23 a0 a1 a2 a3 i4  m
theorem L_law_b1114_ok {K : mm_K} {q : String × List (Nat × Nat × Nat × Nat)} {e : mm_E} (hz : e.2.1 = K.2.2.2.2) (hnc : va_Nc "java/lang/IllegalArgumentException" "java/util/NoSuchElementException" K.2.1) {d : Nat} (hd : 258 ≤ d) {a0 : Nat} {a1 : Nat} {a2 : Nat} {a3 : Nat} {i4 : Int32} (hx : e.1 a1 = some (11, 19)) (hm : e.1 a2 = some (12, 75)) {k : Nat} (hk : k + 1 ≤ 514) {k23 : Int32 → mm_V → Option (Int32 × mm_V)} (hk23 : ∀ (w4 : Int32) (m : mm_V) (r : Int32 × mm_V), k23 w4 m = some r → mm_G K (ML_law q) d (1011, 17440, .inl (some (.int r.1)), (e.1, r.2), none) 23 [some (.ref a0), some (.ref a1), some (.ref a2), some (.ref a3), some (.int w4), none, none, none] [] (e.1, m) none (493 + (k + 1)) (14332 + 6 * (k + 1))) {m : mm_V} {r : Int32 × mm_V} (hr : L_law_b1114 e k23 a0 a1 a2 a3 i4 m = some r) : mm_G K (ML_law q) d (1011, 17440, .inl (some (.int r.1)), (e.1, r.2), none) 1114 [some (.ref a0), some (.ref a1), some (.ref a2), some (.ref a3), some (.int i4), none, none, none] [] (e.1, m) none (493 + (k + 1)) (14332 + 6 * (k + 1)) := by
  obtain ⟨d, rfl⟩ : ∃ d', d = d' + 1 := ⟨d - 1, by omega⟩
  unfold L_law_b1114 at hr
  refine mg_goto (pc := 1114) 1713 dL_law_1114 rfl ?_
  exact mg_cs (by omega) (by omega) (mg_weak (mm_le_s (mm_le_s (mm_le_s (mm_le_s (mm_le_s (mm_le_n (mm_le_n (mm_le_n mm_le_0)))))))) (L_law_b1713_ok hz hnc hd hx hm (by omega) hk23 hr))
def L_law_b1037 (e : mm_E) (k23 : Int32 → mm_V → Option (Int32 × mm_V)) (a0 : Nat) (a1 : Nat) (a2 : Nat) (a3 : Nat) (i4 : Int32) (m : mm_V) : Option (Int32 × mm_V) := (mm_ai e.1 m 31 a0 (i4 + (1 : Int32))).bind fun x1 => (mm_ai e.1 m 31 a0 (i4 + (2 : Int32))).bind fun x2 => (mm_ai e.1 m 31 a0 (i4 + (3 : Int32))).bind fun x3 => (L_hold e a1 x1 x2 x3 a3 m).bind fun r4 => (mm_ai e.1 r4.2 31 a0 (i4 + (1 : Int32))).bind fun x5 => (mm_ai e.1 r4.2 31 a0 (i4 + (2 : Int32))).bind fun x6 => (mm_ai e.1 r4.2 31 a0 (i4 + (3 : Int32))).bind fun x7 => (X12_hold e a2 x5 x6 x7 r4.2).bind fun r8 => (X12_thrown e a2 r8.2).bind fun r9 => if r9.1 = r4.1 then (if ¬ r4.1 = 0 then (L_law_b1114 e k23 a0 a1 a2 a3 i4  r9.2) else ((mm_al e.1 r9.2 a3 (0 : Int32)).bind fun y10 => if (lg_cmp y10 r8.1.toInt64) = 0 then (L_law_b1114 e k23 a0 a1 a2 a3 i4  r9.2) else (mm_rz (0 : Int32) r9.2))) else (mm_rz (0 : Int32) r9.2)
theorem L_law_b1037_ok {K : mm_K} {q : String × List (Nat × Nat × Nat × Nat)} {e : mm_E} (hz : e.2.1 = K.2.2.2.2) (hnc : va_Nc "java/lang/IllegalArgumentException" "java/util/NoSuchElementException" K.2.1) {d : Nat} (hd : 258 ≤ d) {a0 : Nat} {a1 : Nat} {a2 : Nat} {a3 : Nat} {i4 : Int32} (hx : e.1 a1 = some (11, 19)) (hm : e.1 a2 = some (12, 75)) {k : Nat} (hk : k + 1 ≤ 514) {k23 : Int32 → mm_V → Option (Int32 × mm_V)} (hk23 : ∀ (w4 : Int32) (m : mm_V) (r : Int32 × mm_V), k23 w4 m = some r → mm_G K (ML_law q) d (1011, 17440, .inl (some (.int r.1)), (e.1, r.2), none) 23 [some (.ref a0), some (.ref a1), some (.ref a2), some (.ref a3), some (.int w4), none, none, none] [] (e.1, m) none (493 + (k + 1)) (14332 + 6 * (k + 1))) {m : mm_V} {r : Int32 × mm_V} (hr : L_law_b1037 e k23 a0 a1 a2 a3 i4 m = some r) : mm_G K (ML_law q) d (1011, 17440, .inl (some (.int r.1)), (e.1, r.2), none) 1037 [some (.ref a0), some (.ref a1), some (.ref a2), some (.ref a3), some (.int i4), none, none, none] [] (e.1, m) none (493 + (k + 0)) (14332 + 6 * (k + 0)) := by
  obtain ⟨d, rfl⟩ : ∃ d', d = d' + 1 := ⟨d - 1, by omega⟩
  unfold L_law_b1037 at hr
  refine ml_aload_n (pc := 1037) dL_law_1037 rfl (mm_get_s mm_get_0) ?_
  refine ml_aload_n (pc := 1038) dL_law_1038 rfl mm_get_0 ?_
  refine ml_iload (pc := 1039) dL_law_1039 (mm_get_s (mm_get_s (mm_get_s (mm_get_s mm_get_0)))) ?_
  refine mg_iconst (pc := 1041) dL_law_1041 kc_1 ?_
  refine mg_iadd (pc := 1042) dL_law_1042 ?_
  refine mb_ax (pc := 1043) dL_law_1043 hr (fun x1 hr => ?_)
  refine ml_aload_n (pc := 1044) dL_law_1044 rfl mm_get_0 ?_
  refine ml_iload (pc := 1045) dL_law_1045 (mm_get_s (mm_get_s (mm_get_s (mm_get_s mm_get_0)))) ?_
  refine mg_iconst (pc := 1047) dL_law_1047 kc_2 ?_
  refine mg_iadd (pc := 1048) dL_law_1048 ?_
  refine mb_ax (pc := 1049) dL_law_1049 hr (fun x2 hr => ?_)
  refine ml_aload_n (pc := 1050) dL_law_1050 rfl mm_get_0 ?_
  refine ml_iload (pc := 1051) dL_law_1051 (mm_get_s (mm_get_s (mm_get_s (mm_get_s mm_get_0)))) ?_
  refine mg_iconst (pc := 1053) dL_law_1053 kc_3 ?_
  refine mg_iadd (pc := 1054) dL_law_1054 ?_
  refine mb_ax (pc := 1055) dL_law_1055 hr (fun x3 hr => ?_)
  refine ml_aload_n (pc := 1056) dL_law_1056 rfl (mm_get_s (mm_get_s (mm_get_s mm_get_0))) ?_
  refine mb_wS (pc := 1057) (As := [.ref a1, .int x1, .int x2, .int x3, .ref a3]) (rest := []) dL_law_1057 cx_146 hr (fun v hv => L_hold_ok hz hnc (by omega) hx hv) rfl (Nat.le_of_ble_eq_true rfl) (by show _ ≤ 1011; omega) (by show _ ≤ 17440; omega) (fun r4 hr => ?_)
  refine ml_istore (pc := 1060) dL_law_1060 (Nat.le_of_ble_eq_true rfl) (mm_st1_s (mm_st1_s (mm_st1_s (mm_st1_s mm_st1_i)))) ?_
  refine ml_aload_n (pc := 1062) dL_law_1062 rfl (mm_get_s (mm_get_s mm_get_0)) ?_
  refine ml_aload_n (pc := 1063) dL_law_1063 rfl mm_get_0 ?_
  refine ml_iload (pc := 1064) dL_law_1064 (mm_get_s (mm_get_s (mm_get_s (mm_get_s mm_get_0)))) ?_
  refine mg_iconst (pc := 1066) dL_law_1066 kc_1 ?_
  refine mg_iadd (pc := 1067) dL_law_1067 ?_
  refine mb_ax (pc := 1068) dL_law_1068 hr (fun x5 hr => ?_)
  refine ml_aload_n (pc := 1069) dL_law_1069 rfl mm_get_0 ?_
  refine ml_iload (pc := 1070) dL_law_1070 (mm_get_s (mm_get_s (mm_get_s (mm_get_s mm_get_0)))) ?_
  refine mg_iconst (pc := 1072) dL_law_1072 kc_2 ?_
  refine mg_iadd (pc := 1073) dL_law_1073 ?_
  refine mb_ax (pc := 1074) dL_law_1074 hr (fun x6 hr => ?_)
  refine ml_aload_n (pc := 1075) dL_law_1075 rfl mm_get_0 ?_
  refine ml_iload (pc := 1076) dL_law_1076 (mm_get_s (mm_get_s (mm_get_s (mm_get_s mm_get_0)))) ?_
  refine mg_iconst (pc := 1078) dL_law_1078 kc_3 ?_
  refine mg_iadd (pc := 1079) dL_law_1079 ?_
  refine mb_ax (pc := 1080) dL_law_1080 hr (fun x7 hr => ?_)
  refine mb_cVi (pc := 1081) (As := [.int x5, .int x6, .int x7]) (rest := []) dL_law_1081 cw_L_148 hm hr (fun v hv => X12_hold_ok hz (by omega) hm hv) rfl (Nat.le_of_ble_eq_true rfl) (by show _ ≤ 1011; omega) (by show _ ≤ 17440; omega) (fun r8 hr => ?_)
  refine ml_istore (pc := 1084) dL_law_1084 (Nat.le_of_ble_eq_true rfl) (mm_st1_s (mm_st1_s (mm_st1_s (mm_st1_s (mm_st1_s mm_st1_i))))) ?_
  refine ml_aload_n (pc := 1086) dL_law_1086 rfl (mm_get_s (mm_get_s mm_get_0)) ?_
  refine mb_cVi (pc := 1087) (As := []) (rest := []) dL_law_1087 cw_L_96 hm hr (fun v hv => X12_thrown_ok hz (by omega) hm hv) rfl (Nat.le_of_ble_eq_true rfl) (by show _ ≤ 1011; omega) (by show _ ≤ 17440; omega) (fun r9 hr => ?_)
  refine ml_iload (pc := 1090) dL_law_1090 (mm_get_s (mm_get_s (mm_get_s (mm_get_s (mm_get_s mm_get_0))))) ?_
  refine mb_icmp_eq (pc := 1092) 1097 dL_law_1092 rfl hr (fun hr => ?_) (fun hr => ?_)
  · refine ml_iload (pc := 1097) dL_law_1097 (mm_get_s (mm_get_s (mm_get_s (mm_get_s (mm_get_s mm_get_0))))) ?_
    refine mb_if_ne (pc := 1099) 1114 dL_law_1099 rfl hr (fun hr => ?_) (fun hr => ?_)
    · exact mg_cs (by omega) (by omega) (mg_weak (mm_le_s (mm_le_s (mm_le_s (mm_le_s (mm_le_s (mm_le_n (mm_le_n (mm_le_n mm_le_0)))))))) (L_law_b1114_ok hz hnc hd hx hm (by omega) hk23 hr))
    · refine ml_aload_n (pc := 1102) dL_law_1102 rfl (mm_get_s (mm_get_s (mm_get_s mm_get_0))) ?_
      refine mg_iconst (pc := 1103) dL_law_1103 kc_0 ?_
      refine mb_al (pc := 1104) dL_law_1104 hr (fun y10 hr => ?_)
      refine ml_iload (pc := 1105) dL_law_1105 (mm_get_s (mm_get_s (mm_get_s (mm_get_s (mm_get_s (mm_get_s mm_get_0)))))) ?_
      refine mg_i2l (pc := 1107) dL_law_1107 ?_
      refine mg_lcmp (pc := 1108) dL_law_1108 ?_
      refine mb_if_eq (pc := 1109) 1114 dL_law_1109 rfl hr (fun hr => ?_) (fun hr => ?_)
      · exact mg_cs (by omega) (by omega) (mg_weak (mm_le_s (mm_le_s (mm_le_s (mm_le_s (mm_le_s (mm_le_n (mm_le_n (mm_le_n mm_le_0)))))))) (L_law_b1114_ok hz hnc hd hx hm (by omega) hk23 hr))
      · refine mg_iconst (pc := 1112) dL_law_1112 kc_0 ?_
        exact mb_lwret dL_law_1113 rfl rfl (by show _ ≤ 1011; omega) (by show _ ≤ 17440; omega) hr
  · refine mg_iconst (pc := 1095) dL_law_1095 kc_0 ?_
    exact mb_lwret dL_law_1096 rfl rfl (by show _ ≤ 1011; omega) (by show _ ≤ 17440; omega) hr
def L_law_b1034 (e : mm_E) (k23 : Int32 → mm_V → Option (Int32 × mm_V)) (a0 : Nat) (a1 : Nat) (a2 : Nat) (a3 : Nat) (i4 : Int32) (m : mm_V) : Option (Int32 × mm_V) := L_law_b1713 e k23 a0 a1 a2 a3 i4  m
theorem L_law_b1034_ok {K : mm_K} {q : String × List (Nat × Nat × Nat × Nat)} {e : mm_E} (hz : e.2.1 = K.2.2.2.2) (hnc : va_Nc "java/lang/IllegalArgumentException" "java/util/NoSuchElementException" K.2.1) {d : Nat} (hd : 258 ≤ d) {a0 : Nat} {a1 : Nat} {a2 : Nat} {a3 : Nat} {i4 : Int32} (hx : e.1 a1 = some (11, 19)) (hm : e.1 a2 = some (12, 75)) {k : Nat} (hk : k + 1 ≤ 514) {k23 : Int32 → mm_V → Option (Int32 × mm_V)} (hk23 : ∀ (w4 : Int32) (m : mm_V) (r : Int32 × mm_V), k23 w4 m = some r → mm_G K (ML_law q) d (1011, 17440, .inl (some (.int r.1)), (e.1, r.2), none) 23 [some (.ref a0), some (.ref a1), some (.ref a2), some (.ref a3), some (.int w4), none, none, none] [] (e.1, m) none (493 + (k + 1)) (14332 + 6 * (k + 1))) {m : mm_V} {r : Int32 × mm_V} (hr : L_law_b1034 e k23 a0 a1 a2 a3 i4 m = some r) : mm_G K (ML_law q) d (1011, 17440, .inl (some (.int r.1)), (e.1, r.2), none) 1034 [some (.ref a0), some (.ref a1), some (.ref a2), some (.ref a3), some (.int i4), none, none, none] [] (e.1, m) none (493 + (k + 1)) (14332 + 6 * (k + 1)) := by
  obtain ⟨d, rfl⟩ : ∃ d', d = d' + 1 := ⟨d - 1, by omega⟩
  unfold L_law_b1034 at hr
  refine mg_goto (pc := 1034) 1713 dL_law_1034 rfl ?_
  exact mg_cs (by omega) (by omega) (mg_weak (mm_le_s (mm_le_s (mm_le_s (mm_le_s (mm_le_s (mm_le_n (mm_le_n (mm_le_n mm_le_0)))))))) (L_law_b1713_ok hz hnc hd hx hm (by omega) hk23 hr))
def L_law_b970 (e : mm_E) (k23 : Int32 → mm_V → Option (Int32 × mm_V)) (a0 : Nat) (a1 : Nat) (a2 : Nat) (a3 : Nat) (i4 : Int32) (m : mm_V) : Option (Int32 × mm_V) := (mm_ai e.1 m 31 a0 (i4 + (1 : Int32))).bind fun x1 => (mm_ai e.1 m 31 a0 (i4 + (2 : Int32))).bind fun x2 => (L_peeped e a1 x1 x2 a3 m).bind fun r3 => (mm_ai e.1 r3.2 31 a0 (i4 + (1 : Int32))).bind fun x4 => (mm_ai e.1 r3.2 31 a0 (i4 + (2 : Int32))).bind fun x5 => (X12_peeped e a2 x4 x5 r3.2).bind fun r6 => (X12_thrown e a2 r6.2).bind fun r7 => if r7.1 = r3.1 then (if ¬ r3.1 = 0 then (L_law_b1034 e k23 a0 a1 a2 a3 i4  r7.2) else ((mm_al e.1 r7.2 a3 (0 : Int32)).bind fun y8 => if (lg_cmp y8 r6.1) = 0 then (L_law_b1034 e k23 a0 a1 a2 a3 i4  r7.2) else (mm_rz (0 : Int32) r7.2))) else (mm_rz (0 : Int32) r7.2)
theorem L_law_b970_ok {K : mm_K} {q : String × List (Nat × Nat × Nat × Nat)} {e : mm_E} (hz : e.2.1 = K.2.2.2.2) (hnc : va_Nc "java/lang/IllegalArgumentException" "java/util/NoSuchElementException" K.2.1) {d : Nat} (hd : 258 ≤ d) {a0 : Nat} {a1 : Nat} {a2 : Nat} {a3 : Nat} {i4 : Int32} (hx : e.1 a1 = some (11, 19)) (hm : e.1 a2 = some (12, 75)) {k : Nat} (hk : k + 1 ≤ 514) {k23 : Int32 → mm_V → Option (Int32 × mm_V)} (hk23 : ∀ (w4 : Int32) (m : mm_V) (r : Int32 × mm_V), k23 w4 m = some r → mm_G K (ML_law q) d (1011, 17440, .inl (some (.int r.1)), (e.1, r.2), none) 23 [some (.ref a0), some (.ref a1), some (.ref a2), some (.ref a3), some (.int w4), none, none, none] [] (e.1, m) none (493 + (k + 1)) (14332 + 6 * (k + 1))) {m : mm_V} {r : Int32 × mm_V} (hr : L_law_b970 e k23 a0 a1 a2 a3 i4 m = some r) : mm_G K (ML_law q) d (1011, 17440, .inl (some (.int r.1)), (e.1, r.2), none) 970 [some (.ref a0), some (.ref a1), some (.ref a2), some (.ref a3), some (.int i4), none, none, none] [] (e.1, m) none (493 + (k + 0)) (14332 + 6 * (k + 0)) := by
  obtain ⟨d, rfl⟩ : ∃ d', d = d' + 1 := ⟨d - 1, by omega⟩
  unfold L_law_b970 at hr
  refine ml_aload_n (pc := 970) dL_law_970 rfl (mm_get_s mm_get_0) ?_
  refine ml_aload_n (pc := 971) dL_law_971 rfl mm_get_0 ?_
  refine ml_iload (pc := 972) dL_law_972 (mm_get_s (mm_get_s (mm_get_s (mm_get_s mm_get_0)))) ?_
  refine mg_iconst (pc := 974) dL_law_974 kc_1 ?_
  refine mg_iadd (pc := 975) dL_law_975 ?_
  refine mb_ax (pc := 976) dL_law_976 hr (fun x1 hr => ?_)
  refine ml_aload_n (pc := 977) dL_law_977 rfl mm_get_0 ?_
  refine ml_iload (pc := 978) dL_law_978 (mm_get_s (mm_get_s (mm_get_s (mm_get_s mm_get_0)))) ?_
  refine mg_iconst (pc := 980) dL_law_980 kc_2 ?_
  refine mg_iadd (pc := 981) dL_law_981 ?_
  refine mb_ax (pc := 982) dL_law_982 hr (fun x2 hr => ?_)
  refine ml_aload_n (pc := 983) dL_law_983 rfl (mm_get_s (mm_get_s (mm_get_s mm_get_0))) ?_
  refine mb_wS (pc := 984) (As := [.ref a1, .int x1, .int x2, .ref a3]) (rest := []) dL_law_984 cx_143 hr (fun v hv => L_peeped_ok hz hnc (by omega) hx hv) rfl (Nat.le_of_ble_eq_true rfl) (by show _ ≤ 1011; omega) (by show _ ≤ 17440; omega) (fun r3 hr => ?_)
  refine ml_istore (pc := 987) dL_law_987 (Nat.le_of_ble_eq_true rfl) (mm_st1_s (mm_st1_s (mm_st1_s (mm_st1_s mm_st1_i)))) ?_
  refine ml_aload_n (pc := 989) dL_law_989 rfl (mm_get_s (mm_get_s mm_get_0)) ?_
  refine ml_aload_n (pc := 990) dL_law_990 rfl mm_get_0 ?_
  refine ml_iload (pc := 991) dL_law_991 (mm_get_s (mm_get_s (mm_get_s (mm_get_s mm_get_0)))) ?_
  refine mg_iconst (pc := 993) dL_law_993 kc_1 ?_
  refine mg_iadd (pc := 994) dL_law_994 ?_
  refine mb_ax (pc := 995) dL_law_995 hr (fun x4 hr => ?_)
  refine ml_aload_n (pc := 996) dL_law_996 rfl mm_get_0 ?_
  refine ml_iload (pc := 997) dL_law_997 (mm_get_s (mm_get_s (mm_get_s (mm_get_s mm_get_0)))) ?_
  refine mg_iconst (pc := 999) dL_law_999 kc_2 ?_
  refine mg_iadd (pc := 1000) dL_law_1000 ?_
  refine mb_ax (pc := 1001) dL_law_1001 hr (fun x5 hr => ?_)
  refine mb_cVl (pc := 1002) (As := [.int x4, .int x5]) (rest := []) dL_law_1002 cw_L_145 hm hr (fun v hv => X12_peeped_ok hz (by omega) hm hv) rfl (Nat.le_of_ble_eq_true rfl) (by show _ ≤ 1011; omega) (by show _ ≤ 17440; omega) (fun r6 hr => ?_)
  refine ml_lstore (pc := 1005) dL_law_1005 (Nat.le_of_ble_eq_true rfl) (mm_st2_s (mm_st2_s (mm_st2_s (mm_st2_s (mm_st2_s mm_st2_i))))) ?_
  refine ml_aload_n (pc := 1007) dL_law_1007 rfl (mm_get_s (mm_get_s mm_get_0)) ?_
  refine mb_cVi (pc := 1008) (As := []) (rest := []) dL_law_1008 cw_L_96 hm hr (fun v hv => X12_thrown_ok hz (by omega) hm hv) rfl (Nat.le_of_ble_eq_true rfl) (by show _ ≤ 1011; omega) (by show _ ≤ 17440; omega) (fun r7 hr => ?_)
  refine ml_iload (pc := 1011) dL_law_1011 (mm_get_s (mm_get_s (mm_get_s (mm_get_s (mm_get_s mm_get_0))))) ?_
  refine mb_icmp_eq (pc := 1013) 1018 dL_law_1013 rfl hr (fun hr => ?_) (fun hr => ?_)
  · refine ml_iload (pc := 1018) dL_law_1018 (mm_get_s (mm_get_s (mm_get_s (mm_get_s (mm_get_s mm_get_0))))) ?_
    refine mb_if_ne (pc := 1020) 1034 dL_law_1020 rfl hr (fun hr => ?_) (fun hr => ?_)
    · exact mg_cs (by omega) (by omega) (mg_weak (mm_le_s (mm_le_s (mm_le_s (mm_le_s (mm_le_s (mm_le_n (mm_le_n (mm_le_n mm_le_0)))))))) (L_law_b1034_ok hz hnc hd hx hm (by omega) hk23 hr))
    · refine ml_aload_n (pc := 1023) dL_law_1023 rfl (mm_get_s (mm_get_s (mm_get_s mm_get_0))) ?_
      refine mg_iconst (pc := 1024) dL_law_1024 kc_0 ?_
      refine mb_al (pc := 1025) dL_law_1025 hr (fun y8 hr => ?_)
      refine ml_lload (pc := 1026) dL_law_1026 (mm_get_s (mm_get_s (mm_get_s (mm_get_s (mm_get_s (mm_get_s mm_get_0)))))) ?_
      refine mg_lcmp (pc := 1028) dL_law_1028 ?_
      refine mb_if_eq (pc := 1029) 1034 dL_law_1029 rfl hr (fun hr => ?_) (fun hr => ?_)
      · exact mg_cs (by omega) (by omega) (mg_weak (mm_le_s (mm_le_s (mm_le_s (mm_le_s (mm_le_s (mm_le_n (mm_le_n (mm_le_n mm_le_0)))))))) (L_law_b1034_ok hz hnc hd hx hm (by omega) hk23 hr))
      · refine mg_iconst (pc := 1032) dL_law_1032 kc_0 ?_
        exact mb_lwret dL_law_1033 rfl rfl (by show _ ≤ 1011; omega) (by show _ ≤ 17440; omega) hr
  · refine mg_iconst (pc := 1016) dL_law_1016 kc_0 ?_
    exact mb_lwret dL_law_1017 rfl rfl (by show _ ≤ 1011; omega) (by show _ ≤ 17440; omega) hr
def L_law_b967 (e : mm_E) (k23 : Int32 → mm_V → Option (Int32 × mm_V)) (a0 : Nat) (a1 : Nat) (a2 : Nat) (a3 : Nat) (i4 : Int32) (m : mm_V) : Option (Int32 × mm_V) := L_law_b1713 e k23 a0 a1 a2 a3 i4  m
theorem L_law_b967_ok {K : mm_K} {q : String × List (Nat × Nat × Nat × Nat)} {e : mm_E} (hz : e.2.1 = K.2.2.2.2) (hnc : va_Nc "java/lang/IllegalArgumentException" "java/util/NoSuchElementException" K.2.1) {d : Nat} (hd : 258 ≤ d) {a0 : Nat} {a1 : Nat} {a2 : Nat} {a3 : Nat} {i4 : Int32} (hx : e.1 a1 = some (11, 19)) (hm : e.1 a2 = some (12, 75)) {k : Nat} (hk : k + 1 ≤ 514) {k23 : Int32 → mm_V → Option (Int32 × mm_V)} (hk23 : ∀ (w4 : Int32) (m : mm_V) (r : Int32 × mm_V), k23 w4 m = some r → mm_G K (ML_law q) d (1011, 17440, .inl (some (.int r.1)), (e.1, r.2), none) 23 [some (.ref a0), some (.ref a1), some (.ref a2), some (.ref a3), some (.int w4), none, none, none] [] (e.1, m) none (493 + (k + 1)) (14332 + 6 * (k + 1))) {m : mm_V} {r : Int32 × mm_V} (hr : L_law_b967 e k23 a0 a1 a2 a3 i4 m = some r) : mm_G K (ML_law q) d (1011, 17440, .inl (some (.int r.1)), (e.1, r.2), none) 967 [some (.ref a0), some (.ref a1), some (.ref a2), some (.ref a3), some (.int i4), none, none, none] [] (e.1, m) none (493 + (k + 1)) (14332 + 6 * (k + 1)) := by
  obtain ⟨d, rfl⟩ : ∃ d', d = d' + 1 := ⟨d - 1, by omega⟩
  unfold L_law_b967 at hr
  refine mg_goto (pc := 967) 1713 dL_law_967 rfl ?_
  exact mg_cs (by omega) (by omega) (mg_weak (mm_le_s (mm_le_s (mm_le_s (mm_le_s (mm_le_s (mm_le_n (mm_le_n (mm_le_n mm_le_0)))))))) (L_law_b1713_ok hz hnc hd hx hm (by omega) hk23 hr))
def L_law_b902 (e : mm_E) (k23 : Int32 → mm_V → Option (Int32 × mm_V)) (a0 : Nat) (a1 : Nat) (a2 : Nat) (a3 : Nat) (i4 : Int32) (m : mm_V) : Option (Int32 × mm_V) := (mm_ai e.1 m 31 a0 (i4 + (1 : Int32))).bind fun x1 => (mm_ai e.1 m 31 a0 (i4 + (2 : Int32))).bind fun x2 => (L_belief e a1 x1 x2 a3 m).bind fun r3 => (mm_ai e.1 r3.2 31 a0 (i4 + (1 : Int32))).bind fun x4 => (mm_ai e.1 r3.2 31 a0 (i4 + (2 : Int32))).bind fun x5 => (X12_belief e a2 x4 x5 r3.2).bind fun r6 => (X12_thrown e a2 r6.2).bind fun r7 => if r7.1 = r3.1 then (if ¬ r3.1 = 0 then (L_law_b967 e k23 a0 a1 a2 a3 i4  r7.2) else ((mm_al e.1 r7.2 a3 (0 : Int32)).bind fun y8 => if (lg_cmp y8 r6.1.toInt64) = 0 then (L_law_b967 e k23 a0 a1 a2 a3 i4  r7.2) else (mm_rz (0 : Int32) r7.2))) else (mm_rz (0 : Int32) r7.2)
theorem L_law_b902_ok {K : mm_K} {q : String × List (Nat × Nat × Nat × Nat)} {e : mm_E} (hz : e.2.1 = K.2.2.2.2) (hnc : va_Nc "java/lang/IllegalArgumentException" "java/util/NoSuchElementException" K.2.1) {d : Nat} (hd : 258 ≤ d) {a0 : Nat} {a1 : Nat} {a2 : Nat} {a3 : Nat} {i4 : Int32} (hx : e.1 a1 = some (11, 19)) (hm : e.1 a2 = some (12, 75)) {k : Nat} (hk : k + 1 ≤ 514) {k23 : Int32 → mm_V → Option (Int32 × mm_V)} (hk23 : ∀ (w4 : Int32) (m : mm_V) (r : Int32 × mm_V), k23 w4 m = some r → mm_G K (ML_law q) d (1011, 17440, .inl (some (.int r.1)), (e.1, r.2), none) 23 [some (.ref a0), some (.ref a1), some (.ref a2), some (.ref a3), some (.int w4), none, none, none] [] (e.1, m) none (493 + (k + 1)) (14332 + 6 * (k + 1))) {m : mm_V} {r : Int32 × mm_V} (hr : L_law_b902 e k23 a0 a1 a2 a3 i4 m = some r) : mm_G K (ML_law q) d (1011, 17440, .inl (some (.int r.1)), (e.1, r.2), none) 902 [some (.ref a0), some (.ref a1), some (.ref a2), some (.ref a3), some (.int i4), none, none, none] [] (e.1, m) none (493 + (k + 0)) (14332 + 6 * (k + 0)) := by
  obtain ⟨d, rfl⟩ : ∃ d', d = d' + 1 := ⟨d - 1, by omega⟩
  unfold L_law_b902 at hr
  refine ml_aload_n (pc := 902) dL_law_902 rfl (mm_get_s mm_get_0) ?_
  refine ml_aload_n (pc := 903) dL_law_903 rfl mm_get_0 ?_
  refine ml_iload (pc := 904) dL_law_904 (mm_get_s (mm_get_s (mm_get_s (mm_get_s mm_get_0)))) ?_
  refine mg_iconst (pc := 906) dL_law_906 kc_1 ?_
  refine mg_iadd (pc := 907) dL_law_907 ?_
  refine mb_ax (pc := 908) dL_law_908 hr (fun x1 hr => ?_)
  refine ml_aload_n (pc := 909) dL_law_909 rfl mm_get_0 ?_
  refine ml_iload (pc := 910) dL_law_910 (mm_get_s (mm_get_s (mm_get_s (mm_get_s mm_get_0)))) ?_
  refine mg_iconst (pc := 912) dL_law_912 kc_2 ?_
  refine mg_iadd (pc := 913) dL_law_913 ?_
  refine mb_ax (pc := 914) dL_law_914 hr (fun x2 hr => ?_)
  refine ml_aload_n (pc := 915) dL_law_915 rfl (mm_get_s (mm_get_s (mm_get_s mm_get_0))) ?_
  refine mb_wS (pc := 916) (As := [.ref a1, .int x1, .int x2, .ref a3]) (rest := []) dL_law_916 cx_140 hr (fun v hv => L_belief_ok hz hnc (by omega) hx hv) rfl (Nat.le_of_ble_eq_true rfl) (by show _ ≤ 1011; omega) (by show _ ≤ 17440; omega) (fun r3 hr => ?_)
  refine ml_istore (pc := 919) dL_law_919 (Nat.le_of_ble_eq_true rfl) (mm_st1_s (mm_st1_s (mm_st1_s (mm_st1_s mm_st1_i)))) ?_
  refine ml_aload_n (pc := 921) dL_law_921 rfl (mm_get_s (mm_get_s mm_get_0)) ?_
  refine ml_aload_n (pc := 922) dL_law_922 rfl mm_get_0 ?_
  refine ml_iload (pc := 923) dL_law_923 (mm_get_s (mm_get_s (mm_get_s (mm_get_s mm_get_0)))) ?_
  refine mg_iconst (pc := 925) dL_law_925 kc_1 ?_
  refine mg_iadd (pc := 926) dL_law_926 ?_
  refine mb_ax (pc := 927) dL_law_927 hr (fun x4 hr => ?_)
  refine ml_aload_n (pc := 928) dL_law_928 rfl mm_get_0 ?_
  refine ml_iload (pc := 929) dL_law_929 (mm_get_s (mm_get_s (mm_get_s (mm_get_s mm_get_0)))) ?_
  refine mg_iconst (pc := 931) dL_law_931 kc_2 ?_
  refine mg_iadd (pc := 932) dL_law_932 ?_
  refine mb_ax (pc := 933) dL_law_933 hr (fun x5 hr => ?_)
  refine mb_cVi (pc := 934) (As := [.int x4, .int x5]) (rest := []) dL_law_934 cw_L_142 hm hr (fun v hv => X12_belief_ok hz (by omega) hm hv) rfl (Nat.le_of_ble_eq_true rfl) (by show _ ≤ 1011; omega) (by show _ ≤ 17440; omega) (fun r6 hr => ?_)
  refine ml_istore (pc := 937) dL_law_937 (Nat.le_of_ble_eq_true rfl) (mm_st1_s (mm_st1_s (mm_st1_s (mm_st1_s (mm_st1_s mm_st1_i))))) ?_
  refine ml_aload_n (pc := 939) dL_law_939 rfl (mm_get_s (mm_get_s mm_get_0)) ?_
  refine mb_cVi (pc := 940) (As := []) (rest := []) dL_law_940 cw_L_96 hm hr (fun v hv => X12_thrown_ok hz (by omega) hm hv) rfl (Nat.le_of_ble_eq_true rfl) (by show _ ≤ 1011; omega) (by show _ ≤ 17440; omega) (fun r7 hr => ?_)
  refine ml_iload (pc := 943) dL_law_943 (mm_get_s (mm_get_s (mm_get_s (mm_get_s (mm_get_s mm_get_0))))) ?_
  refine mb_icmp_eq (pc := 945) 950 dL_law_945 rfl hr (fun hr => ?_) (fun hr => ?_)
  · refine ml_iload (pc := 950) dL_law_950 (mm_get_s (mm_get_s (mm_get_s (mm_get_s (mm_get_s mm_get_0))))) ?_
    refine mb_if_ne (pc := 952) 967 dL_law_952 rfl hr (fun hr => ?_) (fun hr => ?_)
    · exact mg_cs (by omega) (by omega) (mg_weak (mm_le_s (mm_le_s (mm_le_s (mm_le_s (mm_le_s (mm_le_n (mm_le_n (mm_le_n mm_le_0)))))))) (L_law_b967_ok hz hnc hd hx hm (by omega) hk23 hr))
    · refine ml_aload_n (pc := 955) dL_law_955 rfl (mm_get_s (mm_get_s (mm_get_s mm_get_0))) ?_
      refine mg_iconst (pc := 956) dL_law_956 kc_0 ?_
      refine mb_al (pc := 957) dL_law_957 hr (fun y8 hr => ?_)
      refine ml_iload (pc := 958) dL_law_958 (mm_get_s (mm_get_s (mm_get_s (mm_get_s (mm_get_s (mm_get_s mm_get_0)))))) ?_
      refine mg_i2l (pc := 960) dL_law_960 ?_
      refine mg_lcmp (pc := 961) dL_law_961 ?_
      refine mb_if_eq (pc := 962) 967 dL_law_962 rfl hr (fun hr => ?_) (fun hr => ?_)
      · exact mg_cs (by omega) (by omega) (mg_weak (mm_le_s (mm_le_s (mm_le_s (mm_le_s (mm_le_s (mm_le_n (mm_le_n (mm_le_n mm_le_0)))))))) (L_law_b967_ok hz hnc hd hx hm (by omega) hk23 hr))
      · refine mg_iconst (pc := 965) dL_law_965 kc_0 ?_
        exact mb_lwret dL_law_966 rfl rfl (by show _ ≤ 1011; omega) (by show _ ≤ 17440; omega) hr
  · refine mg_iconst (pc := 948) dL_law_948 kc_0 ?_
    exact mb_lwret dL_law_949 rfl rfl (by show _ ≤ 1011; omega) (by show _ ≤ 17440; omega) hr
