theorem tw_824 : Cond.methodLink "SootQueen$Tokens" 54 ⟨"java/lang/String", "length", "()I"⟩ ∈ lw_tbl := List.mem_append_right _ (List.mem_of_getElem? (i := 824) (by decide +kernel))
theorem tw_834 : Cond.methodLink "SootQueen$Tokens" 59 ⟨"java/lang/String", "charAt", "(I)C"⟩ ∈ lw_tbl := List.mem_append_right _ (List.mem_of_getElem? (i := 834) (by decide +kernel))
theorem kb_m13 : (Int8.ofInt (-13)).toInt32 = (-13 : Int32) := by decide
theorem tw_942 : Cond.methodLink "SootQueen$Compiler" 62 ⟨"SootQueen$Compiler", "push", "(I)V"⟩ ∈ lw_tbl := List.mem_append_right _ (List.mem_of_getElem? (i := 942) (by decide +kernel))
theorem tw_945 : Cond.code ⟨"SootQueen$Compiler", "push", "(I)V"⟩ prog_3_method_7_code 2 none ∈ lw_tbl := List.mem_append_right _ (List.mem_of_getElem? (i := 945) (by decide +kernel))
theorem tw_944 : Cond.instanceMethod ⟨"SootQueen$Compiler", "push", "(I)V"⟩ ∈ lw_tbl := List.mem_append_right _ (List.mem_of_getElem? (i := 944) (by decide +kernel))
theorem sw_25 : Cond.selects "SootQueen$Compiler" ⟨"SootQueen$Compiler", "push", "(I)V"⟩ ⟨"SootQueen$Compiler", "push", "(I)V"⟩ ∈ lw_tbl := List.mem_append_left _ (List.mem_of_getElem? (i := 25) (by decide +kernel))
theorem cw_X1_62 : mm_CV RX1 62 MX1_push 1 1 := ⟨⟨Or.inl tw_942, tw_945, tw_6, ⟨by decide, by decide⟩, by decide +kernel, by decide⟩, tw_944, by decide, (RX1, TX1, 6), rfl, sw_25⟩
theorem tw_160 : Cond.fieldLink "SootQueen$Compiler" 15 "SootQueen$Compiler" "tokens" "LSootQueen$Tokens;" ∈ lw_tbl := List.mem_append_right _ (List.mem_of_getElem? (i := 160) (by decide +kernel))
theorem fl_X1_15 : mm_FL RX1 15 1 4 6 := ⟨(RX1, TX1, 6), rfl, rfl, by decide, by decide, Or.inl tw_160⟩
theorem tw_947 : Cond.methodLink "SootQueen$Compiler" 67 ⟨"SootQueen$Tokens", "isWord", "(Ljava/lang/String;)Z"⟩ ∈ lw_tbl := List.mem_append_right _ (List.mem_of_getElem? (i := 947) (by decide +kernel))
theorem tw_823 : Cond.code ⟨"SootQueen$Tokens", "isWord", "(Ljava/lang/String;)Z"⟩ prog_11_method_5_code 4 (some .boolean) ∈ lw_tbl := List.mem_append_right _ (List.mem_of_getElem? (i := 823) (by decide +kernel))
theorem tw_821 : Cond.instanceMethod ⟨"SootQueen$Tokens", "isWord", "(Ljava/lang/String;)Z"⟩ ∈ lw_tbl := List.mem_append_right _ (List.mem_of_getElem? (i := 821) (by decide +kernel))
theorem tw_822 : Cond.selects "SootQueen$Tokens" ⟨"SootQueen$Tokens", "isWord", "(Ljava/lang/String;)Z"⟩ ⟨"SootQueen$Tokens", "isWord", "(Ljava/lang/String;)Z"⟩ ∈ lw_tbl := List.mem_append_right _ (List.mem_of_getElem? (i := 822) (by decide +kernel))
theorem cw_X1_67 : mm_CV RX1 67 MX9_isWord 9 1 := ⟨⟨Or.inl tw_947, tw_823, tw_5, ⟨by decide, by decide⟩, by decide +kernel, by decide⟩, tw_821, by decide, (RX9, TX9, 6), rfl, tw_822⟩
theorem kb_m21 : (Int8.ofInt (-21)).toInt32 = (-21 : Int32) := by decide
theorem kb_m6 : (Int8.ofInt (-6)).toInt32 = (-6 : Int32) := by decide
theorem kb_m5 : (Int8.ofInt (-5)).toInt32 = (-5 : Int32) := by decide
theorem kb_m4 : (Int8.ofInt (-4)).toInt32 = (-4 : Int32) := by decide
theorem kb_m3 : (Int8.ofInt (-3)).toInt32 = (-3 : Int32) := by decide
theorem kb_m2 : (Int8.ofInt (-2)).toInt32 = (-2 : Int32) := by decide
theorem tw_159 : Cond.fieldLink "SootQueen$Compiler" 30 "SootQueen$Compiler" "partMustStand" "Z" ∈ lw_tbl := List.mem_append_right _ (List.mem_of_getElem? (i := 159) (by decide +kernel))
theorem fl_X1_30 : mm_FL RX1 30 1 3 6 := ⟨(RX1, TX1, 6), rfl, rfl, by decide, by decide, Or.inl tw_159⟩
theorem fp_X1_30 : mm_FP RX1 30 1 3 6 .boolean := ⟨fl_X1_30, (RX1, TX1, 6), rfl, rfl, by decide +kernel⟩
theorem tw_133 : Cond.fieldLinkNest "SootQueen$Compiler" 44 "SootQueen$Tokens" "kind" "I" "SootQueen" ∈ lw_tbl := List.mem_append_right _ (List.mem_of_getElem? (i := 133) (by decide +kernel))
theorem fl_X1_44 : mm_FL RX1 44 9 4 6 := ⟨(RX9, TX9, 6), rfl, rfl, by decide, by decide, Or.inr ⟨_, tw_133⟩⟩
theorem tw_962 : Cond.methodLink "SootQueen$Compiler" 87 ⟨"SootQueen$Tokens", "isTooLong", "()Z"⟩ ∈ lw_tbl := List.mem_append_right _ (List.mem_of_getElem? (i := 962) (by decide +kernel))
theorem tw_894 : Cond.code ⟨"SootQueen$Tokens", "isTooLong", "()Z"⟩ prog_11_method_4_code 1 (some .boolean) ∈ lw_tbl := List.mem_append_right _ (List.mem_of_getElem? (i := 894) (by decide +kernel))
theorem tw_892 : Cond.instanceMethod ⟨"SootQueen$Tokens", "isTooLong", "()Z"⟩ ∈ lw_tbl := List.mem_append_right _ (List.mem_of_getElem? (i := 892) (by decide +kernel))
theorem tw_893 : Cond.selects "SootQueen$Tokens" ⟨"SootQueen$Tokens", "isTooLong", "()Z"⟩ ⟨"SootQueen$Tokens", "isTooLong", "()Z"⟩ ∈ lw_tbl := List.mem_append_right _ (List.mem_of_getElem? (i := 893) (by decide +kernel))
theorem cw_X1_87 : mm_CV RX1 87 MX9_isTooLong 9 0 := ⟨⟨Or.inl tw_962, tw_894, tw_5, ⟨by decide, by decide⟩, by decide +kernel, by decide⟩, tw_892, by decide, (RX9, TX9, 6), rfl, tw_893⟩
theorem tw_952 : Cond.methodLink "SootQueen$Compiler" 84 ⟨"SootQueen$Compiler", "valueCode", "()I"⟩ ∈ lw_tbl := List.mem_append_right _ (List.mem_of_getElem? (i := 952) (by decide +kernel))
theorem tw_955 : Cond.code ⟨"SootQueen$Compiler", "valueCode", "()I"⟩ prog_3_method_9_code 1 (some .int) ∈ lw_tbl := List.mem_append_right _ (List.mem_of_getElem? (i := 955) (by decide +kernel))
theorem tw_954 : Cond.instanceMethod ⟨"SootQueen$Compiler", "valueCode", "()I"⟩ ∈ lw_tbl := List.mem_append_right _ (List.mem_of_getElem? (i := 954) (by decide +kernel))
theorem sw_27 : Cond.selects "SootQueen$Compiler" ⟨"SootQueen$Compiler", "valueCode", "()I"⟩ ⟨"SootQueen$Compiler", "valueCode", "()I"⟩ ∈ lw_tbl := List.mem_append_left _ (List.mem_of_getElem? (i := 27) (by decide +kernel))
theorem cw_X1_84 : mm_CV RX1 84 MX1_valueCode 1 0 := ⟨⟨Or.inl tw_952, tw_955, tw_6, ⟨by decide, by decide⟩, by decide +kernel, by decide⟩, tw_954, by decide, (RX1, TX1, 6), rfl, sw_27⟩
theorem tw_134 : Cond.fieldLinkNest "SootQueen$Compiler" 81 "SootQueen$Tokens" "number" "I" "SootQueen" ∈ lw_tbl := List.mem_append_right _ (List.mem_of_getElem? (i := 134) (by decide +kernel))
theorem fl_X1_81 : mm_FL RX1 81 9 5 6 := ⟨(RX9, TX9, 6), rfl, rfl, by decide, by decide, Or.inr ⟨_, tw_134⟩⟩
theorem tw_158 : Cond.fieldLink "SootQueen$Compiler" 27 "SootQueen$Compiler" "open" "I" ∈ lw_tbl := List.mem_append_right _ (List.mem_of_getElem? (i := 158) (by decide +kernel))
theorem fl_X1_27 : mm_FL RX1 27 1 2 6 := ⟨(RX1, TX1, 6), rfl, rfl, by decide, by decide, Or.inl tw_158⟩
theorem kb_40 : (Int8.ofInt (40)).toInt32 = (40 : Int32) := by decide
theorem tw_948 : Cond.methodLink "SootQueen$Compiler" 78 ⟨"SootQueen$Compiler", "pushNot", "()I"⟩ ∈ lw_tbl := List.mem_append_right _ (List.mem_of_getElem? (i := 948) (by decide +kernel))
theorem tw_951 : Cond.code ⟨"SootQueen$Compiler", "pushNot", "()I"⟩ prog_3_method_4_code 2 (some .int) ∈ lw_tbl := List.mem_append_right _ (List.mem_of_getElem? (i := 951) (by decide +kernel))
theorem tw_950 : Cond.instanceMethod ⟨"SootQueen$Compiler", "pushNot", "()I"⟩ ∈ lw_tbl := List.mem_append_right _ (List.mem_of_getElem? (i := 950) (by decide +kernel))
theorem sw_26 : Cond.selects "SootQueen$Compiler" ⟨"SootQueen$Compiler", "pushNot", "()I"⟩ ⟨"SootQueen$Compiler", "pushNot", "()I"⟩ ∈ lw_tbl := List.mem_append_left _ (List.mem_of_getElem? (i := 26) (by decide +kernel))
theorem cw_X1_78 : mm_CV RX1 78 MX1_pushNot 1 0 := ⟨⟨Or.inl tw_948, tw_951, tw_6, ⟨by decide, by decide⟩, by decide +kernel, by decide⟩, tw_950, by decide, (RX1, TX1, 6), rfl, sw_26⟩
theorem fp_X1_27 : mm_FP RX1 27 1 2 6 .int := ⟨fl_X1_27, (RX1, TX1, 6), rfl, rfl, by decide +kernel⟩
theorem kb_m18 : (Int8.ofInt (-18)).toInt32 = (-18 : Int32) := by decide
theorem kb_m16 : (Int8.ofInt (-16)).toInt32 = (-16 : Int32) := by decide
theorem kb_m17 : (Int8.ofInt (-17)).toInt32 = (-17 : Int32) := by decide
theorem kb_m19 : (Int8.ofInt (-19)).toInt32 = (-19 : Int32) := by decide
theorem kb_m14 : (Int8.ofInt (-14)).toInt32 = (-14 : Int32) := by decide
theorem kb_m15 : (Int8.ofInt (-15)).toInt32 = (-15 : Int32) := by decide
theorem kb_m12 : (Int8.ofInt (-12)).toInt32 = (-12 : Int32) := by decide
theorem kb_m11 : (Int8.ofInt (-11)).toInt32 = (-11 : Int32) := by decide
theorem tw_919 : Cond.methodLink "SootQueen$Compiler" 47 ⟨"SootQueen$Compiler", "settle", "(I)V"⟩ ∈ lw_tbl := List.mem_append_right _ (List.mem_of_getElem? (i := 919) (by decide +kernel))
theorem tw_922 : Cond.code ⟨"SootQueen$Compiler", "settle", "(I)V"⟩ prog_3_method_6_code 3 none ∈ lw_tbl := List.mem_append_right _ (List.mem_of_getElem? (i := 922) (by decide +kernel))
theorem tw_921 : Cond.instanceMethod ⟨"SootQueen$Compiler", "settle", "(I)V"⟩ ∈ lw_tbl := List.mem_append_right _ (List.mem_of_getElem? (i := 921) (by decide +kernel))
theorem sw_22 : Cond.selects "SootQueen$Compiler" ⟨"SootQueen$Compiler", "settle", "(I)V"⟩ ⟨"SootQueen$Compiler", "settle", "(I)V"⟩ ∈ lw_tbl := List.mem_append_left _ (List.mem_of_getElem? (i := 22) (by decide +kernel))
theorem cw_X1_47 : mm_CV RX1 47 MX1_settle 1 1 := ⟨⟨Or.inl tw_919, tw_922, tw_6, ⟨by decide, by decide⟩, by decide +kernel, by decide⟩, tw_921, by decide, (RX1, TX1, 6), rfl, sw_22⟩
theorem tw_973 : Cond.methodLink "SootQueen$Compiler" 97 ⟨"SootQueen$Compiler", "isTest", "(I)Z"⟩ ∈ lw_tbl := List.mem_append_right _ (List.mem_of_getElem? (i := 973) (by decide +kernel))
theorem tw_975 : Cond.code ⟨"SootQueen$Compiler", "isTest", "(I)Z"⟩ prog_3_method_11_code 1 (some .boolean) ∈ lw_tbl := List.mem_append_right _ (List.mem_of_getElem? (i := 975) (by decide +kernel))
theorem tw_974 : Cond.static ⟨"SootQueen$Compiler", "isTest", "(I)Z"⟩ ∈ lw_tbl := List.mem_append_right _ (List.mem_of_getElem? (i := 974) (by decide +kernel))
theorem cw_X1_97 : mm_CS RX1 97 MX1_isTest 1 := ⟨⟨Or.inl tw_973, tw_975, tw_6, ⟨by decide, by decide⟩, by decide +kernel, by decide⟩, tw_974⟩
theorem tw_967 : Cond.methodLink "SootQueen$Compiler" 94 ⟨"SootQueen$Compiler", "operatorCode", "()I"⟩ ∈ lw_tbl := List.mem_append_right _ (List.mem_of_getElem? (i := 967) (by decide +kernel))
theorem tw_970 : Cond.code ⟨"SootQueen$Compiler", "operatorCode", "()I"⟩ prog_3_method_10_code 1 (some .int) ∈ lw_tbl := List.mem_append_right _ (List.mem_of_getElem? (i := 970) (by decide +kernel))
theorem tw_969 : Cond.instanceMethod ⟨"SootQueen$Compiler", "operatorCode", "()I"⟩ ∈ lw_tbl := List.mem_append_right _ (List.mem_of_getElem? (i := 969) (by decide +kernel))
theorem sw_29 : Cond.selects "SootQueen$Compiler" ⟨"SootQueen$Compiler", "operatorCode", "()I"⟩ ⟨"SootQueen$Compiler", "operatorCode", "()I"⟩ ∈ lw_tbl := List.mem_append_left _ (List.mem_of_getElem? (i := 29) (by decide +kernel))
theorem cw_X1_94 : mm_CV RX1 94 MX1_operatorCode 1 0 := ⟨⟨Or.inl tw_967, tw_970, tw_6, ⟨by decide, by decide⟩, by decide +kernel, by decide⟩, tw_969, by decide, (RX1, TX1, 6), rfl, sw_29⟩
theorem kb_41 : (Int8.ofInt (41)).toInt32 = (41 : Int32) := by decide
theorem tw_918 : Cond.methodLink "SootQueen$Compiler" 39 ⟨"SootQueen$Tokens", "next", "()V"⟩ ∈ lw_tbl := List.mem_append_right _ (List.mem_of_getElem? (i := 918) (by decide +kernel))
theorem tw_797 : Cond.code ⟨"SootQueen$Tokens", "next", "()V"⟩ prog_11_method_3_code 1 none ∈ lw_tbl := List.mem_append_right _ (List.mem_of_getElem? (i := 797) (by decide +kernel))
theorem tw_795 : Cond.instanceMethod ⟨"SootQueen$Tokens", "next", "()V"⟩ ∈ lw_tbl := List.mem_append_right _ (List.mem_of_getElem? (i := 795) (by decide +kernel))
theorem tw_796 : Cond.selects "SootQueen$Tokens" ⟨"SootQueen$Tokens", "next", "()V"⟩ ⟨"SootQueen$Tokens", "next", "()V"⟩ ∈ lw_tbl := List.mem_append_right _ (List.mem_of_getElem? (i := 796) (by decide +kernel))
theorem cw_X1_39 : mm_CV RX1 39 MX9_next 9 0 := ⟨⟨Or.inl tw_918, tw_797, tw_5, ⟨by decide, by decide⟩, by decide +kernel, by decide⟩, tw_795, by decide, (RX9, TX9, 6), rfl, tw_796⟩
theorem tw_963 : Cond.methodLink "SootQueen$Compiler" 59 ⟨"SootQueen$Compiler", "behindPart", "()I"⟩ ∈ lw_tbl := List.mem_append_right _ (List.mem_of_getElem? (i := 963) (by decide +kernel))
theorem tw_966 : Cond.code ⟨"SootQueen$Compiler", "behindPart", "()I"⟩ prog_3_method_5_code 2 (some .int) ∈ lw_tbl := List.mem_append_right _ (List.mem_of_getElem? (i := 966) (by decide +kernel))
theorem tw_965 : Cond.instanceMethod ⟨"SootQueen$Compiler", "behindPart", "()I"⟩ ∈ lw_tbl := List.mem_append_right _ (List.mem_of_getElem? (i := 965) (by decide +kernel))
theorem sw_28 : Cond.selects "SootQueen$Compiler" ⟨"SootQueen$Compiler", "behindPart", "()I"⟩ ⟨"SootQueen$Compiler", "behindPart", "()I"⟩ ∈ lw_tbl := List.mem_append_left _ (List.mem_of_getElem? (i := 28) (by decide +kernel))
theorem cw_X1_59 : mm_CV RX1 59 MX1_behindPart 1 0 := ⟨⟨Or.inl tw_963, tw_966, tw_6, ⟨by decide, by decide⟩, by decide +kernel, by decide⟩, tw_965, by decide, (RX1, TX1, 6), rfl, sw_28⟩
theorem tw_938 : Cond.methodLink "SootQueen$Compiler" 55 ⟨"SootQueen$Compiler", "part", "()I"⟩ ∈ lw_tbl := List.mem_append_right _ (List.mem_of_getElem? (i := 938) (by decide +kernel))
theorem tw_941 : Cond.code ⟨"SootQueen$Compiler", "part", "()I"⟩ prog_3_method_3_code 2 (some .int) ∈ lw_tbl := List.mem_append_right _ (List.mem_of_getElem? (i := 941) (by decide +kernel))
theorem tw_940 : Cond.instanceMethod ⟨"SootQueen$Compiler", "part", "()I"⟩ ∈ lw_tbl := List.mem_append_right _ (List.mem_of_getElem? (i := 940) (by decide +kernel))
theorem sw_24 : Cond.selects "SootQueen$Compiler" ⟨"SootQueen$Compiler", "part", "()I"⟩ ⟨"SootQueen$Compiler", "part", "()I"⟩ ∈ lw_tbl := List.mem_append_left _ (List.mem_of_getElem? (i := 24) (by decide +kernel))
theorem cw_X1_55 : mm_CV RX1 55 MX1_part 1 0 := ⟨⟨Or.inl tw_938, tw_941, tw_6, ⟨by decide, by decide⟩, by decide +kernel, by decide⟩, tw_940, by decide, (RX1, TX1, 6), rfl, sw_24⟩
theorem ks_600 : (Int16.ofInt (600)).toInt32 = (600 : Int32) := by decide
theorem kb_59 : (Int8.ofInt (59)).toInt32 = (59 : Int32) := by decide
theorem tw_934 : Cond.methodLink "SootQueen$Compiler" 51 ⟨"SootQueen$Told", "setRule", "(II)V"⟩ ∈ lw_tbl := List.mem_append_right _ (List.mem_of_getElem? (i := 934) (by decide +kernel))
theorem tw_937 : Cond.code ⟨"SootQueen$Told", "setRule", "(II)V"⟩ prog_12_method_6_code 3 none ∈ lw_tbl := List.mem_append_right _ (List.mem_of_getElem? (i := 937) (by decide +kernel))
theorem tw_935 : Cond.instanceMethod ⟨"SootQueen$Told", "setRule", "(II)V"⟩ ∈ lw_tbl := List.mem_append_right _ (List.mem_of_getElem? (i := 935) (by decide +kernel))
theorem tw_936 : Cond.selects "SootQueen$Told" ⟨"SootQueen$Told", "setRule", "(II)V"⟩ ⟨"SootQueen$Told", "setRule", "(II)V"⟩ ∈ lw_tbl := List.mem_append_right _ (List.mem_of_getElem? (i := 936) (by decide +kernel))
theorem cw_X1_51 : mm_CV RX1 51 MX10_setRule 10 2 := ⟨⟨Or.inl tw_934, tw_937, tw_2, ⟨by decide, by decide⟩, by decide +kernel, by decide⟩, tw_935, by decide, (RX10, TX10, 11), rfl, tw_936⟩
theorem fp_X1_19 : mm_FP RX1 19 1 5 6 (.object "SootQueen$Told") := ⟨fl_X1_19, (RX1, TX1, 6), rfl, rfl, by decide +kernel⟩
theorem tw_87 : Cond.fieldLinkNest "SootQueen$Compiler" 34 "SootQueen$Told" "codeCount" "I" "SootQueen" ∈ lw_tbl := List.mem_append_right _ (List.mem_of_getElem? (i := 87) (by decide +kernel))
theorem fl_X1_34 : mm_FL RX1 34 10 9 11 := ⟨(RX10, TX10, 11), rfl, rfl, by decide, by decide, Or.inr ⟨_, tw_87⟩⟩
theorem tw_212 : Cond.fieldLink "SootQueen$Draw" 7 "SootQueen$Draw" "drawer" "I" ∈ lw_tbl := List.mem_append_right _ (List.mem_of_getElem? (i := 212) (by decide +kernel))
theorem fl_X2_7 : mm_FL RX2 7 2 0 9 := ⟨(RX2, TX2, 9), rfl, rfl, by decide, by decide, Or.inl tw_212⟩
theorem fp_X2_7 : mm_FP RX2 7 2 0 9 .int := ⟨fl_X2_7, (RX2, TX2, 9), rfl, rfl, by decide +kernel⟩
theorem tw_216 : Cond.fieldLink "SootQueen$Draw" 13 "SootQueen$Draw" "from" "I" ∈ lw_tbl := List.mem_append_right _ (List.mem_of_getElem? (i := 216) (by decide +kernel))
theorem fl_X2_13 : mm_FL RX2 13 2 1 9 := ⟨(RX2, TX2, 9), rfl, rfl, by decide, by decide, Or.inl tw_216⟩
theorem fp_X2_13 : mm_FP RX2 13 2 1 9 .int := ⟨fl_X2_13, (RX2, TX2, 9), rfl, rfl, by decide +kernel⟩
theorem tw_220 : Cond.fieldLink "SootQueen$Draw" 16 "SootQueen$Draw" "place" "I" ∈ lw_tbl := List.mem_append_right _ (List.mem_of_getElem? (i := 220) (by decide +kernel))
theorem fl_X2_16 : mm_FL RX2 16 2 2 9 := ⟨(RX2, TX2, 9), rfl, rfl, by decide, by decide, Or.inl tw_220⟩
theorem fp_X2_16 : mm_FP RX2 16 2 2 9 .int := ⟨fl_X2_16, (RX2, TX2, 9), rfl, rfl, by decide +kernel⟩
theorem tw_224 : Cond.fieldLink "SootQueen$Draw" 19 "SootQueen$Draw" "size" "I" ∈ lw_tbl := List.mem_append_right _ (List.mem_of_getElem? (i := 224) (by decide +kernel))
theorem fl_X2_19 : mm_FL RX2 19 2 3 9 := ⟨(RX2, TX2, 9), rfl, rfl, by decide, by decide, Or.inl tw_224⟩
theorem fp_X2_19 : mm_FP RX2 19 2 3 9 .int := ⟨fl_X2_19, (RX2, TX2, 9), rfl, rfl, by decide +kernel⟩
theorem tw_227 : Cond.fieldLink "SootQueen$Draw" 22 "SootQueen$Draw" "withQueen" "Z" ∈ lw_tbl := List.mem_append_right _ (List.mem_of_getElem? (i := 227) (by decide +kernel))
theorem fl_X2_22 : mm_FL RX2 22 2 4 9 := ⟨(RX2, TX2, 9), rfl, rfl, by decide, by decide, Or.inl tw_227⟩
theorem fp_X2_22 : mm_FP RX2 22 2 4 9 .boolean := ⟨fl_X2_22, (RX2, TX2, 9), rfl, rfl, by decide +kernel⟩
theorem tw_230 : Cond.fieldLink "SootQueen$Draw" 26 "SootQueen$Draw" "card" "I" ∈ lw_tbl := List.mem_append_right _ (List.mem_of_getElem? (i := 230) (by decide +kernel))
theorem fl_X2_26 : mm_FL RX2 26 2 5 9 := ⟨(RX2, TX2, 9), rfl, rfl, by decide, by decide, Or.inl tw_230⟩
theorem fp_X2_26 : mm_FP RX2 26 2 5 9 .int := ⟨fl_X2_26, (RX2, TX2, 9), rfl, rfl, by decide +kernel⟩
theorem tw_234 : Cond.fieldLink "SootQueen$Draw" 29 "SootQueen$Draw" "aside" "Z" ∈ lw_tbl := List.mem_append_right _ (List.mem_of_getElem? (i := 234) (by decide +kernel))
theorem fl_X2_29 : mm_FL RX2 29 2 6 9 := ⟨(RX2, TX2, 9), rfl, rfl, by decide, by decide, Or.inl tw_234⟩
theorem fp_X2_29 : mm_FP RX2 29 2 6 9 .boolean := ⟨fl_X2_29, (RX2, TX2, 9), rfl, rfl, by decide +kernel⟩
theorem tw_238 : Cond.fieldLink "SootQueen$Draw" 32 "SootQueen$Draw" "ownPlace" "I" ∈ lw_tbl := List.mem_append_right _ (List.mem_of_getElem? (i := 238) (by decide +kernel))
theorem fl_X2_32 : mm_FL RX2 32 2 7 9 := ⟨(RX2, TX2, 9), rfl, rfl, by decide, by decide, Or.inl tw_238⟩
theorem fp_X2_32 : mm_FP RX2 32 2 7 9 .int := ⟨fl_X2_32, (RX2, TX2, 9), rfl, rfl, by decide +kernel⟩
theorem tw_241 : Cond.fieldLink "SootQueen$Draw" 35 "SootQueen$Draw" "lastBefore" "I" ∈ lw_tbl := List.mem_append_right _ (List.mem_of_getElem? (i := 241) (by decide +kernel))
theorem fl_X2_35 : mm_FL RX2 35 2 8 9 := ⟨(RX2, TX2, 9), rfl, rfl, by decide, by decide, Or.inl tw_241⟩
theorem fp_X2_35 : mm_FP RX2 35 2 8 9 .int := ⟨fl_X2_35, (RX2, TX2, 9), rfl, rfl, by decide +kernel⟩
theorem tw_479 : Cond.methodLink "SootQueen$Game" 47 ⟨"SootQueen$Fan", "clear", "()V"⟩ ∈ lw_tbl := List.mem_append_right _ (List.mem_of_getElem? (i := 479) (by decide +kernel))
theorem cw_X4_47 : mm_CV RX4 47 MX3_clear 3 0 := ⟨⟨Or.inl tw_479, tw_65, tw_3, ⟨by decide, by decide⟩, by decide +kernel, by decide⟩, tw_63, by decide, (RX3, TX3, 2), rfl, tw_64⟩
theorem tw_287 : Cond.fieldLink "SootQueen$Game" 22 "SootQueen$Game" "sitter" "[I" ∈ lw_tbl := List.mem_append_right _ (List.mem_of_getElem? (i := 287) (by decide +kernel))
theorem fl_X4_22 : mm_FL RX4 22 4 2 12 := ⟨(RX4, TX4, 12), rfl, rfl, by decide, by decide, Or.inl tw_287⟩
theorem tw_291 : Cond.fieldLink "SootQueen$Game" 35 "SootQueen$Game" "told" "LSootQueen$Told;" ∈ lw_tbl := List.mem_append_right _ (List.mem_of_getElem? (i := 291) (by decide +kernel))
theorem fl_X4_35 : mm_FL RX4 35 4 6 12 := ⟨(RX4, TX4, 12), rfl, rfl, by decide, by decide, Or.inl tw_291⟩
theorem fp_X4_35 : mm_FP RX4 35 4 6 12 (.object "SootQueen$Told") := ⟨fl_X4_35, (RX4, TX4, 12), rfl, rfl, by decide +kernel⟩
theorem tw_293 : Cond.fieldLink "SootQueen$Game" 39 "SootQueen$Game" "laws" "I" ∈ lw_tbl := List.mem_append_right _ (List.mem_of_getElem? (i := 293) (by decide +kernel))
theorem fl_X4_39 : mm_FL RX4 39 4 7 12 := ⟨(RX4, TX4, 12), rfl, rfl, by decide, by decide, Or.inl tw_293⟩
theorem fp_X4_39 : mm_FP RX4 39 4 7 12 .int := ⟨fl_X4_39, (RX4, TX4, 12), rfl, rfl, by decide +kernel⟩
theorem tw_294 : Cond.fieldLink "SootQueen$Game" 43 "SootQueen$Game" "lucky" "Z" ∈ lw_tbl := List.mem_append_right _ (List.mem_of_getElem? (i := 294) (by decide +kernel))
theorem fl_X4_43 : mm_FL RX4 43 4 8 12 := ⟨(RX4, TX4, 12), rfl, rfl, by decide, by decide, Or.inl tw_294⟩
theorem fp_X4_43 : mm_FP RX4 43 4 8 12 .boolean := ⟨fl_X4_43, (RX4, TX4, 12), rfl, rfl, by decide +kernel⟩
theorem tw_496 : Cond.methodLink "SootQueen$Game" 76 ⟨"SootQueen$Game", "fanAt", "(I)LSootQueen$Fan;"⟩ ∈ lw_tbl := List.mem_append_right _ (List.mem_of_getElem? (i := 496) (by decide +kernel))
theorem cw_X4_76 : mm_CV RX4 76 MX4_fanAt 4 1 := ⟨⟨Or.inl tw_496, tw_499, tw_9, ⟨by decide, by decide⟩, by decide +kernel, by decide⟩, tw_497, by decide, (RX4, TX4, 12), rfl, tw_498⟩
theorem tw_49 : Cond.fieldLinkNest "SootQueen$Game" 90 "SootQueen$Fan" "size" "I" "SootQueen" ∈ lw_tbl := List.mem_append_right _ (List.mem_of_getElem? (i := 49) (by decide +kernel))
theorem fl_X4_90 : mm_FL RX4 90 3 1 2 := ⟨(RX3, TX3, 2), rfl, rfl, by decide, by decide, Or.inr ⟨_, tw_49⟩⟩
theorem tw_75 : Cond.fieldLinkNest "SootQueen$Game" 84 "SootQueen$Told" "people" "I" "SootQueen" ∈ lw_tbl := List.mem_append_right _ (List.mem_of_getElem? (i := 75) (by decide +kernel))
theorem fl_X4_84 : mm_FL RX4 84 10 6 11 := ⟨(RX10, TX10, 11), rfl, rfl, by decide, by decide, Or.inr ⟨_, tw_75⟩⟩
theorem tw_298 : Cond.fieldLink "SootQueen$Game" 117 "SootQueen$Game" "turn" "I" ∈ lw_tbl := List.mem_append_right _ (List.mem_of_getElem? (i := 298) (by decide +kernel))
theorem fl_X4_117 : mm_FL RX4 117 4 10 12 := ⟨(RX4, TX4, 12), rfl, rfl, by decide, by decide, Or.inl tw_298⟩
theorem fp_X4_117 : mm_FP RX4 117 4 10 12 .int := ⟨fl_X4_117, (RX4, TX4, 12), rfl, rfl, by decide +kernel⟩
theorem tw_492 : Cond.methodLink "SootQueen$Game" 109 ⟨"SootQueen$Game", "isEmpty", "(I)Z"⟩ ∈ lw_tbl := List.mem_append_right _ (List.mem_of_getElem? (i := 492) (by decide +kernel))
theorem tw_495 : Cond.code ⟨"SootQueen$Game", "isEmpty", "(I)Z"⟩ prog_6_method_11_code 2 (some .boolean) ∈ lw_tbl := List.mem_append_right _ (List.mem_of_getElem? (i := 495) (by decide +kernel))
theorem tw_493 : Cond.instanceMethod ⟨"SootQueen$Game", "isEmpty", "(I)Z"⟩ ∈ lw_tbl := List.mem_append_right _ (List.mem_of_getElem? (i := 493) (by decide +kernel))
theorem tw_494 : Cond.selects "SootQueen$Game" ⟨"SootQueen$Game", "isEmpty", "(I)Z"⟩ ⟨"SootQueen$Game", "isEmpty", "(I)Z"⟩ ∈ lw_tbl := List.mem_append_right _ (List.mem_of_getElem? (i := 494) (by decide +kernel))
theorem cw_X4_109 : mm_CV RX4 109 MX4_isEmpty 4 1 := ⟨⟨Or.inl tw_492, tw_495, tw_9, ⟨by decide, by decide⟩, by decide +kernel, by decide⟩, tw_493, by decide, (RX4, TX4, 12), rfl, tw_494⟩
theorem tw_500 : Cond.methodLink "SootQueen$Game" 113 ⟨"SootQueen$Game", "beside", "(IZ)I"⟩ ∈ lw_tbl := List.mem_append_right _ (List.mem_of_getElem? (i := 500) (by decide +kernel))
theorem tw_503 : Cond.code ⟨"SootQueen$Game", "beside", "(IZ)I"⟩ prog_6_method_15_code 5 (some .int) ∈ lw_tbl := List.mem_append_right _ (List.mem_of_getElem? (i := 503) (by decide +kernel))
theorem tw_502 : Cond.instanceMethod ⟨"SootQueen$Game", "beside", "(IZ)I"⟩ ∈ lw_tbl := List.mem_append_right _ (List.mem_of_getElem? (i := 502) (by decide +kernel))
theorem sw_2 : Cond.selects "SootQueen$Game" ⟨"SootQueen$Game", "beside", "(IZ)I"⟩ ⟨"SootQueen$Game", "beside", "(IZ)I"⟩ ∈ lw_tbl := List.mem_append_left _ (List.mem_of_getElem? (i := 2) (by decide +kernel))
theorem cw_X4_113 : mm_CV RX4 113 MX4_beside 4 2 := ⟨⟨Or.inl tw_500, tw_503, tw_9, ⟨by decide, by decide⟩, by decide +kernel, by decide⟩, tw_502, by decide, (RX4, TX4, 12), rfl, sw_2⟩
theorem tw_288 : Cond.fieldLink "SootQueen$Game" 26 "SootQueen$Game" "last" "[I" ∈ lw_tbl := List.mem_append_right _ (List.mem_of_getElem? (i := 288) (by decide +kernel))
theorem fl_X4_26 : mm_FL RX4 26 4 3 12 := ⟨(RX4, TX4, 12), rfl, rfl, by decide, by decide, Or.inl tw_288⟩
theorem tw_300 : Cond.fieldLink "SootQueen$Game" 106 "SootQueen$Game" "done" "I" ∈ lw_tbl := List.mem_append_right _ (List.mem_of_getElem? (i := 300) (by decide +kernel))
theorem fl_X4_106 : mm_FL RX4 106 4 11 12 := ⟨(RX4, TX4, 12), rfl, rfl, by decide, by decide, Or.inl tw_300⟩
theorem fp_X4_106 : mm_FP RX4 106 4 11 12 .int := ⟨fl_X4_106, (RX4, TX4, 12), rfl, rfl, by decide +kernel⟩
theorem tw_488 : Cond.methodLink "SootQueen$Game" 57 ⟨"SootQueen$Game", "start", "()V"⟩ ∈ lw_tbl := List.mem_append_right _ (List.mem_of_getElem? (i := 488) (by decide +kernel))
theorem tw_491 : Cond.code ⟨"SootQueen$Game", "start", "()V"⟩ prog_6_method_8_code 2 none ∈ lw_tbl := List.mem_append_right _ (List.mem_of_getElem? (i := 491) (by decide +kernel))
theorem tw_490 : Cond.instanceMethod ⟨"SootQueen$Game", "start", "()V"⟩ ∈ lw_tbl := List.mem_append_right _ (List.mem_of_getElem? (i := 490) (by decide +kernel))
theorem sw_1 : Cond.selects "SootQueen$Game" ⟨"SootQueen$Game", "start", "()V"⟩ ⟨"SootQueen$Game", "start", "()V"⟩ ∈ lw_tbl := List.mem_append_left _ (List.mem_of_getElem? (i := 1) (by decide +kernel))
theorem cw_X4_57 : mm_CV RX4 57 MX4_start 4 0 := ⟨⟨Or.inl tw_488, tw_491, tw_9, ⟨by decide, by decide⟩, by decide +kernel, by decide⟩, tw_490, by decide, (RX4, TX4, 12), rfl, sw_1⟩
theorem tw_67 : Cond.fieldLinkNest "SootQueen$Game" 50 "SootQueen$Told" "fans" "[LSootQueen$Fan;" "SootQueen" ∈ lw_tbl := List.mem_append_right _ (List.mem_of_getElem? (i := 67) (by decide +kernel))
theorem fl_X4_50 : mm_FL RX4 50 10 0 11 := ⟨(RX10, TX10, 11), rfl, rfl, by decide, by decide, Or.inr ⟨_, tw_67⟩⟩
theorem tw_484 : Cond.methodLink "SootQueen$Game" 53 ⟨"SootQueen$Fan", "copyFrom", "(LSootQueen$Fan;)V"⟩ ∈ lw_tbl := List.mem_append_right _ (List.mem_of_getElem? (i := 484) (by decide +kernel))
theorem cw_X4_53 : mm_CV RX4 53 MX3_copyFrom 3 1 := ⟨⟨Or.inl tw_484, tw_487, tw_3, ⟨by decide, by decide⟩, by decide +kernel, by decide⟩, tw_485, by decide, (RX3, TX3, 2), rfl, tw_486⟩
theorem tw_295 : Cond.fieldLink "SootQueen$Game" 60 "SootQueen$Game" "seed" "I" ∈ lw_tbl := List.mem_append_right _ (List.mem_of_getElem? (i := 295) (by decide +kernel))
theorem fl_X4_60 : mm_FL RX4 60 4 9 12 := ⟨(RX4, TX4, 12), rfl, rfl, by decide, by decide, Or.inl tw_295⟩
theorem tw_515 : Cond.constant "SootQueen$Game" 101 (1103515245) ∈ lw_tbl := List.mem_append_right _ (List.mem_of_getElem? (i := 515) (by decide +kernel))
theorem ks_12345 : (Int16.ofInt (12345)).toInt32 = (12345 : Int32) := by decide
theorem fp_X4_60 : mm_FP RX4 60 4 9 12 .int := ⟨fl_X4_60, (RX4, TX4, 12), rfl, rfl, by decide +kernel⟩
theorem kb_16 : (Int8.ofInt (16)).toInt32 = (16 : Int32) := by decide
theorem ks_32767 : (Int16.ofInt (32767)).toInt32 = (32767 : Int32) := by decide
theorem tw_520 : Cond.methodLink "SootQueen$Game" 87 ⟨"SootQueen$Fan", "placeOf", "(I)I"⟩ ∈ lw_tbl := List.mem_append_right _ (List.mem_of_getElem? (i := 520) (by decide +kernel))
theorem cw_X4_87 : mm_CV RX4 87 MX3_placeOf 3 1 := ⟨⟨Or.inl tw_520, tw_523, tw_3, ⟨by decide, by decide⟩, by decide +kernel, by decide⟩, tw_521, by decide, (RX3, TX3, 2), rfl, tw_522⟩
theorem tw_528 : Cond.methodLink "SootQueen$Game" 97 ⟨"SootQueen$Fan", "takeOut", "(I)V"⟩ ∈ lw_tbl := List.mem_append_right _ (List.mem_of_getElem? (i := 528) (by decide +kernel))
theorem cw_X4_97 : mm_CV RX4 97 MX3_takeOut 3 1 := ⟨⟨Or.inl tw_528, tw_531, tw_3, ⟨by decide, by decide⟩, by decide +kernel, by decide⟩, tw_529, by decide, (RX3, TX3, 2), rfl, tw_530⟩
theorem tw_524 : Cond.methodLink "SootQueen$Game" 93 ⟨"SootQueen$Fan", "putIn", "(II)V"⟩ ∈ lw_tbl := List.mem_append_right _ (List.mem_of_getElem? (i := 524) (by decide +kernel))
theorem cw_X4_93 : mm_CV RX4 93 MX3_putIn 3 2 := ⟨⟨Or.inl tw_524, tw_527, tw_3, ⟨by decide, by decide⟩, by decide +kernel, by decide⟩, tw_525, by decide, (RX3, TX3, 2), rfl, tw_526⟩
theorem tw_290 : Cond.fieldLink "SootQueen$Game" 32 "SootQueen$Game" "deck" "[I" ∈ lw_tbl := List.mem_append_right _ (List.mem_of_getElem? (i := 290) (by decide +kernel))
theorem fl_X4_32 : mm_FL RX4 32 4 5 12 := ⟨(RX4, TX4, 12), rfl, rfl, by decide, by decide, Or.inl tw_290⟩
theorem tw_516 : Cond.methodLink "SootQueen$Game" 80 ⟨"SootQueen$Game", "dealTo", "(LSootQueen$Fan;I)V"⟩ ∈ lw_tbl := List.mem_append_right _ (List.mem_of_getElem? (i := 516) (by decide +kernel))
theorem tw_519 : Cond.code ⟨"SootQueen$Game", "dealTo", "(LSootQueen$Fan;I)V"⟩ prog_6_method_5_code 4 none ∈ lw_tbl := List.mem_append_right _ (List.mem_of_getElem? (i := 519) (by decide +kernel))
theorem tw_518 : Cond.instanceMethod ⟨"SootQueen$Game", "dealTo", "(LSootQueen$Fan;I)V"⟩ ∈ lw_tbl := List.mem_append_right _ (List.mem_of_getElem? (i := 518) (by decide +kernel))
theorem sw_4 : Cond.selects "SootQueen$Game" ⟨"SootQueen$Game", "dealTo", "(LSootQueen$Fan;I)V"⟩ ⟨"SootQueen$Game", "dealTo", "(LSootQueen$Fan;I)V"⟩ ∈ lw_tbl := List.mem_append_left _ (List.mem_of_getElem? (i := 4) (by decide +kernel))
theorem cw_X4_80 : mm_CV RX4 80 MX4_dealTo 4 2 := ⟨⟨Or.inl tw_516, tw_519, tw_9, ⟨by decide, by decide⟩, by decide +kernel, by decide⟩, tw_518, by decide, (RX4, TX4, 12), rfl, sw_4⟩
theorem tw_511 : Cond.methodLink "SootQueen$Game" 72 ⟨"SootQueen$Game", "drawOf", "(I)I"⟩ ∈ lw_tbl := List.mem_append_right _ (List.mem_of_getElem? (i := 511) (by decide +kernel))
theorem tw_514 : Cond.code ⟨"SootQueen$Game", "drawOf", "(I)I"⟩ prog_6_method_6_code 2 (some .int) ∈ lw_tbl := List.mem_append_right _ (List.mem_of_getElem? (i := 514) (by decide +kernel))
theorem tw_513 : Cond.instanceMethod ⟨"SootQueen$Game", "drawOf", "(I)I"⟩ ∈ lw_tbl := List.mem_append_right _ (List.mem_of_getElem? (i := 513) (by decide +kernel))
theorem sw_3 : Cond.selects "SootQueen$Game" ⟨"SootQueen$Game", "drawOf", "(I)I"⟩ ⟨"SootQueen$Game", "drawOf", "(I)I"⟩ ∈ lw_tbl := List.mem_append_left _ (List.mem_of_getElem? (i := 3) (by decide +kernel))
theorem cw_X4_72 : mm_CV RX4 72 MX4_drawOf 4 1 := ⟨⟨Or.inl tw_511, tw_514, tw_9, ⟨by decide, by decide⟩, by decide +kernel, by decide⟩, tw_513, by decide, (RX4, TX4, 12), rfl, sw_3⟩
theorem tw_80 : Cond.fieldLinkNest "SootQueen$Game" 63 "SootQueen$Told" "pairs" "I" "SootQueen" ∈ lw_tbl := List.mem_append_right _ (List.mem_of_getElem? (i := 80) (by decide +kernel))
theorem fl_X4_63 : mm_FL RX4 63 10 7 11 := ⟨(RX10, TX10, 11), rfl, rfl, by decide, by decide, Or.inr ⟨_, tw_80⟩⟩
theorem tw_508 : Cond.methodLink "SootQueen$Game" 66 ⟨"java/lang/Math", "min", "(II)I"⟩ ∈ lw_tbl := List.mem_append_right _ (List.mem_of_getElem? (i := 508) (by decide +kernel))
theorem tw_510 : Cond.code ⟨"java/lang/Math", "min", "(II)I"⟩ prog_20_method_69_code 2 (some .int) ∈ lw_tbl := List.mem_append_right _ (List.mem_of_getElem? (i := 510) (by decide +kernel))
theorem tw_13 : Cond.initialized "java/lang/Math" ∈ lw_tbl := List.mem_append_right _ (List.mem_of_getElem? (i := 13) (by decide +kernel))
theorem tw_509 : Cond.static ⟨"java/lang/Math", "min", "(II)I"⟩ ∈ lw_tbl := List.mem_append_right _ (List.mem_of_getElem? (i := 509) (by decide +kernel))
theorem cw_X4_66 : mm_CS RX4 66 MJ9_min_7cf53 2 := ⟨⟨Or.inl tw_508, tw_510, tw_13, ⟨by decide, by decide⟩, by decide +kernel, by decide⟩, tw_509⟩
theorem tw_1257 : Cond.methodLink "SootQueen$Game" 102 ⟨"SootQueen$Game", "open", "(LSootQueen$Told;IZ)V"⟩ ∈ lw_tbl := List.mem_append_right _ (List.mem_of_getElem? (i := 1257) (by decide +kernel))
theorem tw_478 : Cond.code ⟨"SootQueen$Game", "open", "(LSootQueen$Told;IZ)V"⟩ prog_6_method_2_code 5 none ∈ lw_tbl := List.mem_append_right _ (List.mem_of_getElem? (i := 478) (by decide +kernel))
theorem tw_476 : Cond.instanceMethod ⟨"SootQueen$Game", "open", "(LSootQueen$Told;IZ)V"⟩ ∈ lw_tbl := List.mem_append_right _ (List.mem_of_getElem? (i := 476) (by decide +kernel))
theorem tw_477 : Cond.selects "SootQueen$Game" ⟨"SootQueen$Game", "open", "(LSootQueen$Told;IZ)V"⟩ ⟨"SootQueen$Game", "open", "(LSootQueen$Told;IZ)V"⟩ ∈ lw_tbl := List.mem_append_right _ (List.mem_of_getElem? (i := 477) (by decide +kernel))
theorem cw_X4_102 : mm_CV RX4 102 MX4_open 4 3 := ⟨⟨Or.inl tw_1257, tw_478, tw_9, ⟨by decide, by decide⟩, by decide +kernel, by decide⟩, tw_476, by decide, (RX4, TX4, 12), rfl, tw_477⟩
theorem dX9_isWord_0 : decode cX9_isWord 0 = .ok (.aload_n 0, 1) := by decide +kernel
theorem dX9_isWord_1 : decode cX9_isWord 1 = .ok (.getfield 15, 3) := by decide +kernel
theorem dX9_isWord_4 : decode cX9_isWord 4 = .ok (.bipush 97, 2) := by decide +kernel
theorem dX9_isWord_6 : decode cX9_isWord 6 = .ok (.if_icmp .ne 19, 3) := by decide +kernel
theorem dX9_isWord_9 : decode cX9_isWord 9 = .ok (.aload_n 0, 1) := by decide +kernel
theorem dX9_isWord_10 : decode cX9_isWord 10 = .ok (.getfield 28, 3) := by decide +kernel
theorem dX9_isWord_13 : decode cX9_isWord 13 = .ok (.aload_n 0, 1) := by decide +kernel
theorem dX9_isWord_14 : decode cX9_isWord 14 = .ok (.getfield 34, 3) := by decide +kernel
theorem dX9_isWord_17 : decode cX9_isWord 17 = .ok (.isub, 1) := by decide +kernel
theorem dX9_isWord_18 : decode cX9_isWord 18 = .ok (.aload_n 1, 1) := by decide +kernel
theorem dX9_isWord_19 : decode cX9_isWord 19 = .ok (.invokevirtual 54, 3) := by decide +kernel
theorem dX9_isWord_22 : decode cX9_isWord 22 = .ok (.if_icmp .eq 5, 3) := by decide +kernel
theorem dX9_isWord_25 : decode cX9_isWord 25 = .ok (.iconst 0, 1) := by decide +kernel
theorem dX9_isWord_26 : decode cX9_isWord 26 = .ok (.ireturn, 1) := by decide +kernel
theorem dX9_isWord_27 : decode cX9_isWord 27 = .ok (.iconst 0, 1) := by decide +kernel
theorem dX9_isWord_28 : decode cX9_isWord 28 = .ok (.istore_n 2, 1) := by decide +kernel
theorem dX9_isWord_29 : decode cX9_isWord 29 = .ok (.iload_n 2, 1) := by decide +kernel
theorem dX9_isWord_30 : decode cX9_isWord 30 = .ok (.aload_n 1, 1) := by decide +kernel
theorem dX9_isWord_31 : decode cX9_isWord 31 = .ok (.invokevirtual 54, 3) := by decide +kernel
theorem dX9_isWord_34 : decode cX9_isWord 34 = .ok (.if_icmp .ge 45, 3) := by decide +kernel
theorem dX9_isWord_37 : decode cX9_isWord 37 = .ok (.aload_n 0, 1) := by decide +kernel
theorem dX9_isWord_38 : decode cX9_isWord 38 = .ok (.getfield 34, 3) := by decide +kernel
theorem dX9_isWord_41 : decode cX9_isWord 41 = .ok (.iload_n 2, 1) := by decide +kernel
theorem dX9_isWord_42 : decode cX9_isWord 42 = .ok (.iadd, 1) := by decide +kernel
theorem dX9_isWord_43 : decode cX9_isWord 43 = .ok (.istore_n 3, 1) := by decide +kernel
theorem dX9_isWord_44 : decode cX9_isWord 44 = .ok (.iload_n 3, 1) := by decide +kernel
theorem dX9_isWord_45 : decode cX9_isWord 45 = .ok (.ifCond .lt 26, 3) := by decide +kernel
theorem dX9_isWord_48 : decode cX9_isWord 48 = .ok (.iload_n 3, 1) := by decide +kernel
theorem dX9_isWord_49 : decode cX9_isWord 49 = .ok (.aload_n 0, 1) := by decide +kernel
theorem dX9_isWord_50 : decode cX9_isWord 50 = .ok (.getfield 9, 3) := by decide +kernel
theorem dX9_isWord_53 : decode cX9_isWord 53 = .ok (.arraylength, 1) := by decide +kernel
theorem dX9_isWord_54 : decode cX9_isWord 54 = .ok (.if_icmp .ge 17, 3) := by decide +kernel
theorem dX9_isWord_57 : decode cX9_isWord 57 = .ok (.aload_n 0, 1) := by decide +kernel
theorem dX9_isWord_58 : decode cX9_isWord 58 = .ok (.getfield 9, 3) := by decide +kernel
theorem dX9_isWord_61 : decode cX9_isWord 61 = .ok (.iload_n 3, 1) := by decide +kernel
theorem dX9_isWord_62 : decode cX9_isWord 62 = .ok (.iaload, 1) := by decide +kernel
theorem dX9_isWord_63 : decode cX9_isWord 63 = .ok (.aload_n 1, 1) := by decide +kernel
theorem dX9_isWord_64 : decode cX9_isWord 64 = .ok (.iload_n 2, 1) := by decide +kernel
theorem dX9_isWord_65 : decode cX9_isWord 65 = .ok (.invokevirtual 59, 3) := by decide +kernel
theorem dX9_isWord_68 : decode cX9_isWord 68 = .ok (.if_icmp .eq 5, 3) := by decide +kernel
theorem dX9_isWord_71 : decode cX9_isWord 71 = .ok (.iconst 0, 1) := by decide +kernel
theorem dX9_isWord_72 : decode cX9_isWord 72 = .ok (.ireturn, 1) := by decide +kernel
theorem dX9_isWord_73 : decode cX9_isWord 73 = .ok (.iinc 2 1, 3) := by decide +kernel
theorem dX9_isWord_76 : decode cX9_isWord 76 = .ok (.goto (-47), 3) := by decide +kernel
theorem dX9_isWord_79 : decode cX9_isWord 79 = .ok (.iconst 1, 1) := by decide +kernel
theorem dX9_isWord_80 : decode cX9_isWord 80 = .ok (.ireturn, 1) := by decide +kernel
def X9_isWord_b71 (e : mm_E) (m : mm_V) : Option (Int32 × mm_V) := mm_rz (0 : Int32) m
theorem X9_isWord_b71_ok {K : mm_K} {nx : Option Nat} {e : mm_E} (hz : e.2.1 = K.2.2.2.2) {d : Nat} (hd : 9 ≤ d) {a0 : Nat} (h0 : e.1 a0 = some (9, 6)) {m : mm_V} {r : (Int32 × mm_V)} (hr : X9_isWord_b71 e m = some r) : mm_G K MX9_isWord d (mm_Fi e.1 nx r) 71 [none, none, none, none] [] (e.1, m) nx 0 0 := by
  obtain ⟨d, rfl⟩ : ∃ d', d = d' + 1 := ⟨d - 1, by omega⟩
  unfold X9_isWord_b71 at hr
  refine mg_iconst (pc := 71) dX9_isWord_71 kc_0 ?_
  exact mb_zret dX9_isWord_72 rfl hr
def X9_isWord_L29 (e : mm_E) (a0 : Nat) (a1 : Nat) : Nat → Int32 → mm_V → Option (Int32 × mm_V)
  | 0, _, _ => none
  | n + 1, i2, m => (J_length e a1 m).bind fun r1 => if r1.1 ≤ i2 then (mm_rz (1 : Int32) r1.2) else ((mm_gi e.1 r1.2 9 6 a0 2).bind fun x2 => if (x2 + i2) < 0 then (X9_isWord_b71 e   r1.2) else ((mm_gr e.1 r1.2 9 6 a0 0).bind fun c3 => (mm_ln e.1 c3).bind fun x4 => if x4 ≤ (x2 + i2) then (X9_isWord_b71 e   r1.2) else ((mm_gr e.1 r1.2 9 6 a0 0).bind fun c5 => (mm_ai e.1 r1.2 20 c5 (x2 + i2)).bind fun x6 => (J_charAt e a1 i2 r1.2).bind fun r7 => if x6 = r7.1 then (X9_isWord_L29 e a0 a1 n (i2 + 1) r7.2) else (X9_isWord_b71 e   r7.2))))
theorem X9_isWord_L29_ok {K : mm_K} {nx : Option Nat} {e : mm_E} (hz : e.2.1 = K.2.2.2.2) {d : Nat} (hd : 9 ≤ d) {a0 : Nat} {a1 : Nat} (h0 : e.1 a0 = some (9, 6)) : ∀ (n : Nat) (i2 : Int32) (m : mm_V) (r : (Int32 × mm_V)), X9_isWord_L29 e a0 a1 n i2 m = some r → mm_G K MX9_isWord d (mm_Fi e.1 nx r) 29 [some (.ref a0), some (.ref a1), some (.int i2), none] [] (e.1, m) nx 0 0 := by
  obtain ⟨d, rfl⟩ : ∃ d', d = d' + 1 := ⟨d - 1, by omega⟩
  intro n
  induction n with
  | zero => intro i2 m r hr; unfold X9_isWord_L29 at hr; cases hr
  | succ n ih =>
    intro i2 m r hr
    unfold X9_isWord_L29 at hr
    refine ml_iload_n (pc := 29) dX9_isWord_29 rfl (mm_get_s (mm_get_s mm_get_0)) ?_
    refine ml_aload_n (pc := 30) dX9_isWord_30 rfl (mm_get_s mm_get_0) ?_
    refine mb_J_length (pc := 31) (rest := [.int i2]) (by omega) tw_824 dX9_isWord_31 hz hr rfl (Nat.le_of_ble_eq_true rfl) (Nat.zero_le _) (Nat.zero_le _) (fun r1 hr => ?_)
    refine mb_icmp_ge (pc := 34) 79 dX9_isWord_34 rfl hr (fun hr => ?_) (fun hr => ?_)
    · refine mg_iconst (pc := 79) dX9_isWord_79 kc_1 ?_
      exact mb_zret dX9_isWord_80 rfl hr
    · refine ml_aload_n (pc := 37) dX9_isWord_37 rfl mm_get_0 ?_
      refine mb_gi (pc := 38) dX9_isWord_38 fl_X9_34 hr (fun x2 hr => ?_)
      refine ml_iload_n (pc := 41) dX9_isWord_41 rfl (mm_get_s (mm_get_s mm_get_0)) ?_
      refine mg_iadd (pc := 42) dX9_isWord_42 ?_
      refine ml_istore_n (pc := 43) dX9_isWord_43 rfl (Nat.le_of_ble_eq_true rfl) (mm_st1_s (mm_st1_s mm_st1_i)) ?_
      refine ml_iload_n (pc := 44) dX9_isWord_44 rfl (mm_get_s (mm_get_s (mm_get_s mm_get_0))) ?_
      refine mb_if_lt (pc := 45) 71 dX9_isWord_45 rfl hr (fun hr => ?_) (fun hr => ?_)
      · exact mg_weak (mm_le_n (mm_le_n (mm_le_n (mm_le_n mm_le_0)))) (X9_isWord_b71_ok hz hd h0 hr)
      · refine ml_iload_n (pc := 48) dX9_isWord_48 rfl (mm_get_s (mm_get_s (mm_get_s mm_get_0))) ?_
        refine ml_aload_n (pc := 49) dX9_isWord_49 rfl mm_get_0 ?_
        refine mb_gr (pc := 50) dX9_isWord_50 fl_X9_9 hr (fun c3 hr => ?_)
        refine mb_ln (pc := 53) dX9_isWord_53 hr (fun x4 hr => ?_)
        refine mb_icmp_ge (pc := 54) 71 dX9_isWord_54 rfl hr (fun hr => ?_) (fun hr => ?_)
        · exact mg_weak (mm_le_n (mm_le_n (mm_le_n (mm_le_n mm_le_0)))) (X9_isWord_b71_ok hz hd h0 hr)
        · refine ml_aload_n (pc := 57) dX9_isWord_57 rfl mm_get_0 ?_
          refine mb_gr (pc := 58) dX9_isWord_58 fl_X9_9 hr (fun c5 hr => ?_)
          refine ml_iload_n (pc := 61) dX9_isWord_61 rfl (mm_get_s (mm_get_s (mm_get_s mm_get_0))) ?_
          refine mb_ai (pc := 62) dX9_isWord_62 hr (fun x6 hr => ?_)
          refine ml_aload_n (pc := 63) dX9_isWord_63 rfl (mm_get_s mm_get_0) ?_
          refine ml_iload_n (pc := 64) dX9_isWord_64 rfl (mm_get_s (mm_get_s mm_get_0)) ?_
          refine mb_J_charAt (pc := 65) (rest := [.int x6]) (by omega) tw_834 dX9_isWord_65 hz hr rfl (Nat.le_of_ble_eq_true rfl) (Nat.zero_le _) (Nat.zero_le _) (fun r7 hr => ?_)
          refine mb_icmp_eq (pc := 68) 73 dX9_isWord_68 rfl hr (fun hr => ?_) (fun hr => ?_)
          · refine ml_iinc (pc := 73) dX9_isWord_73 (mm_get_s (mm_get_s mm_get_0)) (congrArg (fun z => i2 + z) kc_1) (Nat.le_of_ble_eq_true rfl) (mm_st1_s mm_st1_r) ?_
            refine mg_goto (pc := 76) 29 dX9_isWord_76 rfl ?_
            exact mg_weak (mm_le_s (mm_le_s (mm_le_s (mm_le_n mm_le_0)))) (ih _ _ _ hr)
          · exact mg_weak (mm_le_n (mm_le_n (mm_le_n (mm_le_n mm_le_0)))) (X9_isWord_b71_ok hz hd h0 hr)
def X9_isWord_b25 (e : mm_E) (m : mm_V) : Option (Int32 × mm_V) := mm_rz (0 : Int32) m
theorem X9_isWord_b25_ok {K : mm_K} {nx : Option Nat} {e : mm_E} (hz : e.2.1 = K.2.2.2.2) {d : Nat} (hd : 9 ≤ d) {a0 : Nat} (h0 : e.1 a0 = some (9, 6)) {m : mm_V} {r : (Int32 × mm_V)} (hr : X9_isWord_b25 e m = some r) : mm_G K MX9_isWord d (mm_Fi e.1 nx r) 25 [none, none, none, none] [] (e.1, m) nx 0 0 := by
  obtain ⟨d, rfl⟩ : ∃ d', d = d' + 1 := ⟨d - 1, by omega⟩
  unfold X9_isWord_b25 at hr
  refine mg_iconst (pc := 25) dX9_isWord_25 kc_0 ?_
  exact mb_zret dX9_isWord_26 rfl hr
def X9_isWord (e : mm_E) (a0 : Nat) (a1 : Nat) (m : mm_V) : Option (Int32 × mm_V) := (mm_gi e.1 m 9 6 a0 4).bind fun x1 => if ¬ x1 = (97 : Int32) then (X9_isWord_b25 e   m) else ((mm_gi e.1 m 9 6 a0 3).bind fun x2 => (mm_gi e.1 m 9 6 a0 2).bind fun x3 => (J_length e a1 m).bind fun r4 => if (x2 - x3) = r4.1 then (X9_isWord_L29 e a0 a1 e.2.2 (0 : Int32) r4.2) else (X9_isWord_b25 e   r4.2))
theorem X9_isWord_ok {K : mm_K} {nx : Option Nat} {e : mm_E} (hz : e.2.1 = K.2.2.2.2) {d : Nat} (hd : 9 ≤ d) {a0 : Nat} {a1 : Nat} (h0 : e.1 a0 = some (9, 6)) {m : mm_V} {r : (Int32 × mm_V)} (hr : X9_isWord e a0 a1 m = some r) : mm_Cn K MX9_isWord d (mm_Fi e.1 nx r) [.ref a0, .ref a1] (e.1, m) nx := by
  obtain ⟨d, rfl⟩ : ∃ d', d = d' + 1 := ⟨d - 1, by omega⟩
  refine mm_entry (by decide) (Nat.le_of_ble_eq_true rfl) rfl (fun hok => ?_)
  unfold X9_isWord at hr
  refine mg_weak (L' := [some (.ref a0), some (.ref a1), none, none]) (mm_le_s (mm_le_s (mm_le_e (mm_le_e mm_le_0)))) ?_
  refine ml_aload_n (pc := 0) dX9_isWord_0 rfl mm_get_0 ?_
  refine mb_gi (pc := 1) dX9_isWord_1 fl_X9_15 hr (fun x1 hr => ?_)
  refine mg_bipush (pc := 4) dX9_isWord_4 kb_97 ?_
  refine mb_icmp_ne (pc := 6) 25 dX9_isWord_6 rfl hr (fun hr => ?_) (fun hr => ?_)
  · exact mg_weak (mm_le_n (mm_le_n (mm_le_n (mm_le_n mm_le_0)))) (X9_isWord_b25_ok hz hd h0 hr)
  · refine ml_aload_n (pc := 9) dX9_isWord_9 rfl mm_get_0 ?_
    refine mb_gi (pc := 10) dX9_isWord_10 fl_X9_28 hr (fun x2 hr => ?_)
    refine ml_aload_n (pc := 13) dX9_isWord_13 rfl mm_get_0 ?_
    refine mb_gi (pc := 14) dX9_isWord_14 fl_X9_34 hr (fun x3 hr => ?_)
    refine mg_isub (pc := 17) dX9_isWord_17 ?_
    refine ml_aload_n (pc := 18) dX9_isWord_18 rfl (mm_get_s mm_get_0) ?_
    refine mb_J_length (pc := 19) (rest := [.int (x2 - x3)]) (by omega) tw_824 dX9_isWord_19 hz hr rfl (Nat.le_of_ble_eq_true rfl) (Nat.zero_le _) (Nat.zero_le _) (fun r4 hr => ?_)
    refine mb_icmp_eq (pc := 22) 27 dX9_isWord_22 rfl hr (fun hr => ?_) (fun hr => ?_)
    · refine mg_iconst (pc := 27) dX9_isWord_27 kc_0 ?_
      refine ml_istore_n (pc := 28) dX9_isWord_28 rfl (Nat.le_of_ble_eq_true rfl) (mm_st1_s mm_st1_r) ?_
      exact mg_weak (mm_le_s (mm_le_s (mm_le_s (mm_le_n mm_le_0)))) (X9_isWord_L29_ok hz hd h0 _ _ _ _ hr)
    · exact mg_weak (mm_le_n (mm_le_n (mm_le_n (mm_le_n mm_le_0)))) (X9_isWord_b25_ok hz hd h0 hr)
theorem dX1_pushNot_0 : decode cX1_pushNot 0 = .ok (.iconst 0, 1) := by decide +kernel
theorem dX1_pushNot_1 : decode cX1_pushNot 1 = .ok (.istore_n 1, 1) := by decide +kernel
theorem dX1_pushNot_2 : decode cX1_pushNot 2 = .ok (.iload_n 1, 1) := by decide +kernel
theorem dX1_pushNot_3 : decode cX1_pushNot 3 = .ok (.aload_n 0, 1) := by decide +kernel
theorem dX1_pushNot_4 : decode cX1_pushNot 4 = .ok (.getfield 23, 3) := by decide +kernel
theorem dX1_pushNot_7 : decode cX1_pushNot 7 = .ok (.if_icmp .ge 26, 3) := by decide +kernel
theorem dX1_pushNot_10 : decode cX1_pushNot 10 = .ok (.aload_n 0, 1) := by decide +kernel
theorem dX1_pushNot_11 : decode cX1_pushNot 11 = .ok (.aload_n 0, 1) := by decide +kernel
theorem dX1_pushNot_12 : decode cX1_pushNot 12 = .ok (.getfield 23, 3) := by decide +kernel
theorem dX1_pushNot_15 : decode cX1_pushNot 15 = .ok (.iconst 1, 1) := by decide +kernel
theorem dX1_pushNot_16 : decode cX1_pushNot 16 = .ok (.isub, 1) := by decide +kernel
theorem dX1_pushNot_17 : decode cX1_pushNot 17 = .ok (.iload_n 1, 1) := by decide +kernel
theorem dX1_pushNot_18 : decode cX1_pushNot 18 = .ok (.isub, 1) := by decide +kernel
theorem dX1_pushNot_19 : decode cX1_pushNot 19 = .ok (.invokevirtual 71, 3) := by decide +kernel
theorem dX1_pushNot_22 : decode cX1_pushNot 22 = .ok (.bipush (-13), 2) := by decide +kernel
theorem dX1_pushNot_24 : decode cX1_pushNot 24 = .ok (.if_icmp .ne 9, 3) := by decide +kernel
theorem dX1_pushNot_27 : decode cX1_pushNot 27 = .ok (.iinc 1 1, 3) := by decide +kernel
theorem dX1_pushNot_30 : decode cX1_pushNot 30 = .ok (.goto (-28), 3) := by decide +kernel
theorem dX1_pushNot_33 : decode cX1_pushNot 33 = .ok (.iload_n 1, 1) := by decide +kernel
theorem dX1_pushNot_34 : decode cX1_pushNot 34 = .ok (.bipush 6, 2) := by decide +kernel
theorem dX1_pushNot_36 : decode cX1_pushNot 36 = .ok (.if_icmp .lt 5, 3) := by decide +kernel
theorem dX1_pushNot_39 : decode cX1_pushNot 39 = .ok (.iconst 2, 1) := by decide +kernel
theorem dX1_pushNot_40 : decode cX1_pushNot 40 = .ok (.ireturn, 1) := by decide +kernel
theorem dX1_pushNot_41 : decode cX1_pushNot 41 = .ok (.aload_n 0, 1) := by decide +kernel
theorem dX1_pushNot_42 : decode cX1_pushNot 42 = .ok (.bipush (-13), 2) := by decide +kernel
theorem dX1_pushNot_44 : decode cX1_pushNot 44 = .ok (.invokevirtual 62, 3) := by decide +kernel
theorem dX1_pushNot_47 : decode cX1_pushNot 47 = .ok (.iconst 0, 1) := by decide +kernel
theorem dX1_pushNot_48 : decode cX1_pushNot 48 = .ok (.ireturn, 1) := by decide +kernel
def X1_pushNot_b33 (e : mm_E) (a0 : Nat) (i1 : Int32) (m : mm_V) : Option (Int32 × mm_V) := if i1 < (6 : Int32) then ((X1_push e a0 (-13 : Int32) m).bind fun r1 => some ((0 : Int32), r1)) else (some ((2 : Int32), m))
theorem X1_pushNot_b33_ok {K : mm_K} {nx : Option Nat} {e : mm_E} (hz : e.2.1 = K.2.2.2.2) {d : Nat} (hd : 1 ≤ d) {a0 : Nat} {i1 : Int32} (h0 : e.1 a0 = some (1, 6)) {m : mm_V} {r : (Int32 × mm_V)} (hr : X1_pushNot_b33 e a0 i1 m = some r) : mm_G K MX1_pushNot d (mm_Fi e.1 nx r) 33 [some (.ref a0), some (.int i1)] [] (e.1, m) nx 0 0 := by
  obtain ⟨d, rfl⟩ : ∃ d', d = d' + 1 := ⟨d - 1, by omega⟩
  unfold X1_pushNot_b33 at hr
  refine ml_iload_n (pc := 33) dX1_pushNot_33 rfl (mm_get_s mm_get_0) ?_
  refine mg_bipush (pc := 34) dX1_pushNot_34 kb_6 ?_
  refine mb_icmp_lt (pc := 36) 41 dX1_pushNot_36 rfl hr (fun hr => ?_) (fun hr => ?_)
  · refine ml_aload_n (pc := 41) dX1_pushNot_41 rfl mm_get_0 ?_
    refine mg_bipush (pc := 42) dX1_pushNot_42 kb_m13 ?_
    refine mb_cVv (pc := 44) (As := [.int (-13 : Int32)]) (rest := []) dX1_pushNot_44 cw_X1_62 h0 hr (fun v hv => X1_push_ok hz (by omega) h0 hv) rfl (Nat.le_of_ble_eq_true rfl) (Nat.zero_le _) (Nat.zero_le _) (fun r1 hr => ?_)
    refine mg_iconst (pc := 47) dX1_pushNot_47 kc_0 ?_
    exact mb_iret dX1_pushNot_48 rfl hr
  · refine mg_iconst (pc := 39) dX1_pushNot_39 kc_2 ?_
    exact mb_iret dX1_pushNot_40 rfl hr
def X1_pushNot_L2 (e : mm_E) (a0 : Nat) : Nat → Int32 → mm_V → Option (Int32 × mm_V)
  | 0, _, _ => none
  | n + 1, i1, m => (mm_gi e.1 m 1 6 a0 1).bind fun x1 => if x1 ≤ i1 then (X1_pushNot_b33 e a0 i1  m) else ((mm_gi e.1 m 1 6 a0 1).bind fun x2 => (X1_waitingAt e a0 ((x2 - (1 : Int32)) - i1) m).bind fun r3 => if ¬ r3.1 = (-13 : Int32) then (X1_pushNot_b33 e a0 i1  r3.2) else (X1_pushNot_L2 e a0 n (i1 + 1) r3.2))
theorem X1_pushNot_L2_ok {K : mm_K} {nx : Option Nat} {e : mm_E} (hz : e.2.1 = K.2.2.2.2) {d : Nat} (hd : 1 ≤ d) {a0 : Nat} (h0 : e.1 a0 = some (1, 6)) : ∀ (n : Nat) (i1 : Int32) (m : mm_V) (r : (Int32 × mm_V)), X1_pushNot_L2 e a0 n i1 m = some r → mm_G K MX1_pushNot d (mm_Fi e.1 nx r) 2 [some (.ref a0), some (.int i1)] [] (e.1, m) nx 0 0 := by
  obtain ⟨d, rfl⟩ : ∃ d', d = d' + 1 := ⟨d - 1, by omega⟩
  intro n
  induction n with
  | zero => intro i1 m r hr; unfold X1_pushNot_L2 at hr; cases hr
  | succ n ih =>
    intro i1 m r hr
    unfold X1_pushNot_L2 at hr
    refine ml_iload_n (pc := 2) dX1_pushNot_2 rfl (mm_get_s mm_get_0) ?_
    refine ml_aload_n (pc := 3) dX1_pushNot_3 rfl mm_get_0 ?_
    refine mb_gi (pc := 4) dX1_pushNot_4 fl_X1_23 hr (fun x1 hr => ?_)
    refine mb_icmp_ge (pc := 7) 33 dX1_pushNot_7 rfl hr (fun hr => ?_) (fun hr => ?_)
    · exact mg_weak (mm_le_s (mm_le_s mm_le_0)) (X1_pushNot_b33_ok hz hd h0 hr)
    · refine ml_aload_n (pc := 10) dX1_pushNot_10 rfl mm_get_0 ?_
      refine ml_aload_n (pc := 11) dX1_pushNot_11 rfl mm_get_0 ?_
      refine mb_gi (pc := 12) dX1_pushNot_12 fl_X1_23 hr (fun x2 hr => ?_)
      refine mg_iconst (pc := 15) dX1_pushNot_15 kc_1 ?_
      refine mg_isub (pc := 16) dX1_pushNot_16 ?_
      refine ml_iload_n (pc := 17) dX1_pushNot_17 rfl (mm_get_s mm_get_0) ?_
      refine mg_isub (pc := 18) dX1_pushNot_18 ?_
      refine mb_cVi (pc := 19) (As := [.int ((x2 - (1 : Int32)) - i1)]) (rest := []) dX1_pushNot_19 cw_X1_71 h0 hr (fun v hv => X1_waitingAt_ok hz (by omega) h0 hv) rfl (Nat.le_of_ble_eq_true rfl) (Nat.zero_le _) (Nat.zero_le _) (fun r3 hr => ?_)
      refine mg_bipush (pc := 22) dX1_pushNot_22 kb_m13 ?_
      refine mb_icmp_ne (pc := 24) 33 dX1_pushNot_24 rfl hr (fun hr => ?_) (fun hr => ?_)
      · exact mg_weak (mm_le_s (mm_le_s mm_le_0)) (X1_pushNot_b33_ok hz hd h0 hr)
      · refine ml_iinc (pc := 27) dX1_pushNot_27 (mm_get_s mm_get_0) (congrArg (fun z => i1 + z) kc_1) (Nat.le_of_ble_eq_true rfl) mm_st1_r ?_
        refine mg_goto (pc := 30) 2 dX1_pushNot_30 rfl ?_
        exact mg_weak (mm_le_s (mm_le_s mm_le_0)) (ih _ _ _ hr)
def X1_pushNot (e : mm_E) (a0 : Nat) (m : mm_V) : Option (Int32 × mm_V) := X1_pushNot_L2 e a0 e.2.2 (0 : Int32) m
theorem X1_pushNot_ok {K : mm_K} {nx : Option Nat} {e : mm_E} (hz : e.2.1 = K.2.2.2.2) {d : Nat} (hd : 1 ≤ d) {a0 : Nat} (h0 : e.1 a0 = some (1, 6)) {m : mm_V} {r : (Int32 × mm_V)} (hr : X1_pushNot e a0 m = some r) : mm_Cn K MX1_pushNot d (mm_Fi e.1 nx r) [.ref a0] (e.1, m) nx := by
  obtain ⟨d, rfl⟩ : ∃ d', d = d' + 1 := ⟨d - 1, by omega⟩
  refine mm_entry (by decide) (Nat.le_of_ble_eq_true rfl) rfl (fun hok => ?_)
  unfold X1_pushNot at hr
  refine mg_weak (L' := [some (.ref a0), none]) (mm_le_s (mm_le_e mm_le_0)) ?_
  refine mg_iconst (pc := 0) dX1_pushNot_0 kc_0 ?_
  refine ml_istore_n (pc := 1) dX1_pushNot_1 rfl (Nat.le_of_ble_eq_true rfl) mm_st1_r ?_
  exact mg_weak (mm_le_s (mm_le_s mm_le_0)) (X1_pushNot_L2_ok hz hd h0 _ _ _ _ hr)
theorem dX1_valueCode_0 : decode cX1_valueCode 0 = .ok (.aload_n 0, 1) := by decide +kernel
theorem dX1_valueCode_1 : decode cX1_valueCode 1 = .ok (.getfield 15, 3) := by decide +kernel
theorem dX1_valueCode_4 : decode cX1_valueCode 4 = .ok (.ldc 101, 2) := by decide +kernel
theorem dX1_valueCode_6 : decode cX1_valueCode 6 = .ok (.invokevirtual 67, 3) := by decide +kernel
theorem dX1_valueCode_9 : decode cX1_valueCode 9 = .ok (.ifCond .eq 5, 3) := by decide +kernel
theorem dX1_valueCode_12 : decode cX1_valueCode 12 = .ok (.iconst (-1), 1) := by decide +kernel
theorem dX1_valueCode_13 : decode cX1_valueCode 13 = .ok (.ireturn, 1) := by decide +kernel
theorem dX1_valueCode_14 : decode cX1_valueCode 14 = .ok (.aload_n 0, 1) := by decide +kernel
theorem dX1_valueCode_15 : decode cX1_valueCode 15 = .ok (.getfield 15, 3) := by decide +kernel
theorem dX1_valueCode_18 : decode cX1_valueCode 18 = .ok (.ldc 103, 2) := by decide +kernel
theorem dX1_valueCode_20 : decode cX1_valueCode 20 = .ok (.invokevirtual 67, 3) := by decide +kernel
theorem dX1_valueCode_23 : decode cX1_valueCode 23 = .ok (.ifCond .eq 6, 3) := by decide +kernel
theorem dX1_valueCode_26 : decode cX1_valueCode 26 = .ok (.bipush (-2), 2) := by decide +kernel
theorem dX1_valueCode_28 : decode cX1_valueCode 28 = .ok (.ireturn, 1) := by decide +kernel
theorem dX1_valueCode_29 : decode cX1_valueCode 29 = .ok (.aload_n 0, 1) := by decide +kernel
theorem dX1_valueCode_30 : decode cX1_valueCode 30 = .ok (.getfield 15, 3) := by decide +kernel
theorem dX1_valueCode_33 : decode cX1_valueCode 33 = .ok (.ldc 105, 2) := by decide +kernel
theorem dX1_valueCode_35 : decode cX1_valueCode 35 = .ok (.invokevirtual 67, 3) := by decide +kernel
theorem dX1_valueCode_38 : decode cX1_valueCode 38 = .ok (.ifCond .eq 6, 3) := by decide +kernel
theorem dX1_valueCode_41 : decode cX1_valueCode 41 = .ok (.bipush (-3), 2) := by decide +kernel
theorem dX1_valueCode_43 : decode cX1_valueCode 43 = .ok (.ireturn, 1) := by decide +kernel
theorem dX1_valueCode_44 : decode cX1_valueCode 44 = .ok (.aload_n 0, 1) := by decide +kernel
theorem dX1_valueCode_45 : decode cX1_valueCode 45 = .ok (.getfield 15, 3) := by decide +kernel
theorem dX1_valueCode_48 : decode cX1_valueCode 48 = .ok (.ldc 107, 2) := by decide +kernel
theorem dX1_valueCode_50 : decode cX1_valueCode 50 = .ok (.invokevirtual 67, 3) := by decide +kernel
theorem dX1_valueCode_53 : decode cX1_valueCode 53 = .ok (.ifCond .eq 6, 3) := by decide +kernel
theorem dX1_valueCode_56 : decode cX1_valueCode 56 = .ok (.bipush (-4), 2) := by decide +kernel
theorem dX1_valueCode_58 : decode cX1_valueCode 58 = .ok (.ireturn, 1) := by decide +kernel
theorem dX1_valueCode_59 : decode cX1_valueCode 59 = .ok (.aload_n 0, 1) := by decide +kernel
theorem dX1_valueCode_60 : decode cX1_valueCode 60 = .ok (.getfield 15, 3) := by decide +kernel
theorem dX1_valueCode_63 : decode cX1_valueCode 63 = .ok (.ldc 109, 2) := by decide +kernel
theorem dX1_valueCode_65 : decode cX1_valueCode 65 = .ok (.invokevirtual 67, 3) := by decide +kernel
theorem dX1_valueCode_68 : decode cX1_valueCode 68 = .ok (.ifCond .eq 6, 3) := by decide +kernel
theorem dX1_valueCode_71 : decode cX1_valueCode 71 = .ok (.bipush (-5), 2) := by decide +kernel
theorem dX1_valueCode_73 : decode cX1_valueCode 73 = .ok (.ireturn, 1) := by decide +kernel
theorem dX1_valueCode_74 : decode cX1_valueCode 74 = .ok (.aload_n 0, 1) := by decide +kernel
theorem dX1_valueCode_75 : decode cX1_valueCode 75 = .ok (.getfield 15, 3) := by decide +kernel
theorem dX1_valueCode_78 : decode cX1_valueCode 78 = .ok (.ldc 111, 2) := by decide +kernel
theorem dX1_valueCode_80 : decode cX1_valueCode 80 = .ok (.invokevirtual 67, 3) := by decide +kernel
theorem dX1_valueCode_83 : decode cX1_valueCode 83 = .ok (.ifCond .eq 8, 3) := by decide +kernel
theorem dX1_valueCode_86 : decode cX1_valueCode 86 = .ok (.bipush (-6), 2) := by decide +kernel
theorem dX1_valueCode_88 : decode cX1_valueCode 88 = .ok (.goto 5, 3) := by decide +kernel
theorem dX1_valueCode_91 : decode cX1_valueCode 91 = .ok (.bipush (-21), 2) := by decide +kernel
theorem dX1_valueCode_93 : decode cX1_valueCode 93 = .ok (.ireturn, 1) := by decide +kernel
def X1_valueCode_b93 (e : mm_E) (t0 : Int32) (m : mm_V) : Option (Int32 × mm_V) := some (t0, m)
theorem X1_valueCode_b93_ok {K : mm_K} {nx : Option Nat} {e : mm_E} (hz : e.2.1 = K.2.2.2.2) {d : Nat} (hd : 10 ≤ d) {t0 : Int32} {a0 : Nat} (h0 : e.1 a0 = some (1, 6)) {m : mm_V} {r : (Int32 × mm_V)} (hr : X1_valueCode_b93 e t0 m = some r) : mm_G K MX1_valueCode d (mm_Fi e.1 nx r) 93 [none] [.int t0] (e.1, m) nx 0 0 := by
  obtain ⟨d, rfl⟩ : ∃ d', d = d' + 1 := ⟨d - 1, by omega⟩
  unfold X1_valueCode_b93 at hr
  exact mb_iret dX1_valueCode_93 rfl hr
def X1_valueCode (e : mm_E) (a0 : Nat) (m : mm_V) : Option (Int32 × mm_V) := (mm_gr e.1 m 1 6 a0 4).bind fun c1 => if e.1 c1 = some (9, 6) then ((X9_isWord e c1 (e.2.1 109) m).bind fun r2 => if r2.1 = 0 then ((mm_gr e.1 r2.2 1 6 a0 4).bind fun c4 => if e.1 c4 = some (9, 6) then ((X9_isWord e c4 (e.2.1 110) r2.2).bind fun r5 => if r5.1 = 0 then ((mm_gr e.1 r5.2 1 6 a0 4).bind fun c7 => if e.1 c7 = some (9, 6) then ((X9_isWord e c7 (e.2.1 111) r5.2).bind fun r8 => if r8.1 = 0 then ((mm_gr e.1 r8.2 1 6 a0 4).bind fun c10 => if e.1 c10 = some (9, 6) then ((X9_isWord e c10 (e.2.1 112) r8.2).bind fun r11 => if r11.1 = 0 then ((mm_gr e.1 r11.2 1 6 a0 4).bind fun c13 => if e.1 c13 = some (9, 6) then ((X9_isWord e c13 (e.2.1 113) r11.2).bind fun r14 => if r14.1 = 0 then ((mm_gr e.1 r14.2 1 6 a0 4).bind fun c16 => if e.1 c16 = some (9, 6) then ((X9_isWord e c16 (e.2.1 114) r14.2).bind fun r17 => if r17.1 = 0 then (X1_valueCode_b93 e  (-21 : Int32) r17.2) else (X1_valueCode_b93 e  (-6 : Int32) r17.2)) else none) else (some ((-5 : Int32), r14.2))) else none) else (some ((-4 : Int32), r11.2))) else none) else (some ((-3 : Int32), r8.2))) else none) else (some ((-2 : Int32), r5.2))) else none) else (some ((-1 : Int32), r2.2))) else none
theorem X1_valueCode_ok {K : mm_K} {nx : Option Nat} {e : mm_E} (hz : e.2.1 = K.2.2.2.2) {d : Nat} (hd : 10 ≤ d) {a0 : Nat} (h0 : e.1 a0 = some (1, 6)) {m : mm_V} {r : (Int32 × mm_V)} (hr : X1_valueCode e a0 m = some r) : mm_Cn K MX1_valueCode d (mm_Fi e.1 nx r) [.ref a0] (e.1, m) nx := by
  obtain ⟨d, rfl⟩ : ∃ d', d = d' + 1 := ⟨d - 1, by omega⟩
  refine mm_entry (by decide) (Nat.le_of_ble_eq_true rfl) rfl (fun hok => ?_)
  unfold X1_valueCode at hr
  refine mg_weak (L' := [some (.ref a0)]) (mm_le_s mm_le_0) ?_
  refine ml_aload_n (pc := 0) dX1_valueCode_0 rfl mm_get_0 ?_
  refine mb_gr (pc := 1) dX1_valueCode_1 fl_X1_15 hr (fun c1 hr => ?_)
  refine mg_ldcS (pc := 4) (z := e.2.1) (i := 9) (j := 109) hz rfl dX1_valueCode_4 (by decide) rfl ?_
  refine mb_ck hr (fun hb3 hr => ?_)
  refine mb_cVi (pc := 6) (As := [.ref (e.2.1 109)]) (rest := []) dX1_valueCode_6 cw_X1_67 hb3 hr (fun v hv => X9_isWord_ok hz (by omega) hb3 hv) rfl (Nat.le_of_ble_eq_true rfl) (Nat.zero_le _) (Nat.zero_le _) (fun r2 hr => ?_)
  refine mb_if_eq (pc := 9) 14 dX1_valueCode_9 rfl hr (fun hr => ?_) (fun hr => ?_)
  · refine ml_aload_n (pc := 14) dX1_valueCode_14 rfl mm_get_0 ?_
    refine mb_gr (pc := 15) dX1_valueCode_15 fl_X1_15 hr (fun c4 hr => ?_)
    refine mg_ldcS (pc := 18) (z := e.2.1) (i := 10) (j := 110) hz rfl dX1_valueCode_18 (by decide) rfl ?_
    refine mb_ck hr (fun hb6 hr => ?_)
    refine mb_cVi (pc := 20) (As := [.ref (e.2.1 110)]) (rest := []) dX1_valueCode_20 cw_X1_67 hb6 hr (fun v hv => X9_isWord_ok hz (by omega) hb6 hv) rfl (Nat.le_of_ble_eq_true rfl) (Nat.zero_le _) (Nat.zero_le _) (fun r5 hr => ?_)
    refine mb_if_eq (pc := 23) 29 dX1_valueCode_23 rfl hr (fun hr => ?_) (fun hr => ?_)
    · refine ml_aload_n (pc := 29) dX1_valueCode_29 rfl mm_get_0 ?_
      refine mb_gr (pc := 30) dX1_valueCode_30 fl_X1_15 hr (fun c7 hr => ?_)
      refine mg_ldcS (pc := 33) (z := e.2.1) (i := 11) (j := 111) hz rfl dX1_valueCode_33 (by decide) rfl ?_
      refine mb_ck hr (fun hb9 hr => ?_)
      refine mb_cVi (pc := 35) (As := [.ref (e.2.1 111)]) (rest := []) dX1_valueCode_35 cw_X1_67 hb9 hr (fun v hv => X9_isWord_ok hz (by omega) hb9 hv) rfl (Nat.le_of_ble_eq_true rfl) (Nat.zero_le _) (Nat.zero_le _) (fun r8 hr => ?_)
      refine mb_if_eq (pc := 38) 44 dX1_valueCode_38 rfl hr (fun hr => ?_) (fun hr => ?_)
      · refine ml_aload_n (pc := 44) dX1_valueCode_44 rfl mm_get_0 ?_
        refine mb_gr (pc := 45) dX1_valueCode_45 fl_X1_15 hr (fun c10 hr => ?_)
        refine mg_ldcS (pc := 48) (z := e.2.1) (i := 12) (j := 112) hz rfl dX1_valueCode_48 (by decide) rfl ?_
        refine mb_ck hr (fun hb12 hr => ?_)
        refine mb_cVi (pc := 50) (As := [.ref (e.2.1 112)]) (rest := []) dX1_valueCode_50 cw_X1_67 hb12 hr (fun v hv => X9_isWord_ok hz (by omega) hb12 hv) rfl (Nat.le_of_ble_eq_true rfl) (Nat.zero_le _) (Nat.zero_le _) (fun r11 hr => ?_)
        refine mb_if_eq (pc := 53) 59 dX1_valueCode_53 rfl hr (fun hr => ?_) (fun hr => ?_)
        · refine ml_aload_n (pc := 59) dX1_valueCode_59 rfl mm_get_0 ?_
          refine mb_gr (pc := 60) dX1_valueCode_60 fl_X1_15 hr (fun c13 hr => ?_)
          refine mg_ldcS (pc := 63) (z := e.2.1) (i := 13) (j := 113) hz rfl dX1_valueCode_63 (by decide) rfl ?_
          refine mb_ck hr (fun hb15 hr => ?_)
          refine mb_cVi (pc := 65) (As := [.ref (e.2.1 113)]) (rest := []) dX1_valueCode_65 cw_X1_67 hb15 hr (fun v hv => X9_isWord_ok hz (by omega) hb15 hv) rfl (Nat.le_of_ble_eq_true rfl) (Nat.zero_le _) (Nat.zero_le _) (fun r14 hr => ?_)
          refine mb_if_eq (pc := 68) 74 dX1_valueCode_68 rfl hr (fun hr => ?_) (fun hr => ?_)
          · refine ml_aload_n (pc := 74) dX1_valueCode_74 rfl mm_get_0 ?_
            refine mb_gr (pc := 75) dX1_valueCode_75 fl_X1_15 hr (fun c16 hr => ?_)
            refine mg_ldcS (pc := 78) (z := e.2.1) (i := 14) (j := 114) hz rfl dX1_valueCode_78 (by decide) rfl ?_
            refine mb_ck hr (fun hb18 hr => ?_)
            refine mb_cVi (pc := 80) (As := [.ref (e.2.1 114)]) (rest := []) dX1_valueCode_80 cw_X1_67 hb18 hr (fun v hv => X9_isWord_ok hz (by omega) hb18 hv) rfl (Nat.le_of_ble_eq_true rfl) (Nat.zero_le _) (Nat.zero_le _) (fun r17 hr => ?_)
            refine mb_if_eq (pc := 83) 91 dX1_valueCode_83 rfl hr (fun hr => ?_) (fun hr => ?_)
            · refine mg_bipush (pc := 91) dX1_valueCode_91 kb_m21 ?_
              exact mg_weak (mm_le_n mm_le_0) (X1_valueCode_b93_ok hz hd h0 hr)
            · refine mg_bipush (pc := 86) dX1_valueCode_86 kb_m6 ?_
              refine mg_goto (pc := 88) 93 dX1_valueCode_88 rfl ?_
              exact mg_weak (mm_le_n mm_le_0) (X1_valueCode_b93_ok hz hd h0 hr)
          · refine mg_bipush (pc := 71) dX1_valueCode_71 kb_m5 ?_
            exact mb_iret dX1_valueCode_73 rfl hr
        · refine mg_bipush (pc := 56) dX1_valueCode_56 kb_m4 ?_
          exact mb_iret dX1_valueCode_58 rfl hr
      · refine mg_bipush (pc := 41) dX1_valueCode_41 kb_m3 ?_
        exact mb_iret dX1_valueCode_43 rfl hr
    · refine mg_bipush (pc := 26) dX1_valueCode_26 kb_m2 ?_
      exact mb_iret dX1_valueCode_28 rfl hr
  · refine mg_iconst (pc := 12) dX1_valueCode_12 kc_m1 ?_
    exact mb_iret dX1_valueCode_13 rfl hr
theorem dX9_isTooLong_0 : decode cX9_isTooLong 0 = .ok (.aload_n 0, 1) := by decide +kernel
theorem dX9_isTooLong_1 : decode cX9_isTooLong 1 = .ok (.getfield 28, 3) := by decide +kernel
theorem dX9_isTooLong_4 : decode cX9_isTooLong 4 = .ok (.aload_n 0, 1) := by decide +kernel
theorem dX9_isTooLong_5 : decode cX9_isTooLong 5 = .ok (.getfield 34, 3) := by decide +kernel
theorem dX9_isTooLong_8 : decode cX9_isTooLong 8 = .ok (.isub, 1) := by decide +kernel
theorem dX9_isTooLong_9 : decode cX9_isTooLong 9 = .ok (.iconst 4, 1) := by decide +kernel
theorem dX9_isTooLong_10 : decode cX9_isTooLong 10 = .ok (.if_icmp .le 7, 3) := by decide +kernel
theorem dX9_isTooLong_13 : decode cX9_isTooLong 13 = .ok (.iconst 1, 1) := by decide +kernel
theorem dX9_isTooLong_14 : decode cX9_isTooLong 14 = .ok (.goto 4, 3) := by decide +kernel
theorem dX9_isTooLong_17 : decode cX9_isTooLong 17 = .ok (.iconst 0, 1) := by decide +kernel
theorem dX9_isTooLong_18 : decode cX9_isTooLong 18 = .ok (.ireturn, 1) := by decide +kernel
def X9_isTooLong_b18 (e : mm_E) (t0 : Int32) (m : mm_V) : Option (Int32 × mm_V) := mm_rz t0 m
theorem X9_isTooLong_b18_ok {K : mm_K} {nx : Option Nat} {e : mm_E} (hz : e.2.1 = K.2.2.2.2) {d : Nat} (hd : 0 ≤ d) {t0 : Int32} {a0 : Nat} (h0 : e.1 a0 = some (9, 6)) {m : mm_V} {r : (Int32 × mm_V)} (hr : X9_isTooLong_b18 e t0 m = some r) : mm_G K MX9_isTooLong d (mm_Fi e.1 nx r) 18 [none] [.int t0] (e.1, m) nx 0 0 := by
  unfold X9_isTooLong_b18 at hr
  exact mb_zret dX9_isTooLong_18 rfl hr
def X9_isTooLong (e : mm_E) (a0 : Nat) (m : mm_V) : Option (Int32 × mm_V) := (mm_gi e.1 m 9 6 a0 3).bind fun x1 => (mm_gi e.1 m 9 6 a0 2).bind fun x2 => if (x1 - x2) ≤ (4 : Int32) then (X9_isTooLong_b18 e  (0 : Int32) m) else (X9_isTooLong_b18 e  (1 : Int32) m)
theorem X9_isTooLong_ok {K : mm_K} {nx : Option Nat} {e : mm_E} (hz : e.2.1 = K.2.2.2.2) {d : Nat} (hd : 0 ≤ d) {a0 : Nat} (h0 : e.1 a0 = some (9, 6)) {m : mm_V} {r : (Int32 × mm_V)} (hr : X9_isTooLong e a0 m = some r) : mm_Cn K MX9_isTooLong d (mm_Fi e.1 nx r) [.ref a0] (e.1, m) nx := by
  refine mm_entry (by decide) (Nat.le_of_ble_eq_true rfl) rfl (fun hok => ?_)
  unfold X9_isTooLong at hr
  refine mg_weak (L' := [some (.ref a0)]) (mm_le_s mm_le_0) ?_
  refine ml_aload_n (pc := 0) dX9_isTooLong_0 rfl mm_get_0 ?_
  refine mb_gi (pc := 1) dX9_isTooLong_1 fl_X9_28 hr (fun x1 hr => ?_)
  refine ml_aload_n (pc := 4) dX9_isTooLong_4 rfl mm_get_0 ?_
  refine mb_gi (pc := 5) dX9_isTooLong_5 fl_X9_34 hr (fun x2 hr => ?_)
  refine mg_isub (pc := 8) dX9_isTooLong_8 ?_
  refine mg_iconst (pc := 9) dX9_isTooLong_9 kc_4 ?_
  refine mb_icmp_le (pc := 10) 17 dX9_isTooLong_10 rfl hr (fun hr => ?_) (fun hr => ?_)
  · refine mg_iconst (pc := 17) dX9_isTooLong_17 kc_0 ?_
    exact mg_weak (mm_le_n mm_le_0) (X9_isTooLong_b18_ok hz hd h0 hr)
  · refine mg_iconst (pc := 13) dX9_isTooLong_13 kc_1 ?_
    refine mg_goto (pc := 14) 18 dX9_isTooLong_14 rfl ?_
    exact mg_weak (mm_le_n mm_le_0) (X9_isTooLong_b18_ok hz hd h0 hr)
theorem dX1_part_0 : decode cX1_part 0 = .ok (.aload_n 0, 1) := by decide +kernel
theorem dX1_part_1 : decode cX1_part 1 = .ok (.getfield 15, 3) := by decide +kernel
theorem dX1_part_4 : decode cX1_part 4 = .ok (.getfield 44, 3) := by decide +kernel
theorem dX1_part_7 : decode cX1_part 7 = .ok (.bipush 48, 2) := by decide +kernel
theorem dX1_part_9 : decode cX1_part 9 = .ok (.if_icmp .eq 29, 3) := by decide +kernel
theorem dX1_part_12 : decode cX1_part 12 = .ok (.aload_n 0, 1) := by decide +kernel
theorem dX1_part_13 : decode cX1_part 13 = .ok (.getfield 15, 3) := by decide +kernel
theorem dX1_part_16 : decode cX1_part 16 = .ok (.getfield 44, 3) := by decide +kernel
theorem dX1_part_19 : decode cX1_part 19 = .ok (.bipush 97, 2) := by decide +kernel
theorem dX1_part_21 : decode cX1_part 21 = .ok (.if_icmp .eq 17, 3) := by decide +kernel
theorem dX1_part_24 : decode cX1_part 24 = .ok (.aload_n 0, 1) := by decide +kernel
theorem dX1_part_25 : decode cX1_part 25 = .ok (.getfield 15, 3) := by decide +kernel
theorem dX1_part_28 : decode cX1_part 28 = .ok (.getfield 44, 3) := by decide +kernel
theorem dX1_part_31 : decode cX1_part 31 = .ok (.bipush 40, 2) := by decide +kernel
theorem dX1_part_33 : decode cX1_part 33 = .ok (.if_icmp .eq 5, 3) := by decide +kernel
theorem dX1_part_36 : decode cX1_part 36 = .ok (.iconst 1, 1) := by decide +kernel
theorem dX1_part_37 : decode cX1_part 37 = .ok (.ireturn, 1) := by decide +kernel
theorem dX1_part_38 : decode cX1_part 38 = .ok (.aload_n 0, 1) := by decide +kernel
theorem dX1_part_39 : decode cX1_part 39 = .ok (.getfield 27, 3) := by decide +kernel
theorem dX1_part_42 : decode cX1_part 42 = .ok (.bipush 6, 2) := by decide +kernel
theorem dX1_part_44 : decode cX1_part 44 = .ok (.if_icmp .lt 5, 3) := by decide +kernel
theorem dX1_part_47 : decode cX1_part 47 = .ok (.iconst 2, 1) := by decide +kernel
theorem dX1_part_48 : decode cX1_part 48 = .ok (.ireturn, 1) := by decide +kernel
theorem dX1_part_49 : decode cX1_part 49 = .ok (.aload_n 0, 1) := by decide +kernel
theorem dX1_part_50 : decode cX1_part 50 = .ok (.getfield 15, 3) := by decide +kernel
theorem dX1_part_53 : decode cX1_part 53 = .ok (.getfield 44, 3) := by decide +kernel
theorem dX1_part_56 : decode cX1_part 56 = .ok (.bipush 40, 2) := by decide +kernel
theorem dX1_part_58 : decode cX1_part 58 = .ok (.if_icmp .ne 21, 3) := by decide +kernel
theorem dX1_part_61 : decode cX1_part 61 = .ok (.aload_n 0, 1) := by decide +kernel
theorem dX1_part_62 : decode cX1_part 62 = .ok (.bipush (-20), 2) := by decide +kernel
theorem dX1_part_64 : decode cX1_part 64 = .ok (.invokevirtual 62, 3) := by decide +kernel
theorem dX1_part_67 : decode cX1_part 67 = .ok (.aload_n 0, 1) := by decide +kernel
theorem dX1_part_68 : decode cX1_part 68 = .ok (.dup, 1) := by decide +kernel
theorem dX1_part_69 : decode cX1_part 69 = .ok (.getfield 27, 3) := by decide +kernel
theorem dX1_part_72 : decode cX1_part 72 = .ok (.iconst 1, 1) := by decide +kernel
theorem dX1_part_73 : decode cX1_part 73 = .ok (.iadd, 1) := by decide +kernel
theorem dX1_part_74 : decode cX1_part 74 = .ok (.putfield 27, 3) := by decide +kernel
theorem dX1_part_77 : decode cX1_part 77 = .ok (.iconst 0, 1) := by decide +kernel
theorem dX1_part_78 : decode cX1_part 78 = .ok (.ireturn, 1) := by decide +kernel
theorem dX1_part_79 : decode cX1_part 79 = .ok (.aload_n 0, 1) := by decide +kernel
theorem dX1_part_80 : decode cX1_part 80 = .ok (.getfield 15, 3) := by decide +kernel
theorem dX1_part_83 : decode cX1_part 83 = .ok (.ldc 65, 2) := by decide +kernel
theorem dX1_part_85 : decode cX1_part 85 = .ok (.invokevirtual 67, 3) := by decide +kernel
theorem dX1_part_88 : decode cX1_part 88 = .ok (.ifCond .eq 29, 3) := by decide +kernel
theorem dX1_part_91 : decode cX1_part 91 = .ok (.aload_n 0, 1) := by decide +kernel
theorem dX1_part_92 : decode cX1_part 92 = .ok (.aload_n 0, 1) := by decide +kernel
theorem dX1_part_93 : decode cX1_part 93 = .ok (.getfield 23, 3) := by decide +kernel
theorem dX1_part_96 : decode cX1_part 96 = .ok (.iconst 1, 1) := by decide +kernel
theorem dX1_part_97 : decode cX1_part 97 = .ok (.isub, 1) := by decide +kernel
theorem dX1_part_98 : decode cX1_part 98 = .ok (.invokevirtual 71, 3) := by decide +kernel
theorem dX1_part_101 : decode cX1_part 101 = .ok (.invokestatic 75, 3) := by decide +kernel
theorem dX1_part_104 : decode cX1_part 104 = .ok (.bipush (-13), 2) := by decide +kernel
theorem dX1_part_106 : decode cX1_part 106 = .ok (.invokestatic 75, 3) := by decide +kernel
theorem dX1_part_109 : decode cX1_part 109 = .ok (.if_icmp .gt 8, 3) := by decide +kernel
theorem dX1_part_112 : decode cX1_part 112 = .ok (.aload_n 0, 1) := by decide +kernel
theorem dX1_part_113 : decode cX1_part 113 = .ok (.invokevirtual 78, 3) := by decide +kernel
theorem dX1_part_116 : decode cX1_part 116 = .ok (.ireturn, 1) := by decide +kernel
theorem dX1_part_117 : decode cX1_part 117 = .ok (.aload_n 0, 1) := by decide +kernel
theorem dX1_part_118 : decode cX1_part 118 = .ok (.getfield 15, 3) := by decide +kernel
theorem dX1_part_121 : decode cX1_part 121 = .ok (.getfield 44, 3) := by decide +kernel
theorem dX1_part_124 : decode cX1_part 124 = .ok (.bipush 48, 2) := by decide +kernel
theorem dX1_part_126 : decode cX1_part 126 = .ok (.if_icmp .ne 13, 3) := by decide +kernel
theorem dX1_part_129 : decode cX1_part 129 = .ok (.aload_n 0, 1) := by decide +kernel
theorem dX1_part_130 : decode cX1_part 130 = .ok (.getfield 15, 3) := by decide +kernel
theorem dX1_part_133 : decode cX1_part 133 = .ok (.getfield 81, 3) := by decide +kernel
theorem dX1_part_136 : decode cX1_part 136 = .ok (.goto 7, 3) := by decide +kernel
theorem dX1_part_139 : decode cX1_part 139 = .ok (.aload_n 0, 1) := by decide +kernel
theorem dX1_part_140 : decode cX1_part 140 = .ok (.invokevirtual 84, 3) := by decide +kernel
theorem dX1_part_143 : decode cX1_part 143 = .ok (.istore_n 1, 1) := by decide +kernel
theorem dX1_part_144 : decode cX1_part 144 = .ok (.aload_n 0, 1) := by decide +kernel
theorem dX1_part_145 : decode cX1_part 145 = .ok (.getfield 15, 3) := by decide +kernel
theorem dX1_part_148 : decode cX1_part 148 = .ok (.getfield 44, 3) := by decide +kernel
theorem dX1_part_151 : decode cX1_part 151 = .ok (.bipush 48, 2) := by decide +kernel
theorem dX1_part_153 : decode cX1_part 153 = .ok (.if_icmp .ne 15, 3) := by decide +kernel
theorem dX1_part_156 : decode cX1_part 156 = .ok (.aload_n 0, 1) := by decide +kernel
theorem dX1_part_157 : decode cX1_part 157 = .ok (.getfield 15, 3) := by decide +kernel
theorem dX1_part_160 : decode cX1_part 160 = .ok (.invokevirtual 87, 3) := by decide +kernel
theorem dX1_part_163 : decode cX1_part 163 = .ok (.ifCond .eq 5, 3) := by decide +kernel
theorem dX1_part_166 : decode cX1_part 166 = .ok (.iconst 2, 1) := by decide +kernel
theorem dX1_part_167 : decode cX1_part 167 = .ok (.ireturn, 1) := by decide +kernel
theorem dX1_part_168 : decode cX1_part 168 = .ok (.aload_n 0, 1) := by decide +kernel
theorem dX1_part_169 : decode cX1_part 169 = .ok (.getfield 15, 3) := by decide +kernel
theorem dX1_part_172 : decode cX1_part 172 = .ok (.getfield 44, 3) := by decide +kernel
theorem dX1_part_175 : decode cX1_part 175 = .ok (.bipush 97, 2) := by decide +kernel
theorem dX1_part_177 : decode cX1_part 177 = .ok (.if_icmp .ne 11, 3) := by decide +kernel
theorem dX1_part_180 : decode cX1_part 180 = .ok (.iload_n 1, 1) := by decide +kernel
theorem dX1_part_181 : decode cX1_part 181 = .ok (.bipush (-21), 2) := by decide +kernel
theorem dX1_part_183 : decode cX1_part 183 = .ok (.if_icmp .ne 5, 3) := by decide +kernel
theorem dX1_part_186 : decode cX1_part 186 = .ok (.iconst 3, 1) := by decide +kernel
theorem dX1_part_187 : decode cX1_part 187 = .ok (.ireturn, 1) := by decide +kernel
theorem dX1_part_188 : decode cX1_part 188 = .ok (.aload_n 0, 1) := by decide +kernel
theorem dX1_part_189 : decode cX1_part 189 = .ok (.getfield 19, 3) := by decide +kernel
theorem dX1_part_192 : decode cX1_part 192 = .ok (.iload_n 1, 1) := by decide +kernel
theorem dX1_part_193 : decode cX1_part 193 = .ok (.invokevirtual 91, 3) := by decide +kernel
theorem dX1_part_196 : decode cX1_part 196 = .ok (.aload_n 0, 1) := by decide +kernel
theorem dX1_part_197 : decode cX1_part 197 = .ok (.iconst 0, 1) := by decide +kernel
theorem dX1_part_198 : decode cX1_part 198 = .ok (.putfield 30, 3) := by decide +kernel
theorem dX1_part_201 : decode cX1_part 201 = .ok (.iconst 0, 1) := by decide +kernel
theorem dX1_part_202 : decode cX1_part 202 = .ok (.ireturn, 1) := by decide +kernel
def X1_part_b188 (e : mm_E) (a0 : Nat) (i1 : Int32) (m : mm_V) : Option (Int32 × mm_V) := (mm_gr e.1 m 1 6 a0 5).bind fun c1 => if e.1 c1 = some (10, 11) then ((X10_emit e c1 i1 m).bind fun r2 => (mm_pz e.1 r2 1 6 a0 3 (0 : Int32)).bind fun m4 => some ((0 : Int32), m4)) else none
theorem X1_part_b188_ok {K : mm_K} {nx : Option Nat} {e : mm_E} (hz : e.2.1 = K.2.2.2.2) {d : Nat} (hd : 11 ≤ d) {a0 : Nat} {i1 : Int32} (h0 : e.1 a0 = some (1, 6)) {m : mm_V} {r : (Int32 × mm_V)} (hr : X1_part_b188 e a0 i1 m = some r) : mm_G K MX1_part d (mm_Fi e.1 nx r) 188 [some (.ref a0), some (.int i1)] [] (e.1, m) nx 0 0 := by
  obtain ⟨d, rfl⟩ : ∃ d', d = d' + 1 := ⟨d - 1, by omega⟩
  unfold X1_part_b188 at hr
  refine ml_aload_n (pc := 188) dX1_part_188 rfl mm_get_0 ?_
  refine mb_gr (pc := 189) dX1_part_189 fl_X1_19 hr (fun c1 hr => ?_)
  refine ml_iload_n (pc := 192) dX1_part_192 rfl (mm_get_s mm_get_0) ?_
  refine mb_ck hr (fun hb3 hr => ?_)
  refine mb_cVv (pc := 193) (As := [.int i1]) (rest := []) dX1_part_193 cw_X1_91 hb3 hr (fun v hv => X10_emit_ok hz (by omega) hb3 hv) rfl (Nat.le_of_ble_eq_true rfl) (Nat.zero_le _) (Nat.zero_le _) (fun r2 hr => ?_)
  refine ml_aload_n (pc := 196) dX1_part_196 rfl mm_get_0 ?_
  refine mg_iconst (pc := 197) dX1_part_197 kc_0 ?_
  refine mb_pz (pc := 198) dX1_part_198 fp_X1_30 hr (fun m4 hr => ?_)
  refine mg_iconst (pc := 201) dX1_part_201 kc_0 ?_
  exact mb_iret dX1_part_202 rfl hr
def X1_part_b168 (e : mm_E) (a0 : Nat) (i1 : Int32) (m : mm_V) : Option (Int32 × mm_V) := (mm_gr e.1 m 1 6 a0 4).bind fun c1 => (mm_gi e.1 m 9 6 c1 4).bind fun x2 => if ¬ x2 = (97 : Int32) then (X1_part_b188 e a0 i1  m) else (if ¬ i1 = (-21 : Int32) then (X1_part_b188 e a0 i1  m) else (some ((3 : Int32), m)))
theorem X1_part_b168_ok {K : mm_K} {nx : Option Nat} {e : mm_E} (hz : e.2.1 = K.2.2.2.2) {d : Nat} (hd : 11 ≤ d) {a0 : Nat} {i1 : Int32} (h0 : e.1 a0 = some (1, 6)) {m : mm_V} {r : (Int32 × mm_V)} (hr : X1_part_b168 e a0 i1 m = some r) : mm_G K MX1_part d (mm_Fi e.1 nx r) 168 [some (.ref a0), some (.int i1)] [] (e.1, m) nx 0 0 := by
  obtain ⟨d, rfl⟩ : ∃ d', d = d' + 1 := ⟨d - 1, by omega⟩
  unfold X1_part_b168 at hr
  refine ml_aload_n (pc := 168) dX1_part_168 rfl mm_get_0 ?_
  refine mb_gr (pc := 169) dX1_part_169 fl_X1_15 hr (fun c1 hr => ?_)
  refine mb_gi (pc := 172) dX1_part_172 fl_X1_44 hr (fun x2 hr => ?_)
  refine mg_bipush (pc := 175) dX1_part_175 kb_97 ?_
  refine mb_icmp_ne (pc := 177) 188 dX1_part_177 rfl hr (fun hr => ?_) (fun hr => ?_)
  · exact mg_weak (mm_le_s (mm_le_s mm_le_0)) (X1_part_b188_ok hz hd h0 hr)
  · refine ml_iload_n (pc := 180) dX1_part_180 rfl (mm_get_s mm_get_0) ?_
    refine mg_bipush (pc := 181) dX1_part_181 kb_m21 ?_
    refine mb_icmp_ne (pc := 183) 188 dX1_part_183 rfl hr (fun hr => ?_) (fun hr => ?_)
    · exact mg_weak (mm_le_s (mm_le_s mm_le_0)) (X1_part_b188_ok hz hd h0 hr)
    · refine mg_iconst (pc := 186) dX1_part_186 kc_3 ?_
      exact mb_iret dX1_part_187 rfl hr
def X1_part_b143 (e : mm_E) (a0 : Nat) (t0 : Int32) (m : mm_V) : Option (Int32 × mm_V) := (mm_gr e.1 m 1 6 a0 4).bind fun c1 => (mm_gi e.1 m 9 6 c1 4).bind fun x2 => if ¬ x2 = (48 : Int32) then (X1_part_b168 e a0 t0  m) else ((mm_gr e.1 m 1 6 a0 4).bind fun c3 => if e.1 c3 = some (9, 6) then ((X9_isTooLong e c3 m).bind fun r4 => if r4.1 = 0 then (X1_part_b168 e a0 t0  r4.2) else (some ((2 : Int32), r4.2))) else none)
theorem X1_part_b143_ok {K : mm_K} {nx : Option Nat} {e : mm_E} (hz : e.2.1 = K.2.2.2.2) {d : Nat} (hd : 11 ≤ d) {a0 : Nat} {t0 : Int32} (h0 : e.1 a0 = some (1, 6)) {m : mm_V} {r : (Int32 × mm_V)} (hr : X1_part_b143 e a0 t0 m = some r) : mm_G K MX1_part d (mm_Fi e.1 nx r) 143 [some (.ref a0), none] [.int t0] (e.1, m) nx 0 0 := by
  obtain ⟨d, rfl⟩ : ∃ d', d = d' + 1 := ⟨d - 1, by omega⟩
  unfold X1_part_b143 at hr
  refine ml_istore_n (pc := 143) dX1_part_143 rfl (Nat.le_of_ble_eq_true rfl) mm_st1_r ?_
  refine ml_aload_n (pc := 144) dX1_part_144 rfl mm_get_0 ?_
  refine mb_gr (pc := 145) dX1_part_145 fl_X1_15 hr (fun c1 hr => ?_)
  refine mb_gi (pc := 148) dX1_part_148 fl_X1_44 hr (fun x2 hr => ?_)
  refine mg_bipush (pc := 151) dX1_part_151 kb_48 ?_
  refine mb_icmp_ne (pc := 153) 168 dX1_part_153 rfl hr (fun hr => ?_) (fun hr => ?_)
  · exact mg_weak (mm_le_s (mm_le_s mm_le_0)) (X1_part_b168_ok hz hd h0 hr)
  · refine ml_aload_n (pc := 156) dX1_part_156 rfl mm_get_0 ?_
    refine mb_gr (pc := 157) dX1_part_157 fl_X1_15 hr (fun c3 hr => ?_)
    refine mb_ck hr (fun hb5 hr => ?_)
    refine mb_cVi (pc := 160) (As := []) (rest := []) dX1_part_160 cw_X1_87 hb5 hr (fun v hv => X9_isTooLong_ok hz (by omega) hb5 hv) rfl (Nat.le_of_ble_eq_true rfl) (Nat.zero_le _) (Nat.zero_le _) (fun r4 hr => ?_)
    refine mb_if_eq (pc := 163) 168 dX1_part_163 rfl hr (fun hr => ?_) (fun hr => ?_)
    · exact mg_weak (mm_le_s (mm_le_s mm_le_0)) (X1_part_b168_ok hz hd h0 hr)
    · refine mg_iconst (pc := 166) dX1_part_166 kc_2 ?_
      exact mb_iret dX1_part_167 rfl hr
def X1_part_b117 (e : mm_E) (a0 : Nat) (m : mm_V) : Option (Int32 × mm_V) := (mm_gr e.1 m 1 6 a0 4).bind fun c1 => (mm_gi e.1 m 9 6 c1 4).bind fun x2 => if ¬ x2 = (48 : Int32) then ((X1_valueCode e a0 m).bind fun r3 => X1_part_b143 e a0 r3.1 r3.2) else ((mm_gr e.1 m 1 6 a0 4).bind fun c4 => (mm_gi e.1 m 9 6 c4 5).bind fun x5 => X1_part_b143 e a0 x5 m)
theorem X1_part_b117_ok {K : mm_K} {nx : Option Nat} {e : mm_E} (hz : e.2.1 = K.2.2.2.2) {d : Nat} (hd : 11 ≤ d) {a0 : Nat} (h0 : e.1 a0 = some (1, 6)) {m : mm_V} {r : (Int32 × mm_V)} (hr : X1_part_b117 e a0 m = some r) : mm_G K MX1_part d (mm_Fi e.1 nx r) 117 [some (.ref a0), none] [] (e.1, m) nx 0 0 := by
  obtain ⟨d, rfl⟩ : ∃ d', d = d' + 1 := ⟨d - 1, by omega⟩
  unfold X1_part_b117 at hr
  refine ml_aload_n (pc := 117) dX1_part_117 rfl mm_get_0 ?_
  refine mb_gr (pc := 118) dX1_part_118 fl_X1_15 hr (fun c1 hr => ?_)
  refine mb_gi (pc := 121) dX1_part_121 fl_X1_44 hr (fun x2 hr => ?_)
  refine mg_bipush (pc := 124) dX1_part_124 kb_48 ?_
  refine mb_icmp_ne (pc := 126) 139 dX1_part_126 rfl hr (fun hr => ?_) (fun hr => ?_)
  · refine ml_aload_n (pc := 139) dX1_part_139 rfl mm_get_0 ?_
    refine mb_cVi (pc := 140) (As := []) (rest := []) dX1_part_140 cw_X1_84 h0 hr (fun v hv => X1_valueCode_ok hz (by omega) h0 hv) rfl (Nat.le_of_ble_eq_true rfl) (Nat.zero_le _) (Nat.zero_le _) (fun r3 hr => ?_)
    exact mg_weak (mm_le_s (mm_le_n mm_le_0)) (X1_part_b143_ok hz hd h0 hr)
  · refine ml_aload_n (pc := 129) dX1_part_129 rfl mm_get_0 ?_
    refine mb_gr (pc := 130) dX1_part_130 fl_X1_15 hr (fun c4 hr => ?_)
    refine mb_gi (pc := 133) dX1_part_133 fl_X1_81 hr (fun x5 hr => ?_)
    refine mg_goto (pc := 136) 143 dX1_part_136 rfl ?_
    exact mg_weak (mm_le_s (mm_le_n mm_le_0)) (X1_part_b143_ok hz hd h0 hr)
def X1_part_b38 (e : mm_E) (a0 : Nat) (m : mm_V) : Option (Int32 × mm_V) := (mm_gi e.1 m 1 6 a0 2).bind fun x1 => if x1 < (6 : Int32) then ((mm_gr e.1 m 1 6 a0 4).bind fun c2 => (mm_gi e.1 m 9 6 c2 4).bind fun x3 => if ¬ x3 = (40 : Int32) then ((mm_gr e.1 m 1 6 a0 4).bind fun c4 => if e.1 c4 = some (9, 6) then ((X9_isWord e c4 (e.2.1 108) m).bind fun r5 => if r5.1 = 0 then (X1_part_b117 e a0  r5.2) else ((mm_gi e.1 r5.2 1 6 a0 1).bind fun x7 => (X1_waitingAt e a0 (x7 - (1 : Int32)) r5.2).bind fun r8 => (X1_level e r8.1 r8.2).bind fun r9 => (X1_level e (-13 : Int32) r9.2).bind fun r10 => if r10.1 < r9.1 then (X1_part_b117 e a0  r10.2) else ((X1_pushNot e a0 r10.2).bind fun r11 => some (r11.1, r11.2)))) else none) else ((X1_push e a0 (-20 : Int32) m).bind fun r12 => (mm_gi e.1 r12 1 6 a0 2).bind fun x13 => (mm_pf e.1 r12 1 6 a0 2 (.int (x13 + (1 : Int32)))).bind fun m14 => some ((0 : Int32), m14))) else (some ((2 : Int32), m))
theorem X1_part_b38_ok {K : mm_K} {nx : Option Nat} {e : mm_E} (hz : e.2.1 = K.2.2.2.2) {d : Nat} (hd : 11 ≤ d) {a0 : Nat} (h0 : e.1 a0 = some (1, 6)) {m : mm_V} {r : (Int32 × mm_V)} (hr : X1_part_b38 e a0 m = some r) : mm_G K MX1_part d (mm_Fi e.1 nx r) 38 [some (.ref a0), none] [] (e.1, m) nx 0 0 := by
  obtain ⟨d, rfl⟩ : ∃ d', d = d' + 1 := ⟨d - 1, by omega⟩
  unfold X1_part_b38 at hr
  refine ml_aload_n (pc := 38) dX1_part_38 rfl mm_get_0 ?_
  refine mb_gi (pc := 39) dX1_part_39 fl_X1_27 hr (fun x1 hr => ?_)
  refine mg_bipush (pc := 42) dX1_part_42 kb_6 ?_
  refine mb_icmp_lt (pc := 44) 49 dX1_part_44 rfl hr (fun hr => ?_) (fun hr => ?_)
  · refine ml_aload_n (pc := 49) dX1_part_49 rfl mm_get_0 ?_
    refine mb_gr (pc := 50) dX1_part_50 fl_X1_15 hr (fun c2 hr => ?_)
    refine mb_gi (pc := 53) dX1_part_53 fl_X1_44 hr (fun x3 hr => ?_)
    refine mg_bipush (pc := 56) dX1_part_56 kb_40 ?_
    refine mb_icmp_ne (pc := 58) 79 dX1_part_58 rfl hr (fun hr => ?_) (fun hr => ?_)
    · refine ml_aload_n (pc := 79) dX1_part_79 rfl mm_get_0 ?_
      refine mb_gr (pc := 80) dX1_part_80 fl_X1_15 hr (fun c4 hr => ?_)
      refine mg_ldcS (pc := 83) (z := e.2.1) (i := 8) (j := 108) hz rfl dX1_part_83 (by decide) rfl ?_
      refine mb_ck hr (fun hb6 hr => ?_)
      refine mb_cVi (pc := 85) (As := [.ref (e.2.1 108)]) (rest := []) dX1_part_85 cw_X1_67 hb6 hr (fun v hv => X9_isWord_ok hz (by omega) hb6 hv) rfl (Nat.le_of_ble_eq_true rfl) (Nat.zero_le _) (Nat.zero_le _) (fun r5 hr => ?_)
      refine mb_if_eq (pc := 88) 117 dX1_part_88 rfl hr (fun hr => ?_) (fun hr => ?_)
      · exact mg_weak (mm_le_s (mm_le_n mm_le_0)) (X1_part_b117_ok hz hd h0 hr)
      · refine ml_aload_n (pc := 91) dX1_part_91 rfl mm_get_0 ?_
        refine ml_aload_n (pc := 92) dX1_part_92 rfl mm_get_0 ?_
        refine mb_gi (pc := 93) dX1_part_93 fl_X1_23 hr (fun x7 hr => ?_)
        refine mg_iconst (pc := 96) dX1_part_96 kc_1 ?_
        refine mg_isub (pc := 97) dX1_part_97 ?_
        refine mb_cVi (pc := 98) (As := [.int (x7 - (1 : Int32))]) (rest := []) dX1_part_98 cw_X1_71 h0 hr (fun v hv => X1_waitingAt_ok hz (by omega) h0 hv) rfl (Nat.le_of_ble_eq_true rfl) (Nat.zero_le _) (Nat.zero_le _) (fun r8 hr => ?_)
        refine mb_cSi (pc := 101) (As := [.int r8.1]) (rest := []) dX1_part_101 cw_X1_75  hr (fun v hv => X1_level_ok hz (by omega)  hv) rfl (Nat.le_of_ble_eq_true rfl) (Nat.zero_le _) (Nat.zero_le _) (fun r9 hr => ?_)
        refine mg_bipush (pc := 104) dX1_part_104 kb_m13 ?_
        refine mb_cSi (pc := 106) (As := [.int (-13 : Int32)]) (rest := [.int r9.1]) dX1_part_106 cw_X1_75  hr (fun v hv => X1_level_ok hz (by omega)  hv) rfl (Nat.le_of_ble_eq_true rfl) (Nat.zero_le _) (Nat.zero_le _) (fun r10 hr => ?_)
        refine mb_icmp_gt (pc := 109) 117 dX1_part_109 rfl hr (fun hr => ?_) (fun hr => ?_)
        · exact mg_weak (mm_le_s (mm_le_n mm_le_0)) (X1_part_b117_ok hz hd h0 hr)
        · refine ml_aload_n (pc := 112) dX1_part_112 rfl mm_get_0 ?_
          refine mb_cVi (pc := 113) (As := []) (rest := []) dX1_part_113 cw_X1_78 h0 hr (fun v hv => X1_pushNot_ok hz (by omega) h0 hv) rfl (Nat.le_of_ble_eq_true rfl) (Nat.zero_le _) (Nat.zero_le _) (fun r11 hr => ?_)
          exact mb_iret dX1_part_116 rfl hr
    · refine ml_aload_n (pc := 61) dX1_part_61 rfl mm_get_0 ?_
      refine mg_bipush (pc := 62) dX1_part_62 kb_m20 ?_
      refine mb_cVv (pc := 64) (As := [.int (-20 : Int32)]) (rest := []) dX1_part_64 cw_X1_62 h0 hr (fun v hv => X1_push_ok hz (by omega) h0 hv) rfl (Nat.le_of_ble_eq_true rfl) (Nat.zero_le _) (Nat.zero_le _) (fun r12 hr => ?_)
      refine ml_aload_n (pc := 67) dX1_part_67 rfl mm_get_0 ?_
      refine mg_dup (pc := 68) dX1_part_68 rfl ?_
      refine mb_gi (pc := 69) dX1_part_69 fl_X1_27 hr (fun x13 hr => ?_)
      refine mg_iconst (pc := 72) dX1_part_72 kc_1 ?_
      refine mg_iadd (pc := 73) dX1_part_73 ?_
      refine mb_pi (pc := 74) dX1_part_74 fp_X1_27 hr (fun m14 hr => ?_)
      refine mg_iconst (pc := 77) dX1_part_77 kc_0 ?_
      exact mb_iret dX1_part_78 rfl hr
  · refine mg_iconst (pc := 47) dX1_part_47 kc_2 ?_
    exact mb_iret dX1_part_48 rfl hr
def X1_part (e : mm_E) (a0 : Nat) (m : mm_V) : Option (Int32 × mm_V) := (mm_gr e.1 m 1 6 a0 4).bind fun c1 => (mm_gi e.1 m 9 6 c1 4).bind fun x2 => if x2 = (48 : Int32) then (X1_part_b38 e a0  m) else ((mm_gr e.1 m 1 6 a0 4).bind fun c3 => (mm_gi e.1 m 9 6 c3 4).bind fun x4 => if x4 = (97 : Int32) then (X1_part_b38 e a0  m) else ((mm_gr e.1 m 1 6 a0 4).bind fun c5 => (mm_gi e.1 m 9 6 c5 4).bind fun x6 => if x6 = (40 : Int32) then (X1_part_b38 e a0  m) else (some ((1 : Int32), m))))
theorem X1_part_ok {K : mm_K} {nx : Option Nat} {e : mm_E} (hz : e.2.1 = K.2.2.2.2) {d : Nat} (hd : 11 ≤ d) {a0 : Nat} (h0 : e.1 a0 = some (1, 6)) {m : mm_V} {r : (Int32 × mm_V)} (hr : X1_part e a0 m = some r) : mm_Cn K MX1_part d (mm_Fi e.1 nx r) [.ref a0] (e.1, m) nx := by
  obtain ⟨d, rfl⟩ : ∃ d', d = d' + 1 := ⟨d - 1, by omega⟩
  refine mm_entry (by decide) (Nat.le_of_ble_eq_true rfl) rfl (fun hok => ?_)
  unfold X1_part at hr
  refine mg_weak (L' := [some (.ref a0), none]) (mm_le_s (mm_le_e mm_le_0)) ?_
  refine ml_aload_n (pc := 0) dX1_part_0 rfl mm_get_0 ?_
  refine mb_gr (pc := 1) dX1_part_1 fl_X1_15 hr (fun c1 hr => ?_)
  refine mb_gi (pc := 4) dX1_part_4 fl_X1_44 hr (fun x2 hr => ?_)
  refine mg_bipush (pc := 7) dX1_part_7 kb_48 ?_
  refine mb_icmp_eq (pc := 9) 38 dX1_part_9 rfl hr (fun hr => ?_) (fun hr => ?_)
  · exact mg_weak (mm_le_s (mm_le_n mm_le_0)) (X1_part_b38_ok hz hd h0 hr)
  · refine ml_aload_n (pc := 12) dX1_part_12 rfl mm_get_0 ?_
    refine mb_gr (pc := 13) dX1_part_13 fl_X1_15 hr (fun c3 hr => ?_)
    refine mb_gi (pc := 16) dX1_part_16 fl_X1_44 hr (fun x4 hr => ?_)
    refine mg_bipush (pc := 19) dX1_part_19 kb_97 ?_
    refine mb_icmp_eq (pc := 21) 38 dX1_part_21 rfl hr (fun hr => ?_) (fun hr => ?_)
    · exact mg_weak (mm_le_s (mm_le_n mm_le_0)) (X1_part_b38_ok hz hd h0 hr)
    · refine ml_aload_n (pc := 24) dX1_part_24 rfl mm_get_0 ?_
      refine mb_gr (pc := 25) dX1_part_25 fl_X1_15 hr (fun c5 hr => ?_)
      refine mb_gi (pc := 28) dX1_part_28 fl_X1_44 hr (fun x6 hr => ?_)
      refine mg_bipush (pc := 31) dX1_part_31 kb_40 ?_
      refine mb_icmp_eq (pc := 33) 38 dX1_part_33 rfl hr (fun hr => ?_) (fun hr => ?_)
      · exact mg_weak (mm_le_s (mm_le_n mm_le_0)) (X1_part_b38_ok hz hd h0 hr)
      · refine mg_iconst (pc := 36) dX1_part_36 kc_1 ?_
        exact mb_iret dX1_part_37 rfl hr
theorem dX1_operatorCode_0 : decode cX1_operatorCode 0 = .ok (.aload_n 0, 1) := by decide +kernel
theorem dX1_operatorCode_1 : decode cX1_operatorCode 1 = .ok (.getfield 15, 3) := by decide +kernel
theorem dX1_operatorCode_4 : decode cX1_operatorCode 4 = .ok (.getfield 44, 3) := by decide +kernel
theorem dX1_operatorCode_7 : decode cX1_operatorCode 7 = .ok (.tableswitch 111 42 61 #[99, 93, 111, 96, 111, 102, 111, 111, 111, 111, 111, 111, 111, 111, 111, 111, 111, 111, 105, 108], 93) := by decide +kernel
theorem dX1_operatorCode_100 : decode cX1_operatorCode 100 = .ok (.bipush (-16), 2) := by decide +kernel
theorem dX1_operatorCode_102 : decode cX1_operatorCode 102 = .ok (.ireturn, 1) := by decide +kernel
theorem dX1_operatorCode_103 : decode cX1_operatorCode 103 = .ok (.bipush (-17), 2) := by decide +kernel
theorem dX1_operatorCode_105 : decode cX1_operatorCode 105 = .ok (.ireturn, 1) := by decide +kernel
theorem dX1_operatorCode_106 : decode cX1_operatorCode 106 = .ok (.bipush (-18), 2) := by decide +kernel
theorem dX1_operatorCode_108 : decode cX1_operatorCode 108 = .ok (.ireturn, 1) := by decide +kernel
theorem dX1_operatorCode_109 : decode cX1_operatorCode 109 = .ok (.bipush (-19), 2) := by decide +kernel
theorem dX1_operatorCode_111 : decode cX1_operatorCode 111 = .ok (.ireturn, 1) := by decide +kernel
theorem dX1_operatorCode_112 : decode cX1_operatorCode 112 = .ok (.bipush (-14), 2) := by decide +kernel
theorem dX1_operatorCode_114 : decode cX1_operatorCode 114 = .ok (.ireturn, 1) := by decide +kernel
theorem dX1_operatorCode_115 : decode cX1_operatorCode 115 = .ok (.bipush (-15), 2) := by decide +kernel
theorem dX1_operatorCode_117 : decode cX1_operatorCode 117 = .ok (.ireturn, 1) := by decide +kernel
theorem dX1_operatorCode_118 : decode cX1_operatorCode 118 = .ok (.aload_n 0, 1) := by decide +kernel
theorem dX1_operatorCode_119 : decode cX1_operatorCode 119 = .ok (.getfield 15, 3) := by decide +kernel
theorem dX1_operatorCode_122 : decode cX1_operatorCode 122 = .ok (.ldc 113, 2) := by decide +kernel
theorem dX1_operatorCode_124 : decode cX1_operatorCode 124 = .ok (.invokevirtual 67, 3) := by decide +kernel
theorem dX1_operatorCode_127 : decode cX1_operatorCode 127 = .ok (.ifCond .eq 6, 3) := by decide +kernel
theorem dX1_operatorCode_130 : decode cX1_operatorCode 130 = .ok (.bipush (-11), 2) := by decide +kernel
theorem dX1_operatorCode_132 : decode cX1_operatorCode 132 = .ok (.ireturn, 1) := by decide +kernel
theorem dX1_operatorCode_133 : decode cX1_operatorCode 133 = .ok (.aload_n 0, 1) := by decide +kernel
theorem dX1_operatorCode_134 : decode cX1_operatorCode 134 = .ok (.getfield 15, 3) := by decide +kernel
theorem dX1_operatorCode_137 : decode cX1_operatorCode 137 = .ok (.ldc 115, 2) := by decide +kernel
theorem dX1_operatorCode_139 : decode cX1_operatorCode 139 = .ok (.invokevirtual 67, 3) := by decide +kernel
theorem dX1_operatorCode_142 : decode cX1_operatorCode 142 = .ok (.ifCond .eq 8, 3) := by decide +kernel
theorem dX1_operatorCode_145 : decode cX1_operatorCode 145 = .ok (.bipush (-12), 2) := by decide +kernel
theorem dX1_operatorCode_147 : decode cX1_operatorCode 147 = .ok (.goto 5, 3) := by decide +kernel
theorem dX1_operatorCode_150 : decode cX1_operatorCode 150 = .ok (.bipush (-21), 2) := by decide +kernel
theorem dX1_operatorCode_152 : decode cX1_operatorCode 152 = .ok (.ireturn, 1) := by decide +kernel
def X1_operatorCode_b152 (e : mm_E) (t0 : Int32) (m : mm_V) : Option (Int32 × mm_V) := some (t0, m)
theorem X1_operatorCode_b152_ok {K : mm_K} {nx : Option Nat} {e : mm_E} (hz : e.2.1 = K.2.2.2.2) {d : Nat} (hd : 10 ≤ d) {t0 : Int32} {a0 : Nat} (h0 : e.1 a0 = some (1, 6)) {m : mm_V} {r : (Int32 × mm_V)} (hr : X1_operatorCode_b152 e t0 m = some r) : mm_G K MX1_operatorCode d (mm_Fi e.1 nx r) 152 [none] [.int t0] (e.1, m) nx 0 0 := by
  obtain ⟨d, rfl⟩ : ∃ d', d = d' + 1 := ⟨d - 1, by omega⟩
  unfold X1_operatorCode_b152 at hr
  exact mb_iret dX1_operatorCode_152 rfl hr
def X1_operatorCode (e : mm_E) (a0 : Nat) (m : mm_V) : Option (Int32 × mm_V) := (mm_gr e.1 m 1 6 a0 4).bind fun c1 => (mm_gi e.1 m 9 6 c1 4).bind fun x2 => if x2 = (42 : Int32) then (some ((-18 : Int32), m)) else (if x2 = (43 : Int32) then (some ((-16 : Int32), m)) else (if x2 = (45 : Int32) then (some ((-17 : Int32), m)) else (if x2 = (47 : Int32) then (some ((-19 : Int32), m)) else (if x2 = (60 : Int32) then (some ((-14 : Int32), m)) else (if x2 = (61 : Int32) then (some ((-15 : Int32), m)) else ((mm_gr e.1 m 1 6 a0 4).bind fun c9 => if e.1 c9 = some (9, 6) then ((X9_isWord e c9 (e.2.1 115) m).bind fun r10 => if r10.1 = 0 then ((mm_gr e.1 r10.2 1 6 a0 4).bind fun c12 => if e.1 c12 = some (9, 6) then ((X9_isWord e c12 (e.2.1 116) r10.2).bind fun r13 => if r13.1 = 0 then (X1_operatorCode_b152 e  (-21 : Int32) r13.2) else (X1_operatorCode_b152 e  (-12 : Int32) r13.2)) else none) else (some ((-11 : Int32), r10.2))) else none))))))
theorem X1_operatorCode_ok {K : mm_K} {nx : Option Nat} {e : mm_E} (hz : e.2.1 = K.2.2.2.2) {d : Nat} (hd : 10 ≤ d) {a0 : Nat} (h0 : e.1 a0 = some (1, 6)) {m : mm_V} {r : (Int32 × mm_V)} (hr : X1_operatorCode e a0 m = some r) : mm_Cn K MX1_operatorCode d (mm_Fi e.1 nx r) [.ref a0] (e.1, m) nx := by
  obtain ⟨d, rfl⟩ : ∃ d', d = d' + 1 := ⟨d - 1, by omega⟩
  refine mm_entry (by decide) (Nat.le_of_ble_eq_true rfl) rfl (fun hok => ?_)
  unfold X1_operatorCode at hr
  refine mg_weak (L' := [some (.ref a0)]) (mm_le_s mm_le_0) ?_
  refine ml_aload_n (pc := 0) dX1_operatorCode_0 rfl mm_get_0 ?_
  refine mb_gr (pc := 1) dX1_operatorCode_1 fl_X1_15 hr (fun c1 hr => ?_)
  refine mb_gi (pc := 4) dX1_operatorCode_4 fl_X1_44 hr (fun x2 hr => ?_)
  refine mb_ite hr (fun hc hr => ?_) (fun hc3 hr => ?_)
  · refine mg_tableK (pc := 7) (99) 106 dX1_operatorCode_7 hc (by decide +kernel) rfl ?_
    refine mg_bipush (pc := 106) dX1_operatorCode_106 kb_m18 ?_
    exact mb_iret dX1_operatorCode_108 rfl hr
  refine mb_ite hr (fun hc hr => ?_) (fun hc4 hr => ?_)
  · refine mg_tableK (pc := 7) (93) 100 dX1_operatorCode_7 hc (by decide +kernel) rfl ?_
    refine mg_bipush (pc := 100) dX1_operatorCode_100 kb_m16 ?_
    exact mb_iret dX1_operatorCode_102 rfl hr
  refine mb_ite hr (fun hc hr => ?_) (fun hc5 hr => ?_)
  · refine mg_tableK (pc := 7) (96) 103 dX1_operatorCode_7 hc (by decide +kernel) rfl ?_
    refine mg_bipush (pc := 103) dX1_operatorCode_103 kb_m17 ?_
    exact mb_iret dX1_operatorCode_105 rfl hr
  refine mb_ite hr (fun hc hr => ?_) (fun hc6 hr => ?_)
  · refine mg_tableK (pc := 7) (102) 109 dX1_operatorCode_7 hc (by decide +kernel) rfl ?_
    refine mg_bipush (pc := 109) dX1_operatorCode_109 kb_m19 ?_
    exact mb_iret dX1_operatorCode_111 rfl hr
  refine mb_ite hr (fun hc hr => ?_) (fun hc7 hr => ?_)
  · refine mg_tableK (pc := 7) (105) 112 dX1_operatorCode_7 hc (by decide +kernel) rfl ?_
    refine mg_bipush (pc := 112) dX1_operatorCode_112 kb_m14 ?_
    exact mb_iret dX1_operatorCode_114 rfl hr
  refine mb_ite hr (fun hc hr => ?_) (fun hc8 hr => ?_)
  · refine mg_tableK (pc := 7) (108) 115 dX1_operatorCode_7 hc (by decide +kernel) rfl ?_
    refine mg_bipush (pc := 115) dX1_operatorCode_115 kb_m15 ?_
    exact mb_iret dX1_operatorCode_117 rfl hr
  refine mg_tableD (pc := 7) 118 dX1_operatorCode_7 ((mm_nin_c hc3 (mm_nin_c hc4 (mm_nin_c hc5 (mm_nin_c hc6 (mm_nin_c hc7 (mm_nin_c hc8 mm_nin_0)))))) : ∀ y ∈ [(42 : Int32), (43 : Int32), (45 : Int32), (47 : Int32), (60 : Int32), (61 : Int32)], ¬ x2 = y) (by decide +kernel) rfl ?_
  refine ml_aload_n (pc := 118) dX1_operatorCode_118 rfl mm_get_0 ?_
  refine mb_gr (pc := 119) dX1_operatorCode_119 fl_X1_15 hr (fun c9 hr => ?_)
  refine mg_ldcS (pc := 122) (z := e.2.1) (i := 15) (j := 115) hz rfl dX1_operatorCode_122 (by decide) rfl ?_
  refine mb_ck hr (fun hb11 hr => ?_)
  refine mb_cVi (pc := 124) (As := [.ref (e.2.1 115)]) (rest := []) dX1_operatorCode_124 cw_X1_67 hb11 hr (fun v hv => X9_isWord_ok hz (by omega) hb11 hv) rfl (Nat.le_of_ble_eq_true rfl) (Nat.zero_le _) (Nat.zero_le _) (fun r10 hr => ?_)
  refine mb_if_eq (pc := 127) 133 dX1_operatorCode_127 rfl hr (fun hr => ?_) (fun hr => ?_)
  · refine ml_aload_n (pc := 133) dX1_operatorCode_133 rfl mm_get_0 ?_
    refine mb_gr (pc := 134) dX1_operatorCode_134 fl_X1_15 hr (fun c12 hr => ?_)
    refine mg_ldcS (pc := 137) (z := e.2.1) (i := 16) (j := 116) hz rfl dX1_operatorCode_137 (by decide) rfl ?_
    refine mb_ck hr (fun hb14 hr => ?_)
    refine mb_cVi (pc := 139) (As := [.ref (e.2.1 116)]) (rest := []) dX1_operatorCode_139 cw_X1_67 hb14 hr (fun v hv => X9_isWord_ok hz (by omega) hb14 hv) rfl (Nat.le_of_ble_eq_true rfl) (Nat.zero_le _) (Nat.zero_le _) (fun r13 hr => ?_)
    refine mb_if_eq (pc := 142) 150 dX1_operatorCode_142 rfl hr (fun hr => ?_) (fun hr => ?_)
    · refine mg_bipush (pc := 150) dX1_operatorCode_150 kb_m21 ?_
      exact mg_weak (mm_le_n mm_le_0) (X1_operatorCode_b152_ok hz hd h0 hr)
    · refine mg_bipush (pc := 145) dX1_operatorCode_145 kb_m12 ?_
      refine mg_goto (pc := 147) 152 dX1_operatorCode_147 rfl ?_
      exact mg_weak (mm_le_n mm_le_0) (X1_operatorCode_b152_ok hz hd h0 hr)
  · refine mg_bipush (pc := 130) dX1_operatorCode_130 kb_m11 ?_
    exact mb_iret dX1_operatorCode_132 rfl hr
theorem dX1_isTest_0 : decode cX1_isTest 0 = .ok (.iload_n 0, 1) := by decide +kernel
theorem dX1_isTest_1 : decode cX1_isTest 1 = .ok (.bipush (-14), 2) := by decide +kernel
theorem dX1_isTest_3 : decode cX1_isTest 3 = .ok (.if_icmp .eq 9, 3) := by decide +kernel
theorem dX1_isTest_6 : decode cX1_isTest 6 = .ok (.iload_n 0, 1) := by decide +kernel
theorem dX1_isTest_7 : decode cX1_isTest 7 = .ok (.bipush (-15), 2) := by decide +kernel
theorem dX1_isTest_9 : decode cX1_isTest 9 = .ok (.if_icmp .ne 7, 3) := by decide +kernel
theorem dX1_isTest_12 : decode cX1_isTest 12 = .ok (.iconst 1, 1) := by decide +kernel
theorem dX1_isTest_13 : decode cX1_isTest 13 = .ok (.goto 4, 3) := by decide +kernel
theorem dX1_isTest_16 : decode cX1_isTest 16 = .ok (.iconst 0, 1) := by decide +kernel
theorem dX1_isTest_17 : decode cX1_isTest 17 = .ok (.ireturn, 1) := by decide +kernel
def X1_isTest_b17 (e : mm_E) (t0 : Int32) (m : mm_V) : Option (Int32 × mm_V) := mm_rz t0 m
theorem X1_isTest_b17_ok {K : mm_K} {nx : Option Nat} {e : mm_E} (hz : e.2.1 = K.2.2.2.2) {d : Nat} (hd : 0 ≤ d) {t0 : Int32} {m : mm_V} {r : (Int32 × mm_V)} (hr : X1_isTest_b17 e t0 m = some r) : mm_G K MX1_isTest d (mm_Fi e.1 nx r) 17 [none] [.int t0] (e.1, m) nx 0 0 := by
  unfold X1_isTest_b17 at hr
  exact mb_zret dX1_isTest_17 rfl hr
def X1_isTest_b12 (e : mm_E) (m : mm_V) : Option (Int32 × mm_V) := X1_isTest_b17 e  (1 : Int32) m
theorem X1_isTest_b12_ok {K : mm_K} {nx : Option Nat} {e : mm_E} (hz : e.2.1 = K.2.2.2.2) {d : Nat} (hd : 0 ≤ d) {m : mm_V} {r : (Int32 × mm_V)} (hr : X1_isTest_b12 e m = some r) : mm_G K MX1_isTest d (mm_Fi e.1 nx r) 12 [none] [] (e.1, m) nx 0 0 := by
  unfold X1_isTest_b12 at hr
  refine mg_iconst (pc := 12) dX1_isTest_12 kc_1 ?_
  refine mg_goto (pc := 13) 17 dX1_isTest_13 rfl ?_
  exact mg_weak (mm_le_n mm_le_0) (X1_isTest_b17_ok hz hd hr)
def X1_isTest (e : mm_E) (i0 : Int32) (m : mm_V) : Option (Int32 × mm_V) := if i0 = (-14 : Int32) then (X1_isTest_b12 e   m) else (if ¬ i0 = (-15 : Int32) then (X1_isTest_b17 e  (0 : Int32) m) else (X1_isTest_b12 e   m))
theorem X1_isTest_ok {K : mm_K} {nx : Option Nat} {e : mm_E} (hz : e.2.1 = K.2.2.2.2) {d : Nat} (hd : 0 ≤ d) {i0 : Int32} {m : mm_V} {r : (Int32 × mm_V)} (hr : X1_isTest e i0 m = some r) : mm_Cn K MX1_isTest d (mm_Fi e.1 nx r) [.int i0] (e.1, m) nx := by
  refine mm_entry (by decide) (Nat.le_of_ble_eq_true rfl) rfl (fun hok => ?_)
  unfold X1_isTest at hr
  refine mg_weak (L' := [some (.int i0)]) (mm_le_s mm_le_0) ?_
  refine ml_iload_n (pc := 0) dX1_isTest_0 rfl mm_get_0 ?_
  refine mg_bipush (pc := 1) dX1_isTest_1 kb_m14 ?_
  refine mb_icmp_eq (pc := 3) 12 dX1_isTest_3 rfl hr (fun hr => ?_) (fun hr => ?_)
  · exact mg_weak (mm_le_n mm_le_0) (X1_isTest_b12_ok hz hd hr)
  · refine ml_iload_n (pc := 6) dX1_isTest_6 rfl mm_get_0 ?_
    refine mg_bipush (pc := 7) dX1_isTest_7 kb_m15 ?_
    refine mb_icmp_ne (pc := 9) 16 dX1_isTest_9 rfl hr (fun hr => ?_) (fun hr => ?_)
    · refine mg_iconst (pc := 16) dX1_isTest_16 kc_0 ?_
      exact mg_weak (mm_le_n mm_le_0) (X1_isTest_b17_ok hz hd hr)
    · exact mg_weak (mm_le_n mm_le_0) (X1_isTest_b12_ok hz hd hr)
theorem dX1_behindPart_0 : decode cX1_behindPart 0 = .ok (.aload_n 0, 1) := by decide +kernel
theorem dX1_behindPart_1 : decode cX1_behindPart 1 = .ok (.getfield 15, 3) := by decide +kernel
theorem dX1_behindPart_4 : decode cX1_behindPart 4 = .ok (.getfield 44, 3) := by decide +kernel
theorem dX1_behindPart_7 : decode cX1_behindPart 7 = .ok (.bipush 41, 2) := by decide +kernel
theorem dX1_behindPart_9 : decode cX1_behindPart 9 = .ok (.if_icmp .ne 37, 3) := by decide +kernel
theorem dX1_behindPart_12 : decode cX1_behindPart 12 = .ok (.aload_n 0, 1) := by decide +kernel
theorem dX1_behindPart_13 : decode cX1_behindPart 13 = .ok (.getfield 27, 3) := by decide +kernel
theorem dX1_behindPart_16 : decode cX1_behindPart 16 = .ok (.ifCond .le 30, 3) := by decide +kernel
theorem dX1_behindPart_19 : decode cX1_behindPart 19 = .ok (.aload_n 0, 1) := by decide +kernel
theorem dX1_behindPart_20 : decode cX1_behindPart 20 = .ok (.iconst 1, 1) := by decide +kernel
theorem dX1_behindPart_21 : decode cX1_behindPart 21 = .ok (.invokevirtual 47, 3) := by decide +kernel
theorem dX1_behindPart_24 : decode cX1_behindPart 24 = .ok (.aload_n 0, 1) := by decide +kernel
theorem dX1_behindPart_25 : decode cX1_behindPart 25 = .ok (.dup, 1) := by decide +kernel
theorem dX1_behindPart_26 : decode cX1_behindPart 26 = .ok (.getfield 23, 3) := by decide +kernel
theorem dX1_behindPart_29 : decode cX1_behindPart 29 = .ok (.iconst 1, 1) := by decide +kernel
theorem dX1_behindPart_30 : decode cX1_behindPart 30 = .ok (.isub, 1) := by decide +kernel
theorem dX1_behindPart_31 : decode cX1_behindPart 31 = .ok (.putfield 23, 3) := by decide +kernel
theorem dX1_behindPart_34 : decode cX1_behindPart 34 = .ok (.aload_n 0, 1) := by decide +kernel
theorem dX1_behindPart_35 : decode cX1_behindPart 35 = .ok (.dup, 1) := by decide +kernel
theorem dX1_behindPart_36 : decode cX1_behindPart 36 = .ok (.getfield 27, 3) := by decide +kernel
theorem dX1_behindPart_39 : decode cX1_behindPart 39 = .ok (.iconst 1, 1) := by decide +kernel
theorem dX1_behindPart_40 : decode cX1_behindPart 40 = .ok (.isub, 1) := by decide +kernel
theorem dX1_behindPart_41 : decode cX1_behindPart 41 = .ok (.putfield 27, 3) := by decide +kernel
theorem dX1_behindPart_44 : decode cX1_behindPart 44 = .ok (.iconst 0, 1) := by decide +kernel
theorem dX1_behindPart_45 : decode cX1_behindPart 45 = .ok (.ireturn, 1) := by decide +kernel
theorem dX1_behindPart_46 : decode cX1_behindPart 46 = .ok (.aload_n 0, 1) := by decide +kernel
theorem dX1_behindPart_47 : decode cX1_behindPart 47 = .ok (.invokevirtual 94, 3) := by decide +kernel
theorem dX1_behindPart_50 : decode cX1_behindPart 50 = .ok (.istore_n 1, 1) := by decide +kernel
theorem dX1_behindPart_51 : decode cX1_behindPart 51 = .ok (.iload_n 1, 1) := by decide +kernel
theorem dX1_behindPart_52 : decode cX1_behindPart 52 = .ok (.bipush (-21), 2) := by decide +kernel
theorem dX1_behindPart_54 : decode cX1_behindPart 54 = .ok (.if_icmp .ne 5, 3) := by decide +kernel
theorem dX1_behindPart_57 : decode cX1_behindPart 57 = .ok (.iconst 1, 1) := by decide +kernel
theorem dX1_behindPart_58 : decode cX1_behindPart 58 = .ok (.ireturn, 1) := by decide +kernel
theorem dX1_behindPart_59 : decode cX1_behindPart 59 = .ok (.aload_n 0, 1) := by decide +kernel
theorem dX1_behindPart_60 : decode cX1_behindPart 60 = .ok (.iload_n 1, 1) := by decide +kernel
theorem dX1_behindPart_61 : decode cX1_behindPart 61 = .ok (.invokestatic 97, 3) := by decide +kernel
theorem dX1_behindPart_64 : decode cX1_behindPart 64 = .ok (.ifCond .eq 12, 3) := by decide +kernel
theorem dX1_behindPart_67 : decode cX1_behindPart 67 = .ok (.iload_n 1, 1) := by decide +kernel
theorem dX1_behindPart_68 : decode cX1_behindPart 68 = .ok (.invokestatic 75, 3) := by decide +kernel
theorem dX1_behindPart_71 : decode cX1_behindPart 71 = .ok (.iconst 1, 1) := by decide +kernel
theorem dX1_behindPart_72 : decode cX1_behindPart 72 = .ok (.iadd, 1) := by decide +kernel
theorem dX1_behindPart_73 : decode cX1_behindPart 73 = .ok (.goto 7, 3) := by decide +kernel
theorem dX1_behindPart_76 : decode cX1_behindPart 76 = .ok (.iload_n 1, 1) := by decide +kernel
theorem dX1_behindPart_77 : decode cX1_behindPart 77 = .ok (.invokestatic 75, 3) := by decide +kernel
theorem dX1_behindPart_80 : decode cX1_behindPart 80 = .ok (.invokevirtual 47, 3) := by decide +kernel
theorem dX1_behindPart_83 : decode cX1_behindPart 83 = .ok (.iload_n 1, 1) := by decide +kernel
theorem dX1_behindPart_84 : decode cX1_behindPart 84 = .ok (.invokestatic 97, 3) := by decide +kernel
theorem dX1_behindPart_87 : decode cX1_behindPart 87 = .ok (.ifCond .eq 21, 3) := by decide +kernel
theorem dX1_behindPart_90 : decode cX1_behindPart 90 = .ok (.aload_n 0, 1) := by decide +kernel
theorem dX1_behindPart_91 : decode cX1_behindPart 91 = .ok (.aload_n 0, 1) := by decide +kernel
theorem dX1_behindPart_92 : decode cX1_behindPart 92 = .ok (.getfield 23, 3) := by decide +kernel
theorem dX1_behindPart_95 : decode cX1_behindPart 95 = .ok (.iconst 1, 1) := by decide +kernel
theorem dX1_behindPart_96 : decode cX1_behindPart 96 = .ok (.isub, 1) := by decide +kernel
theorem dX1_behindPart_97 : decode cX1_behindPart 97 = .ok (.invokevirtual 71, 3) := by decide +kernel
theorem dX1_behindPart_100 : decode cX1_behindPart 100 = .ok (.invokestatic 97, 3) := by decide +kernel
theorem dX1_behindPart_103 : decode cX1_behindPart 103 = .ok (.ifCond .eq 5, 3) := by decide +kernel
theorem dX1_behindPart_106 : decode cX1_behindPart 106 = .ok (.iconst 1, 1) := by decide +kernel
theorem dX1_behindPart_107 : decode cX1_behindPart 107 = .ok (.ireturn, 1) := by decide +kernel
theorem dX1_behindPart_108 : decode cX1_behindPart 108 = .ok (.aload_n 0, 1) := by decide +kernel
theorem dX1_behindPart_109 : decode cX1_behindPart 109 = .ok (.iload_n 1, 1) := by decide +kernel
theorem dX1_behindPart_110 : decode cX1_behindPart 110 = .ok (.invokevirtual 62, 3) := by decide +kernel
theorem dX1_behindPart_113 : decode cX1_behindPart 113 = .ok (.aload_n 0, 1) := by decide +kernel
theorem dX1_behindPart_114 : decode cX1_behindPart 114 = .ok (.iconst 1, 1) := by decide +kernel
theorem dX1_behindPart_115 : decode cX1_behindPart 115 = .ok (.putfield 30, 3) := by decide +kernel
theorem dX1_behindPart_118 : decode cX1_behindPart 118 = .ok (.iconst 0, 1) := by decide +kernel
theorem dX1_behindPart_119 : decode cX1_behindPart 119 = .ok (.ireturn, 1) := by decide +kernel
def X1_behindPart_b108 (e : mm_E) (a0 : Nat) (i1 : Int32) (m : mm_V) : Option (Int32 × mm_V) := (X1_push e a0 i1 m).bind fun r1 => (mm_pz e.1 r1 1 6 a0 3 (1 : Int32)).bind fun m2 => some ((0 : Int32), m2)
theorem X1_behindPart_b108_ok {K : mm_K} {nx : Option Nat} {e : mm_E} (hz : e.2.1 = K.2.2.2.2) {d : Nat} (hd : 11 ≤ d) {a0 : Nat} {i1 : Int32} (h0 : e.1 a0 = some (1, 6)) {m : mm_V} {r : (Int32 × mm_V)} (hr : X1_behindPart_b108 e a0 i1 m = some r) : mm_G K MX1_behindPart d (mm_Fi e.1 nx r) 108 [some (.ref a0), some (.int i1)] [] (e.1, m) nx 0 0 := by
  obtain ⟨d, rfl⟩ : ∃ d', d = d' + 1 := ⟨d - 1, by omega⟩
  unfold X1_behindPart_b108 at hr
  refine ml_aload_n (pc := 108) dX1_behindPart_108 rfl mm_get_0 ?_
  refine ml_iload_n (pc := 109) dX1_behindPart_109 rfl (mm_get_s mm_get_0) ?_
  refine mb_cVv (pc := 110) (As := [.int i1]) (rest := []) dX1_behindPart_110 cw_X1_62 h0 hr (fun v hv => X1_push_ok hz (by omega) h0 hv) rfl (Nat.le_of_ble_eq_true rfl) (Nat.zero_le _) (Nat.zero_le _) (fun r1 hr => ?_)
  refine ml_aload_n (pc := 113) dX1_behindPart_113 rfl mm_get_0 ?_
  refine mg_iconst (pc := 114) dX1_behindPart_114 kc_1 ?_
  refine mb_pz (pc := 115) dX1_behindPart_115 fp_X1_30 hr (fun m2 hr => ?_)
  refine mg_iconst (pc := 118) dX1_behindPart_118 kc_0 ?_
  exact mb_iret dX1_behindPart_119 rfl hr
def X1_behindPart_b80 (e : mm_E) (a0 : Nat) (i1 : Int32) (t0 : Nat) (t1 : Int32) (m : mm_V) : Option (Int32 × mm_V) := if e.1 t0 = some (1, 6) then ((X1_settle e t0 t1 m).bind fun r1 => (X1_isTest e i1 r1).bind fun r3 => if r3.1 = 0 then (X1_behindPart_b108 e a0 i1  r3.2) else ((mm_gi e.1 r3.2 1 6 a0 1).bind fun x4 => (X1_waitingAt e a0 (x4 - (1 : Int32)) r3.2).bind fun r5 => (X1_isTest e r5.1 r5.2).bind fun r6 => if r6.1 = 0 then (X1_behindPart_b108 e a0 i1  r6.2) else (some ((1 : Int32), r6.2)))) else none
theorem X1_behindPart_b80_ok {K : mm_K} {nx : Option Nat} {e : mm_E} (hz : e.2.1 = K.2.2.2.2) {d : Nat} (hd : 11 ≤ d) {a0 : Nat} {i1 : Int32} {t0 : Nat} {t1 : Int32} (h0 : e.1 a0 = some (1, 6)) {m : mm_V} {r : (Int32 × mm_V)} (hr : X1_behindPart_b80 e a0 i1 t0 t1 m = some r) : mm_G K MX1_behindPart d (mm_Fi e.1 nx r) 80 [some (.ref a0), some (.int i1)] [.int t1, .ref t0] (e.1, m) nx 0 0 := by
  obtain ⟨d, rfl⟩ : ∃ d', d = d' + 1 := ⟨d - 1, by omega⟩
  unfold X1_behindPart_b80 at hr
  refine mb_ck hr (fun hb2 hr => ?_)
  refine mb_cVv (pc := 80) (As := [.int t1]) (rest := []) dX1_behindPart_80 cw_X1_47 hb2 hr (fun v hv => X1_settle_ok hz (by omega) hb2 hv) rfl (Nat.le_of_ble_eq_true rfl) (Nat.zero_le _) (Nat.zero_le _) (fun r1 hr => ?_)
  refine ml_iload_n (pc := 83) dX1_behindPart_83 rfl (mm_get_s mm_get_0) ?_
  refine mb_cSi (pc := 84) (As := [.int i1]) (rest := []) dX1_behindPart_84 cw_X1_97  hr (fun v hv => X1_isTest_ok hz (by omega)  hv) rfl (Nat.le_of_ble_eq_true rfl) (Nat.zero_le _) (Nat.zero_le _) (fun r3 hr => ?_)
  refine mb_if_eq (pc := 87) 108 dX1_behindPart_87 rfl hr (fun hr => ?_) (fun hr => ?_)
  · exact mg_weak (mm_le_s (mm_le_s mm_le_0)) (X1_behindPart_b108_ok hz hd h0 hr)
  · refine ml_aload_n (pc := 90) dX1_behindPart_90 rfl mm_get_0 ?_
    refine ml_aload_n (pc := 91) dX1_behindPart_91 rfl mm_get_0 ?_
    refine mb_gi (pc := 92) dX1_behindPart_92 fl_X1_23 hr (fun x4 hr => ?_)
    refine mg_iconst (pc := 95) dX1_behindPart_95 kc_1 ?_
    refine mg_isub (pc := 96) dX1_behindPart_96 ?_
    refine mb_cVi (pc := 97) (As := [.int (x4 - (1 : Int32))]) (rest := []) dX1_behindPart_97 cw_X1_71 h0 hr (fun v hv => X1_waitingAt_ok hz (by omega) h0 hv) rfl (Nat.le_of_ble_eq_true rfl) (Nat.zero_le _) (Nat.zero_le _) (fun r5 hr => ?_)
    refine mb_cSi (pc := 100) (As := [.int r5.1]) (rest := []) dX1_behindPart_100 cw_X1_97  hr (fun v hv => X1_isTest_ok hz (by omega)  hv) rfl (Nat.le_of_ble_eq_true rfl) (Nat.zero_le _) (Nat.zero_le _) (fun r6 hr => ?_)
    refine mb_if_eq (pc := 103) 108 dX1_behindPart_103 rfl hr (fun hr => ?_) (fun hr => ?_)
    · exact mg_weak (mm_le_s (mm_le_s mm_le_0)) (X1_behindPart_b108_ok hz hd h0 hr)
    · refine mg_iconst (pc := 106) dX1_behindPart_106 kc_1 ?_
      exact mb_iret dX1_behindPart_107 rfl hr
def X1_behindPart_b46 (e : mm_E) (a0 : Nat) (m : mm_V) : Option (Int32 × mm_V) := (X1_operatorCode e a0 m).bind fun r1 => if ¬ r1.1 = (-21 : Int32) then ((X1_isTest e r1.1 r1.2).bind fun r2 => if r2.1 = 0 then ((X1_level e r1.1 r2.2).bind fun r3 => X1_behindPart_b80 e a0 r1.1 a0 r3.1 r3.2) else ((X1_level e r1.1 r2.2).bind fun r4 => X1_behindPart_b80 e a0 r1.1 a0 (r4.1 + (1 : Int32)) r4.2)) else (some ((1 : Int32), r1.2))
theorem X1_behindPart_b46_ok {K : mm_K} {nx : Option Nat} {e : mm_E} (hz : e.2.1 = K.2.2.2.2) {d : Nat} (hd : 11 ≤ d) {a0 : Nat} (h0 : e.1 a0 = some (1, 6)) {m : mm_V} {r : (Int32 × mm_V)} (hr : X1_behindPart_b46 e a0 m = some r) : mm_G K MX1_behindPart d (mm_Fi e.1 nx r) 46 [some (.ref a0), none] [] (e.1, m) nx 0 0 := by
  obtain ⟨d, rfl⟩ : ∃ d', d = d' + 1 := ⟨d - 1, by omega⟩
  unfold X1_behindPart_b46 at hr
  refine ml_aload_n (pc := 46) dX1_behindPart_46 rfl mm_get_0 ?_
  refine mb_cVi (pc := 47) (As := []) (rest := []) dX1_behindPart_47 cw_X1_94 h0 hr (fun v hv => X1_operatorCode_ok hz (by omega) h0 hv) rfl (Nat.le_of_ble_eq_true rfl) (Nat.zero_le _) (Nat.zero_le _) (fun r1 hr => ?_)
  refine ml_istore_n (pc := 50) dX1_behindPart_50 rfl (Nat.le_of_ble_eq_true rfl) mm_st1_r ?_
  refine ml_iload_n (pc := 51) dX1_behindPart_51 rfl (mm_get_s mm_get_0) ?_
  refine mg_bipush (pc := 52) dX1_behindPart_52 kb_m21 ?_
  refine mb_icmp_ne (pc := 54) 59 dX1_behindPart_54 rfl hr (fun hr => ?_) (fun hr => ?_)
  · refine ml_aload_n (pc := 59) dX1_behindPart_59 rfl mm_get_0 ?_
    refine ml_iload_n (pc := 60) dX1_behindPart_60 rfl (mm_get_s mm_get_0) ?_
    refine mb_cSi (pc := 61) (As := [.int r1.1]) (rest := [.ref a0]) dX1_behindPart_61 cw_X1_97  hr (fun v hv => X1_isTest_ok hz (by omega)  hv) rfl (Nat.le_of_ble_eq_true rfl) (Nat.zero_le _) (Nat.zero_le _) (fun r2 hr => ?_)
    refine mb_if_eq (pc := 64) 76 dX1_behindPart_64 rfl hr (fun hr => ?_) (fun hr => ?_)
    · refine ml_iload_n (pc := 76) dX1_behindPart_76 rfl (mm_get_s mm_get_0) ?_
      refine mb_cSi (pc := 77) (As := [.int r1.1]) (rest := [.ref a0]) dX1_behindPart_77 cw_X1_75  hr (fun v hv => X1_level_ok hz (by omega)  hv) rfl (Nat.le_of_ble_eq_true rfl) (Nat.zero_le _) (Nat.zero_le _) (fun r3 hr => ?_)
      exact mg_weak (mm_le_s (mm_le_s mm_le_0)) (X1_behindPart_b80_ok hz hd h0 hr)
    · refine ml_iload_n (pc := 67) dX1_behindPart_67 rfl (mm_get_s mm_get_0) ?_
      refine mb_cSi (pc := 68) (As := [.int r1.1]) (rest := [.ref a0]) dX1_behindPart_68 cw_X1_75  hr (fun v hv => X1_level_ok hz (by omega)  hv) rfl (Nat.le_of_ble_eq_true rfl) (Nat.zero_le _) (Nat.zero_le _) (fun r4 hr => ?_)
      refine mg_iconst (pc := 71) dX1_behindPart_71 kc_1 ?_
      refine mg_iadd (pc := 72) dX1_behindPart_72 ?_
      refine mg_goto (pc := 73) 80 dX1_behindPart_73 rfl ?_
      exact mg_weak (mm_le_s (mm_le_s mm_le_0)) (X1_behindPart_b80_ok hz hd h0 hr)
  · refine mg_iconst (pc := 57) dX1_behindPart_57 kc_1 ?_
    exact mb_iret dX1_behindPart_58 rfl hr
def X1_behindPart (e : mm_E) (a0 : Nat) (m : mm_V) : Option (Int32 × mm_V) := (mm_gr e.1 m 1 6 a0 4).bind fun c1 => (mm_gi e.1 m 9 6 c1 4).bind fun x2 => if ¬ x2 = (41 : Int32) then (X1_behindPart_b46 e a0  m) else ((mm_gi e.1 m 1 6 a0 2).bind fun x3 => if x3 ≤ 0 then (X1_behindPart_b46 e a0  m) else ((X1_settle e a0 (1 : Int32) m).bind fun r4 => (mm_gi e.1 r4 1 6 a0 1).bind fun x5 => (mm_pf e.1 r4 1 6 a0 1 (.int (x5 - (1 : Int32)))).bind fun m6 => (mm_gi e.1 m6 1 6 a0 2).bind fun x7 => (mm_pf e.1 m6 1 6 a0 2 (.int (x7 - (1 : Int32)))).bind fun m8 => some ((0 : Int32), m8)))
theorem X1_behindPart_ok {K : mm_K} {nx : Option Nat} {e : mm_E} (hz : e.2.1 = K.2.2.2.2) {d : Nat} (hd : 11 ≤ d) {a0 : Nat} (h0 : e.1 a0 = some (1, 6)) {m : mm_V} {r : (Int32 × mm_V)} (hr : X1_behindPart e a0 m = some r) : mm_Cn K MX1_behindPart d (mm_Fi e.1 nx r) [.ref a0] (e.1, m) nx := by
  obtain ⟨d, rfl⟩ : ∃ d', d = d' + 1 := ⟨d - 1, by omega⟩
  refine mm_entry (by decide) (Nat.le_of_ble_eq_true rfl) rfl (fun hok => ?_)
  unfold X1_behindPart at hr
  refine mg_weak (L' := [some (.ref a0), none]) (mm_le_s (mm_le_e mm_le_0)) ?_
  refine ml_aload_n (pc := 0) dX1_behindPart_0 rfl mm_get_0 ?_
  refine mb_gr (pc := 1) dX1_behindPart_1 fl_X1_15 hr (fun c1 hr => ?_)
  refine mb_gi (pc := 4) dX1_behindPart_4 fl_X1_44 hr (fun x2 hr => ?_)
  refine mg_bipush (pc := 7) dX1_behindPart_7 kb_41 ?_
  refine mb_icmp_ne (pc := 9) 46 dX1_behindPart_9 rfl hr (fun hr => ?_) (fun hr => ?_)
  · exact mg_weak (mm_le_s (mm_le_n mm_le_0)) (X1_behindPart_b46_ok hz hd h0 hr)
  · refine ml_aload_n (pc := 12) dX1_behindPart_12 rfl mm_get_0 ?_
    refine mb_gi (pc := 13) dX1_behindPart_13 fl_X1_27 hr (fun x3 hr => ?_)
    refine mb_if_le (pc := 16) 46 dX1_behindPart_16 rfl hr (fun hr => ?_) (fun hr => ?_)
    · exact mg_weak (mm_le_s (mm_le_n mm_le_0)) (X1_behindPart_b46_ok hz hd h0 hr)
    · refine ml_aload_n (pc := 19) dX1_behindPart_19 rfl mm_get_0 ?_
      refine mg_iconst (pc := 20) dX1_behindPart_20 kc_1 ?_
      refine mb_cVv (pc := 21) (As := [.int (1 : Int32)]) (rest := []) dX1_behindPart_21 cw_X1_47 h0 hr (fun v hv => X1_settle_ok hz (by omega) h0 hv) rfl (Nat.le_of_ble_eq_true rfl) (Nat.zero_le _) (Nat.zero_le _) (fun r4 hr => ?_)
      refine ml_aload_n (pc := 24) dX1_behindPart_24 rfl mm_get_0 ?_
      refine mg_dup (pc := 25) dX1_behindPart_25 rfl ?_
      refine mb_gi (pc := 26) dX1_behindPart_26 fl_X1_23 hr (fun x5 hr => ?_)
      refine mg_iconst (pc := 29) dX1_behindPart_29 kc_1 ?_
      refine mg_isub (pc := 30) dX1_behindPart_30 ?_
      refine mb_pi (pc := 31) dX1_behindPart_31 fp_X1_23 hr (fun m6 hr => ?_)
      refine ml_aload_n (pc := 34) dX1_behindPart_34 rfl mm_get_0 ?_
      refine mg_dup (pc := 35) dX1_behindPart_35 rfl ?_
      refine mb_gi (pc := 36) dX1_behindPart_36 fl_X1_27 hr (fun x7 hr => ?_)
      refine mg_iconst (pc := 39) dX1_behindPart_39 kc_1 ?_
      refine mg_isub (pc := 40) dX1_behindPart_40 ?_
      refine mb_pi (pc := 41) dX1_behindPart_41 fp_X1_27 hr (fun m8 hr => ?_)
      refine mg_iconst (pc := 44) dX1_behindPart_44 kc_0 ?_
      exact mb_iret dX1_behindPart_45 rfl hr
theorem dX1_compile_0 : decode cX1_compile 0 = .ok (.aload_n 0, 1) := by decide +kernel
theorem dX1_compile_1 : decode cX1_compile 1 = .ok (.aload_n 1, 1) := by decide +kernel
theorem dX1_compile_2 : decode cX1_compile 2 = .ok (.putfield 19, 3) := by decide +kernel
theorem dX1_compile_5 : decode cX1_compile 5 = .ok (.aload_n 0, 1) := by decide +kernel
theorem dX1_compile_6 : decode cX1_compile 6 = .ok (.iconst 0, 1) := by decide +kernel
theorem dX1_compile_7 : decode cX1_compile 7 = .ok (.putfield 23, 3) := by decide +kernel
theorem dX1_compile_10 : decode cX1_compile 10 = .ok (.aload_n 0, 1) := by decide +kernel
theorem dX1_compile_11 : decode cX1_compile 11 = .ok (.iconst 0, 1) := by decide +kernel
theorem dX1_compile_12 : decode cX1_compile 12 = .ok (.putfield 27, 3) := by decide +kernel
theorem dX1_compile_15 : decode cX1_compile 15 = .ok (.aload_n 0, 1) := by decide +kernel
theorem dX1_compile_16 : decode cX1_compile 16 = .ok (.iconst 1, 1) := by decide +kernel
theorem dX1_compile_17 : decode cX1_compile 17 = .ok (.putfield 30, 3) := by decide +kernel
theorem dX1_compile_20 : decode cX1_compile 20 = .ok (.aload_n 0, 1) := by decide +kernel
theorem dX1_compile_21 : decode cX1_compile 21 = .ok (.getfield 19, 3) := by decide +kernel
theorem dX1_compile_24 : decode cX1_compile 24 = .ok (.getfield 34, 3) := by decide +kernel
theorem dX1_compile_27 : decode cX1_compile 27 = .ok (.istore_n 3, 1) := by decide +kernel
theorem dX1_compile_28 : decode cX1_compile 28 = .ok (.aload_n 0, 1) := by decide +kernel
theorem dX1_compile_29 : decode cX1_compile 29 = .ok (.getfield 15, 3) := by decide +kernel
theorem dX1_compile_32 : decode cX1_compile 32 = .ok (.invokevirtual 39, 3) := by decide +kernel
theorem dX1_compile_35 : decode cX1_compile 35 = .ok (.iconst 0, 1) := by decide +kernel
theorem dX1_compile_36 : decode cX1_compile 36 = .ok (.istore 4, 2) := by decide +kernel
theorem dX1_compile_38 : decode cX1_compile 38 = .ok (.iload 4, 2) := by decide +kernel
theorem dX1_compile_40 : decode cX1_compile 40 = .ok (.sipush 600, 3) := by decide +kernel
theorem dX1_compile_43 : decode cX1_compile 43 = .ok (.if_icmp .gt 86, 3) := by decide +kernel
theorem dX1_compile_46 : decode cX1_compile 46 = .ok (.aload_n 0, 1) := by decide +kernel
theorem dX1_compile_47 : decode cX1_compile 47 = .ok (.getfield 30, 3) := by decide +kernel
theorem dX1_compile_50 : decode cX1_compile 50 = .ok (.ifCond .ne 38, 3) := by decide +kernel
theorem dX1_compile_53 : decode cX1_compile 53 = .ok (.aload_n 0, 1) := by decide +kernel
theorem dX1_compile_54 : decode cX1_compile 54 = .ok (.getfield 27, 3) := by decide +kernel
theorem dX1_compile_57 : decode cX1_compile 57 = .ok (.ifCond .ne 31, 3) := by decide +kernel
theorem dX1_compile_60 : decode cX1_compile 60 = .ok (.aload_n 0, 1) := by decide +kernel
theorem dX1_compile_61 : decode cX1_compile 61 = .ok (.getfield 15, 3) := by decide +kernel
theorem dX1_compile_64 : decode cX1_compile 64 = .ok (.getfield 44, 3) := by decide +kernel
theorem dX1_compile_67 : decode cX1_compile 67 = .ok (.bipush 59, 2) := by decide +kernel
theorem dX1_compile_69 : decode cX1_compile 69 = .ok (.if_icmp .ne 19, 3) := by decide +kernel
theorem dX1_compile_72 : decode cX1_compile 72 = .ok (.aload_n 0, 1) := by decide +kernel
theorem dX1_compile_73 : decode cX1_compile 73 = .ok (.iconst 1, 1) := by decide +kernel
theorem dX1_compile_74 : decode cX1_compile 74 = .ok (.invokevirtual 47, 3) := by decide +kernel
theorem dX1_compile_77 : decode cX1_compile 77 = .ok (.aload_n 0, 1) := by decide +kernel
theorem dX1_compile_78 : decode cX1_compile 78 = .ok (.getfield 19, 3) := by decide +kernel
theorem dX1_compile_81 : decode cX1_compile 81 = .ok (.iload_n 2, 1) := by decide +kernel
theorem dX1_compile_82 : decode cX1_compile 82 = .ok (.iload_n 3, 1) := by decide +kernel
theorem dX1_compile_83 : decode cX1_compile 83 = .ok (.invokevirtual 51, 3) := by decide +kernel
theorem dX1_compile_86 : decode cX1_compile 86 = .ok (.iconst 0, 1) := by decide +kernel
theorem dX1_compile_87 : decode cX1_compile 87 = .ok (.ireturn, 1) := by decide +kernel
theorem dX1_compile_88 : decode cX1_compile 88 = .ok (.aload_n 0, 1) := by decide +kernel
theorem dX1_compile_89 : decode cX1_compile 89 = .ok (.getfield 30, 3) := by decide +kernel
theorem dX1_compile_92 : decode cX1_compile 92 = .ok (.ifCond .eq 10, 3) := by decide +kernel
theorem dX1_compile_95 : decode cX1_compile 95 = .ok (.aload_n 0, 1) := by decide +kernel
theorem dX1_compile_96 : decode cX1_compile 96 = .ok (.invokevirtual 55, 3) := by decide +kernel
theorem dX1_compile_99 : decode cX1_compile 99 = .ok (.goto 7, 3) := by decide +kernel
theorem dX1_compile_102 : decode cX1_compile 102 = .ok (.aload_n 0, 1) := by decide +kernel
theorem dX1_compile_103 : decode cX1_compile 103 = .ok (.invokevirtual 59, 3) := by decide +kernel
theorem dX1_compile_106 : decode cX1_compile 106 = .ok (.istore 5, 2) := by decide +kernel
theorem dX1_compile_108 : decode cX1_compile 108 = .ok (.iload 5, 2) := by decide +kernel
theorem dX1_compile_110 : decode cX1_compile 110 = .ok (.ifCond .eq 6, 3) := by decide +kernel
theorem dX1_compile_113 : decode cX1_compile 113 = .ok (.iload 5, 2) := by decide +kernel
theorem dX1_compile_115 : decode cX1_compile 115 = .ok (.ireturn, 1) := by decide +kernel
theorem dX1_compile_116 : decode cX1_compile 116 = .ok (.aload_n 0, 1) := by decide +kernel
theorem dX1_compile_117 : decode cX1_compile 117 = .ok (.getfield 15, 3) := by decide +kernel
theorem dX1_compile_120 : decode cX1_compile 120 = .ok (.invokevirtual 39, 3) := by decide +kernel
theorem dX1_compile_123 : decode cX1_compile 123 = .ok (.iinc 4 1, 3) := by decide +kernel
theorem dX1_compile_126 : decode cX1_compile 126 = .ok (.goto (-88), 3) := by decide +kernel
theorem dX1_compile_129 : decode cX1_compile 129 = .ok (.iconst 1, 1) := by decide +kernel
theorem dX1_compile_130 : decode cX1_compile 130 = .ok (.ireturn, 1) := by decide +kernel
def X1_compile_b106 (e : mm_E) (k38 : Int32 → mm_V → Option (Int32 × mm_V)) (a0 : Nat) (i2 : Int32) (i3 : Int32) (i4 : Int32) (t0 : Int32) (m : mm_V) : Option (Int32 × mm_V) := if t0 = 0 then ((mm_gr e.1 m 1 6 a0 4).bind fun c1 => if e.1 c1 = some (9, 6) then ((X9_next e c1 m).bind fun r2 => k38 (i4 + 1) r2) else none) else (some (t0, m))
theorem X1_compile_b106_ok {K : mm_K} {nx : Option Nat} {e : mm_E} (hz : e.2.1 = K.2.2.2.2) {d : Nat} (hd : 12 ≤ d) {a0 : Nat} {i2 : Int32} {i3 : Int32} {i4 : Int32} {t0 : Int32} (h0 : e.1 a0 = some (1, 6)) {k38 : Int32 → mm_V → Option (Int32 × mm_V)} (hk38 : ∀ (w4 : Int32) (m : mm_V) (r : (Int32 × mm_V)), k38 w4 m = some r → mm_G K MX1_compile d (mm_Fi e.1 nx r) 38 [some (.ref a0), none, some (.int i2), some (.int i3), some (.int w4), none] [] (e.1, m) nx 0 0) {m : mm_V} {r : (Int32 × mm_V)} (hr : X1_compile_b106 e k38 a0 i2 i3 i4 t0 m = some r) : mm_G K MX1_compile d (mm_Fi e.1 nx r) 106 [some (.ref a0), none, some (.int i2), some (.int i3), some (.int i4), none] [.int t0] (e.1, m) nx 0 0 := by
  obtain ⟨d, rfl⟩ : ∃ d', d = d' + 1 := ⟨d - 1, by omega⟩
  unfold X1_compile_b106 at hr
  refine ml_istore (pc := 106) dX1_compile_106 (Nat.le_of_ble_eq_true rfl) (mm_st1_s (mm_st1_s (mm_st1_s (mm_st1_s mm_st1_i)))) ?_
  refine ml_iload (pc := 108) dX1_compile_108 (mm_get_s (mm_get_s (mm_get_s (mm_get_s (mm_get_s mm_get_0))))) ?_
  refine mb_if_eq (pc := 110) 116 dX1_compile_110 rfl hr (fun hr => ?_) (fun hr => ?_)
  · refine ml_aload_n (pc := 116) dX1_compile_116 rfl mm_get_0 ?_
    refine mb_gr (pc := 117) dX1_compile_117 fl_X1_15 hr (fun c1 hr => ?_)
    refine mb_ck hr (fun hb3 hr => ?_)
    refine mb_cVv (pc := 120) (As := []) (rest := []) dX1_compile_120 cw_X1_39 hb3 hr (fun v hv => X9_next_ok hz (by omega) hb3 hv) rfl (Nat.le_of_ble_eq_true rfl) (Nat.zero_le _) (Nat.zero_le _) (fun r2 hr => ?_)
    refine ml_iinc (pc := 123) dX1_compile_123 (mm_get_s (mm_get_s (mm_get_s (mm_get_s mm_get_0)))) (congrArg (fun z => i4 + z) kc_1) (Nat.le_of_ble_eq_true rfl) (mm_st1_s (mm_st1_s (mm_st1_s mm_st1_i))) ?_
    refine mg_goto (pc := 126) 38 dX1_compile_126 rfl ?_
    exact mg_weak (mm_le_s (mm_le_n (mm_le_s (mm_le_s (mm_le_s (mm_le_n mm_le_0)))))) (hk38 _ _ _ hr)
  · refine ml_iload (pc := 113) dX1_compile_113 (mm_get_s (mm_get_s (mm_get_s (mm_get_s (mm_get_s mm_get_0))))) ?_
    exact mb_iret dX1_compile_115 rfl hr
def X1_compile_b88 (e : mm_E) (k38 : Int32 → mm_V → Option (Int32 × mm_V)) (a0 : Nat) (i2 : Int32) (i3 : Int32) (i4 : Int32) (m : mm_V) : Option (Int32 × mm_V) := (mm_gi e.1 m 1 6 a0 3).bind fun x1 => if x1 = 0 then ((X1_behindPart e a0 m).bind fun r2 => X1_compile_b106 e k38 a0 i2 i3 i4 r2.1 r2.2) else ((X1_part e a0 m).bind fun r3 => X1_compile_b106 e k38 a0 i2 i3 i4 r3.1 r3.2)
theorem X1_compile_b88_ok {K : mm_K} {nx : Option Nat} {e : mm_E} (hz : e.2.1 = K.2.2.2.2) {d : Nat} (hd : 12 ≤ d) {a0 : Nat} {i2 : Int32} {i3 : Int32} {i4 : Int32} (h0 : e.1 a0 = some (1, 6)) {k38 : Int32 → mm_V → Option (Int32 × mm_V)} (hk38 : ∀ (w4 : Int32) (m : mm_V) (r : (Int32 × mm_V)), k38 w4 m = some r → mm_G K MX1_compile d (mm_Fi e.1 nx r) 38 [some (.ref a0), none, some (.int i2), some (.int i3), some (.int w4), none] [] (e.1, m) nx 0 0) {m : mm_V} {r : (Int32 × mm_V)} (hr : X1_compile_b88 e k38 a0 i2 i3 i4 m = some r) : mm_G K MX1_compile d (mm_Fi e.1 nx r) 88 [some (.ref a0), none, some (.int i2), some (.int i3), some (.int i4), none] [] (e.1, m) nx 0 0 := by
  obtain ⟨d, rfl⟩ : ∃ d', d = d' + 1 := ⟨d - 1, by omega⟩
  unfold X1_compile_b88 at hr
  refine ml_aload_n (pc := 88) dX1_compile_88 rfl mm_get_0 ?_
  refine mb_gi (pc := 89) dX1_compile_89 fl_X1_30 hr (fun x1 hr => ?_)
  refine mb_if_eq (pc := 92) 102 dX1_compile_92 rfl hr (fun hr => ?_) (fun hr => ?_)
  · refine ml_aload_n (pc := 102) dX1_compile_102 rfl mm_get_0 ?_
    refine mb_cVi (pc := 103) (As := []) (rest := []) dX1_compile_103 cw_X1_59 h0 hr (fun v hv => X1_behindPart_ok hz (by omega) h0 hv) rfl (Nat.le_of_ble_eq_true rfl) (Nat.zero_le _) (Nat.zero_le _) (fun r2 hr => ?_)
    exact mg_weak (mm_le_s (mm_le_n (mm_le_s (mm_le_s (mm_le_s (mm_le_n mm_le_0)))))) (X1_compile_b106_ok hz hd h0 hk38 hr)
  · refine ml_aload_n (pc := 95) dX1_compile_95 rfl mm_get_0 ?_
    refine mb_cVi (pc := 96) (As := []) (rest := []) dX1_compile_96 cw_X1_55 h0 hr (fun v hv => X1_part_ok hz (by omega) h0 hv) rfl (Nat.le_of_ble_eq_true rfl) (Nat.zero_le _) (Nat.zero_le _) (fun r3 hr => ?_)
    refine mg_goto (pc := 99) 106 dX1_compile_99 rfl ?_
    exact mg_weak (mm_le_s (mm_le_n (mm_le_s (mm_le_s (mm_le_s (mm_le_n mm_le_0)))))) (X1_compile_b106_ok hz hd h0 hk38 hr)
def X1_compile_L38 (e : mm_E) (a0 : Nat) (i2 : Int32) (i3 : Int32) : Nat → Int32 → mm_V → Option (Int32 × mm_V)
  | 0, _, _ => none
  | n + 1, i4, m => if (600 : Int32) < i4 then (some ((1 : Int32), m)) else ((mm_gi e.1 m 1 6 a0 3).bind fun x1 => if ¬ x1 = 0 then (X1_compile_b88 e (X1_compile_L38 e a0 i2 i3 n) a0 i2 i3 i4  m) else ((mm_gi e.1 m 1 6 a0 2).bind fun x2 => if ¬ x2 = 0 then (X1_compile_b88 e (X1_compile_L38 e a0 i2 i3 n) a0 i2 i3 i4  m) else ((mm_gr e.1 m 1 6 a0 4).bind fun c3 => (mm_gi e.1 m 9 6 c3 4).bind fun x4 => if ¬ x4 = (59 : Int32) then (X1_compile_b88 e (X1_compile_L38 e a0 i2 i3 n) a0 i2 i3 i4  m) else ((X1_settle e a0 (1 : Int32) m).bind fun r5 => (mm_gr e.1 r5 1 6 a0 5).bind fun c6 => if e.1 c6 = some (10, 11) then ((X10_setRule e c6 i2 i3 r5).bind fun r7 => some ((0 : Int32), r7)) else none))))
theorem X1_compile_L38_ok {K : mm_K} {nx : Option Nat} {e : mm_E} (hz : e.2.1 = K.2.2.2.2) {d : Nat} (hd : 12 ≤ d) {a0 : Nat} {i2 : Int32} {i3 : Int32} (h0 : e.1 a0 = some (1, 6)) : ∀ (n : Nat) (i4 : Int32) (m : mm_V) (r : (Int32 × mm_V)), X1_compile_L38 e a0 i2 i3 n i4 m = some r → mm_G K MX1_compile d (mm_Fi e.1 nx r) 38 [some (.ref a0), none, some (.int i2), some (.int i3), some (.int i4), none] [] (e.1, m) nx 0 0 := by
  obtain ⟨d, rfl⟩ : ∃ d', d = d' + 1 := ⟨d - 1, by omega⟩
  intro n
  induction n with
  | zero => intro i4 m r hr; unfold X1_compile_L38 at hr; cases hr
  | succ n ih =>
    intro i4 m r hr
    unfold X1_compile_L38 at hr
    refine ml_iload (pc := 38) dX1_compile_38 (mm_get_s (mm_get_s (mm_get_s (mm_get_s mm_get_0)))) ?_
    refine mg_sipush (pc := 40) dX1_compile_40 ks_600 ?_
    refine mb_icmp_gt (pc := 43) 129 dX1_compile_43 rfl hr (fun hr => ?_) (fun hr => ?_)
    · refine mg_iconst (pc := 129) dX1_compile_129 kc_1 ?_
      exact mb_iret dX1_compile_130 rfl hr
    · refine ml_aload_n (pc := 46) dX1_compile_46 rfl mm_get_0 ?_
      refine mb_gi (pc := 47) dX1_compile_47 fl_X1_30 hr (fun x1 hr => ?_)
      refine mb_if_ne (pc := 50) 88 dX1_compile_50 rfl hr (fun hr => ?_) (fun hr => ?_)
      · exact mg_weak (mm_le_s (mm_le_n (mm_le_s (mm_le_s (mm_le_s (mm_le_n mm_le_0)))))) (X1_compile_b88_ok hz hd h0 ih hr)
      · refine ml_aload_n (pc := 53) dX1_compile_53 rfl mm_get_0 ?_
        refine mb_gi (pc := 54) dX1_compile_54 fl_X1_27 hr (fun x2 hr => ?_)
        refine mb_if_ne (pc := 57) 88 dX1_compile_57 rfl hr (fun hr => ?_) (fun hr => ?_)
        · exact mg_weak (mm_le_s (mm_le_n (mm_le_s (mm_le_s (mm_le_s (mm_le_n mm_le_0)))))) (X1_compile_b88_ok hz hd h0 ih hr)
        · refine ml_aload_n (pc := 60) dX1_compile_60 rfl mm_get_0 ?_
          refine mb_gr (pc := 61) dX1_compile_61 fl_X1_15 hr (fun c3 hr => ?_)
          refine mb_gi (pc := 64) dX1_compile_64 fl_X1_44 hr (fun x4 hr => ?_)
          refine mg_bipush (pc := 67) dX1_compile_67 kb_59 ?_
          refine mb_icmp_ne (pc := 69) 88 dX1_compile_69 rfl hr (fun hr => ?_) (fun hr => ?_)
          · exact mg_weak (mm_le_s (mm_le_n (mm_le_s (mm_le_s (mm_le_s (mm_le_n mm_le_0)))))) (X1_compile_b88_ok hz hd h0 ih hr)
          · refine ml_aload_n (pc := 72) dX1_compile_72 rfl mm_get_0 ?_
            refine mg_iconst (pc := 73) dX1_compile_73 kc_1 ?_
            refine mb_cVv (pc := 74) (As := [.int (1 : Int32)]) (rest := []) dX1_compile_74 cw_X1_47 h0 hr (fun v hv => X1_settle_ok hz (by omega) h0 hv) rfl (Nat.le_of_ble_eq_true rfl) (Nat.zero_le _) (Nat.zero_le _) (fun r5 hr => ?_)
            refine ml_aload_n (pc := 77) dX1_compile_77 rfl mm_get_0 ?_
            refine mb_gr (pc := 78) dX1_compile_78 fl_X1_19 hr (fun c6 hr => ?_)
            refine ml_iload_n (pc := 81) dX1_compile_81 rfl (mm_get_s (mm_get_s mm_get_0)) ?_
            refine ml_iload_n (pc := 82) dX1_compile_82 rfl (mm_get_s (mm_get_s (mm_get_s mm_get_0))) ?_
            refine mb_ck hr (fun hb8 hr => ?_)
            refine mb_cVv (pc := 83) (As := [.int i2, .int i3]) (rest := []) dX1_compile_83 cw_X1_51 hb8 hr (fun v hv => X10_setRule_ok hz (by omega) hb8 hv) rfl (Nat.le_of_ble_eq_true rfl) (Nat.zero_le _) (Nat.zero_le _) (fun r7 hr => ?_)
            refine mg_iconst (pc := 86) dX1_compile_86 kc_0 ?_
            exact mb_iret dX1_compile_87 rfl hr
def X1_compile (e : mm_E) (a0 : Nat) (a1 : Nat) (i2 : Int32) (m : mm_V) : Option (Int32 × mm_V) := (mm_pf e.1 m 1 6 a0 5 (.ref a1)).bind fun m1 => (mm_pf e.1 m1 1 6 a0 1 (.int (0 : Int32))).bind fun m2 => (mm_pf e.1 m2 1 6 a0 2 (.int (0 : Int32))).bind fun m3 => (mm_pz e.1 m3 1 6 a0 3 (1 : Int32)).bind fun m4 => (mm_gr e.1 m4 1 6 a0 5).bind fun c5 => (mm_gi e.1 m4 10 11 c5 9).bind fun x6 => (mm_gr e.1 m4 1 6 a0 4).bind fun c7 => if e.1 c7 = some (9, 6) then ((X9_next e c7 m4).bind fun r8 => X1_compile_L38 e a0 i2 x6 e.2.2 (0 : Int32) r8) else none
theorem X1_compile_ok {K : mm_K} {nx : Option Nat} {e : mm_E} (hz : e.2.1 = K.2.2.2.2) {d : Nat} (hd : 12 ≤ d) {a0 : Nat} {a1 : Nat} {i2 : Int32} (h0 : e.1 a0 = some (1, 6)) {m : mm_V} {r : (Int32 × mm_V)} (hr : X1_compile e a0 a1 i2 m = some r) : mm_Cn K MX1_compile d (mm_Fi e.1 nx r) [.ref a0, .ref a1, .int i2] (e.1, m) nx := by
  obtain ⟨d, rfl⟩ : ∃ d', d = d' + 1 := ⟨d - 1, by omega⟩
  refine mm_entry (by decide) (Nat.le_of_ble_eq_true rfl) rfl (fun hok => ?_)
  unfold X1_compile at hr
  refine mg_weak (L' := [some (.ref a0), some (.ref a1), some (.int i2), none, none, none]) (mm_le_s (mm_le_s (mm_le_s (mm_le_e (mm_le_e (mm_le_e mm_le_0)))))) ?_
  refine ml_aload_n (pc := 0) dX1_compile_0 rfl mm_get_0 ?_
  refine ml_aload_n (pc := 1) dX1_compile_1 rfl (mm_get_s mm_get_0) ?_
  refine mb_pr (pc := 2) dX1_compile_2 fp_X1_19 hr (fun m1 hr => ?_)
  refine ml_aload_n (pc := 5) dX1_compile_5 rfl mm_get_0 ?_
  refine mg_iconst (pc := 6) dX1_compile_6 kc_0 ?_
  refine mb_pi (pc := 7) dX1_compile_7 fp_X1_23 hr (fun m2 hr => ?_)
  refine ml_aload_n (pc := 10) dX1_compile_10 rfl mm_get_0 ?_
  refine mg_iconst (pc := 11) dX1_compile_11 kc_0 ?_
  refine mb_pi (pc := 12) dX1_compile_12 fp_X1_27 hr (fun m3 hr => ?_)
  refine ml_aload_n (pc := 15) dX1_compile_15 rfl mm_get_0 ?_
  refine mg_iconst (pc := 16) dX1_compile_16 kc_1 ?_
  refine mb_pz (pc := 17) dX1_compile_17 fp_X1_30 hr (fun m4 hr => ?_)
  refine ml_aload_n (pc := 20) dX1_compile_20 rfl mm_get_0 ?_
  refine mb_gr (pc := 21) dX1_compile_21 fl_X1_19 hr (fun c5 hr => ?_)
  refine mb_gi (pc := 24) dX1_compile_24 fl_X1_34 hr (fun x6 hr => ?_)
  refine ml_istore_n (pc := 27) dX1_compile_27 rfl (Nat.le_of_ble_eq_true rfl) (mm_st1_s (mm_st1_s mm_st1_i)) ?_
  refine ml_aload_n (pc := 28) dX1_compile_28 rfl mm_get_0 ?_
  refine mb_gr (pc := 29) dX1_compile_29 fl_X1_15 hr (fun c7 hr => ?_)
  refine mb_ck hr (fun hb9 hr => ?_)
  refine mb_cVv (pc := 32) (As := []) (rest := []) dX1_compile_32 cw_X1_39 hb9 hr (fun v hv => X9_next_ok hz (by omega) hb9 hv) rfl (Nat.le_of_ble_eq_true rfl) (Nat.zero_le _) (Nat.zero_le _) (fun r8 hr => ?_)
  refine mg_iconst (pc := 35) dX1_compile_35 kc_0 ?_
  refine ml_istore (pc := 36) dX1_compile_36 (Nat.le_of_ble_eq_true rfl) (mm_st1_s (mm_st1_s (mm_st1_s mm_st1_i))) ?_
  exact mg_weak (mm_le_s (mm_le_n (mm_le_s (mm_le_s (mm_le_s (mm_le_n mm_le_0)))))) (X1_compile_L38_ok hz hd h0 _ _ _ _ hr)
theorem dX2_copyFrom_0 : decode cX2_copyFrom 0 = .ok (.aload_n 0, 1) := by decide +kernel
theorem dX2_copyFrom_1 : decode cX2_copyFrom 1 = .ok (.aload_n 1, 1) := by decide +kernel
theorem dX2_copyFrom_2 : decode cX2_copyFrom 2 = .ok (.getfield 7, 3) := by decide +kernel
theorem dX2_copyFrom_5 : decode cX2_copyFrom 5 = .ok (.putfield 7, 3) := by decide +kernel
theorem dX2_copyFrom_8 : decode cX2_copyFrom 8 = .ok (.aload_n 0, 1) := by decide +kernel
theorem dX2_copyFrom_9 : decode cX2_copyFrom 9 = .ok (.aload_n 1, 1) := by decide +kernel
theorem dX2_copyFrom_10 : decode cX2_copyFrom 10 = .ok (.getfield 13, 3) := by decide +kernel
theorem dX2_copyFrom_13 : decode cX2_copyFrom 13 = .ok (.putfield 13, 3) := by decide +kernel
theorem dX2_copyFrom_16 : decode cX2_copyFrom 16 = .ok (.aload_n 0, 1) := by decide +kernel
theorem dX2_copyFrom_17 : decode cX2_copyFrom 17 = .ok (.aload_n 1, 1) := by decide +kernel
theorem dX2_copyFrom_18 : decode cX2_copyFrom 18 = .ok (.getfield 16, 3) := by decide +kernel
theorem dX2_copyFrom_21 : decode cX2_copyFrom 21 = .ok (.putfield 16, 3) := by decide +kernel
theorem dX2_copyFrom_24 : decode cX2_copyFrom 24 = .ok (.aload_n 0, 1) := by decide +kernel
theorem dX2_copyFrom_25 : decode cX2_copyFrom 25 = .ok (.aload_n 1, 1) := by decide +kernel
theorem dX2_copyFrom_26 : decode cX2_copyFrom 26 = .ok (.getfield 19, 3) := by decide +kernel
theorem dX2_copyFrom_29 : decode cX2_copyFrom 29 = .ok (.putfield 19, 3) := by decide +kernel
theorem dX2_copyFrom_32 : decode cX2_copyFrom 32 = .ok (.aload_n 0, 1) := by decide +kernel
theorem dX2_copyFrom_33 : decode cX2_copyFrom 33 = .ok (.aload_n 1, 1) := by decide +kernel
theorem dX2_copyFrom_34 : decode cX2_copyFrom 34 = .ok (.getfield 22, 3) := by decide +kernel
theorem dX2_copyFrom_37 : decode cX2_copyFrom 37 = .ok (.putfield 22, 3) := by decide +kernel
theorem dX2_copyFrom_40 : decode cX2_copyFrom 40 = .ok (.aload_n 0, 1) := by decide +kernel
theorem dX2_copyFrom_41 : decode cX2_copyFrom 41 = .ok (.aload_n 1, 1) := by decide +kernel
theorem dX2_copyFrom_42 : decode cX2_copyFrom 42 = .ok (.getfield 26, 3) := by decide +kernel
theorem dX2_copyFrom_45 : decode cX2_copyFrom 45 = .ok (.putfield 26, 3) := by decide +kernel
theorem dX2_copyFrom_48 : decode cX2_copyFrom 48 = .ok (.aload_n 0, 1) := by decide +kernel
theorem dX2_copyFrom_49 : decode cX2_copyFrom 49 = .ok (.aload_n 1, 1) := by decide +kernel
theorem dX2_copyFrom_50 : decode cX2_copyFrom 50 = .ok (.getfield 29, 3) := by decide +kernel
theorem dX2_copyFrom_53 : decode cX2_copyFrom 53 = .ok (.putfield 29, 3) := by decide +kernel
theorem dX2_copyFrom_56 : decode cX2_copyFrom 56 = .ok (.aload_n 0, 1) := by decide +kernel
theorem dX2_copyFrom_57 : decode cX2_copyFrom 57 = .ok (.aload_n 1, 1) := by decide +kernel
theorem dX2_copyFrom_58 : decode cX2_copyFrom 58 = .ok (.getfield 32, 3) := by decide +kernel
theorem dX2_copyFrom_61 : decode cX2_copyFrom 61 = .ok (.putfield 32, 3) := by decide +kernel
theorem dX2_copyFrom_64 : decode cX2_copyFrom 64 = .ok (.aload_n 0, 1) := by decide +kernel
theorem dX2_copyFrom_65 : decode cX2_copyFrom 65 = .ok (.aload_n 1, 1) := by decide +kernel
theorem dX2_copyFrom_66 : decode cX2_copyFrom 66 = .ok (.getfield 35, 3) := by decide +kernel
theorem dX2_copyFrom_69 : decode cX2_copyFrom 69 = .ok (.putfield 35, 3) := by decide +kernel
theorem dX2_copyFrom_72 : decode cX2_copyFrom 72 = .ok (.return_, 1) := by decide +kernel
def X2_copyFrom (e : mm_E) (a0 : Nat) (a1 : Nat) (m : mm_V) : Option mm_V := (mm_gi e.1 m 2 9 a1 0).bind fun x1 => (mm_pf e.1 m 2 9 a0 0 (.int x1)).bind fun m2 => (mm_gi e.1 m2 2 9 a1 1).bind fun x3 => (mm_pf e.1 m2 2 9 a0 1 (.int x3)).bind fun m4 => (mm_gi e.1 m4 2 9 a1 2).bind fun x5 => (mm_pf e.1 m4 2 9 a0 2 (.int x5)).bind fun m6 => (mm_gi e.1 m6 2 9 a1 3).bind fun x7 => (mm_pf e.1 m6 2 9 a0 3 (.int x7)).bind fun m8 => (mm_gi e.1 m8 2 9 a1 4).bind fun x9 => (mm_pz e.1 m8 2 9 a0 4 x9).bind fun m10 => (mm_gi e.1 m10 2 9 a1 5).bind fun x11 => (mm_pf e.1 m10 2 9 a0 5 (.int x11)).bind fun m12 => (mm_gi e.1 m12 2 9 a1 6).bind fun x13 => (mm_pz e.1 m12 2 9 a0 6 x13).bind fun m14 => (mm_gi e.1 m14 2 9 a1 7).bind fun x15 => (mm_pf e.1 m14 2 9 a0 7 (.int x15)).bind fun m16 => (mm_gi e.1 m16 2 9 a1 8).bind fun x17 => (mm_pf e.1 m16 2 9 a0 8 (.int x17)).bind fun m18 => some m18
theorem X2_copyFrom_ok {K : mm_K} {nx : Option Nat} {e : mm_E} (hz : e.2.1 = K.2.2.2.2) {d : Nat} (hd : 0 ≤ d) {a0 : Nat} {a1 : Nat} (h0 : e.1 a0 = some (2, 9)) {m : mm_V} {r : mm_V} (hr : X2_copyFrom e a0 a1 m = some r) : mm_Cn K MX2_copyFrom d (mm_Fv e.1 nx r) [.ref a0, .ref a1] (e.1, m) nx := by
  refine mm_entry (by decide) (Nat.le_of_ble_eq_true rfl) rfl (fun hok => ?_)
  unfold X2_copyFrom at hr
  refine mg_weak (L' := [some (.ref a0), some (.ref a1)]) (mm_le_s (mm_le_s mm_le_0)) ?_
  refine ml_aload_n (pc := 0) dX2_copyFrom_0 rfl mm_get_0 ?_
  refine ml_aload_n (pc := 1) dX2_copyFrom_1 rfl (mm_get_s mm_get_0) ?_
  refine mb_gi (pc := 2) dX2_copyFrom_2 fl_X2_7 hr (fun x1 hr => ?_)
  refine mb_pi (pc := 5) dX2_copyFrom_5 fp_X2_7 hr (fun m2 hr => ?_)
  refine ml_aload_n (pc := 8) dX2_copyFrom_8 rfl mm_get_0 ?_
  refine ml_aload_n (pc := 9) dX2_copyFrom_9 rfl (mm_get_s mm_get_0) ?_
  refine mb_gi (pc := 10) dX2_copyFrom_10 fl_X2_13 hr (fun x3 hr => ?_)
  refine mb_pi (pc := 13) dX2_copyFrom_13 fp_X2_13 hr (fun m4 hr => ?_)
  refine ml_aload_n (pc := 16) dX2_copyFrom_16 rfl mm_get_0 ?_
  refine ml_aload_n (pc := 17) dX2_copyFrom_17 rfl (mm_get_s mm_get_0) ?_
  refine mb_gi (pc := 18) dX2_copyFrom_18 fl_X2_16 hr (fun x5 hr => ?_)
  refine mb_pi (pc := 21) dX2_copyFrom_21 fp_X2_16 hr (fun m6 hr => ?_)
  refine ml_aload_n (pc := 24) dX2_copyFrom_24 rfl mm_get_0 ?_
  refine ml_aload_n (pc := 25) dX2_copyFrom_25 rfl (mm_get_s mm_get_0) ?_
  refine mb_gi (pc := 26) dX2_copyFrom_26 fl_X2_19 hr (fun x7 hr => ?_)
  refine mb_pi (pc := 29) dX2_copyFrom_29 fp_X2_19 hr (fun m8 hr => ?_)
  refine ml_aload_n (pc := 32) dX2_copyFrom_32 rfl mm_get_0 ?_
  refine ml_aload_n (pc := 33) dX2_copyFrom_33 rfl (mm_get_s mm_get_0) ?_
  refine mb_gi (pc := 34) dX2_copyFrom_34 fl_X2_22 hr (fun x9 hr => ?_)
  refine mb_pz (pc := 37) dX2_copyFrom_37 fp_X2_22 hr (fun m10 hr => ?_)
  refine ml_aload_n (pc := 40) dX2_copyFrom_40 rfl mm_get_0 ?_
  refine ml_aload_n (pc := 41) dX2_copyFrom_41 rfl (mm_get_s mm_get_0) ?_
  refine mb_gi (pc := 42) dX2_copyFrom_42 fl_X2_26 hr (fun x11 hr => ?_)
  refine mb_pi (pc := 45) dX2_copyFrom_45 fp_X2_26 hr (fun m12 hr => ?_)
  refine ml_aload_n (pc := 48) dX2_copyFrom_48 rfl mm_get_0 ?_
  refine ml_aload_n (pc := 49) dX2_copyFrom_49 rfl (mm_get_s mm_get_0) ?_
  refine mb_gi (pc := 50) dX2_copyFrom_50 fl_X2_29 hr (fun x13 hr => ?_)
  refine mb_pz (pc := 53) dX2_copyFrom_53 fp_X2_29 hr (fun m14 hr => ?_)
  refine ml_aload_n (pc := 56) dX2_copyFrom_56 rfl mm_get_0 ?_
  refine ml_aload_n (pc := 57) dX2_copyFrom_57 rfl (mm_get_s mm_get_0) ?_
  refine mb_gi (pc := 58) dX2_copyFrom_58 fl_X2_32 hr (fun x15 hr => ?_)
  refine mb_pi (pc := 61) dX2_copyFrom_61 fp_X2_32 hr (fun m16 hr => ?_)
  refine ml_aload_n (pc := 64) dX2_copyFrom_64 rfl mm_get_0 ?_
  refine ml_aload_n (pc := 65) dX2_copyFrom_65 rfl (mm_get_s mm_get_0) ?_
  refine mb_gi (pc := 66) dX2_copyFrom_66 fl_X2_35 hr (fun x17 hr => ?_)
  refine mb_pi (pc := 69) dX2_copyFrom_69 fp_X2_35 hr (fun m18 hr => ?_)
  exact mb_vret dX2_copyFrom_72 rfl hr
theorem dX3_hasPlace_0 : decode cX3_hasPlace 0 = .ok (.iload_n 1, 1) := by decide +kernel
theorem dX3_hasPlace_1 : decode cX3_hasPlace 1 = .ok (.ifCond .lt 15, 3) := by decide +kernel
theorem dX3_hasPlace_4 : decode cX3_hasPlace 4 = .ok (.iload_n 1, 1) := by decide +kernel
theorem dX3_hasPlace_5 : decode cX3_hasPlace 5 = .ok (.aload_n 0, 1) := by decide +kernel
theorem dX3_hasPlace_6 : decode cX3_hasPlace 6 = .ok (.getfield 15, 3) := by decide +kernel
theorem dX3_hasPlace_9 : decode cX3_hasPlace 9 = .ok (.if_icmp .ge 7, 3) := by decide +kernel
theorem dX3_hasPlace_12 : decode cX3_hasPlace 12 = .ok (.iconst 1, 1) := by decide +kernel
theorem dX3_hasPlace_13 : decode cX3_hasPlace 13 = .ok (.goto 4, 3) := by decide +kernel
theorem dX3_hasPlace_16 : decode cX3_hasPlace 16 = .ok (.iconst 0, 1) := by decide +kernel
theorem dX3_hasPlace_17 : decode cX3_hasPlace 17 = .ok (.ireturn, 1) := by decide +kernel
def X3_hasPlace_b17 (e : mm_E) (t0 : Int32) (m : mm_V) : Option (Int32 × mm_V) := mm_rz t0 m
theorem X3_hasPlace_b17_ok {K : mm_K} {nx : Option Nat} {e : mm_E} (hz : e.2.1 = K.2.2.2.2) {d : Nat} (hd : 0 ≤ d) {t0 : Int32} {a0 : Nat} (h0 : e.1 a0 = some (3, 2)) {m : mm_V} {r : (Int32 × mm_V)} (hr : X3_hasPlace_b17 e t0 m = some r) : mm_G K MX3_hasPlace d (mm_Fi e.1 nx r) 17 [none, none] [.int t0] (e.1, m) nx 0 0 := by
  unfold X3_hasPlace_b17 at hr
  exact mb_zret dX3_hasPlace_17 rfl hr
def X3_hasPlace_b16 (e : mm_E) (m : mm_V) : Option (Int32 × mm_V) := X3_hasPlace_b17 e  (0 : Int32) m
theorem X3_hasPlace_b16_ok {K : mm_K} {nx : Option Nat} {e : mm_E} (hz : e.2.1 = K.2.2.2.2) {d : Nat} (hd : 0 ≤ d) {a0 : Nat} (h0 : e.1 a0 = some (3, 2)) {m : mm_V} {r : (Int32 × mm_V)} (hr : X3_hasPlace_b16 e m = some r) : mm_G K MX3_hasPlace d (mm_Fi e.1 nx r) 16 [none, none] [] (e.1, m) nx 0 0 := by
  unfold X3_hasPlace_b16 at hr
  refine mg_iconst (pc := 16) dX3_hasPlace_16 kc_0 ?_
  exact mg_weak (mm_le_n (mm_le_n mm_le_0)) (X3_hasPlace_b17_ok hz hd h0 hr)
def X3_hasPlace (e : mm_E) (a0 : Nat) (i1 : Int32) (m : mm_V) : Option (Int32 × mm_V) := if i1 < 0 then (X3_hasPlace_b16 e   m) else ((mm_gi e.1 m 3 2 a0 1).bind fun x1 => if x1 ≤ i1 then (X3_hasPlace_b16 e   m) else (X3_hasPlace_b17 e  (1 : Int32) m))
theorem X3_hasPlace_ok {K : mm_K} {nx : Option Nat} {e : mm_E} (hz : e.2.1 = K.2.2.2.2) {d : Nat} (hd : 0 ≤ d) {a0 : Nat} {i1 : Int32} (h0 : e.1 a0 = some (3, 2)) {m : mm_V} {r : (Int32 × mm_V)} (hr : X3_hasPlace e a0 i1 m = some r) : mm_Cn K MX3_hasPlace d (mm_Fi e.1 nx r) [.ref a0, .int i1] (e.1, m) nx := by
  refine mm_entry (by decide) (Nat.le_of_ble_eq_true rfl) rfl (fun hok => ?_)
  unfold X3_hasPlace at hr
  refine mg_weak (L' := [some (.ref a0), some (.int i1)]) (mm_le_s (mm_le_s mm_le_0)) ?_
  refine ml_iload_n (pc := 0) dX3_hasPlace_0 rfl (mm_get_s mm_get_0) ?_
  refine mb_if_lt (pc := 1) 16 dX3_hasPlace_1 rfl hr (fun hr => ?_) (fun hr => ?_)
  · exact mg_weak (mm_le_n (mm_le_n mm_le_0)) (X3_hasPlace_b16_ok hz hd h0 hr)
  · refine ml_iload_n (pc := 4) dX3_hasPlace_4 rfl (mm_get_s mm_get_0) ?_
    refine ml_aload_n (pc := 5) dX3_hasPlace_5 rfl mm_get_0 ?_
    refine mb_gi (pc := 6) dX3_hasPlace_6 fl_X3_15 hr (fun x1 hr => ?_)
    refine mb_icmp_ge (pc := 9) 16 dX3_hasPlace_9 rfl hr (fun hr => ?_) (fun hr => ?_)
    · exact mg_weak (mm_le_n (mm_le_n mm_le_0)) (X3_hasPlace_b16_ok hz hd h0 hr)
    · refine mg_iconst (pc := 12) dX3_hasPlace_12 kc_1 ?_
      refine mg_goto (pc := 13) 17 dX3_hasPlace_13 rfl ?_
      exact mg_weak (mm_le_n (mm_le_n mm_le_0)) (X3_hasPlace_b17_ok hz hd h0 hr)
theorem dX4_open_0 : decode cX4_open 0 = .ok (.aload_n 0, 1) := by decide +kernel
theorem dX4_open_1 : decode cX4_open 1 = .ok (.aload_n 1, 1) := by decide +kernel
theorem dX4_open_2 : decode cX4_open 2 = .ok (.putfield 35, 3) := by decide +kernel
theorem dX4_open_5 : decode cX4_open 5 = .ok (.aload_n 0, 1) := by decide +kernel
theorem dX4_open_6 : decode cX4_open 6 = .ok (.iload_n 2, 1) := by decide +kernel
theorem dX4_open_7 : decode cX4_open 7 = .ok (.putfield 39, 3) := by decide +kernel
theorem dX4_open_10 : decode cX4_open 10 = .ok (.aload_n 0, 1) := by decide +kernel
theorem dX4_open_11 : decode cX4_open 11 = .ok (.iload_n 3, 1) := by decide +kernel
theorem dX4_open_12 : decode cX4_open 12 = .ok (.putfield 43, 3) := by decide +kernel
theorem dX4_open_15 : decode cX4_open 15 = .ok (.iconst 0, 1) := by decide +kernel
theorem dX4_open_16 : decode cX4_open 16 = .ok (.istore 4, 2) := by decide +kernel
theorem dX4_open_18 : decode cX4_open 18 = .ok (.iload 4, 2) := by decide +kernel
theorem dX4_open_20 : decode cX4_open 20 = .ok (.bipush 6, 2) := by decide +kernel
theorem dX4_open_22 : decode cX4_open 22 = .ok (.if_icmp .ge 28, 3) := by decide +kernel
theorem dX4_open_25 : decode cX4_open 25 = .ok (.aload_n 0, 1) := by decide +kernel
theorem dX4_open_26 : decode cX4_open 26 = .ok (.getfield 11, 3) := by decide +kernel
theorem dX4_open_29 : decode cX4_open 29 = .ok (.iload 4, 2) := by decide +kernel
theorem dX4_open_31 : decode cX4_open 31 = .ok (.aaload, 1) := by decide +kernel
theorem dX4_open_32 : decode cX4_open 32 = .ok (.invokevirtual 47, 3) := by decide +kernel
theorem dX4_open_35 : decode cX4_open 35 = .ok (.aload_n 0, 1) := by decide +kernel
theorem dX4_open_36 : decode cX4_open 36 = .ok (.getfield 22, 3) := by decide +kernel
theorem dX4_open_39 : decode cX4_open 39 = .ok (.iload 4, 2) := by decide +kernel
theorem dX4_open_41 : decode cX4_open 41 = .ok (.iload 4, 2) := by decide +kernel
theorem dX4_open_43 : decode cX4_open 43 = .ok (.iastore, 1) := by decide +kernel
theorem dX4_open_44 : decode cX4_open 44 = .ok (.iinc 4 1, 3) := by decide +kernel
theorem dX4_open_47 : decode cX4_open 47 = .ok (.goto (-29), 3) := by decide +kernel
theorem dX4_open_50 : decode cX4_open 50 = .ok (.return_, 1) := by decide +kernel
def X4_open_L18 (e : mm_E) (a0 : Nat) : Nat → Int32 → mm_V → Option mm_V
  | 0, _, _ => none
  | n + 1, i4, m => if (6 : Int32) ≤ i4 then (some m) else ((mm_gr e.1 m 4 12 a0 0).bind fun c1 => (mm_aq e.1 m 23 c1 i4).bind fun c2 => if e.1 c2 = some (3, 2) then ((X3_clear e c2 m).bind fun r3 => (mm_gr e.1 r3 4 12 a0 2).bind fun c5 => (mm_si e.1 r3 c5 i4 i4).bind fun m6 => X4_open_L18 e a0 n (i4 + 1) m6) else none)
theorem X4_open_L18_ok {K : mm_K} {nx : Option Nat} {e : mm_E} (hz : e.2.1 = K.2.2.2.2) {d : Nat} (hd : 1 ≤ d) {a0 : Nat} (h0 : e.1 a0 = some (4, 12)) : ∀ (n : Nat) (i4 : Int32) (m : mm_V) (r : mm_V), X4_open_L18 e a0 n i4 m = some r → mm_G K MX4_open d (mm_Fv e.1 nx r) 18 [some (.ref a0), none, none, none, some (.int i4)] [] (e.1, m) nx 0 0 := by
  obtain ⟨d, rfl⟩ : ∃ d', d = d' + 1 := ⟨d - 1, by omega⟩
  intro n
  induction n with
  | zero => intro i4 m r hr; unfold X4_open_L18 at hr; cases hr
  | succ n ih =>
    intro i4 m r hr
    unfold X4_open_L18 at hr
    refine ml_iload (pc := 18) dX4_open_18 (mm_get_s (mm_get_s (mm_get_s (mm_get_s mm_get_0)))) ?_
    refine mg_bipush (pc := 20) dX4_open_20 kb_6 ?_
    refine mb_icmp_ge (pc := 22) 50 dX4_open_22 rfl hr (fun hr => ?_) (fun hr => ?_)
    · exact mb_vret dX4_open_50 rfl hr
    · refine ml_aload_n (pc := 25) dX4_open_25 rfl mm_get_0 ?_
      refine mb_gr (pc := 26) dX4_open_26 fl_X4_11 hr (fun c1 hr => ?_)
      refine ml_iload (pc := 29) dX4_open_29 (mm_get_s (mm_get_s (mm_get_s (mm_get_s mm_get_0)))) ?_
      refine mb_aq (pc := 31) dX4_open_31 (by decide) (by decide) hr (fun c2 hr => ?_)
      refine mb_ck hr (fun hb4 hr => ?_)
      refine mb_cVv (pc := 32) (As := []) (rest := []) dX4_open_32 cw_X4_47 hb4 hr (fun v hv => X3_clear_ok hz (by omega) hb4 hv) rfl (Nat.le_of_ble_eq_true rfl) (Nat.zero_le _) (Nat.zero_le _) (fun r3 hr => ?_)
      refine ml_aload_n (pc := 35) dX4_open_35 rfl mm_get_0 ?_
      refine mb_gr (pc := 36) dX4_open_36 fl_X4_22 hr (fun c5 hr => ?_)
      refine ml_iload (pc := 39) dX4_open_39 (mm_get_s (mm_get_s (mm_get_s (mm_get_s mm_get_0)))) ?_
      refine ml_iload (pc := 41) dX4_open_41 (mm_get_s (mm_get_s (mm_get_s (mm_get_s mm_get_0)))) ?_
      refine mb_si (pc := 43) dX4_open_43 hr (fun m6 hr => ?_)
      refine ml_iinc (pc := 44) dX4_open_44 (mm_get_s (mm_get_s (mm_get_s (mm_get_s mm_get_0)))) (congrArg (fun z => i4 + z) kc_1) (Nat.le_of_ble_eq_true rfl) (mm_st1_s (mm_st1_s (mm_st1_s mm_st1_n))) ?_
      refine mg_goto (pc := 47) 18 dX4_open_47 rfl ?_
      exact mg_weak (mm_le_s (mm_le_n (mm_le_n (mm_le_n (mm_le_s mm_le_0))))) (ih _ _ _ hr)
def X4_open (e : mm_E) (a0 : Nat) (a1 : Nat) (i2 : Int32) (i3 : Int32) (m : mm_V) : Option mm_V := (mm_pf e.1 m 4 12 a0 6 (.ref a1)).bind fun m1 => (mm_pf e.1 m1 4 12 a0 7 (.int i2)).bind fun m2 => (mm_pz e.1 m2 4 12 a0 8 i3).bind fun m3 => X4_open_L18 e a0 e.2.2 (0 : Int32) m3
theorem X4_open_ok {K : mm_K} {nx : Option Nat} {e : mm_E} (hz : e.2.1 = K.2.2.2.2) {d : Nat} (hd : 1 ≤ d) {a0 : Nat} {a1 : Nat} {i2 : Int32} {i3 : Int32} (h0 : e.1 a0 = some (4, 12)) {m : mm_V} {r : mm_V} (hr : X4_open e a0 a1 i2 i3 m = some r) : mm_Cn K MX4_open d (mm_Fv e.1 nx r) [.ref a0, .ref a1, .int i2, .int i3] (e.1, m) nx := by
  obtain ⟨d, rfl⟩ : ∃ d', d = d' + 1 := ⟨d - 1, by omega⟩
  refine mm_entry (by decide) (Nat.le_of_ble_eq_true rfl) rfl (fun hok => ?_)
  unfold X4_open at hr
  refine mg_weak (L' := [some (.ref a0), some (.ref a1), some (.int i2), some (.int i3), none]) (mm_le_s (mm_le_s (mm_le_s (mm_le_s (mm_le_e mm_le_0))))) ?_
  refine ml_aload_n (pc := 0) dX4_open_0 rfl mm_get_0 ?_
  refine ml_aload_n (pc := 1) dX4_open_1 rfl (mm_get_s mm_get_0) ?_
  refine mb_pr (pc := 2) dX4_open_2 fp_X4_35 hr (fun m1 hr => ?_)
  refine ml_aload_n (pc := 5) dX4_open_5 rfl mm_get_0 ?_
  refine ml_iload_n (pc := 6) dX4_open_6 rfl (mm_get_s (mm_get_s mm_get_0)) ?_
  refine mb_pi (pc := 7) dX4_open_7 fp_X4_39 hr (fun m2 hr => ?_)
  refine ml_aload_n (pc := 10) dX4_open_10 rfl mm_get_0 ?_
  refine ml_iload_n (pc := 11) dX4_open_11 rfl (mm_get_s (mm_get_s (mm_get_s mm_get_0))) ?_
  refine mb_pz (pc := 12) dX4_open_12 fp_X4_43 hr (fun m3 hr => ?_)
  refine mg_iconst (pc := 15) dX4_open_15 kc_0 ?_
  refine ml_istore (pc := 16) dX4_open_16 (Nat.le_of_ble_eq_true rfl) (mm_st1_s (mm_st1_s (mm_st1_s mm_st1_i))) ?_
  exact mg_weak (mm_le_s (mm_le_n (mm_le_n (mm_le_n (mm_le_s mm_le_0))))) (X4_open_L18_ok hz hd h0 _ _ _ _ hr)
theorem dX4_isEmpty_0 : decode cX4_isEmpty 0 = .ok (.aload_n 0, 1) := by decide +kernel
theorem dX4_isEmpty_1 : decode cX4_isEmpty 1 = .ok (.iload_n 1, 1) := by decide +kernel
theorem dX4_isEmpty_2 : decode cX4_isEmpty 2 = .ok (.invokevirtual 76, 3) := by decide +kernel
theorem dX4_isEmpty_5 : decode cX4_isEmpty 5 = .ok (.getfield 90, 3) := by decide +kernel
theorem dX4_isEmpty_8 : decode cX4_isEmpty 8 = .ok (.ifCond .ne 7, 3) := by decide +kernel
theorem dX4_isEmpty_11 : decode cX4_isEmpty 11 = .ok (.iconst 1, 1) := by decide +kernel
theorem dX4_isEmpty_12 : decode cX4_isEmpty 12 = .ok (.goto 4, 3) := by decide +kernel
theorem dX4_isEmpty_15 : decode cX4_isEmpty 15 = .ok (.iconst 0, 1) := by decide +kernel
theorem dX4_isEmpty_16 : decode cX4_isEmpty 16 = .ok (.ireturn, 1) := by decide +kernel
def X4_isEmpty_b16 (e : mm_E) (t0 : Int32) (m : mm_V) : Option (Int32 × mm_V) := mm_rz t0 m
theorem X4_isEmpty_b16_ok {K : mm_K} {nx : Option Nat} {e : mm_E} (hz : e.2.1 = K.2.2.2.2) {d : Nat} (hd : 1 ≤ d) {t0 : Int32} {a0 : Nat} (h0 : e.1 a0 = some (4, 12)) {m : mm_V} {r : (Int32 × mm_V)} (hr : X4_isEmpty_b16 e t0 m = some r) : mm_G K MX4_isEmpty d (mm_Fi e.1 nx r) 16 [none, none] [.int t0] (e.1, m) nx 0 0 := by
  obtain ⟨d, rfl⟩ : ∃ d', d = d' + 1 := ⟨d - 1, by omega⟩
  unfold X4_isEmpty_b16 at hr
  exact mb_zret dX4_isEmpty_16 rfl hr
def X4_isEmpty (e : mm_E) (a0 : Nat) (i1 : Int32) (m : mm_V) : Option (Int32 × mm_V) := (X4_fanAt e a0 i1 m).bind fun r1 => (mm_gi e.1 r1.2 3 2 r1.1 1).bind fun x2 => if ¬ x2 = 0 then (X4_isEmpty_b16 e  (0 : Int32) r1.2) else (X4_isEmpty_b16 e  (1 : Int32) r1.2)
theorem X4_isEmpty_ok {K : mm_K} {nx : Option Nat} {e : mm_E} (hz : e.2.1 = K.2.2.2.2) {d : Nat} (hd : 1 ≤ d) {a0 : Nat} {i1 : Int32} (h0 : e.1 a0 = some (4, 12)) {m : mm_V} {r : (Int32 × mm_V)} (hr : X4_isEmpty e a0 i1 m = some r) : mm_Cn K MX4_isEmpty d (mm_Fi e.1 nx r) [.ref a0, .int i1] (e.1, m) nx := by
  obtain ⟨d, rfl⟩ : ∃ d', d = d' + 1 := ⟨d - 1, by omega⟩
  refine mm_entry (by decide) (Nat.le_of_ble_eq_true rfl) rfl (fun hok => ?_)
  unfold X4_isEmpty at hr
  refine mg_weak (L' := [some (.ref a0), some (.int i1)]) (mm_le_s (mm_le_s mm_le_0)) ?_
  refine ml_aload_n (pc := 0) dX4_isEmpty_0 rfl mm_get_0 ?_
  refine ml_iload_n (pc := 1) dX4_isEmpty_1 rfl (mm_get_s mm_get_0) ?_
  refine mb_cVr (pc := 2) (As := [.int i1]) (rest := []) dX4_isEmpty_2 cw_X4_76 h0 hr (fun v hv => X4_fanAt_ok hz (by omega) h0 hv) rfl (Nat.le_of_ble_eq_true rfl) (Nat.zero_le _) (Nat.zero_le _) (fun r1 hr => ?_)
  refine mb_gi (pc := 5) dX4_isEmpty_5 fl_X4_90 hr (fun x2 hr => ?_)
  refine mb_if_ne (pc := 8) 15 dX4_isEmpty_8 rfl hr (fun hr => ?_) (fun hr => ?_)
  · refine mg_iconst (pc := 15) dX4_isEmpty_15 kc_0 ?_
    exact mg_weak (mm_le_n (mm_le_n mm_le_0)) (X4_isEmpty_b16_ok hz hd h0 hr)
  · refine mg_iconst (pc := 11) dX4_isEmpty_11 kc_1 ?_
    refine mg_goto (pc := 12) 16 dX4_isEmpty_12 rfl ?_
    exact mg_weak (mm_le_n (mm_le_n mm_le_0)) (X4_isEmpty_b16_ok hz hd h0 hr)
theorem dX4_beside_0 : decode cX4_beside 0 = .ok (.iload_n 1, 1) := by decide +kernel
theorem dX4_beside_1 : decode cX4_beside 1 = .ok (.istore_n 3, 1) := by decide +kernel
theorem dX4_beside_2 : decode cX4_beside 2 = .ok (.iconst 0, 1) := by decide +kernel
theorem dX4_beside_3 : decode cX4_beside 3 = .ok (.istore 4, 2) := by decide +kernel
theorem dX4_beside_5 : decode cX4_beside 5 = .ok (.iload 4, 2) := by decide +kernel
theorem dX4_beside_7 : decode cX4_beside 7 = .ok (.aload_n 0, 1) := by decide +kernel
theorem dX4_beside_8 : decode cX4_beside 8 = .ok (.getfield 35, 3) := by decide +kernel
theorem dX4_beside_11 : decode cX4_beside 11 = .ok (.getfield 84, 3) := by decide +kernel
theorem dX4_beside_14 : decode cX4_beside 14 = .ok (.if_icmp .ge 81, 3) := by decide +kernel
theorem dX4_beside_17 : decode cX4_beside 17 = .ok (.iload_n 2, 1) := by decide +kernel
theorem dX4_beside_18 : decode cX4_beside 18 = .ok (.ifCond .eq 27, 3) := by decide +kernel
theorem dX4_beside_21 : decode cX4_beside 21 = .ok (.iload_n 3, 1) := by decide +kernel
theorem dX4_beside_22 : decode cX4_beside 22 = .ok (.iconst 1, 1) := by decide +kernel
theorem dX4_beside_23 : decode cX4_beside 23 = .ok (.iadd, 1) := by decide +kernel
theorem dX4_beside_24 : decode cX4_beside 24 = .ok (.aload_n 0, 1) := by decide +kernel
theorem dX4_beside_25 : decode cX4_beside 25 = .ok (.getfield 35, 3) := by decide +kernel
theorem dX4_beside_28 : decode cX4_beside 28 = .ok (.getfield 84, 3) := by decide +kernel
theorem dX4_beside_31 : decode cX4_beside 31 = .ok (.if_icmp .ge 9, 3) := by decide +kernel
theorem dX4_beside_34 : decode cX4_beside 34 = .ok (.iload_n 3, 1) := by decide +kernel
theorem dX4_beside_35 : decode cX4_beside 35 = .ok (.iconst 1, 1) := by decide +kernel
theorem dX4_beside_36 : decode cX4_beside 36 = .ok (.iadd, 1) := by decide +kernel
theorem dX4_beside_37 : decode cX4_beside 37 = .ok (.goto 4, 3) := by decide +kernel
theorem dX4_beside_40 : decode cX4_beside 40 = .ok (.iconst 0, 1) := by decide +kernel
theorem dX4_beside_41 : decode cX4_beside 41 = .ok (.istore_n 3, 1) := by decide +kernel
theorem dX4_beside_42 : decode cX4_beside 42 = .ok (.goto 23, 3) := by decide +kernel
theorem dX4_beside_45 : decode cX4_beside 45 = .ok (.iload_n 3, 1) := by decide +kernel
theorem dX4_beside_46 : decode cX4_beside 46 = .ok (.ifCond .le 9, 3) := by decide +kernel
theorem dX4_beside_49 : decode cX4_beside 49 = .ok (.iload_n 3, 1) := by decide +kernel
theorem dX4_beside_50 : decode cX4_beside 50 = .ok (.iconst 1, 1) := by decide +kernel
theorem dX4_beside_51 : decode cX4_beside 51 = .ok (.isub, 1) := by decide +kernel
theorem dX4_beside_52 : decode cX4_beside 52 = .ok (.goto 12, 3) := by decide +kernel
theorem dX4_beside_55 : decode cX4_beside 55 = .ok (.aload_n 0, 1) := by decide +kernel
theorem dX4_beside_56 : decode cX4_beside 56 = .ok (.getfield 35, 3) := by decide +kernel
theorem dX4_beside_59 : decode cX4_beside 59 = .ok (.getfield 84, 3) := by decide +kernel
theorem dX4_beside_62 : decode cX4_beside 62 = .ok (.iconst 1, 1) := by decide +kernel
theorem dX4_beside_63 : decode cX4_beside 63 = .ok (.isub, 1) := by decide +kernel
theorem dX4_beside_64 : decode cX4_beside 64 = .ok (.istore_n 3, 1) := by decide +kernel
theorem dX4_beside_65 : decode cX4_beside 65 = .ok (.iload_n 3, 1) := by decide +kernel
theorem dX4_beside_66 : decode cX4_beside 66 = .ok (.ifCond .lt 23, 3) := by decide +kernel
theorem dX4_beside_69 : decode cX4_beside 69 = .ok (.iload_n 3, 1) := by decide +kernel
theorem dX4_beside_70 : decode cX4_beside 70 = .ok (.bipush 6, 2) := by decide +kernel
theorem dX4_beside_72 : decode cX4_beside 72 = .ok (.if_icmp .ge 17, 3) := by decide +kernel
theorem dX4_beside_75 : decode cX4_beside 75 = .ok (.aload_n 0, 1) := by decide +kernel
theorem dX4_beside_76 : decode cX4_beside 76 = .ok (.getfield 11, 3) := by decide +kernel
theorem dX4_beside_79 : decode cX4_beside 79 = .ok (.iload_n 3, 1) := by decide +kernel
theorem dX4_beside_80 : decode cX4_beside 80 = .ok (.aaload, 1) := by decide +kernel
theorem dX4_beside_81 : decode cX4_beside 81 = .ok (.getfield 90, 3) := by decide +kernel
theorem dX4_beside_84 : decode cX4_beside 84 = .ok (.ifCond .le 5, 3) := by decide +kernel
theorem dX4_beside_87 : decode cX4_beside 87 = .ok (.iload_n 3, 1) := by decide +kernel
theorem dX4_beside_88 : decode cX4_beside 88 = .ok (.ireturn, 1) := by decide +kernel
theorem dX4_beside_89 : decode cX4_beside 89 = .ok (.iinc 4 1, 3) := by decide +kernel
theorem dX4_beside_92 : decode cX4_beside 92 = .ok (.goto (-87), 3) := by decide +kernel
theorem dX4_beside_95 : decode cX4_beside 95 = .ok (.iconst (-1), 1) := by decide +kernel
theorem dX4_beside_96 : decode cX4_beside 96 = .ok (.ireturn, 1) := by decide +kernel
def X4_beside_b89 (e : mm_E) (k5 : Int32 → Int32 → mm_V → Option (Int32 × mm_V)) (a0 : Nat) (i2 : Int32) (i3 : Int32) (i4 : Int32) (m : mm_V) : Option (Int32 × mm_V) := k5 i3 (i4 + 1) m
theorem X4_beside_b89_ok {K : mm_K} {nx : Option Nat} {e : mm_E} (hz : e.2.1 = K.2.2.2.2) {d : Nat} (hd : 0 ≤ d) {a0 : Nat} {i2 : Int32} {i3 : Int32} {i4 : Int32} (h0 : e.1 a0 = some (4, 12)) {k5 : Int32 → Int32 → mm_V → Option (Int32 × mm_V)} (hk5 : ∀ (w3 : Int32) (w4 : Int32) (m : mm_V) (r : (Int32 × mm_V)), k5 w3 w4 m = some r → mm_G K MX4_beside d (mm_Fi e.1 nx r) 5 [some (.ref a0), none, some (.int i2), some (.int w3), some (.int w4)] [] (e.1, m) nx 0 0) {m : mm_V} {r : (Int32 × mm_V)} (hr : X4_beside_b89 e k5 a0 i2 i3 i4 m = some r) : mm_G K MX4_beside d (mm_Fi e.1 nx r) 89 [some (.ref a0), none, some (.int i2), some (.int i3), some (.int i4)] [] (e.1, m) nx 0 0 := by
  unfold X4_beside_b89 at hr
  refine ml_iinc (pc := 89) dX4_beside_89 (mm_get_s (mm_get_s (mm_get_s (mm_get_s mm_get_0)))) (congrArg (fun z => i4 + z) kc_1) (Nat.le_of_ble_eq_true rfl) (mm_st1_s (mm_st1_s (mm_st1_s mm_st1_i))) ?_
  refine mg_goto (pc := 92) 5 dX4_beside_92 rfl ?_
  exact mg_weak (mm_le_s (mm_le_n (mm_le_s (mm_le_s (mm_le_s mm_le_0))))) (hk5 _ _ _ _ hr)
def X4_beside_b65 (e : mm_E) (k5 : Int32 → Int32 → mm_V → Option (Int32 × mm_V)) (a0 : Nat) (i2 : Int32) (i3 : Int32) (i4 : Int32) (m : mm_V) : Option (Int32 × mm_V) := if i3 < 0 then (X4_beside_b89 e k5 a0 i2 i3 i4  m) else (if (6 : Int32) ≤ i3 then (X4_beside_b89 e k5 a0 i2 i3 i4  m) else ((mm_gr e.1 m 4 12 a0 0).bind fun c1 => (mm_aq e.1 m 23 c1 i3).bind fun c2 => (mm_gi e.1 m 3 2 c2 1).bind fun x3 => if x3 ≤ 0 then (X4_beside_b89 e k5 a0 i2 i3 i4  m) else (some (i3, m))))
theorem X4_beside_b65_ok {K : mm_K} {nx : Option Nat} {e : mm_E} (hz : e.2.1 = K.2.2.2.2) {d : Nat} (hd : 0 ≤ d) {a0 : Nat} {i2 : Int32} {i3 : Int32} {i4 : Int32} (h0 : e.1 a0 = some (4, 12)) {k5 : Int32 → Int32 → mm_V → Option (Int32 × mm_V)} (hk5 : ∀ (w3 : Int32) (w4 : Int32) (m : mm_V) (r : (Int32 × mm_V)), k5 w3 w4 m = some r → mm_G K MX4_beside d (mm_Fi e.1 nx r) 5 [some (.ref a0), none, some (.int i2), some (.int w3), some (.int w4)] [] (e.1, m) nx 0 0) {m : mm_V} {r : (Int32 × mm_V)} (hr : X4_beside_b65 e k5 a0 i2 i3 i4 m = some r) : mm_G K MX4_beside d (mm_Fi e.1 nx r) 65 [some (.ref a0), none, some (.int i2), some (.int i3), some (.int i4)] [] (e.1, m) nx 0 0 := by
  unfold X4_beside_b65 at hr
  refine ml_iload_n (pc := 65) dX4_beside_65 rfl (mm_get_s (mm_get_s (mm_get_s mm_get_0))) ?_
  refine mb_if_lt (pc := 66) 89 dX4_beside_66 rfl hr (fun hr => ?_) (fun hr => ?_)
  · exact mg_weak (mm_le_s (mm_le_n (mm_le_s (mm_le_s (mm_le_s mm_le_0))))) (X4_beside_b89_ok hz hd h0 hk5 hr)
  · refine ml_iload_n (pc := 69) dX4_beside_69 rfl (mm_get_s (mm_get_s (mm_get_s mm_get_0))) ?_
    refine mg_bipush (pc := 70) dX4_beside_70 kb_6 ?_
    refine mb_icmp_ge (pc := 72) 89 dX4_beside_72 rfl hr (fun hr => ?_) (fun hr => ?_)
    · exact mg_weak (mm_le_s (mm_le_n (mm_le_s (mm_le_s (mm_le_s mm_le_0))))) (X4_beside_b89_ok hz hd h0 hk5 hr)
    · refine ml_aload_n (pc := 75) dX4_beside_75 rfl mm_get_0 ?_
      refine mb_gr (pc := 76) dX4_beside_76 fl_X4_11 hr (fun c1 hr => ?_)
      refine ml_iload_n (pc := 79) dX4_beside_79 rfl (mm_get_s (mm_get_s (mm_get_s mm_get_0))) ?_
      refine mb_aq (pc := 80) dX4_beside_80 (by decide) (by decide) hr (fun c2 hr => ?_)
      refine mb_gi (pc := 81) dX4_beside_81 fl_X4_90 hr (fun x3 hr => ?_)
      refine mb_if_le (pc := 84) 89 dX4_beside_84 rfl hr (fun hr => ?_) (fun hr => ?_)
      · exact mg_weak (mm_le_s (mm_le_n (mm_le_s (mm_le_s (mm_le_s mm_le_0))))) (X4_beside_b89_ok hz hd h0 hk5 hr)
      · refine ml_iload_n (pc := 87) dX4_beside_87 rfl (mm_get_s (mm_get_s (mm_get_s mm_get_0))) ?_
        exact mb_iret dX4_beside_88 rfl hr
def X4_beside_b64 (e : mm_E) (k5 : Int32 → Int32 → mm_V → Option (Int32 × mm_V)) (a0 : Nat) (i2 : Int32) (i4 : Int32) (t0 : Int32) (m : mm_V) : Option (Int32 × mm_V) := X4_beside_b65 e k5 a0 i2 t0 i4  m
theorem X4_beside_b64_ok {K : mm_K} {nx : Option Nat} {e : mm_E} (hz : e.2.1 = K.2.2.2.2) {d : Nat} (hd : 0 ≤ d) {a0 : Nat} {i2 : Int32} {i4 : Int32} {t0 : Int32} (h0 : e.1 a0 = some (4, 12)) {k5 : Int32 → Int32 → mm_V → Option (Int32 × mm_V)} (hk5 : ∀ (w3 : Int32) (w4 : Int32) (m : mm_V) (r : (Int32 × mm_V)), k5 w3 w4 m = some r → mm_G K MX4_beside d (mm_Fi e.1 nx r) 5 [some (.ref a0), none, some (.int i2), some (.int w3), some (.int w4)] [] (e.1, m) nx 0 0) {m : mm_V} {r : (Int32 × mm_V)} (hr : X4_beside_b64 e k5 a0 i2 i4 t0 m = some r) : mm_G K MX4_beside d (mm_Fi e.1 nx r) 64 [some (.ref a0), none, some (.int i2), none, some (.int i4)] [.int t0] (e.1, m) nx 0 0 := by
  unfold X4_beside_b64 at hr
  refine ml_istore_n (pc := 64) dX4_beside_64 rfl (Nat.le_of_ble_eq_true rfl) (mm_st1_s (mm_st1_s mm_st1_i)) ?_
  exact mg_weak (mm_le_s (mm_le_n (mm_le_s (mm_le_s (mm_le_s mm_le_0))))) (X4_beside_b65_ok hz hd h0 hk5 hr)
def X4_beside_b41 (e : mm_E) (k5 : Int32 → Int32 → mm_V → Option (Int32 × mm_V)) (a0 : Nat) (i2 : Int32) (i4 : Int32) (t0 : Int32) (m : mm_V) : Option (Int32 × mm_V) := X4_beside_b65 e k5 a0 i2 t0 i4  m
theorem X4_beside_b41_ok {K : mm_K} {nx : Option Nat} {e : mm_E} (hz : e.2.1 = K.2.2.2.2) {d : Nat} (hd : 0 ≤ d) {a0 : Nat} {i2 : Int32} {i4 : Int32} {t0 : Int32} (h0 : e.1 a0 = some (4, 12)) {k5 : Int32 → Int32 → mm_V → Option (Int32 × mm_V)} (hk5 : ∀ (w3 : Int32) (w4 : Int32) (m : mm_V) (r : (Int32 × mm_V)), k5 w3 w4 m = some r → mm_G K MX4_beside d (mm_Fi e.1 nx r) 5 [some (.ref a0), none, some (.int i2), some (.int w3), some (.int w4)] [] (e.1, m) nx 0 0) {m : mm_V} {r : (Int32 × mm_V)} (hr : X4_beside_b41 e k5 a0 i2 i4 t0 m = some r) : mm_G K MX4_beside d (mm_Fi e.1 nx r) 41 [some (.ref a0), none, some (.int i2), none, some (.int i4)] [.int t0] (e.1, m) nx 0 0 := by
  unfold X4_beside_b41 at hr
  refine ml_istore_n (pc := 41) dX4_beside_41 rfl (Nat.le_of_ble_eq_true rfl) (mm_st1_s (mm_st1_s mm_st1_i)) ?_
  refine mg_goto (pc := 42) 65 dX4_beside_42 rfl ?_
  exact mg_weak (mm_le_s (mm_le_n (mm_le_s (mm_le_s (mm_le_s mm_le_0))))) (X4_beside_b65_ok hz hd h0 hk5 hr)
def X4_beside_L5 (e : mm_E) (a0 : Nat) (i2 : Int32) : Nat → Int32 → Int32 → mm_V → Option (Int32 × mm_V)
  | 0, _, _, _ => none
  | n + 1, i3, i4, m => (mm_gr e.1 m 4 12 a0 6).bind fun c1 => (mm_gi e.1 m 10 11 c1 6).bind fun x2 => if x2 ≤ i4 then (some ((-1 : Int32), m)) else (if i2 = 0 then (if i3 ≤ 0 then ((mm_gr e.1 m 4 12 a0 6).bind fun c3 => (mm_gi e.1 m 10 11 c3 6).bind fun x4 => X4_beside_b64 e (X4_beside_L5 e a0 i2 n) a0 i2 i4 (x4 - (1 : Int32)) m) else (X4_beside_b64 e (X4_beside_L5 e a0 i2 n) a0 i2 i4 (i3 - (1 : Int32)) m)) else ((mm_gr e.1 m 4 12 a0 6).bind fun c5 => (mm_gi e.1 m 10 11 c5 6).bind fun x6 => if x6 ≤ (i3 + (1 : Int32)) then (X4_beside_b41 e (X4_beside_L5 e a0 i2 n) a0 i2 i4 (0 : Int32) m) else (X4_beside_b41 e (X4_beside_L5 e a0 i2 n) a0 i2 i4 (i3 + (1 : Int32)) m)))
theorem X4_beside_L5_ok {K : mm_K} {nx : Option Nat} {e : mm_E} (hz : e.2.1 = K.2.2.2.2) {d : Nat} (hd : 0 ≤ d) {a0 : Nat} {i2 : Int32} (h0 : e.1 a0 = some (4, 12)) : ∀ (n : Nat) (i3 : Int32) (i4 : Int32) (m : mm_V) (r : (Int32 × mm_V)), X4_beside_L5 e a0 i2 n i3 i4 m = some r → mm_G K MX4_beside d (mm_Fi e.1 nx r) 5 [some (.ref a0), none, some (.int i2), some (.int i3), some (.int i4)] [] (e.1, m) nx 0 0 := by
  intro n
  induction n with
  | zero => intro i3 i4 m r hr; unfold X4_beside_L5 at hr; cases hr
  | succ n ih =>
    intro i3 i4 m r hr
    unfold X4_beside_L5 at hr
    refine ml_iload (pc := 5) dX4_beside_5 (mm_get_s (mm_get_s (mm_get_s (mm_get_s mm_get_0)))) ?_
    refine ml_aload_n (pc := 7) dX4_beside_7 rfl mm_get_0 ?_
    refine mb_gr (pc := 8) dX4_beside_8 fl_X4_35 hr (fun c1 hr => ?_)
    refine mb_gi (pc := 11) dX4_beside_11 fl_X4_84 hr (fun x2 hr => ?_)
    refine mb_icmp_ge (pc := 14) 95 dX4_beside_14 rfl hr (fun hr => ?_) (fun hr => ?_)
    · refine mg_iconst (pc := 95) dX4_beside_95 kc_m1 ?_
      exact mb_iret dX4_beside_96 rfl hr
    · refine ml_iload_n (pc := 17) dX4_beside_17 rfl (mm_get_s (mm_get_s mm_get_0)) ?_
      refine mb_if_eq (pc := 18) 45 dX4_beside_18 rfl hr (fun hr => ?_) (fun hr => ?_)
      · refine ml_iload_n (pc := 45) dX4_beside_45 rfl (mm_get_s (mm_get_s (mm_get_s mm_get_0))) ?_
        refine mb_if_le (pc := 46) 55 dX4_beside_46 rfl hr (fun hr => ?_) (fun hr => ?_)
        · refine ml_aload_n (pc := 55) dX4_beside_55 rfl mm_get_0 ?_
          refine mb_gr (pc := 56) dX4_beside_56 fl_X4_35 hr (fun c3 hr => ?_)
          refine mb_gi (pc := 59) dX4_beside_59 fl_X4_84 hr (fun x4 hr => ?_)
          refine mg_iconst (pc := 62) dX4_beside_62 kc_1 ?_
          refine mg_isub (pc := 63) dX4_beside_63 ?_
          exact mg_weak (mm_le_s (mm_le_n (mm_le_s (mm_le_n (mm_le_s mm_le_0))))) (X4_beside_b64_ok hz hd h0 ih hr)
        · refine ml_iload_n (pc := 49) dX4_beside_49 rfl (mm_get_s (mm_get_s (mm_get_s mm_get_0))) ?_
          refine mg_iconst (pc := 50) dX4_beside_50 kc_1 ?_
          refine mg_isub (pc := 51) dX4_beside_51 ?_
          refine mg_goto (pc := 52) 64 dX4_beside_52 rfl ?_
          exact mg_weak (mm_le_s (mm_le_n (mm_le_s (mm_le_n (mm_le_s mm_le_0))))) (X4_beside_b64_ok hz hd h0 ih hr)
      · refine ml_iload_n (pc := 21) dX4_beside_21 rfl (mm_get_s (mm_get_s (mm_get_s mm_get_0))) ?_
        refine mg_iconst (pc := 22) dX4_beside_22 kc_1 ?_
        refine mg_iadd (pc := 23) dX4_beside_23 ?_
        refine ml_aload_n (pc := 24) dX4_beside_24 rfl mm_get_0 ?_
        refine mb_gr (pc := 25) dX4_beside_25 fl_X4_35 hr (fun c5 hr => ?_)
        refine mb_gi (pc := 28) dX4_beside_28 fl_X4_84 hr (fun x6 hr => ?_)
        refine mb_icmp_ge (pc := 31) 40 dX4_beside_31 rfl hr (fun hr => ?_) (fun hr => ?_)
        · refine mg_iconst (pc := 40) dX4_beside_40 kc_0 ?_
          exact mg_weak (mm_le_s (mm_le_n (mm_le_s (mm_le_n (mm_le_s mm_le_0))))) (X4_beside_b41_ok hz hd h0 ih hr)
        · refine ml_iload_n (pc := 34) dX4_beside_34 rfl (mm_get_s (mm_get_s (mm_get_s mm_get_0))) ?_
          refine mg_iconst (pc := 35) dX4_beside_35 kc_1 ?_
          refine mg_iadd (pc := 36) dX4_beside_36 ?_
          refine mg_goto (pc := 37) 41 dX4_beside_37 rfl ?_
          exact mg_weak (mm_le_s (mm_le_n (mm_le_s (mm_le_n (mm_le_s mm_le_0))))) (X4_beside_b41_ok hz hd h0 ih hr)
def X4_beside (e : mm_E) (a0 : Nat) (i1 : Int32) (i2 : Int32) (m : mm_V) : Option (Int32 × mm_V) := X4_beside_L5 e a0 i2 e.2.2 i1 (0 : Int32) m
theorem X4_beside_ok {K : mm_K} {nx : Option Nat} {e : mm_E} (hz : e.2.1 = K.2.2.2.2) {d : Nat} (hd : 0 ≤ d) {a0 : Nat} {i1 : Int32} {i2 : Int32} (h0 : e.1 a0 = some (4, 12)) {m : mm_V} {r : (Int32 × mm_V)} (hr : X4_beside e a0 i1 i2 m = some r) : mm_Cn K MX4_beside d (mm_Fi e.1 nx r) [.ref a0, .int i1, .int i2] (e.1, m) nx := by
  refine mm_entry (by decide) (Nat.le_of_ble_eq_true rfl) rfl (fun hok => ?_)
  unfold X4_beside at hr
  refine mg_weak (L' := [some (.ref a0), some (.int i1), some (.int i2), none, none]) (mm_le_s (mm_le_s (mm_le_s (mm_le_e (mm_le_e mm_le_0))))) ?_
  refine ml_iload_n (pc := 0) dX4_beside_0 rfl (mm_get_s mm_get_0) ?_
  refine ml_istore_n (pc := 1) dX4_beside_1 rfl (Nat.le_of_ble_eq_true rfl) (mm_st1_s (mm_st1_s mm_st1_i)) ?_
  refine mg_iconst (pc := 2) dX4_beside_2 kc_0 ?_
  refine ml_istore (pc := 3) dX4_beside_3 (Nat.le_of_ble_eq_true rfl) (mm_st1_s (mm_st1_s (mm_st1_s mm_st1_i))) ?_
  exact mg_weak (mm_le_s (mm_le_n (mm_le_s (mm_le_s (mm_le_s mm_le_0))))) (X4_beside_L5_ok hz hd h0 _ _ _ _ _ hr)
theorem dX4_start_0 : decode cX4_start 0 = .ok (.aload_n 0, 1) := by decide +kernel
theorem dX4_start_1 : decode cX4_start 1 = .ok (.iconst 0, 1) := by decide +kernel
theorem dX4_start_2 : decode cX4_start 2 = .ok (.putfield 106, 3) := by decide +kernel
theorem dX4_start_5 : decode cX4_start 5 = .ok (.iconst 0, 1) := by decide +kernel
theorem dX4_start_6 : decode cX4_start 6 = .ok (.istore_n 1, 1) := by decide +kernel
theorem dX4_start_7 : decode cX4_start 7 = .ok (.iload_n 1, 1) := by decide +kernel
theorem dX4_start_8 : decode cX4_start 8 = .ok (.bipush 6, 2) := by decide +kernel
theorem dX4_start_10 : decode cX4_start 10 = .ok (.if_icmp .ge 16, 3) := by decide +kernel
theorem dX4_start_13 : decode cX4_start 13 = .ok (.aload_n 0, 1) := by decide +kernel
theorem dX4_start_14 : decode cX4_start 14 = .ok (.getfield 26, 3) := by decide +kernel
theorem dX4_start_17 : decode cX4_start 17 = .ok (.iload_n 1, 1) := by decide +kernel
theorem dX4_start_18 : decode cX4_start 18 = .ok (.iconst 0, 1) := by decide +kernel
theorem dX4_start_19 : decode cX4_start 19 = .ok (.iastore, 1) := by decide +kernel
theorem dX4_start_20 : decode cX4_start 20 = .ok (.iinc 1 1, 3) := by decide +kernel
theorem dX4_start_23 : decode cX4_start 23 = .ok (.goto (-16), 3) := by decide +kernel
theorem dX4_start_26 : decode cX4_start 26 = .ok (.aload_n 0, 1) := by decide +kernel
theorem dX4_start_27 : decode cX4_start 27 = .ok (.aload_n 0, 1) := by decide +kernel
theorem dX4_start_28 : decode cX4_start 28 = .ok (.iconst 0, 1) := by decide +kernel
theorem dX4_start_29 : decode cX4_start 29 = .ok (.invokevirtual 109, 3) := by decide +kernel
theorem dX4_start_32 : decode cX4_start 32 = .ok (.ifCond .eq 12, 3) := by decide +kernel
theorem dX4_start_35 : decode cX4_start 35 = .ok (.aload_n 0, 1) := by decide +kernel
theorem dX4_start_36 : decode cX4_start 36 = .ok (.iconst 0, 1) := by decide +kernel
theorem dX4_start_37 : decode cX4_start 37 = .ok (.iconst 1, 1) := by decide +kernel
theorem dX4_start_38 : decode cX4_start 38 = .ok (.invokevirtual 113, 3) := by decide +kernel
theorem dX4_start_41 : decode cX4_start 41 = .ok (.goto 4, 3) := by decide +kernel
theorem dX4_start_44 : decode cX4_start 44 = .ok (.iconst 0, 1) := by decide +kernel
theorem dX4_start_45 : decode cX4_start 45 = .ok (.putfield 117, 3) := by decide +kernel
theorem dX4_start_48 : decode cX4_start 48 = .ok (.return_, 1) := by decide +kernel
def X4_start_b45 (e : mm_E) (t0 : Nat) (t1 : Int32) (m : mm_V) : Option mm_V := (mm_pf e.1 m 4 12 t0 10 (.int t1)).bind fun m1 => some m1
theorem X4_start_b45_ok {K : mm_K} {nx : Option Nat} {e : mm_E} (hz : e.2.1 = K.2.2.2.2) {d : Nat} (hd : 2 ≤ d) {t0 : Nat} {t1 : Int32} {a0 : Nat} (h0 : e.1 a0 = some (4, 12)) {m : mm_V} {r : mm_V} (hr : X4_start_b45 e t0 t1 m = some r) : mm_G K MX4_start d (mm_Fv e.1 nx r) 45 [none, none] [.int t1, .ref t0] (e.1, m) nx 0 0 := by
  obtain ⟨d, rfl⟩ : ∃ d', d = d' + 1 := ⟨d - 1, by omega⟩
  unfold X4_start_b45 at hr
  refine mb_pi (pc := 45) dX4_start_45 fp_X4_117 hr (fun m1 hr => ?_)
  exact mb_vret dX4_start_48 rfl hr
def X4_start_L7 (e : mm_E) (a0 : Nat) : Nat → Int32 → mm_V → Option mm_V
  | 0, _, _ => none
  | n + 1, i1, m => if (6 : Int32) ≤ i1 then ((X4_isEmpty e a0 (0 : Int32) m).bind fun r1 => if r1.1 = 0 then (X4_start_b45 e  a0 (0 : Int32) r1.2) else ((X4_beside e a0 (0 : Int32) (1 : Int32) r1.2).bind fun r2 => X4_start_b45 e  a0 r2.1 r2.2)) else ((mm_gr e.1 m 4 12 a0 3).bind fun c3 => (mm_si e.1 m c3 i1 (0 : Int32)).bind fun m4 => X4_start_L7 e a0 n (i1 + 1) m4)
theorem X4_start_L7_ok {K : mm_K} {nx : Option Nat} {e : mm_E} (hz : e.2.1 = K.2.2.2.2) {d : Nat} (hd : 2 ≤ d) {a0 : Nat} (h0 : e.1 a0 = some (4, 12)) : ∀ (n : Nat) (i1 : Int32) (m : mm_V) (r : mm_V), X4_start_L7 e a0 n i1 m = some r → mm_G K MX4_start d (mm_Fv e.1 nx r) 7 [some (.ref a0), some (.int i1)] [] (e.1, m) nx 0 0 := by
  obtain ⟨d, rfl⟩ : ∃ d', d = d' + 1 := ⟨d - 1, by omega⟩
  intro n
  induction n with
  | zero => intro i1 m r hr; unfold X4_start_L7 at hr; cases hr
  | succ n ih =>
    intro i1 m r hr
    unfold X4_start_L7 at hr
    refine ml_iload_n (pc := 7) dX4_start_7 rfl (mm_get_s mm_get_0) ?_
    refine mg_bipush (pc := 8) dX4_start_8 kb_6 ?_
    refine mb_icmp_ge (pc := 10) 26 dX4_start_10 rfl hr (fun hr => ?_) (fun hr => ?_)
    · refine ml_aload_n (pc := 26) dX4_start_26 rfl mm_get_0 ?_
      refine ml_aload_n (pc := 27) dX4_start_27 rfl mm_get_0 ?_
      refine mg_iconst (pc := 28) dX4_start_28 kc_0 ?_
      refine mb_cVi (pc := 29) (As := [.int (0 : Int32)]) (rest := [.ref a0]) dX4_start_29 cw_X4_109 h0 hr (fun v hv => X4_isEmpty_ok hz (by omega) h0 hv) rfl (Nat.le_of_ble_eq_true rfl) (Nat.zero_le _) (Nat.zero_le _) (fun r1 hr => ?_)
      refine mb_if_eq (pc := 32) 44 dX4_start_32 rfl hr (fun hr => ?_) (fun hr => ?_)
      · refine mg_iconst (pc := 44) dX4_start_44 kc_0 ?_
        exact mg_weak (mm_le_n (mm_le_n mm_le_0)) (X4_start_b45_ok hz hd h0 hr)
      · refine ml_aload_n (pc := 35) dX4_start_35 rfl mm_get_0 ?_
        refine mg_iconst (pc := 36) dX4_start_36 kc_0 ?_
        refine mg_iconst (pc := 37) dX4_start_37 kc_1 ?_
        refine mb_cVi (pc := 38) (As := [.int (0 : Int32), .int (1 : Int32)]) (rest := [.ref a0]) dX4_start_38 cw_X4_113 h0 hr (fun v hv => X4_beside_ok hz (by omega) h0 hv) rfl (Nat.le_of_ble_eq_true rfl) (Nat.zero_le _) (Nat.zero_le _) (fun r2 hr => ?_)
        refine mg_goto (pc := 41) 45 dX4_start_41 rfl ?_
        exact mg_weak (mm_le_n (mm_le_n mm_le_0)) (X4_start_b45_ok hz hd h0 hr)
    · refine ml_aload_n (pc := 13) dX4_start_13 rfl mm_get_0 ?_
      refine mb_gr (pc := 14) dX4_start_14 fl_X4_26 hr (fun c3 hr => ?_)
      refine ml_iload_n (pc := 17) dX4_start_17 rfl (mm_get_s mm_get_0) ?_
      refine mg_iconst (pc := 18) dX4_start_18 kc_0 ?_
      refine mb_si (pc := 19) dX4_start_19 hr (fun m4 hr => ?_)
      refine ml_iinc (pc := 20) dX4_start_20 (mm_get_s mm_get_0) (congrArg (fun z => i1 + z) kc_1) (Nat.le_of_ble_eq_true rfl) mm_st1_r ?_
      refine mg_goto (pc := 23) 7 dX4_start_23 rfl ?_
      exact mg_weak (mm_le_s (mm_le_s mm_le_0)) (ih _ _ _ hr)
def X4_start (e : mm_E) (a0 : Nat) (m : mm_V) : Option mm_V := (mm_pf e.1 m 4 12 a0 11 (.int (0 : Int32))).bind fun m1 => X4_start_L7 e a0 e.2.2 (0 : Int32) m1
theorem X4_start_ok {K : mm_K} {nx : Option Nat} {e : mm_E} (hz : e.2.1 = K.2.2.2.2) {d : Nat} (hd : 2 ≤ d) {a0 : Nat} (h0 : e.1 a0 = some (4, 12)) {m : mm_V} {r : mm_V} (hr : X4_start e a0 m = some r) : mm_Cn K MX4_start d (mm_Fv e.1 nx r) [.ref a0] (e.1, m) nx := by
  obtain ⟨d, rfl⟩ : ∃ d', d = d' + 1 := ⟨d - 1, by omega⟩
  refine mm_entry (by decide) (Nat.le_of_ble_eq_true rfl) rfl (fun hok => ?_)
  unfold X4_start at hr
  refine mg_weak (L' := [some (.ref a0), none]) (mm_le_s (mm_le_e mm_le_0)) ?_
  refine ml_aload_n (pc := 0) dX4_start_0 rfl mm_get_0 ?_
  refine mg_iconst (pc := 1) dX4_start_1 kc_0 ?_
  refine mb_pi (pc := 2) dX4_start_2 fp_X4_106 hr (fun m1 hr => ?_)
  refine mg_iconst (pc := 5) dX4_start_5 kc_0 ?_
  refine ml_istore_n (pc := 6) dX4_start_6 rfl (Nat.le_of_ble_eq_true rfl) mm_st1_r ?_
  exact mg_weak (mm_le_s (mm_le_s mm_le_0)) (X4_start_L7_ok hz hd h0 _ _ _ _ hr)
theorem dX4_takeTold_0 : decode cX4_takeTold 0 = .ok (.iconst 0, 1) := by decide +kernel
theorem dX4_takeTold_1 : decode cX4_takeTold 1 = .ok (.istore_n 1, 1) := by decide +kernel
theorem dX4_takeTold_2 : decode cX4_takeTold 2 = .ok (.iload_n 1, 1) := by decide +kernel
theorem dX4_takeTold_3 : decode cX4_takeTold 3 = .ok (.bipush 6, 2) := by decide +kernel
theorem dX4_takeTold_5 : decode cX4_takeTold 5 = .ok (.if_icmp .ge 27, 3) := by decide +kernel
theorem dX4_takeTold_8 : decode cX4_takeTold 8 = .ok (.aload_n 0, 1) := by decide +kernel
theorem dX4_takeTold_9 : decode cX4_takeTold 9 = .ok (.getfield 11, 3) := by decide +kernel
theorem dX4_takeTold_12 : decode cX4_takeTold 12 = .ok (.iload_n 1, 1) := by decide +kernel
theorem dX4_takeTold_13 : decode cX4_takeTold 13 = .ok (.aaload, 1) := by decide +kernel
theorem dX4_takeTold_14 : decode cX4_takeTold 14 = .ok (.aload_n 0, 1) := by decide +kernel
theorem dX4_takeTold_15 : decode cX4_takeTold 15 = .ok (.getfield 35, 3) := by decide +kernel
theorem dX4_takeTold_18 : decode cX4_takeTold 18 = .ok (.getfield 50, 3) := by decide +kernel
theorem dX4_takeTold_21 : decode cX4_takeTold 21 = .ok (.iload_n 1, 1) := by decide +kernel
theorem dX4_takeTold_22 : decode cX4_takeTold 22 = .ok (.aaload, 1) := by decide +kernel
theorem dX4_takeTold_23 : decode cX4_takeTold 23 = .ok (.invokevirtual 53, 3) := by decide +kernel
theorem dX4_takeTold_26 : decode cX4_takeTold 26 = .ok (.iinc 1 1, 3) := by decide +kernel
theorem dX4_takeTold_29 : decode cX4_takeTold 29 = .ok (.goto (-27), 3) := by decide +kernel
theorem dX4_takeTold_32 : decode cX4_takeTold 32 = .ok (.aload_n 0, 1) := by decide +kernel
theorem dX4_takeTold_33 : decode cX4_takeTold 33 = .ok (.invokevirtual 57, 3) := by decide +kernel
theorem dX4_takeTold_36 : decode cX4_takeTold 36 = .ok (.return_, 1) := by decide +kernel
def X4_takeTold_L2 (e : mm_E) (a0 : Nat) : Nat → Int32 → mm_V → Option mm_V
  | 0, _, _ => none
  | n + 1, i1, m => if (6 : Int32) ≤ i1 then ((X4_start e a0 m).bind fun r1 => some r1) else ((mm_gr e.1 m 4 12 a0 0).bind fun c2 => (mm_aq e.1 m 23 c2 i1).bind fun c3 => (mm_gr e.1 m 4 12 a0 6).bind fun c4 => (mm_gr e.1 m 10 11 c4 0).bind fun c5 => (mm_aq e.1 m 23 c5 i1).bind fun c6 => if e.1 c3 = some (3, 2) then ((X3_copyFrom e c3 c6 m).bind fun r7 => X4_takeTold_L2 e a0 n (i1 + 1) r7) else none)
theorem X4_takeTold_L2_ok {K : mm_K} {nx : Option Nat} {e : mm_E} (hz : e.2.1 = K.2.2.2.2) {d : Nat} (hd : 3 ≤ d) {a0 : Nat} (h0 : e.1 a0 = some (4, 12)) : ∀ (n : Nat) (i1 : Int32) (m : mm_V) (r : mm_V), X4_takeTold_L2 e a0 n i1 m = some r → mm_G K MX4_takeTold d (mm_Fv e.1 nx r) 2 [some (.ref a0), some (.int i1)] [] (e.1, m) nx 0 0 := by
  obtain ⟨d, rfl⟩ : ∃ d', d = d' + 1 := ⟨d - 1, by omega⟩
  intro n
  induction n with
  | zero => intro i1 m r hr; unfold X4_takeTold_L2 at hr; cases hr
  | succ n ih =>
    intro i1 m r hr
    unfold X4_takeTold_L2 at hr
    refine ml_iload_n (pc := 2) dX4_takeTold_2 rfl (mm_get_s mm_get_0) ?_
    refine mg_bipush (pc := 3) dX4_takeTold_3 kb_6 ?_
    refine mb_icmp_ge (pc := 5) 32 dX4_takeTold_5 rfl hr (fun hr => ?_) (fun hr => ?_)
    · refine ml_aload_n (pc := 32) dX4_takeTold_32 rfl mm_get_0 ?_
      refine mb_cVv (pc := 33) (As := []) (rest := []) dX4_takeTold_33 cw_X4_57 h0 hr (fun v hv => X4_start_ok hz (by omega) h0 hv) rfl (Nat.le_of_ble_eq_true rfl) (Nat.zero_le _) (Nat.zero_le _) (fun r1 hr => ?_)
      exact mb_vret dX4_takeTold_36 rfl hr
    · refine ml_aload_n (pc := 8) dX4_takeTold_8 rfl mm_get_0 ?_
      refine mb_gr (pc := 9) dX4_takeTold_9 fl_X4_11 hr (fun c2 hr => ?_)
      refine ml_iload_n (pc := 12) dX4_takeTold_12 rfl (mm_get_s mm_get_0) ?_
      refine mb_aq (pc := 13) dX4_takeTold_13 (by decide) (by decide) hr (fun c3 hr => ?_)
      refine ml_aload_n (pc := 14) dX4_takeTold_14 rfl mm_get_0 ?_
      refine mb_gr (pc := 15) dX4_takeTold_15 fl_X4_35 hr (fun c4 hr => ?_)
      refine mb_gr (pc := 18) dX4_takeTold_18 fl_X4_50 hr (fun c5 hr => ?_)
      refine ml_iload_n (pc := 21) dX4_takeTold_21 rfl (mm_get_s mm_get_0) ?_
      refine mb_aq (pc := 22) dX4_takeTold_22 (by decide) (by decide) hr (fun c6 hr => ?_)
      refine mb_ck hr (fun hb8 hr => ?_)
      refine mb_cVv (pc := 23) (As := [.ref c6]) (rest := []) dX4_takeTold_23 cw_X4_53 hb8 hr (fun v hv => X3_copyFrom_ok hz (by omega) hb8 hv) rfl (Nat.le_of_ble_eq_true rfl) (Nat.zero_le _) (Nat.zero_le _) (fun r7 hr => ?_)
      refine ml_iinc (pc := 26) dX4_takeTold_26 (mm_get_s mm_get_0) (congrArg (fun z => i1 + z) kc_1) (Nat.le_of_ble_eq_true rfl) mm_st1_r ?_
      refine mg_goto (pc := 29) 2 dX4_takeTold_29 rfl ?_
      exact mg_weak (mm_le_s (mm_le_s mm_le_0)) (ih _ _ _ hr)
def X4_takeTold (e : mm_E) (a0 : Nat) (m : mm_V) : Option mm_V := X4_takeTold_L2 e a0 e.2.2 (0 : Int32) m
theorem X4_takeTold_ok {K : mm_K} {nx : Option Nat} {e : mm_E} (hz : e.2.1 = K.2.2.2.2) {d : Nat} (hd : 3 ≤ d) {a0 : Nat} (h0 : e.1 a0 = some (4, 12)) {m : mm_V} {r : mm_V} (hr : X4_takeTold e a0 m = some r) : mm_Cn K MX4_takeTold d (mm_Fv e.1 nx r) [.ref a0] (e.1, m) nx := by
  obtain ⟨d, rfl⟩ : ∃ d', d = d' + 1 := ⟨d - 1, by omega⟩
  refine mm_entry (by decide) (Nat.le_of_ble_eq_true rfl) rfl (fun hok => ?_)
  unfold X4_takeTold at hr
  refine mg_weak (L' := [some (.ref a0), none]) (mm_le_s (mm_le_e mm_le_0)) ?_
  refine mg_iconst (pc := 0) dX4_takeTold_0 kc_0 ?_
  refine ml_istore_n (pc := 1) dX4_takeTold_1 rfl (Nat.le_of_ble_eq_true rfl) mm_st1_r ?_
  exact mg_weak (mm_le_s (mm_le_s mm_le_0)) (X4_takeTold_L2_ok hz hd h0 _ _ _ _ hr)
theorem dJ9_min_7cf53_0 : decode cJ9_min_7cf53 0 = .ok (.iload_n 0, 1) := by decide +kernel
theorem dJ9_min_7cf53_1 : decode cJ9_min_7cf53 1 = .ok (.iload_n 1, 1) := by decide +kernel
theorem dJ9_min_7cf53_2 : decode cJ9_min_7cf53 2 = .ok (.if_icmp .gt 7, 3) := by decide +kernel
theorem dJ9_min_7cf53_5 : decode cJ9_min_7cf53 5 = .ok (.iload_n 0, 1) := by decide +kernel
theorem dJ9_min_7cf53_6 : decode cJ9_min_7cf53 6 = .ok (.goto 4, 3) := by decide +kernel
theorem dJ9_min_7cf53_9 : decode cJ9_min_7cf53 9 = .ok (.iload_n 1, 1) := by decide +kernel
theorem dJ9_min_7cf53_10 : decode cJ9_min_7cf53 10 = .ok (.ireturn, 1) := by decide +kernel
def J9_min_7cf53_b10 (e : mm_E) (t0 : Int32) (m : mm_V) : Option (Int32 × mm_V) := some (t0, m)
theorem J9_min_7cf53_b10_ok {K : mm_K} {nx : Option Nat} {e : mm_E} (hz : e.2.1 = K.2.2.2.2) {d : Nat} (hd : 0 ≤ d) {t0 : Int32} {m : mm_V} {r : (Int32 × mm_V)} (hr : J9_min_7cf53_b10 e t0 m = some r) : mm_G K MJ9_min_7cf53 d (mm_Fi e.1 nx r) 10 [none, none] [.int t0] (e.1, m) nx 0 0 := by
  unfold J9_min_7cf53_b10 at hr
  exact mb_iret dJ9_min_7cf53_10 rfl hr
def J9_min_7cf53 (e : mm_E) (i0 : Int32) (i1 : Int32) (m : mm_V) : Option (Int32 × mm_V) := if i1 < i0 then (J9_min_7cf53_b10 e  i1 m) else (J9_min_7cf53_b10 e  i0 m)
theorem J9_min_7cf53_ok {K : mm_K} {nx : Option Nat} {e : mm_E} (hz : e.2.1 = K.2.2.2.2) {d : Nat} (hd : 0 ≤ d) {i0 : Int32} {i1 : Int32} {m : mm_V} {r : (Int32 × mm_V)} (hr : J9_min_7cf53 e i0 i1 m = some r) : mm_Cn K MJ9_min_7cf53 d (mm_Fi e.1 nx r) [.int i0, .int i1] (e.1, m) nx := by
  refine mm_entryF (by decide +kernel) (Nat.le_of_ble_eq_true rfl) rfl (fun hok => ?_)
  unfold J9_min_7cf53 at hr
  refine mg_weak (L' := [some (.int i0), some (.int i1)]) (mm_le_s (mm_le_s mm_le_0)) ?_
  refine ml_iload_n (pc := 0) dJ9_min_7cf53_0 rfl mm_get_0 ?_
  refine ml_iload_n (pc := 1) dJ9_min_7cf53_1 rfl (mm_get_s mm_get_0) ?_
  refine mb_icmp_gt (pc := 2) 9 dJ9_min_7cf53_2 rfl hr (fun hr => ?_) (fun hr => ?_)
  · refine ml_iload_n (pc := 9) dJ9_min_7cf53_9 rfl (mm_get_s mm_get_0) ?_
    exact mg_weak (mm_le_n (mm_le_n mm_le_0)) (J9_min_7cf53_b10_ok hz hd hr)
  · refine ml_iload_n (pc := 5) dJ9_min_7cf53_5 rfl mm_get_0 ?_
    refine mg_goto (pc := 6) 10 dJ9_min_7cf53_6 rfl ?_
    exact mg_weak (mm_le_n (mm_le_n mm_le_0)) (J9_min_7cf53_b10_ok hz hd hr)
theorem dX4_drawOf_0 : decode cX4_drawOf 0 = .ok (.aload_n 0, 1) := by decide +kernel
theorem dX4_drawOf_1 : decode cX4_drawOf 1 = .ok (.aload_n 0, 1) := by decide +kernel
theorem dX4_drawOf_2 : decode cX4_drawOf 2 = .ok (.getfield 60, 3) := by decide +kernel
theorem dX4_drawOf_5 : decode cX4_drawOf 5 = .ok (.ldc 101, 2) := by decide +kernel
theorem dX4_drawOf_7 : decode cX4_drawOf 7 = .ok (.imul, 1) := by decide +kernel
theorem dX4_drawOf_8 : decode cX4_drawOf 8 = .ok (.sipush 12345, 3) := by decide +kernel
theorem dX4_drawOf_11 : decode cX4_drawOf 11 = .ok (.iadd, 1) := by decide +kernel
theorem dX4_drawOf_12 : decode cX4_drawOf 12 = .ok (.putfield 60, 3) := by decide +kernel
theorem dX4_drawOf_15 : decode cX4_drawOf 15 = .ok (.iload_n 1, 1) := by decide +kernel
theorem dX4_drawOf_16 : decode cX4_drawOf 16 = .ok (.ifCond .le 19, 3) := by decide +kernel
theorem dX4_drawOf_19 : decode cX4_drawOf 19 = .ok (.aload_n 0, 1) := by decide +kernel
theorem dX4_drawOf_20 : decode cX4_drawOf 20 = .ok (.getfield 60, 3) := by decide +kernel
theorem dX4_drawOf_23 : decode cX4_drawOf 23 = .ok (.bipush 16, 2) := by decide +kernel
theorem dX4_drawOf_25 : decode cX4_drawOf 25 = .ok (.iushr, 1) := by decide +kernel
theorem dX4_drawOf_26 : decode cX4_drawOf 26 = .ok (.sipush 32767, 3) := by decide +kernel
theorem dX4_drawOf_29 : decode cX4_drawOf 29 = .ok (.iand, 1) := by decide +kernel
theorem dX4_drawOf_30 : decode cX4_drawOf 30 = .ok (.iload_n 1, 1) := by decide +kernel
theorem dX4_drawOf_31 : decode cX4_drawOf 31 = .ok (.irem, 1) := by decide +kernel
theorem dX4_drawOf_32 : decode cX4_drawOf 32 = .ok (.goto 4, 3) := by decide +kernel
theorem dX4_drawOf_35 : decode cX4_drawOf 35 = .ok (.iconst 0, 1) := by decide +kernel
theorem dX4_drawOf_36 : decode cX4_drawOf 36 = .ok (.ireturn, 1) := by decide +kernel
def X4_drawOf_b36 (e : mm_E) (t0 : Int32) (m : mm_V) : Option (Int32 × mm_V) := some (t0, m)
theorem X4_drawOf_b36_ok {K : mm_K} {nx : Option Nat} {e : mm_E} (hz : e.2.1 = K.2.2.2.2) {d : Nat} (hd : 0 ≤ d) {t0 : Int32} {a0 : Nat} (h0 : e.1 a0 = some (4, 12)) {m : mm_V} {r : (Int32 × mm_V)} (hr : X4_drawOf_b36 e t0 m = some r) : mm_G K MX4_drawOf d (mm_Fi e.1 nx r) 36 [none, none] [.int t0] (e.1, m) nx 0 0 := by
  unfold X4_drawOf_b36 at hr
  exact mb_iret dX4_drawOf_36 rfl hr
def X4_drawOf (e : mm_E) (a0 : Nat) (i1 : Int32) (m : mm_V) : Option (Int32 × mm_V) := (mm_gi e.1 m 4 12 a0 9).bind fun x1 => (mm_pf e.1 m 4 12 a0 9 (.int ((x1 * (1103515245 : Int32)) + (12345 : Int32)))).bind fun m2 => if i1 ≤ 0 then (X4_drawOf_b36 e  (0 : Int32) m2) else ((mm_gi e.1 m2 4 12 a0 9).bind fun x3 => if i1 = 0 then none else X4_drawOf_b36 e  ((((x3.toUInt32 >>> ((16 : Int32).toUInt32 &&& Int32.toUInt32 31)).toInt32) &&& (32767 : Int32)) - (((x3.toUInt32 >>> ((16 : Int32).toUInt32 &&& Int32.toUInt32 31)).toInt32) &&& (32767 : Int32)) / i1 * i1) m2)
theorem X4_drawOf_ok {K : mm_K} {nx : Option Nat} {e : mm_E} (hz : e.2.1 = K.2.2.2.2) {d : Nat} (hd : 0 ≤ d) {a0 : Nat} {i1 : Int32} (h0 : e.1 a0 = some (4, 12)) {m : mm_V} {r : (Int32 × mm_V)} (hr : X4_drawOf e a0 i1 m = some r) : mm_Cn K MX4_drawOf d (mm_Fi e.1 nx r) [.ref a0, .int i1] (e.1, m) nx := by
  refine mm_entry (by decide) (Nat.le_of_ble_eq_true rfl) rfl (fun hok => ?_)
  unfold X4_drawOf at hr
  refine mg_weak (L' := [some (.ref a0), some (.int i1)]) (mm_le_s (mm_le_s mm_le_0)) ?_
  refine ml_aload_n (pc := 0) dX4_drawOf_0 rfl mm_get_0 ?_
  refine ml_aload_n (pc := 1) dX4_drawOf_1 rfl mm_get_0 ?_
  refine mb_gi (pc := 2) dX4_drawOf_2 fl_X4_60 hr (fun x1 hr => ?_)
  refine mg_ldc (pc := 5) dX4_drawOf_5 (v := (1103515245 : Int32)) tw_515 ?_
  refine mg_imul (pc := 7) dX4_drawOf_7 ?_
  refine mg_sipush (pc := 8) dX4_drawOf_8 ks_12345 ?_
  refine mg_iadd (pc := 11) dX4_drawOf_11 ?_
  refine mb_pi (pc := 12) dX4_drawOf_12 fp_X4_60 hr (fun m2 hr => ?_)
  refine ml_iload_n (pc := 15) dX4_drawOf_15 rfl (mm_get_s mm_get_0) ?_
  refine mb_if_le (pc := 16) 35 dX4_drawOf_16 rfl hr (fun hr => ?_) (fun hr => ?_)
  · refine mg_iconst (pc := 35) dX4_drawOf_35 kc_0 ?_
    exact mg_weak (mm_le_n (mm_le_n mm_le_0)) (X4_drawOf_b36_ok hz hd h0 hr)
  · refine ml_aload_n (pc := 19) dX4_drawOf_19 rfl mm_get_0 ?_
    refine mb_gi (pc := 20) dX4_drawOf_20 fl_X4_60 hr (fun x3 hr => ?_)
    refine mg_bipush (pc := 23) dX4_drawOf_23 kb_16 ?_
    refine mg_iushr (pc := 25) dX4_drawOf_25 ?_
    refine mg_sipush (pc := 26) dX4_drawOf_26 ks_32767 ?_
    refine mg_iand (pc := 29) dX4_drawOf_29 ?_
    refine ml_iload_n (pc := 30) dX4_drawOf_30 rfl (mm_get_s mm_get_0) ?_
    refine mb_irem (pc := 31) dX4_drawOf_31 hr (fun hr => ?_)
    refine mg_goto (pc := 32) 36 dX4_drawOf_32 rfl ?_
    exact mg_weak (mm_le_n (mm_le_n mm_le_0)) (X4_drawOf_b36_ok hz hd h0 hr)
theorem dX4_dealTo_0 : decode cX4_dealTo 0 = .ok (.aload_n 1, 1) := by decide +kernel
theorem dX4_dealTo_1 : decode cX4_dealTo 1 = .ok (.iload_n 2, 1) := by decide +kernel
theorem dX4_dealTo_2 : decode cX4_dealTo 2 = .ok (.invokevirtual 87, 3) := by decide +kernel
theorem dX4_dealTo_5 : decode cX4_dealTo 5 = .ok (.istore_n 3, 1) := by decide +kernel
theorem dX4_dealTo_6 : decode cX4_dealTo 6 = .ok (.iload_n 3, 1) := by decide +kernel
theorem dX4_dealTo_7 : decode cX4_dealTo 7 = .ok (.iconst (-1), 1) := by decide +kernel
theorem dX4_dealTo_8 : decode cX4_dealTo 8 = .ok (.if_icmp .ne 15, 3) := by decide +kernel
theorem dX4_dealTo_11 : decode cX4_dealTo 11 = .ok (.aload_n 1, 1) := by decide +kernel
theorem dX4_dealTo_12 : decode cX4_dealTo 12 = .ok (.aload_n 1, 1) := by decide +kernel
theorem dX4_dealTo_13 : decode cX4_dealTo 13 = .ok (.getfield 90, 3) := by decide +kernel
theorem dX4_dealTo_16 : decode cX4_dealTo 16 = .ok (.iload_n 2, 1) := by decide +kernel
theorem dX4_dealTo_17 : decode cX4_dealTo 17 = .ok (.invokevirtual 93, 3) := by decide +kernel
theorem dX4_dealTo_20 : decode cX4_dealTo 20 = .ok (.goto 8, 3) := by decide +kernel
theorem dX4_dealTo_23 : decode cX4_dealTo 23 = .ok (.aload_n 1, 1) := by decide +kernel
theorem dX4_dealTo_24 : decode cX4_dealTo 24 = .ok (.iload_n 3, 1) := by decide +kernel
theorem dX4_dealTo_25 : decode cX4_dealTo 25 = .ok (.invokevirtual 97, 3) := by decide +kernel
theorem dX4_dealTo_28 : decode cX4_dealTo 28 = .ok (.return_, 1) := by decide +kernel
def X4_dealTo_b28 (e : mm_E) (m : mm_V) : Option mm_V := some m
theorem X4_dealTo_b28_ok {K : mm_K} {nx : Option Nat} {e : mm_E} (hz : e.2.1 = K.2.2.2.2) {d : Nat} (hd : 1 ≤ d) {a0 : Nat} (h0 : e.1 a0 = some (4, 12)) {m : mm_V} {r : mm_V} (hr : X4_dealTo_b28 e m = some r) : mm_G K MX4_dealTo d (mm_Fv e.1 nx r) 28 [none, none, none, none] [] (e.1, m) nx 0 0 := by
  obtain ⟨d, rfl⟩ : ∃ d', d = d' + 1 := ⟨d - 1, by omega⟩
  unfold X4_dealTo_b28 at hr
  exact mb_vret dX4_dealTo_28 rfl hr
def X4_dealTo (e : mm_E) (a0 : Nat) (a1 : Nat) (i2 : Int32) (m : mm_V) : Option mm_V := if e.1 a1 = some (3, 2) then ((X3_placeOf e a1 i2 m).bind fun r1 => if ¬ r1.1 = (-1 : Int32) then (if e.1 a1 = some (3, 2) then ((X3_takeOut e a1 r1.1 r1.2).bind fun r3 => X4_dealTo_b28 e   r3) else none) else ((mm_gi e.1 r1.2 3 2 a1 1).bind fun x5 => if e.1 a1 = some (3, 2) then ((X3_putIn e a1 x5 i2 r1.2).bind fun r6 => X4_dealTo_b28 e   r6) else none)) else none
theorem X4_dealTo_ok {K : mm_K} {nx : Option Nat} {e : mm_E} (hz : e.2.1 = K.2.2.2.2) {d : Nat} (hd : 1 ≤ d) {a0 : Nat} {a1 : Nat} {i2 : Int32} (h0 : e.1 a0 = some (4, 12)) {m : mm_V} {r : mm_V} (hr : X4_dealTo e a0 a1 i2 m = some r) : mm_Cn K MX4_dealTo d (mm_Fv e.1 nx r) [.ref a0, .ref a1, .int i2] (e.1, m) nx := by
  obtain ⟨d, rfl⟩ : ∃ d', d = d' + 1 := ⟨d - 1, by omega⟩
  refine mm_entry (by decide) (Nat.le_of_ble_eq_true rfl) rfl (fun hok => ?_)
  unfold X4_dealTo at hr
  refine mg_weak (L' := [some (.ref a0), some (.ref a1), some (.int i2), none]) (mm_le_s (mm_le_s (mm_le_s (mm_le_e mm_le_0)))) ?_
  refine ml_aload_n (pc := 0) dX4_dealTo_0 rfl (mm_get_s mm_get_0) ?_
  refine ml_iload_n (pc := 1) dX4_dealTo_1 rfl (mm_get_s (mm_get_s mm_get_0)) ?_
  refine mb_ck hr (fun hb2 hr => ?_)
  refine mb_cVi (pc := 2) (As := [.int i2]) (rest := []) dX4_dealTo_2 cw_X4_87 hb2 hr (fun v hv => X3_placeOf_ok hz (by omega) hb2 hv) rfl (Nat.le_of_ble_eq_true rfl) (Nat.zero_le _) (Nat.zero_le _) (fun r1 hr => ?_)
  refine ml_istore_n (pc := 5) dX4_dealTo_5 rfl (Nat.le_of_ble_eq_true rfl) (mm_st1_s (mm_st1_s mm_st1_i)) ?_
  refine ml_iload_n (pc := 6) dX4_dealTo_6 rfl (mm_get_s (mm_get_s (mm_get_s mm_get_0))) ?_
  refine mg_iconst (pc := 7) dX4_dealTo_7 kc_m1 ?_
  refine mb_icmp_ne (pc := 8) 23 dX4_dealTo_8 rfl hr (fun hr => ?_) (fun hr => ?_)
  · refine ml_aload_n (pc := 23) dX4_dealTo_23 rfl (mm_get_s mm_get_0) ?_
    refine ml_iload_n (pc := 24) dX4_dealTo_24 rfl (mm_get_s (mm_get_s (mm_get_s mm_get_0))) ?_
    refine mb_ck hr (fun hb4 hr => ?_)
    refine mb_cVv (pc := 25) (As := [.int r1.1]) (rest := []) dX4_dealTo_25 cw_X4_97 hb4 hr (fun v hv => X3_takeOut_ok hz (by omega) hb4 hv) rfl (Nat.le_of_ble_eq_true rfl) (Nat.zero_le _) (Nat.zero_le _) (fun r3 hr => ?_)
    exact mg_weak (mm_le_n (mm_le_n (mm_le_n (mm_le_n mm_le_0)))) (X4_dealTo_b28_ok hz hd h0 hr)
  · refine ml_aload_n (pc := 11) dX4_dealTo_11 rfl (mm_get_s mm_get_0) ?_
    refine ml_aload_n (pc := 12) dX4_dealTo_12 rfl (mm_get_s mm_get_0) ?_
    refine mb_gi (pc := 13) dX4_dealTo_13 fl_X4_90 hr (fun x5 hr => ?_)
    refine ml_iload_n (pc := 16) dX4_dealTo_16 rfl (mm_get_s (mm_get_s mm_get_0)) ?_
    refine mb_ck hr (fun hb7 hr => ?_)
    refine mb_cVv (pc := 17) (As := [.int x5, .int i2]) (rest := []) dX4_dealTo_17 cw_X4_93 hb7 hr (fun v hv => X3_putIn_ok hz (by omega) hb7 hv) rfl (Nat.le_of_ble_eq_true rfl) (Nat.zero_le _) (Nat.zero_le _) (fun r6 hr => ?_)
    refine mg_goto (pc := 20) 28 dX4_dealTo_20 rfl ?_
    exact mg_weak (mm_le_n (mm_le_n (mm_le_n (mm_le_n mm_le_0)))) (X4_dealTo_b28_ok hz hd h0 hr)
theorem dX4_deal_0 : decode cX4_deal 0 = .ok (.aload_n 0, 1) := by decide +kernel
theorem dX4_deal_1 : decode cX4_deal 1 = .ok (.iload_n 1, 1) := by decide +kernel
theorem dX4_deal_2 : decode cX4_deal 2 = .ok (.putfield 60, 3) := by decide +kernel
theorem dX4_deal_5 : decode cX4_deal 5 = .ok (.iconst 2, 1) := by decide +kernel
theorem dX4_deal_6 : decode cX4_deal 6 = .ok (.aload_n 0, 1) := by decide +kernel
theorem dX4_deal_7 : decode cX4_deal 7 = .ok (.getfield 35, 3) := by decide +kernel
theorem dX4_deal_10 : decode cX4_deal 10 = .ok (.getfield 63, 3) := by decide +kernel
theorem dX4_deal_13 : decode cX4_deal 13 = .ok (.imul, 1) := by decide +kernel
theorem dX4_deal_14 : decode cX4_deal 14 = .ok (.iconst 1, 1) := by decide +kernel
theorem dX4_deal_15 : decode cX4_deal 15 = .ok (.iadd, 1) := by decide +kernel
theorem dX4_deal_16 : decode cX4_deal 16 = .ok (.bipush 19, 2) := by decide +kernel
theorem dX4_deal_18 : decode cX4_deal 18 = .ok (.invokestatic 66, 3) := by decide +kernel
theorem dX4_deal_21 : decode cX4_deal 21 = .ok (.istore_n 2, 1) := by decide +kernel
theorem dX4_deal_22 : decode cX4_deal 22 = .ok (.iconst 0, 1) := by decide +kernel
theorem dX4_deal_23 : decode cX4_deal 23 = .ok (.istore_n 3, 1) := by decide +kernel
theorem dX4_deal_24 : decode cX4_deal 24 = .ok (.iload_n 3, 1) := by decide +kernel
theorem dX4_deal_25 : decode cX4_deal 25 = .ok (.iload_n 2, 1) := by decide +kernel
theorem dX4_deal_26 : decode cX4_deal 26 = .ok (.if_icmp .ge 31, 3) := by decide +kernel
theorem dX4_deal_29 : decode cX4_deal 29 = .ok (.aload_n 0, 1) := by decide +kernel
theorem dX4_deal_30 : decode cX4_deal 30 = .ok (.getfield 32, 3) := by decide +kernel
theorem dX4_deal_33 : decode cX4_deal 33 = .ok (.iload_n 3, 1) := by decide +kernel
theorem dX4_deal_34 : decode cX4_deal 34 = .ok (.iload_n 3, 1) := by decide +kernel
theorem dX4_deal_35 : decode cX4_deal 35 = .ok (.iconst 1, 1) := by decide +kernel
theorem dX4_deal_36 : decode cX4_deal 36 = .ok (.iadd, 1) := by decide +kernel
theorem dX4_deal_37 : decode cX4_deal 37 = .ok (.iload_n 2, 1) := by decide +kernel
theorem dX4_deal_38 : decode cX4_deal 38 = .ok (.if_icmp .ge 11, 3) := by decide +kernel
theorem dX4_deal_41 : decode cX4_deal 41 = .ok (.iload_n 3, 1) := by decide +kernel
theorem dX4_deal_42 : decode cX4_deal 42 = .ok (.iconst 2, 1) := by decide +kernel
theorem dX4_deal_43 : decode cX4_deal 43 = .ok (.idiv, 1) := by decide +kernel
theorem dX4_deal_44 : decode cX4_deal 44 = .ok (.iconst 1, 1) := by decide +kernel
theorem dX4_deal_45 : decode cX4_deal 45 = .ok (.iadd, 1) := by decide +kernel
theorem dX4_deal_46 : decode cX4_deal 46 = .ok (.goto 4, 3) := by decide +kernel
theorem dX4_deal_49 : decode cX4_deal 49 = .ok (.iconst 0, 1) := by decide +kernel
theorem dX4_deal_50 : decode cX4_deal 50 = .ok (.iastore, 1) := by decide +kernel
theorem dX4_deal_51 : decode cX4_deal 51 = .ok (.iinc 3 1, 3) := by decide +kernel
theorem dX4_deal_54 : decode cX4_deal 54 = .ok (.goto (-30), 3) := by decide +kernel
theorem dX4_deal_57 : decode cX4_deal 57 = .ok (.iload_n 2, 1) := by decide +kernel
theorem dX4_deal_58 : decode cX4_deal 58 = .ok (.iconst 1, 1) := by decide +kernel
theorem dX4_deal_59 : decode cX4_deal 59 = .ok (.isub, 1) := by decide +kernel
theorem dX4_deal_60 : decode cX4_deal 60 = .ok (.istore_n 3, 1) := by decide +kernel
theorem dX4_deal_61 : decode cX4_deal 61 = .ok (.iload_n 3, 1) := by decide +kernel
theorem dX4_deal_62 : decode cX4_deal 62 = .ok (.iconst 1, 1) := by decide +kernel
theorem dX4_deal_63 : decode cX4_deal 63 = .ok (.if_icmp .lt 59, 3) := by decide +kernel
theorem dX4_deal_66 : decode cX4_deal 66 = .ok (.aload_n 0, 1) := by decide +kernel
theorem dX4_deal_67 : decode cX4_deal 67 = .ok (.iload_n 3, 1) := by decide +kernel
theorem dX4_deal_68 : decode cX4_deal 68 = .ok (.iconst 1, 1) := by decide +kernel
theorem dX4_deal_69 : decode cX4_deal 69 = .ok (.iadd, 1) := by decide +kernel
theorem dX4_deal_70 : decode cX4_deal 70 = .ok (.invokevirtual 72, 3) := by decide +kernel
theorem dX4_deal_73 : decode cX4_deal 73 = .ok (.istore 4, 2) := by decide +kernel
theorem dX4_deal_75 : decode cX4_deal 75 = .ok (.iload 4, 2) := by decide +kernel
theorem dX4_deal_77 : decode cX4_deal 77 = .ok (.ifCond .lt 39, 3) := by decide +kernel
theorem dX4_deal_80 : decode cX4_deal 80 = .ok (.iload 4, 2) := by decide +kernel
theorem dX4_deal_82 : decode cX4_deal 82 = .ok (.iload_n 2, 1) := by decide +kernel
theorem dX4_deal_83 : decode cX4_deal 83 = .ok (.if_icmp .ge 33, 3) := by decide +kernel
theorem dX4_deal_86 : decode cX4_deal 86 = .ok (.aload_n 0, 1) := by decide +kernel
theorem dX4_deal_87 : decode cX4_deal 87 = .ok (.getfield 32, 3) := by decide +kernel
theorem dX4_deal_90 : decode cX4_deal 90 = .ok (.iload_n 3, 1) := by decide +kernel
theorem dX4_deal_91 : decode cX4_deal 91 = .ok (.iaload, 1) := by decide +kernel
theorem dX4_deal_92 : decode cX4_deal 92 = .ok (.istore 5, 2) := by decide +kernel
theorem dX4_deal_94 : decode cX4_deal 94 = .ok (.aload_n 0, 1) := by decide +kernel
theorem dX4_deal_95 : decode cX4_deal 95 = .ok (.getfield 32, 3) := by decide +kernel
theorem dX4_deal_98 : decode cX4_deal 98 = .ok (.iload_n 3, 1) := by decide +kernel
theorem dX4_deal_99 : decode cX4_deal 99 = .ok (.aload_n 0, 1) := by decide +kernel
theorem dX4_deal_100 : decode cX4_deal 100 = .ok (.getfield 32, 3) := by decide +kernel
theorem dX4_deal_103 : decode cX4_deal 103 = .ok (.iload 4, 2) := by decide +kernel
theorem dX4_deal_105 : decode cX4_deal 105 = .ok (.iaload, 1) := by decide +kernel
theorem dX4_deal_106 : decode cX4_deal 106 = .ok (.iastore, 1) := by decide +kernel
theorem dX4_deal_107 : decode cX4_deal 107 = .ok (.aload_n 0, 1) := by decide +kernel
theorem dX4_deal_108 : decode cX4_deal 108 = .ok (.getfield 32, 3) := by decide +kernel
theorem dX4_deal_111 : decode cX4_deal 111 = .ok (.iload 4, 2) := by decide +kernel
theorem dX4_deal_113 : decode cX4_deal 113 = .ok (.iload 5, 2) := by decide +kernel
theorem dX4_deal_115 : decode cX4_deal 115 = .ok (.iastore, 1) := by decide +kernel
theorem dX4_deal_116 : decode cX4_deal 116 = .ok (.iinc 3 (-1), 3) := by decide +kernel
theorem dX4_deal_119 : decode cX4_deal 119 = .ok (.goto (-58), 3) := by decide +kernel
theorem dX4_deal_122 : decode cX4_deal 122 = .ok (.iconst 0, 1) := by decide +kernel
theorem dX4_deal_123 : decode cX4_deal 123 = .ok (.istore_n 3, 1) := by decide +kernel
theorem dX4_deal_124 : decode cX4_deal 124 = .ok (.iconst 0, 1) := by decide +kernel
theorem dX4_deal_125 : decode cX4_deal 125 = .ok (.istore 4, 2) := by decide +kernel
theorem dX4_deal_127 : decode cX4_deal 127 = .ok (.iload 4, 2) := by decide +kernel
theorem dX4_deal_129 : decode cX4_deal 129 = .ok (.iload_n 2, 1) := by decide +kernel
theorem dX4_deal_130 : decode cX4_deal 130 = .ok (.if_icmp .ge 46, 3) := by decide +kernel
theorem dX4_deal_133 : decode cX4_deal 133 = .ok (.aload_n 0, 1) := by decide +kernel
theorem dX4_deal_134 : decode cX4_deal 134 = .ok (.aload_n 0, 1) := by decide +kernel
theorem dX4_deal_135 : decode cX4_deal 135 = .ok (.iload_n 3, 1) := by decide +kernel
theorem dX4_deal_136 : decode cX4_deal 136 = .ok (.invokevirtual 76, 3) := by decide +kernel
theorem dX4_deal_139 : decode cX4_deal 139 = .ok (.aload_n 0, 1) := by decide +kernel
theorem dX4_deal_140 : decode cX4_deal 140 = .ok (.getfield 32, 3) := by decide +kernel
theorem dX4_deal_143 : decode cX4_deal 143 = .ok (.iload 4, 2) := by decide +kernel
theorem dX4_deal_145 : decode cX4_deal 145 = .ok (.iaload, 1) := by decide +kernel
theorem dX4_deal_146 : decode cX4_deal 146 = .ok (.invokevirtual 80, 3) := by decide +kernel
theorem dX4_deal_149 : decode cX4_deal 149 = .ok (.iload_n 3, 1) := by decide +kernel
theorem dX4_deal_150 : decode cX4_deal 150 = .ok (.iconst 1, 1) := by decide +kernel
theorem dX4_deal_151 : decode cX4_deal 151 = .ok (.iadd, 1) := by decide +kernel
theorem dX4_deal_152 : decode cX4_deal 152 = .ok (.aload_n 0, 1) := by decide +kernel
theorem dX4_deal_153 : decode cX4_deal 153 = .ok (.getfield 35, 3) := by decide +kernel
theorem dX4_deal_156 : decode cX4_deal 156 = .ok (.getfield 84, 3) := by decide +kernel
theorem dX4_deal_159 : decode cX4_deal 159 = .ok (.if_icmp .ge 9, 3) := by decide +kernel
theorem dX4_deal_162 : decode cX4_deal 162 = .ok (.iload_n 3, 1) := by decide +kernel
theorem dX4_deal_163 : decode cX4_deal 163 = .ok (.iconst 1, 1) := by decide +kernel
theorem dX4_deal_164 : decode cX4_deal 164 = .ok (.iadd, 1) := by decide +kernel
theorem dX4_deal_165 : decode cX4_deal 165 = .ok (.goto 4, 3) := by decide +kernel
theorem dX4_deal_168 : decode cX4_deal 168 = .ok (.iconst 0, 1) := by decide +kernel
theorem dX4_deal_169 : decode cX4_deal 169 = .ok (.istore_n 3, 1) := by decide +kernel
theorem dX4_deal_170 : decode cX4_deal 170 = .ok (.iinc 4 1, 3) := by decide +kernel
theorem dX4_deal_173 : decode cX4_deal 173 = .ok (.goto (-46), 3) := by decide +kernel
theorem dX4_deal_176 : decode cX4_deal 176 = .ok (.aload_n 0, 1) := by decide +kernel
theorem dX4_deal_177 : decode cX4_deal 177 = .ok (.invokevirtual 57, 3) := by decide +kernel
theorem dX4_deal_180 : decode cX4_deal 180 = .ok (.return_, 1) := by decide +kernel
def X4_deal_b169 (e : mm_E) (k127 : Int32 → Int32 → mm_V → Option mm_V) (a0 : Nat) (i2 : Int32) (i4 : Int32) (t0 : Int32) (m : mm_V) : Option mm_V := k127 t0 (i4 + 1) m
theorem X4_deal_b169_ok {K : mm_K} {nx : Option Nat} {e : mm_E} (hz : e.2.1 = K.2.2.2.2) {d : Nat} (hd : 3 ≤ d) {a0 : Nat} {i2 : Int32} {i4 : Int32} {t0 : Int32} (h0 : e.1 a0 = some (4, 12)) {k127 : Int32 → Int32 → mm_V → Option mm_V} (hk127 : ∀ (w3 : Int32) (w4 : Int32) (m : mm_V) (r : mm_V), k127 w3 w4 m = some r → mm_G K MX4_deal d (mm_Fv e.1 nx r) 127 [some (.ref a0), none, some (.int i2), some (.int w3), some (.int w4), none] [] (e.1, m) nx 0 0) {m : mm_V} {r : mm_V} (hr : X4_deal_b169 e k127 a0 i2 i4 t0 m = some r) : mm_G K MX4_deal d (mm_Fv e.1 nx r) 169 [some (.ref a0), none, some (.int i2), none, some (.int i4), none] [.int t0] (e.1, m) nx 0 0 := by
  obtain ⟨d, rfl⟩ : ∃ d', d = d' + 1 := ⟨d - 1, by omega⟩
  unfold X4_deal_b169 at hr
  refine ml_istore_n (pc := 169) dX4_deal_169 rfl (Nat.le_of_ble_eq_true rfl) (mm_st1_s (mm_st1_s mm_st1_i)) ?_
  refine ml_iinc (pc := 170) dX4_deal_170 (mm_get_s (mm_get_s (mm_get_s (mm_get_s mm_get_0)))) (congrArg (fun z => i4 + z) kc_1) (Nat.le_of_ble_eq_true rfl) (mm_st1_s (mm_st1_s (mm_st1_s mm_st1_i))) ?_
  refine mg_goto (pc := 173) 127 dX4_deal_173 rfl ?_
  exact mg_weak (mm_le_s (mm_le_n (mm_le_s (mm_le_s (mm_le_s (mm_le_n mm_le_0)))))) (hk127 _ _ _ _ hr)
def X4_deal_L127 (e : mm_E) (a0 : Nat) (i2 : Int32) : Nat → Int32 → Int32 → mm_V → Option mm_V
  | 0, _, _, _ => none
  | n + 1, i3, i4, m => if i2 ≤ i4 then ((X4_start e a0 m).bind fun r1 => some r1) else ((X4_fanAt e a0 i3 m).bind fun r2 => (mm_gr e.1 r2.2 4 12 a0 5).bind fun c3 => (mm_ai e.1 r2.2 20 c3 i4).bind fun x4 => (X4_dealTo e a0 r2.1 x4 r2.2).bind fun r5 => (mm_gr e.1 r5 4 12 a0 6).bind fun c6 => (mm_gi e.1 r5 10 11 c6 6).bind fun x7 => if x7 ≤ (i3 + (1 : Int32)) then (X4_deal_b169 e (X4_deal_L127 e a0 i2 n) a0 i2 i4 (0 : Int32) r5) else (X4_deal_b169 e (X4_deal_L127 e a0 i2 n) a0 i2 i4 (i3 + (1 : Int32)) r5))
theorem X4_deal_L127_ok {K : mm_K} {nx : Option Nat} {e : mm_E} (hz : e.2.1 = K.2.2.2.2) {d : Nat} (hd : 3 ≤ d) {a0 : Nat} {i2 : Int32} (h0 : e.1 a0 = some (4, 12)) : ∀ (n : Nat) (i3 : Int32) (i4 : Int32) (m : mm_V) (r : mm_V), X4_deal_L127 e a0 i2 n i3 i4 m = some r → mm_G K MX4_deal d (mm_Fv e.1 nx r) 127 [some (.ref a0), none, some (.int i2), some (.int i3), some (.int i4), none] [] (e.1, m) nx 0 0 := by
  obtain ⟨d, rfl⟩ : ∃ d', d = d' + 1 := ⟨d - 1, by omega⟩
  intro n
  induction n with
  | zero => intro i3 i4 m r hr; unfold X4_deal_L127 at hr; cases hr
  | succ n ih =>
    intro i3 i4 m r hr
    unfold X4_deal_L127 at hr
    refine ml_iload (pc := 127) dX4_deal_127 (mm_get_s (mm_get_s (mm_get_s (mm_get_s mm_get_0)))) ?_
    refine ml_iload_n (pc := 129) dX4_deal_129 rfl (mm_get_s (mm_get_s mm_get_0)) ?_
    refine mb_icmp_ge (pc := 130) 176 dX4_deal_130 rfl hr (fun hr => ?_) (fun hr => ?_)
    · refine ml_aload_n (pc := 176) dX4_deal_176 rfl mm_get_0 ?_
      refine mb_cVv (pc := 177) (As := []) (rest := []) dX4_deal_177 cw_X4_57 h0 hr (fun v hv => X4_start_ok hz (by omega) h0 hv) rfl (Nat.le_of_ble_eq_true rfl) (Nat.zero_le _) (Nat.zero_le _) (fun r1 hr => ?_)
      exact mb_vret dX4_deal_180 rfl hr
    · refine ml_aload_n (pc := 133) dX4_deal_133 rfl mm_get_0 ?_
      refine ml_aload_n (pc := 134) dX4_deal_134 rfl mm_get_0 ?_
      refine ml_iload_n (pc := 135) dX4_deal_135 rfl (mm_get_s (mm_get_s (mm_get_s mm_get_0))) ?_
      refine mb_cVr (pc := 136) (As := [.int i3]) (rest := [.ref a0]) dX4_deal_136 cw_X4_76 h0 hr (fun v hv => X4_fanAt_ok hz (by omega) h0 hv) rfl (Nat.le_of_ble_eq_true rfl) (Nat.zero_le _) (Nat.zero_le _) (fun r2 hr => ?_)
      refine ml_aload_n (pc := 139) dX4_deal_139 rfl mm_get_0 ?_
      refine mb_gr (pc := 140) dX4_deal_140 fl_X4_32 hr (fun c3 hr => ?_)
      refine ml_iload (pc := 143) dX4_deal_143 (mm_get_s (mm_get_s (mm_get_s (mm_get_s mm_get_0)))) ?_
      refine mb_ai (pc := 145) dX4_deal_145 hr (fun x4 hr => ?_)
      refine mb_cVv (pc := 146) (As := [.ref r2.1, .int x4]) (rest := []) dX4_deal_146 cw_X4_80 h0 hr (fun v hv => X4_dealTo_ok hz (by omega) h0 hv) rfl (Nat.le_of_ble_eq_true rfl) (Nat.zero_le _) (Nat.zero_le _) (fun r5 hr => ?_)
      refine ml_iload_n (pc := 149) dX4_deal_149 rfl (mm_get_s (mm_get_s (mm_get_s mm_get_0))) ?_
      refine mg_iconst (pc := 150) dX4_deal_150 kc_1 ?_
      refine mg_iadd (pc := 151) dX4_deal_151 ?_
      refine ml_aload_n (pc := 152) dX4_deal_152 rfl mm_get_0 ?_
      refine mb_gr (pc := 153) dX4_deal_153 fl_X4_35 hr (fun c6 hr => ?_)
      refine mb_gi (pc := 156) dX4_deal_156 fl_X4_84 hr (fun x7 hr => ?_)
      refine mb_icmp_ge (pc := 159) 168 dX4_deal_159 rfl hr (fun hr => ?_) (fun hr => ?_)
      · refine mg_iconst (pc := 168) dX4_deal_168 kc_0 ?_
        exact mg_weak (mm_le_s (mm_le_n (mm_le_s (mm_le_n (mm_le_s (mm_le_n mm_le_0)))))) (X4_deal_b169_ok hz hd h0 ih hr)
      · refine ml_iload_n (pc := 162) dX4_deal_162 rfl (mm_get_s (mm_get_s (mm_get_s mm_get_0))) ?_
        refine mg_iconst (pc := 163) dX4_deal_163 kc_1 ?_
        refine mg_iadd (pc := 164) dX4_deal_164 ?_
        refine mg_goto (pc := 165) 169 dX4_deal_165 rfl ?_
        exact mg_weak (mm_le_s (mm_le_n (mm_le_s (mm_le_n (mm_le_s (mm_le_n mm_le_0)))))) (X4_deal_b169_ok hz hd h0 ih hr)
def X4_deal_b116 (e : mm_E) (k61 : Int32 → mm_V → Option mm_V) (a0 : Nat) (i2 : Int32) (i3 : Int32) (m : mm_V) : Option mm_V := k61 (i3 + (-1)) m
theorem X4_deal_b116_ok {K : mm_K} {nx : Option Nat} {e : mm_E} (hz : e.2.1 = K.2.2.2.2) {d : Nat} (hd : 3 ≤ d) {a0 : Nat} {i2 : Int32} {i3 : Int32} (h0 : e.1 a0 = some (4, 12)) {k61 : Int32 → mm_V → Option mm_V} (hk61 : ∀ (w3 : Int32) (m : mm_V) (r : mm_V), k61 w3 m = some r → mm_G K MX4_deal d (mm_Fv e.1 nx r) 61 [some (.ref a0), none, some (.int i2), some (.int w3), none, none] [] (e.1, m) nx 0 0) {m : mm_V} {r : mm_V} (hr : X4_deal_b116 e k61 a0 i2 i3 m = some r) : mm_G K MX4_deal d (mm_Fv e.1 nx r) 116 [some (.ref a0), none, some (.int i2), some (.int i3), none, none] [] (e.1, m) nx 0 0 := by
  obtain ⟨d, rfl⟩ : ∃ d', d = d' + 1 := ⟨d - 1, by omega⟩
  unfold X4_deal_b116 at hr
  refine ml_iinc (pc := 116) dX4_deal_116 (mm_get_s (mm_get_s (mm_get_s mm_get_0))) (congrArg (fun z => i3 + z) kc_m1) (Nat.le_of_ble_eq_true rfl) (mm_st1_s (mm_st1_s mm_st1_i)) ?_
  refine mg_goto (pc := 119) 61 dX4_deal_119 rfl ?_
  exact mg_weak (mm_le_s (mm_le_n (mm_le_s (mm_le_s (mm_le_n (mm_le_n mm_le_0)))))) (hk61 _ _ _ hr)
def X4_deal_L61 (e : mm_E) (a0 : Nat) (i2 : Int32) : Nat → Int32 → mm_V → Option mm_V
  | 0, _, _ => none
  | n + 1, i3, m => if i3 < (1 : Int32) then (X4_deal_L127 e a0 i2 e.2.2 (0 : Int32) (0 : Int32) m) else ((X4_drawOf e a0 (i3 + (1 : Int32)) m).bind fun r1 => if r1.1 < 0 then (X4_deal_b116 e (X4_deal_L61 e a0 i2 n) a0 i2 i3  r1.2) else (if i2 ≤ r1.1 then (X4_deal_b116 e (X4_deal_L61 e a0 i2 n) a0 i2 i3  r1.2) else ((mm_gr e.1 r1.2 4 12 a0 5).bind fun c2 => (mm_ai e.1 r1.2 20 c2 i3).bind fun x3 => (mm_gr e.1 r1.2 4 12 a0 5).bind fun c4 => (mm_gr e.1 r1.2 4 12 a0 5).bind fun c5 => (mm_ai e.1 r1.2 20 c5 r1.1).bind fun x6 => (mm_si e.1 r1.2 c4 i3 x6).bind fun m7 => (mm_gr e.1 m7 4 12 a0 5).bind fun c8 => (mm_si e.1 m7 c8 r1.1 x3).bind fun m9 => X4_deal_b116 e (X4_deal_L61 e a0 i2 n) a0 i2 i3  m9)))
theorem X4_deal_L61_ok {K : mm_K} {nx : Option Nat} {e : mm_E} (hz : e.2.1 = K.2.2.2.2) {d : Nat} (hd : 3 ≤ d) {a0 : Nat} {i2 : Int32} (h0 : e.1 a0 = some (4, 12)) : ∀ (n : Nat) (i3 : Int32) (m : mm_V) (r : mm_V), X4_deal_L61 e a0 i2 n i3 m = some r → mm_G K MX4_deal d (mm_Fv e.1 nx r) 61 [some (.ref a0), none, some (.int i2), some (.int i3), none, none] [] (e.1, m) nx 0 0 := by
  obtain ⟨d, rfl⟩ : ∃ d', d = d' + 1 := ⟨d - 1, by omega⟩
  intro n
  induction n with
  | zero => intro i3 m r hr; unfold X4_deal_L61 at hr; cases hr
  | succ n ih =>
    intro i3 m r hr
    unfold X4_deal_L61 at hr
    refine ml_iload_n (pc := 61) dX4_deal_61 rfl (mm_get_s (mm_get_s (mm_get_s mm_get_0))) ?_
    refine mg_iconst (pc := 62) dX4_deal_62 kc_1 ?_
    refine mb_icmp_lt (pc := 63) 122 dX4_deal_63 rfl hr (fun hr => ?_) (fun hr => ?_)
    · refine mg_iconst (pc := 122) dX4_deal_122 kc_0 ?_
      refine ml_istore_n (pc := 123) dX4_deal_123 rfl (Nat.le_of_ble_eq_true rfl) (mm_st1_s (mm_st1_s mm_st1_i)) ?_
      refine mg_iconst (pc := 124) dX4_deal_124 kc_0 ?_
      refine ml_istore (pc := 125) dX4_deal_125 (Nat.le_of_ble_eq_true rfl) (mm_st1_s (mm_st1_s (mm_st1_s mm_st1_i))) ?_
      exact mg_weak (mm_le_s (mm_le_n (mm_le_s (mm_le_s (mm_le_s (mm_le_n mm_le_0)))))) (X4_deal_L127_ok hz hd h0 _ _ _ _ _ hr)
    · refine ml_aload_n (pc := 66) dX4_deal_66 rfl mm_get_0 ?_
      refine ml_iload_n (pc := 67) dX4_deal_67 rfl (mm_get_s (mm_get_s (mm_get_s mm_get_0))) ?_
      refine mg_iconst (pc := 68) dX4_deal_68 kc_1 ?_
      refine mg_iadd (pc := 69) dX4_deal_69 ?_
      refine mb_cVi (pc := 70) (As := [.int (i3 + (1 : Int32))]) (rest := []) dX4_deal_70 cw_X4_72 h0 hr (fun v hv => X4_drawOf_ok hz (by omega) h0 hv) rfl (Nat.le_of_ble_eq_true rfl) (Nat.zero_le _) (Nat.zero_le _) (fun r1 hr => ?_)
      refine ml_istore (pc := 73) dX4_deal_73 (Nat.le_of_ble_eq_true rfl) (mm_st1_s (mm_st1_s (mm_st1_s mm_st1_i))) ?_
      refine ml_iload (pc := 75) dX4_deal_75 (mm_get_s (mm_get_s (mm_get_s (mm_get_s mm_get_0)))) ?_
      refine mb_if_lt (pc := 77) 116 dX4_deal_77 rfl hr (fun hr => ?_) (fun hr => ?_)
      · exact mg_weak (mm_le_s (mm_le_n (mm_le_s (mm_le_s (mm_le_n (mm_le_n mm_le_0)))))) (X4_deal_b116_ok hz hd h0 ih hr)
      · refine ml_iload (pc := 80) dX4_deal_80 (mm_get_s (mm_get_s (mm_get_s (mm_get_s mm_get_0)))) ?_
        refine ml_iload_n (pc := 82) dX4_deal_82 rfl (mm_get_s (mm_get_s mm_get_0)) ?_
        refine mb_icmp_ge (pc := 83) 116 dX4_deal_83 rfl hr (fun hr => ?_) (fun hr => ?_)
        · exact mg_weak (mm_le_s (mm_le_n (mm_le_s (mm_le_s (mm_le_n (mm_le_n mm_le_0)))))) (X4_deal_b116_ok hz hd h0 ih hr)
        · refine ml_aload_n (pc := 86) dX4_deal_86 rfl mm_get_0 ?_
          refine mb_gr (pc := 87) dX4_deal_87 fl_X4_32 hr (fun c2 hr => ?_)
          refine ml_iload_n (pc := 90) dX4_deal_90 rfl (mm_get_s (mm_get_s (mm_get_s mm_get_0))) ?_
          refine mb_ai (pc := 91) dX4_deal_91 hr (fun x3 hr => ?_)
          refine ml_istore (pc := 92) dX4_deal_92 (Nat.le_of_ble_eq_true rfl) (mm_st1_s (mm_st1_s (mm_st1_s (mm_st1_s mm_st1_i)))) ?_
          refine ml_aload_n (pc := 94) dX4_deal_94 rfl mm_get_0 ?_
          refine mb_gr (pc := 95) dX4_deal_95 fl_X4_32 hr (fun c4 hr => ?_)
          refine ml_iload_n (pc := 98) dX4_deal_98 rfl (mm_get_s (mm_get_s (mm_get_s mm_get_0))) ?_
          refine ml_aload_n (pc := 99) dX4_deal_99 rfl mm_get_0 ?_
          refine mb_gr (pc := 100) dX4_deal_100 fl_X4_32 hr (fun c5 hr => ?_)
          refine ml_iload (pc := 103) dX4_deal_103 (mm_get_s (mm_get_s (mm_get_s (mm_get_s mm_get_0)))) ?_
          refine mb_ai (pc := 105) dX4_deal_105 hr (fun x6 hr => ?_)
          refine mb_si (pc := 106) dX4_deal_106 hr (fun m7 hr => ?_)
          refine ml_aload_n (pc := 107) dX4_deal_107 rfl mm_get_0 ?_
          refine mb_gr (pc := 108) dX4_deal_108 fl_X4_32 hr (fun c8 hr => ?_)
          refine ml_iload (pc := 111) dX4_deal_111 (mm_get_s (mm_get_s (mm_get_s (mm_get_s mm_get_0)))) ?_
          refine ml_iload (pc := 113) dX4_deal_113 (mm_get_s (mm_get_s (mm_get_s (mm_get_s (mm_get_s mm_get_0))))) ?_
          refine mb_si (pc := 115) dX4_deal_115 hr (fun m9 hr => ?_)
          exact mg_weak (mm_le_s (mm_le_n (mm_le_s (mm_le_s (mm_le_n (mm_le_n mm_le_0)))))) (X4_deal_b116_ok hz hd h0 ih hr)
def X4_deal_b50 (e : mm_E) (k24 : Int32 → mm_V → Option mm_V) (a0 : Nat) (i2 : Int32) (i3 : Int32) (t0 : Nat) (t1 : Int32) (t2 : Int32) (m : mm_V) : Option mm_V := (mm_si e.1 m t0 t1 t2).bind fun m1 => k24 (i3 + 1) m1
theorem X4_deal_b50_ok {K : mm_K} {nx : Option Nat} {e : mm_E} (hz : e.2.1 = K.2.2.2.2) {d : Nat} (hd : 3 ≤ d) {a0 : Nat} {i2 : Int32} {i3 : Int32} {t0 : Nat} {t1 : Int32} {t2 : Int32} (h0 : e.1 a0 = some (4, 12)) {k24 : Int32 → mm_V → Option mm_V} (hk24 : ∀ (w3 : Int32) (m : mm_V) (r : mm_V), k24 w3 m = some r → mm_G K MX4_deal d (mm_Fv e.1 nx r) 24 [some (.ref a0), none, some (.int i2), some (.int w3), none, none] [] (e.1, m) nx 0 0) {m : mm_V} {r : mm_V} (hr : X4_deal_b50 e k24 a0 i2 i3 t0 t1 t2 m = some r) : mm_G K MX4_deal d (mm_Fv e.1 nx r) 50 [some (.ref a0), none, some (.int i2), some (.int i3), none, none] [.int t2, .int t1, .ref t0] (e.1, m) nx 0 0 := by
  obtain ⟨d, rfl⟩ : ∃ d', d = d' + 1 := ⟨d - 1, by omega⟩
  unfold X4_deal_b50 at hr
  refine mb_si (pc := 50) dX4_deal_50 hr (fun m1 hr => ?_)
  refine ml_iinc (pc := 51) dX4_deal_51 (mm_get_s (mm_get_s (mm_get_s mm_get_0))) (congrArg (fun z => i3 + z) kc_1) (Nat.le_of_ble_eq_true rfl) (mm_st1_s (mm_st1_s mm_st1_i)) ?_
  refine mg_goto (pc := 54) 24 dX4_deal_54 rfl ?_
  exact mg_weak (mm_le_s (mm_le_n (mm_le_s (mm_le_s (mm_le_n (mm_le_n mm_le_0)))))) (hk24 _ _ _ hr)
def X4_deal_L24 (e : mm_E) (a0 : Nat) (i2 : Int32) : Nat → Int32 → mm_V → Option mm_V
  | 0, _, _ => none
  | n + 1, i3, m => if i2 ≤ i3 then (X4_deal_L61 e a0 i2 e.2.2 (i2 - (1 : Int32)) m) else ((mm_gr e.1 m 4 12 a0 5).bind fun c1 => if i2 ≤ (i3 + (1 : Int32)) then (X4_deal_b50 e (X4_deal_L24 e a0 i2 n) a0 i2 i3 c1 i3 (0 : Int32) m) else (X4_deal_b50 e (X4_deal_L24 e a0 i2 n) a0 i2 i3 c1 i3 ((i3 / (2 : Int32)) + (1 : Int32)) m))
theorem X4_deal_L24_ok {K : mm_K} {nx : Option Nat} {e : mm_E} (hz : e.2.1 = K.2.2.2.2) {d : Nat} (hd : 3 ≤ d) {a0 : Nat} {i2 : Int32} (h0 : e.1 a0 = some (4, 12)) : ∀ (n : Nat) (i3 : Int32) (m : mm_V) (r : mm_V), X4_deal_L24 e a0 i2 n i3 m = some r → mm_G K MX4_deal d (mm_Fv e.1 nx r) 24 [some (.ref a0), none, some (.int i2), some (.int i3), none, none] [] (e.1, m) nx 0 0 := by
  obtain ⟨d, rfl⟩ : ∃ d', d = d' + 1 := ⟨d - 1, by omega⟩
  intro n
  induction n with
  | zero => intro i3 m r hr; unfold X4_deal_L24 at hr; cases hr
  | succ n ih =>
    intro i3 m r hr
    unfold X4_deal_L24 at hr
    refine ml_iload_n (pc := 24) dX4_deal_24 rfl (mm_get_s (mm_get_s (mm_get_s mm_get_0))) ?_
    refine ml_iload_n (pc := 25) dX4_deal_25 rfl (mm_get_s (mm_get_s mm_get_0)) ?_
    refine mb_icmp_ge (pc := 26) 57 dX4_deal_26 rfl hr (fun hr => ?_) (fun hr => ?_)
    · refine ml_iload_n (pc := 57) dX4_deal_57 rfl (mm_get_s (mm_get_s mm_get_0)) ?_
      refine mg_iconst (pc := 58) dX4_deal_58 kc_1 ?_
      refine mg_isub (pc := 59) dX4_deal_59 ?_
      refine ml_istore_n (pc := 60) dX4_deal_60 rfl (Nat.le_of_ble_eq_true rfl) (mm_st1_s (mm_st1_s mm_st1_i)) ?_
      exact mg_weak (mm_le_s (mm_le_n (mm_le_s (mm_le_s (mm_le_n (mm_le_n mm_le_0)))))) (X4_deal_L61_ok hz hd h0 _ _ _ _ hr)
    · refine ml_aload_n (pc := 29) dX4_deal_29 rfl mm_get_0 ?_
      refine mb_gr (pc := 30) dX4_deal_30 fl_X4_32 hr (fun c1 hr => ?_)
      refine ml_iload_n (pc := 33) dX4_deal_33 rfl (mm_get_s (mm_get_s (mm_get_s mm_get_0))) ?_
      refine ml_iload_n (pc := 34) dX4_deal_34 rfl (mm_get_s (mm_get_s (mm_get_s mm_get_0))) ?_
      refine mg_iconst (pc := 35) dX4_deal_35 kc_1 ?_
      refine mg_iadd (pc := 36) dX4_deal_36 ?_
      refine ml_iload_n (pc := 37) dX4_deal_37 rfl (mm_get_s (mm_get_s mm_get_0)) ?_
      refine mb_icmp_ge (pc := 38) 49 dX4_deal_38 rfl hr (fun hr => ?_) (fun hr => ?_)
      · refine mg_iconst (pc := 49) dX4_deal_49 kc_0 ?_
        exact mg_weak (mm_le_s (mm_le_n (mm_le_s (mm_le_s (mm_le_n (mm_le_n mm_le_0)))))) (X4_deal_b50_ok hz hd h0 ih hr)
      · refine ml_iload_n (pc := 41) dX4_deal_41 rfl (mm_get_s (mm_get_s (mm_get_s mm_get_0))) ?_
        refine mg_iconst (pc := 42) dX4_deal_42 kc_2 ?_
        refine mg_idiv (pc := 43) dX4_deal_43 (by decide) ?_
        refine mg_iconst (pc := 44) dX4_deal_44 kc_1 ?_
        refine mg_iadd (pc := 45) dX4_deal_45 ?_
        refine mg_goto (pc := 46) 50 dX4_deal_46 rfl ?_
        exact mg_weak (mm_le_s (mm_le_n (mm_le_s (mm_le_s (mm_le_n (mm_le_n mm_le_0)))))) (X4_deal_b50_ok hz hd h0 ih hr)
def X4_deal (e : mm_E) (a0 : Nat) (i1 : Int32) (m : mm_V) : Option mm_V := (mm_pf e.1 m 4 12 a0 9 (.int i1)).bind fun m1 => (mm_gr e.1 m1 4 12 a0 6).bind fun c2 => (mm_gi e.1 m1 10 11 c2 7).bind fun x3 => (J9_min_7cf53 e (((2 : Int32) * x3) + (1 : Int32)) (19 : Int32) m1).bind fun r4 => X4_deal_L24 e a0 r4.1 e.2.2 (0 : Int32) r4.2
theorem X4_deal_ok {K : mm_K} {nx : Option Nat} {e : mm_E} (hz : e.2.1 = K.2.2.2.2) {d : Nat} (hd : 3 ≤ d) {a0 : Nat} {i1 : Int32} (h0 : e.1 a0 = some (4, 12)) {m : mm_V} {r : mm_V} (hr : X4_deal e a0 i1 m = some r) : mm_Cn K MX4_deal d (mm_Fv e.1 nx r) [.ref a0, .int i1] (e.1, m) nx := by
  obtain ⟨d, rfl⟩ : ∃ d', d = d' + 1 := ⟨d - 1, by omega⟩
  refine mm_entry (by decide) (Nat.le_of_ble_eq_true rfl) rfl (fun hok => ?_)
  unfold X4_deal at hr
  refine mg_weak (L' := [some (.ref a0), some (.int i1), none, none, none, none]) (mm_le_s (mm_le_s (mm_le_e (mm_le_e (mm_le_e (mm_le_e mm_le_0)))))) ?_
  refine ml_aload_n (pc := 0) dX4_deal_0 rfl mm_get_0 ?_
  refine ml_iload_n (pc := 1) dX4_deal_1 rfl (mm_get_s mm_get_0) ?_
  refine mb_pi (pc := 2) dX4_deal_2 fp_X4_60 hr (fun m1 hr => ?_)
  refine mg_iconst (pc := 5) dX4_deal_5 kc_2 ?_
  refine ml_aload_n (pc := 6) dX4_deal_6 rfl mm_get_0 ?_
  refine mb_gr (pc := 7) dX4_deal_7 fl_X4_35 hr (fun c2 hr => ?_)
  refine mb_gi (pc := 10) dX4_deal_10 fl_X4_63 hr (fun x3 hr => ?_)
  refine mg_imul (pc := 13) dX4_deal_13 ?_
  refine mg_iconst (pc := 14) dX4_deal_14 kc_1 ?_
  refine mg_iadd (pc := 15) dX4_deal_15 ?_
  refine mg_bipush (pc := 16) dX4_deal_16 kb_19 ?_
  refine mb_cSi (pc := 18) (As := [.int (((2 : Int32) * x3) + (1 : Int32)), .int (19 : Int32)]) (rest := []) dX4_deal_18 cw_X4_66  hr (fun v hv => J9_min_7cf53_ok hz (by omega)  hv) rfl (Nat.le_of_ble_eq_true rfl) (Nat.zero_le _) (Nat.zero_le _) (fun r4 hr => ?_)
  refine ml_istore_n (pc := 21) dX4_deal_21 rfl (Nat.le_of_ble_eq_true rfl) (mm_st1_s mm_st1_i) ?_
  refine mg_iconst (pc := 22) dX4_deal_22 kc_0 ?_
  refine ml_istore_n (pc := 23) dX4_deal_23 rfl (Nat.le_of_ble_eq_true rfl) (mm_st1_s (mm_st1_s mm_st1_i)) ?_
  exact mg_weak (mm_le_s (mm_le_n (mm_le_s (mm_le_s (mm_le_n (mm_le_n mm_le_0)))))) (X4_deal_L24_ok hz hd h0 _ _ _ _ hr)
theorem dX4_sitDown_0 : decode cX4_sitDown 0 = .ok (.aload_n 0, 1) := by decide +kernel
theorem dX4_sitDown_1 : decode cX4_sitDown 1 = .ok (.aload_n 1, 1) := by decide +kernel
theorem dX4_sitDown_2 : decode cX4_sitDown 2 = .ok (.getfield 35, 3) := by decide +kernel
theorem dX4_sitDown_5 : decode cX4_sitDown 5 = .ok (.iconst 0, 1) := by decide +kernel
theorem dX4_sitDown_6 : decode cX4_sitDown 6 = .ok (.iconst 0, 1) := by decide +kernel
theorem dX4_sitDown_7 : decode cX4_sitDown 7 = .ok (.invokevirtual 102, 3) := by decide +kernel
theorem dX4_sitDown_10 : decode cX4_sitDown 10 = .ok (.iconst 0, 1) := by decide +kernel
theorem dX4_sitDown_11 : decode cX4_sitDown 11 = .ok (.istore_n 3, 1) := by decide +kernel
theorem dX4_sitDown_12 : decode cX4_sitDown 12 = .ok (.iload_n 3, 1) := by decide +kernel
theorem dX4_sitDown_13 : decode cX4_sitDown 13 = .ok (.aload_n 0, 1) := by decide +kernel
theorem dX4_sitDown_14 : decode cX4_sitDown 14 = .ok (.getfield 35, 3) := by decide +kernel
theorem dX4_sitDown_17 : decode cX4_sitDown 17 = .ok (.getfield 84, 3) := by decide +kernel
theorem dX4_sitDown_20 : decode cX4_sitDown 20 = .ok (.if_icmp .ge 46, 3) := by decide +kernel
theorem dX4_sitDown_23 : decode cX4_sitDown 23 = .ok (.iload_n 3, 1) := by decide +kernel
theorem dX4_sitDown_24 : decode cX4_sitDown 24 = .ok (.aload_n 2, 1) := by decide +kernel
theorem dX4_sitDown_25 : decode cX4_sitDown 25 = .ok (.arraylength, 1) := by decide +kernel
theorem dX4_sitDown_26 : decode cX4_sitDown 26 = .ok (.if_icmp .ge 40, 3) := by decide +kernel
theorem dX4_sitDown_29 : decode cX4_sitDown 29 = .ok (.iload_n 3, 1) := by decide +kernel
theorem dX4_sitDown_30 : decode cX4_sitDown 30 = .ok (.bipush 6, 2) := by decide +kernel
theorem dX4_sitDown_32 : decode cX4_sitDown 32 = .ok (.if_icmp .ge 34, 3) := by decide +kernel
theorem dX4_sitDown_35 : decode cX4_sitDown 35 = .ok (.aload_n 0, 1) := by decide +kernel
theorem dX4_sitDown_36 : decode cX4_sitDown 36 = .ok (.getfield 22, 3) := by decide +kernel
theorem dX4_sitDown_39 : decode cX4_sitDown 39 = .ok (.iload_n 3, 1) := by decide +kernel
theorem dX4_sitDown_40 : decode cX4_sitDown 40 = .ok (.aload_n 2, 1) := by decide +kernel
theorem dX4_sitDown_41 : decode cX4_sitDown 41 = .ok (.iload_n 3, 1) := by decide +kernel
theorem dX4_sitDown_42 : decode cX4_sitDown 42 = .ok (.iaload, 1) := by decide +kernel
theorem dX4_sitDown_43 : decode cX4_sitDown 43 = .ok (.iastore, 1) := by decide +kernel
theorem dX4_sitDown_44 : decode cX4_sitDown 44 = .ok (.aload_n 0, 1) := by decide +kernel
theorem dX4_sitDown_45 : decode cX4_sitDown 45 = .ok (.getfield 11, 3) := by decide +kernel
theorem dX4_sitDown_48 : decode cX4_sitDown 48 = .ok (.iload_n 3, 1) := by decide +kernel
theorem dX4_sitDown_49 : decode cX4_sitDown 49 = .ok (.aaload, 1) := by decide +kernel
theorem dX4_sitDown_50 : decode cX4_sitDown 50 = .ok (.aload_n 1, 1) := by decide +kernel
theorem dX4_sitDown_51 : decode cX4_sitDown 51 = .ok (.aload_n 2, 1) := by decide +kernel
theorem dX4_sitDown_52 : decode cX4_sitDown 52 = .ok (.iload_n 3, 1) := by decide +kernel
theorem dX4_sitDown_53 : decode cX4_sitDown 53 = .ok (.iaload, 1) := by decide +kernel
theorem dX4_sitDown_54 : decode cX4_sitDown 54 = .ok (.invokevirtual 76, 3) := by decide +kernel
theorem dX4_sitDown_57 : decode cX4_sitDown 57 = .ok (.invokevirtual 53, 3) := by decide +kernel
theorem dX4_sitDown_60 : decode cX4_sitDown 60 = .ok (.iinc 3 1, 3) := by decide +kernel
theorem dX4_sitDown_63 : decode cX4_sitDown 63 = .ok (.goto (-51), 3) := by decide +kernel
theorem dX4_sitDown_66 : decode cX4_sitDown 66 = .ok (.aload_n 0, 1) := by decide +kernel
theorem dX4_sitDown_67 : decode cX4_sitDown 67 = .ok (.invokevirtual 57, 3) := by decide +kernel
theorem dX4_sitDown_70 : decode cX4_sitDown 70 = .ok (.return_, 1) := by decide +kernel
def X4_sitDown_b66 (e : mm_E) (a0 : Nat) (m : mm_V) : Option mm_V := (X4_start e a0 m).bind fun r1 => some r1
theorem X4_sitDown_b66_ok {K : mm_K} {nx : Option Nat} {e : mm_E} (hz : e.2.1 = K.2.2.2.2) {d : Nat} (hd : 3 ≤ d) {a0 : Nat} (h0 : e.1 a0 = some (4, 12)) {m : mm_V} {r : mm_V} (hr : X4_sitDown_b66 e a0 m = some r) : mm_G K MX4_sitDown d (mm_Fv e.1 nx r) 66 [some (.ref a0), none, none, none] [] (e.1, m) nx 0 0 := by
  obtain ⟨d, rfl⟩ : ∃ d', d = d' + 1 := ⟨d - 1, by omega⟩
  unfold X4_sitDown_b66 at hr
  refine ml_aload_n (pc := 66) dX4_sitDown_66 rfl mm_get_0 ?_
  refine mb_cVv (pc := 67) (As := []) (rest := []) dX4_sitDown_67 cw_X4_57 h0 hr (fun v hv => X4_start_ok hz (by omega) h0 hv) rfl (Nat.le_of_ble_eq_true rfl) (Nat.zero_le _) (Nat.zero_le _) (fun r1 hr => ?_)
  exact mb_vret dX4_sitDown_70 rfl hr
def X4_sitDown_L12 (e : mm_E) (a0 : Nat) (a1 : Nat) (a2 : Nat) : Nat → Int32 → mm_V → Option mm_V
  | 0, _, _ => none
  | n + 1, i3, m => (mm_gr e.1 m 4 12 a0 6).bind fun c1 => (mm_gi e.1 m 10 11 c1 6).bind fun x2 => if x2 ≤ i3 then (X4_sitDown_b66 e a0  m) else ((mm_ln e.1 a2).bind fun x3 => if x3 ≤ i3 then (X4_sitDown_b66 e a0  m) else (if (6 : Int32) ≤ i3 then (X4_sitDown_b66 e a0  m) else ((mm_gr e.1 m 4 12 a0 2).bind fun c4 => (mm_ai e.1 m 20 a2 i3).bind fun x5 => (mm_si e.1 m c4 i3 x5).bind fun m6 => (mm_gr e.1 m6 4 12 a0 0).bind fun c7 => (mm_aq e.1 m6 23 c7 i3).bind fun c8 => (mm_ai e.1 m6 20 a2 i3).bind fun x9 => if e.1 a1 = some (4, 12) then ((X4_fanAt e a1 x9 m6).bind fun r10 => if e.1 c8 = some (3, 2) then ((X3_copyFrom e c8 r10.1 r10.2).bind fun r12 => X4_sitDown_L12 e a0 a1 a2 n (i3 + 1) r12) else none) else none)))
theorem X4_sitDown_L12_ok {K : mm_K} {nx : Option Nat} {e : mm_E} (hz : e.2.1 = K.2.2.2.2) {d : Nat} (hd : 3 ≤ d) {a0 : Nat} {a1 : Nat} {a2 : Nat} (h0 : e.1 a0 = some (4, 12)) : ∀ (n : Nat) (i3 : Int32) (m : mm_V) (r : mm_V), X4_sitDown_L12 e a0 a1 a2 n i3 m = some r → mm_G K MX4_sitDown d (mm_Fv e.1 nx r) 12 [some (.ref a0), some (.ref a1), some (.ref a2), some (.int i3)] [] (e.1, m) nx 0 0 := by
  obtain ⟨d, rfl⟩ : ∃ d', d = d' + 1 := ⟨d - 1, by omega⟩
  intro n
  induction n with
  | zero => intro i3 m r hr; unfold X4_sitDown_L12 at hr; cases hr
  | succ n ih =>
    intro i3 m r hr
    unfold X4_sitDown_L12 at hr
    refine ml_iload_n (pc := 12) dX4_sitDown_12 rfl (mm_get_s (mm_get_s (mm_get_s mm_get_0))) ?_
    refine ml_aload_n (pc := 13) dX4_sitDown_13 rfl mm_get_0 ?_
    refine mb_gr (pc := 14) dX4_sitDown_14 fl_X4_35 hr (fun c1 hr => ?_)
    refine mb_gi (pc := 17) dX4_sitDown_17 fl_X4_84 hr (fun x2 hr => ?_)
    refine mb_icmp_ge (pc := 20) 66 dX4_sitDown_20 rfl hr (fun hr => ?_) (fun hr => ?_)
    · exact mg_weak (mm_le_s (mm_le_n (mm_le_n (mm_le_n mm_le_0)))) (X4_sitDown_b66_ok hz hd h0 hr)
    · refine ml_iload_n (pc := 23) dX4_sitDown_23 rfl (mm_get_s (mm_get_s (mm_get_s mm_get_0))) ?_
      refine ml_aload_n (pc := 24) dX4_sitDown_24 rfl (mm_get_s (mm_get_s mm_get_0)) ?_
      refine mb_ln (pc := 25) dX4_sitDown_25 hr (fun x3 hr => ?_)
      refine mb_icmp_ge (pc := 26) 66 dX4_sitDown_26 rfl hr (fun hr => ?_) (fun hr => ?_)
      · exact mg_weak (mm_le_s (mm_le_n (mm_le_n (mm_le_n mm_le_0)))) (X4_sitDown_b66_ok hz hd h0 hr)
      · refine ml_iload_n (pc := 29) dX4_sitDown_29 rfl (mm_get_s (mm_get_s (mm_get_s mm_get_0))) ?_
        refine mg_bipush (pc := 30) dX4_sitDown_30 kb_6 ?_
        refine mb_icmp_ge (pc := 32) 66 dX4_sitDown_32 rfl hr (fun hr => ?_) (fun hr => ?_)
        · exact mg_weak (mm_le_s (mm_le_n (mm_le_n (mm_le_n mm_le_0)))) (X4_sitDown_b66_ok hz hd h0 hr)
        · refine ml_aload_n (pc := 35) dX4_sitDown_35 rfl mm_get_0 ?_
          refine mb_gr (pc := 36) dX4_sitDown_36 fl_X4_22 hr (fun c4 hr => ?_)
          refine ml_iload_n (pc := 39) dX4_sitDown_39 rfl (mm_get_s (mm_get_s (mm_get_s mm_get_0))) ?_
          refine ml_aload_n (pc := 40) dX4_sitDown_40 rfl (mm_get_s (mm_get_s mm_get_0)) ?_
          refine ml_iload_n (pc := 41) dX4_sitDown_41 rfl (mm_get_s (mm_get_s (mm_get_s mm_get_0))) ?_
          refine mb_ai (pc := 42) dX4_sitDown_42 hr (fun x5 hr => ?_)
          refine mb_si (pc := 43) dX4_sitDown_43 hr (fun m6 hr => ?_)
          refine ml_aload_n (pc := 44) dX4_sitDown_44 rfl mm_get_0 ?_
          refine mb_gr (pc := 45) dX4_sitDown_45 fl_X4_11 hr (fun c7 hr => ?_)
          refine ml_iload_n (pc := 48) dX4_sitDown_48 rfl (mm_get_s (mm_get_s (mm_get_s mm_get_0))) ?_
          refine mb_aq (pc := 49) dX4_sitDown_49 (by decide) (by decide) hr (fun c8 hr => ?_)
          refine ml_aload_n (pc := 50) dX4_sitDown_50 rfl (mm_get_s mm_get_0) ?_
          refine ml_aload_n (pc := 51) dX4_sitDown_51 rfl (mm_get_s (mm_get_s mm_get_0)) ?_
          refine ml_iload_n (pc := 52) dX4_sitDown_52 rfl (mm_get_s (mm_get_s (mm_get_s mm_get_0))) ?_
          refine mb_ai (pc := 53) dX4_sitDown_53 hr (fun x9 hr => ?_)
          refine mb_ck hr (fun hb11 hr => ?_)
          refine mb_cVr (pc := 54) (As := [.int x9]) (rest := [.ref c8]) dX4_sitDown_54 cw_X4_76 hb11 hr (fun v hv => X4_fanAt_ok hz (by omega) hb11 hv) rfl (Nat.le_of_ble_eq_true rfl) (Nat.zero_le _) (Nat.zero_le _) (fun r10 hr => ?_)
          refine mb_ck hr (fun hb13 hr => ?_)
          refine mb_cVv (pc := 57) (As := [.ref r10.1]) (rest := []) dX4_sitDown_57 cw_X4_53 hb13 hr (fun v hv => X3_copyFrom_ok hz (by omega) hb13 hv) rfl (Nat.le_of_ble_eq_true rfl) (Nat.zero_le _) (Nat.zero_le _) (fun r12 hr => ?_)
          refine ml_iinc (pc := 60) dX4_sitDown_60 (mm_get_s (mm_get_s (mm_get_s mm_get_0))) (congrArg (fun z => i3 + z) kc_1) (Nat.le_of_ble_eq_true rfl) (mm_st1_s (mm_st1_s mm_st1_r)) ?_
          refine mg_goto (pc := 63) 12 dX4_sitDown_63 rfl ?_
          exact mg_weak (mm_le_s (mm_le_s (mm_le_s (mm_le_s mm_le_0)))) (ih _ _ _ hr)
def X4_sitDown (e : mm_E) (a0 : Nat) (a1 : Nat) (a2 : Nat) (m : mm_V) : Option mm_V := (mm_gr e.1 m 4 12 a1 6).bind fun c1 => (X4_open e a0 c1 (0 : Int32) (0 : Int32) m).bind fun r2 => X4_sitDown_L12 e a0 a1 a2 e.2.2 (0 : Int32) r2
theorem X4_sitDown_ok {K : mm_K} {nx : Option Nat} {e : mm_E} (hz : e.2.1 = K.2.2.2.2) {d : Nat} (hd : 3 ≤ d) {a0 : Nat} {a1 : Nat} {a2 : Nat} (h0 : e.1 a0 = some (4, 12)) {m : mm_V} {r : mm_V} (hr : X4_sitDown e a0 a1 a2 m = some r) : mm_Cn K MX4_sitDown d (mm_Fv e.1 nx r) [.ref a0, .ref a1, .ref a2] (e.1, m) nx := by
  obtain ⟨d, rfl⟩ : ∃ d', d = d' + 1 := ⟨d - 1, by omega⟩
  refine mm_entry (by decide) (Nat.le_of_ble_eq_true rfl) rfl (fun hok => ?_)
  unfold X4_sitDown at hr
  refine mg_weak (L' := [some (.ref a0), some (.ref a1), some (.ref a2), none]) (mm_le_s (mm_le_s (mm_le_s (mm_le_e mm_le_0)))) ?_
  refine ml_aload_n (pc := 0) dX4_sitDown_0 rfl mm_get_0 ?_
  refine ml_aload_n (pc := 1) dX4_sitDown_1 rfl (mm_get_s mm_get_0) ?_
  refine mb_gr (pc := 2) dX4_sitDown_2 fl_X4_35 hr (fun c1 hr => ?_)
  refine mg_iconst (pc := 5) dX4_sitDown_5 kc_0 ?_
  refine mg_iconst (pc := 6) dX4_sitDown_6 kc_0 ?_
  refine mb_cVv (pc := 7) (As := [.ref c1, .int (0 : Int32), .int (0 : Int32)]) (rest := []) dX4_sitDown_7 cw_X4_102 h0 hr (fun v hv => X4_open_ok hz (by omega) h0 hv) rfl (Nat.le_of_ble_eq_true rfl) (Nat.zero_le _) (Nat.zero_le _) (fun r2 hr => ?_)
  refine mg_iconst (pc := 10) dX4_sitDown_10 kc_0 ?_
  refine ml_istore_n (pc := 11) dX4_sitDown_11 rfl (Nat.le_of_ble_eq_true rfl) (mm_st1_s (mm_st1_s mm_st1_r)) ?_
  exact mg_weak (mm_le_s (mm_le_s (mm_le_s (mm_le_s mm_le_0)))) (X4_sitDown_L12_ok hz hd h0 _ _ _ _ hr)
theorem dX4_copyFrom_0 : decode cX4_copyFrom 0 = .ok (.aload_n 0, 1) := by decide +kernel
theorem dX4_copyFrom_1 : decode cX4_copyFrom 1 = .ok (.aload_n 1, 1) := by decide +kernel
theorem dX4_copyFrom_2 : decode cX4_copyFrom 2 = .ok (.getfield 35, 3) := by decide +kernel
theorem dX4_copyFrom_5 : decode cX4_copyFrom 5 = .ok (.putfield 35, 3) := by decide +kernel
theorem dX4_copyFrom_8 : decode cX4_copyFrom 8 = .ok (.aload_n 0, 1) := by decide +kernel
theorem dX4_copyFrom_9 : decode cX4_copyFrom 9 = .ok (.aload_n 1, 1) := by decide +kernel
theorem dX4_copyFrom_10 : decode cX4_copyFrom 10 = .ok (.getfield 39, 3) := by decide +kernel
theorem dX4_copyFrom_13 : decode cX4_copyFrom 13 = .ok (.putfield 39, 3) := by decide +kernel
theorem dX4_copyFrom_16 : decode cX4_copyFrom 16 = .ok (.aload_n 0, 1) := by decide +kernel
theorem dX4_copyFrom_17 : decode cX4_copyFrom 17 = .ok (.aload_n 1, 1) := by decide +kernel
theorem dX4_copyFrom_18 : decode cX4_copyFrom 18 = .ok (.getfield 43, 3) := by decide +kernel
theorem dX4_copyFrom_21 : decode cX4_copyFrom 21 = .ok (.putfield 43, 3) := by decide +kernel
theorem dX4_copyFrom_24 : decode cX4_copyFrom 24 = .ok (.aload_n 0, 1) := by decide +kernel
theorem dX4_copyFrom_25 : decode cX4_copyFrom 25 = .ok (.aload_n 1, 1) := by decide +kernel
theorem dX4_copyFrom_26 : decode cX4_copyFrom 26 = .ok (.getfield 60, 3) := by decide +kernel
theorem dX4_copyFrom_29 : decode cX4_copyFrom 29 = .ok (.putfield 60, 3) := by decide +kernel
theorem dX4_copyFrom_32 : decode cX4_copyFrom 32 = .ok (.aload_n 0, 1) := by decide +kernel
theorem dX4_copyFrom_33 : decode cX4_copyFrom 33 = .ok (.aload_n 1, 1) := by decide +kernel
theorem dX4_copyFrom_34 : decode cX4_copyFrom 34 = .ok (.getfield 117, 3) := by decide +kernel
theorem dX4_copyFrom_37 : decode cX4_copyFrom 37 = .ok (.putfield 117, 3) := by decide +kernel
theorem dX4_copyFrom_40 : decode cX4_copyFrom 40 = .ok (.aload_n 0, 1) := by decide +kernel
theorem dX4_copyFrom_41 : decode cX4_copyFrom 41 = .ok (.aload_n 1, 1) := by decide +kernel
theorem dX4_copyFrom_42 : decode cX4_copyFrom 42 = .ok (.getfield 106, 3) := by decide +kernel
theorem dX4_copyFrom_45 : decode cX4_copyFrom 45 = .ok (.putfield 106, 3) := by decide +kernel
theorem dX4_copyFrom_48 : decode cX4_copyFrom 48 = .ok (.iconst 0, 1) := by decide +kernel
theorem dX4_copyFrom_49 : decode cX4_copyFrom 49 = .ok (.istore_n 2, 1) := by decide +kernel
theorem dX4_copyFrom_50 : decode cX4_copyFrom 50 = .ok (.iload_n 2, 1) := by decide +kernel
theorem dX4_copyFrom_51 : decode cX4_copyFrom 51 = .ok (.bipush 6, 2) := by decide +kernel
theorem dX4_copyFrom_53 : decode cX4_copyFrom 53 = .ok (.if_icmp .ge 48, 3) := by decide +kernel
theorem dX4_copyFrom_56 : decode cX4_copyFrom 56 = .ok (.aload_n 0, 1) := by decide +kernel
theorem dX4_copyFrom_57 : decode cX4_copyFrom 57 = .ok (.getfield 11, 3) := by decide +kernel
theorem dX4_copyFrom_60 : decode cX4_copyFrom 60 = .ok (.iload_n 2, 1) := by decide +kernel
theorem dX4_copyFrom_61 : decode cX4_copyFrom 61 = .ok (.aaload, 1) := by decide +kernel
theorem dX4_copyFrom_62 : decode cX4_copyFrom 62 = .ok (.aload_n 1, 1) := by decide +kernel
theorem dX4_copyFrom_63 : decode cX4_copyFrom 63 = .ok (.getfield 11, 3) := by decide +kernel
theorem dX4_copyFrom_66 : decode cX4_copyFrom 66 = .ok (.iload_n 2, 1) := by decide +kernel
theorem dX4_copyFrom_67 : decode cX4_copyFrom 67 = .ok (.aaload, 1) := by decide +kernel
theorem dX4_copyFrom_68 : decode cX4_copyFrom 68 = .ok (.invokevirtual 53, 3) := by decide +kernel
theorem dX4_copyFrom_71 : decode cX4_copyFrom 71 = .ok (.aload_n 0, 1) := by decide +kernel
theorem dX4_copyFrom_72 : decode cX4_copyFrom 72 = .ok (.getfield 22, 3) := by decide +kernel
theorem dX4_copyFrom_75 : decode cX4_copyFrom 75 = .ok (.iload_n 2, 1) := by decide +kernel
theorem dX4_copyFrom_76 : decode cX4_copyFrom 76 = .ok (.aload_n 1, 1) := by decide +kernel
theorem dX4_copyFrom_77 : decode cX4_copyFrom 77 = .ok (.getfield 22, 3) := by decide +kernel
theorem dX4_copyFrom_80 : decode cX4_copyFrom 80 = .ok (.iload_n 2, 1) := by decide +kernel
theorem dX4_copyFrom_81 : decode cX4_copyFrom 81 = .ok (.iaload, 1) := by decide +kernel
theorem dX4_copyFrom_82 : decode cX4_copyFrom 82 = .ok (.iastore, 1) := by decide +kernel
theorem dX4_copyFrom_83 : decode cX4_copyFrom 83 = .ok (.aload_n 0, 1) := by decide +kernel
theorem dX4_copyFrom_84 : decode cX4_copyFrom 84 = .ok (.getfield 26, 3) := by decide +kernel
theorem dX4_copyFrom_87 : decode cX4_copyFrom 87 = .ok (.iload_n 2, 1) := by decide +kernel
theorem dX4_copyFrom_88 : decode cX4_copyFrom 88 = .ok (.aload_n 1, 1) := by decide +kernel
theorem dX4_copyFrom_89 : decode cX4_copyFrom 89 = .ok (.getfield 26, 3) := by decide +kernel
theorem dX4_copyFrom_92 : decode cX4_copyFrom 92 = .ok (.iload_n 2, 1) := by decide +kernel
theorem dX4_copyFrom_93 : decode cX4_copyFrom 93 = .ok (.iaload, 1) := by decide +kernel
theorem dX4_copyFrom_94 : decode cX4_copyFrom 94 = .ok (.iastore, 1) := by decide +kernel
theorem dX4_copyFrom_95 : decode cX4_copyFrom 95 = .ok (.iinc 2 1, 3) := by decide +kernel
theorem dX4_copyFrom_98 : decode cX4_copyFrom 98 = .ok (.goto (-48), 3) := by decide +kernel
theorem dX4_copyFrom_101 : decode cX4_copyFrom 101 = .ok (.return_, 1) := by decide +kernel
def X4_copyFrom_L50 (e : mm_E) (a0 : Nat) (a1 : Nat) : Nat → Int32 → mm_V → Option mm_V
  | 0, _, _ => none
  | n + 1, i2, m => if (6 : Int32) ≤ i2 then (some m) else ((mm_gr e.1 m 4 12 a0 0).bind fun c1 => (mm_aq e.1 m 23 c1 i2).bind fun c2 => (mm_gr e.1 m 4 12 a1 0).bind fun c3 => (mm_aq e.1 m 23 c3 i2).bind fun c4 => if e.1 c2 = some (3, 2) then ((X3_copyFrom e c2 c4 m).bind fun r5 => (mm_gr e.1 r5 4 12 a0 2).bind fun c7 => (mm_gr e.1 r5 4 12 a1 2).bind fun c8 => (mm_ai e.1 r5 20 c8 i2).bind fun x9 => (mm_si e.1 r5 c7 i2 x9).bind fun m10 => (mm_gr e.1 m10 4 12 a0 3).bind fun c11 => (mm_gr e.1 m10 4 12 a1 3).bind fun c12 => (mm_ai e.1 m10 20 c12 i2).bind fun x13 => (mm_si e.1 m10 c11 i2 x13).bind fun m14 => X4_copyFrom_L50 e a0 a1 n (i2 + 1) m14) else none)
theorem X4_copyFrom_L50_ok {K : mm_K} {nx : Option Nat} {e : mm_E} (hz : e.2.1 = K.2.2.2.2) {d : Nat} (hd : 1 ≤ d) {a0 : Nat} {a1 : Nat} (h0 : e.1 a0 = some (4, 12)) : ∀ (n : Nat) (i2 : Int32) (m : mm_V) (r : mm_V), X4_copyFrom_L50 e a0 a1 n i2 m = some r → mm_G K MX4_copyFrom d (mm_Fv e.1 nx r) 50 [some (.ref a0), some (.ref a1), some (.int i2)] [] (e.1, m) nx 0 0 := by
  obtain ⟨d, rfl⟩ : ∃ d', d = d' + 1 := ⟨d - 1, by omega⟩
  intro n
  induction n with
  | zero => intro i2 m r hr; unfold X4_copyFrom_L50 at hr; cases hr
  | succ n ih =>
    intro i2 m r hr
    unfold X4_copyFrom_L50 at hr
    refine ml_iload_n (pc := 50) dX4_copyFrom_50 rfl (mm_get_s (mm_get_s mm_get_0)) ?_
    refine mg_bipush (pc := 51) dX4_copyFrom_51 kb_6 ?_
    refine mb_icmp_ge (pc := 53) 101 dX4_copyFrom_53 rfl hr (fun hr => ?_) (fun hr => ?_)
    · exact mb_vret dX4_copyFrom_101 rfl hr
    · refine ml_aload_n (pc := 56) dX4_copyFrom_56 rfl mm_get_0 ?_
      refine mb_gr (pc := 57) dX4_copyFrom_57 fl_X4_11 hr (fun c1 hr => ?_)
      refine ml_iload_n (pc := 60) dX4_copyFrom_60 rfl (mm_get_s (mm_get_s mm_get_0)) ?_
      refine mb_aq (pc := 61) dX4_copyFrom_61 (by decide) (by decide) hr (fun c2 hr => ?_)
      refine ml_aload_n (pc := 62) dX4_copyFrom_62 rfl (mm_get_s mm_get_0) ?_
      refine mb_gr (pc := 63) dX4_copyFrom_63 fl_X4_11 hr (fun c3 hr => ?_)
      refine ml_iload_n (pc := 66) dX4_copyFrom_66 rfl (mm_get_s (mm_get_s mm_get_0)) ?_
      refine mb_aq (pc := 67) dX4_copyFrom_67 (by decide) (by decide) hr (fun c4 hr => ?_)
      refine mb_ck hr (fun hb6 hr => ?_)
      refine mb_cVv (pc := 68) (As := [.ref c4]) (rest := []) dX4_copyFrom_68 cw_X4_53 hb6 hr (fun v hv => X3_copyFrom_ok hz (by omega) hb6 hv) rfl (Nat.le_of_ble_eq_true rfl) (Nat.zero_le _) (Nat.zero_le _) (fun r5 hr => ?_)
      refine ml_aload_n (pc := 71) dX4_copyFrom_71 rfl mm_get_0 ?_
      refine mb_gr (pc := 72) dX4_copyFrom_72 fl_X4_22 hr (fun c7 hr => ?_)
      refine ml_iload_n (pc := 75) dX4_copyFrom_75 rfl (mm_get_s (mm_get_s mm_get_0)) ?_
      refine ml_aload_n (pc := 76) dX4_copyFrom_76 rfl (mm_get_s mm_get_0) ?_
      refine mb_gr (pc := 77) dX4_copyFrom_77 fl_X4_22 hr (fun c8 hr => ?_)
      refine ml_iload_n (pc := 80) dX4_copyFrom_80 rfl (mm_get_s (mm_get_s mm_get_0)) ?_
      refine mb_ai (pc := 81) dX4_copyFrom_81 hr (fun x9 hr => ?_)
      refine mb_si (pc := 82) dX4_copyFrom_82 hr (fun m10 hr => ?_)
      refine ml_aload_n (pc := 83) dX4_copyFrom_83 rfl mm_get_0 ?_
      refine mb_gr (pc := 84) dX4_copyFrom_84 fl_X4_26 hr (fun c11 hr => ?_)
      refine ml_iload_n (pc := 87) dX4_copyFrom_87 rfl (mm_get_s (mm_get_s mm_get_0)) ?_
      refine ml_aload_n (pc := 88) dX4_copyFrom_88 rfl (mm_get_s mm_get_0) ?_
      refine mb_gr (pc := 89) dX4_copyFrom_89 fl_X4_26 hr (fun c12 hr => ?_)
      refine ml_iload_n (pc := 92) dX4_copyFrom_92 rfl (mm_get_s (mm_get_s mm_get_0)) ?_
      refine mb_ai (pc := 93) dX4_copyFrom_93 hr (fun x13 hr => ?_)
      refine mb_si (pc := 94) dX4_copyFrom_94 hr (fun m14 hr => ?_)
      refine ml_iinc (pc := 95) dX4_copyFrom_95 (mm_get_s (mm_get_s mm_get_0)) (congrArg (fun z => i2 + z) kc_1) (Nat.le_of_ble_eq_true rfl) (mm_st1_s mm_st1_r) ?_
      refine mg_goto (pc := 98) 50 dX4_copyFrom_98 rfl ?_
      exact mg_weak (mm_le_s (mm_le_s (mm_le_s mm_le_0))) (ih _ _ _ hr)
def X4_copyFrom (e : mm_E) (a0 : Nat) (a1 : Nat) (m : mm_V) : Option mm_V := (mm_gr e.1 m 4 12 a1 6).bind fun c1 => (mm_pf e.1 m 4 12 a0 6 (.ref c1)).bind fun m2 => (mm_gi e.1 m2 4 12 a1 7).bind fun x3 => (mm_pf e.1 m2 4 12 a0 7 (.int x3)).bind fun m4 => (mm_gi e.1 m4 4 12 a1 8).bind fun x5 => (mm_pz e.1 m4 4 12 a0 8 x5).bind fun m6 => (mm_gi e.1 m6 4 12 a1 9).bind fun x7 => (mm_pf e.1 m6 4 12 a0 9 (.int x7)).bind fun m8 => (mm_gi e.1 m8 4 12 a1 10).bind fun x9 => (mm_pf e.1 m8 4 12 a0 10 (.int x9)).bind fun m10 => (mm_gi e.1 m10 4 12 a1 11).bind fun x11 => (mm_pf e.1 m10 4 12 a0 11 (.int x11)).bind fun m12 => X4_copyFrom_L50 e a0 a1 e.2.2 (0 : Int32) m12
theorem X4_copyFrom_ok {K : mm_K} {nx : Option Nat} {e : mm_E} (hz : e.2.1 = K.2.2.2.2) {d : Nat} (hd : 1 ≤ d) {a0 : Nat} {a1 : Nat} (h0 : e.1 a0 = some (4, 12)) {m : mm_V} {r : mm_V} (hr : X4_copyFrom e a0 a1 m = some r) : mm_Cn K MX4_copyFrom d (mm_Fv e.1 nx r) [.ref a0, .ref a1] (e.1, m) nx := by
  obtain ⟨d, rfl⟩ : ∃ d', d = d' + 1 := ⟨d - 1, by omega⟩
  refine mm_entry (by decide) (Nat.le_of_ble_eq_true rfl) rfl (fun hok => ?_)
  unfold X4_copyFrom at hr
  refine mg_weak (L' := [some (.ref a0), some (.ref a1), none]) (mm_le_s (mm_le_s (mm_le_e mm_le_0))) ?_
  refine ml_aload_n (pc := 0) dX4_copyFrom_0 rfl mm_get_0 ?_
  refine ml_aload_n (pc := 1) dX4_copyFrom_1 rfl (mm_get_s mm_get_0) ?_
  refine mb_gr (pc := 2) dX4_copyFrom_2 fl_X4_35 hr (fun c1 hr => ?_)
  refine mb_pr (pc := 5) dX4_copyFrom_5 fp_X4_35 hr (fun m2 hr => ?_)
  refine ml_aload_n (pc := 8) dX4_copyFrom_8 rfl mm_get_0 ?_
  refine ml_aload_n (pc := 9) dX4_copyFrom_9 rfl (mm_get_s mm_get_0) ?_
  refine mb_gi (pc := 10) dX4_copyFrom_10 fl_X4_39 hr (fun x3 hr => ?_)
  refine mb_pi (pc := 13) dX4_copyFrom_13 fp_X4_39 hr (fun m4 hr => ?_)
  refine ml_aload_n (pc := 16) dX4_copyFrom_16 rfl mm_get_0 ?_
  refine ml_aload_n (pc := 17) dX4_copyFrom_17 rfl (mm_get_s mm_get_0) ?_
  refine mb_gi (pc := 18) dX4_copyFrom_18 fl_X4_43 hr (fun x5 hr => ?_)
  refine mb_pz (pc := 21) dX4_copyFrom_21 fp_X4_43 hr (fun m6 hr => ?_)
  refine ml_aload_n (pc := 24) dX4_copyFrom_24 rfl mm_get_0 ?_
  refine ml_aload_n (pc := 25) dX4_copyFrom_25 rfl (mm_get_s mm_get_0) ?_
  refine mb_gi (pc := 26) dX4_copyFrom_26 fl_X4_60 hr (fun x7 hr => ?_)
  refine mb_pi (pc := 29) dX4_copyFrom_29 fp_X4_60 hr (fun m8 hr => ?_)
  refine ml_aload_n (pc := 32) dX4_copyFrom_32 rfl mm_get_0 ?_
  refine ml_aload_n (pc := 33) dX4_copyFrom_33 rfl (mm_get_s mm_get_0) ?_
  refine mb_gi (pc := 34) dX4_copyFrom_34 fl_X4_117 hr (fun x9 hr => ?_)
  refine mb_pi (pc := 37) dX4_copyFrom_37 fp_X4_117 hr (fun m10 hr => ?_)
  refine ml_aload_n (pc := 40) dX4_copyFrom_40 rfl mm_get_0 ?_
  refine ml_aload_n (pc := 41) dX4_copyFrom_41 rfl (mm_get_s mm_get_0) ?_
  refine mb_gi (pc := 42) dX4_copyFrom_42 fl_X4_106 hr (fun x11 hr => ?_)
  refine mb_pi (pc := 45) dX4_copyFrom_45 fp_X4_106 hr (fun m12 hr => ?_)
  refine mg_iconst (pc := 48) dX4_copyFrom_48 kc_0 ?_
  refine ml_istore_n (pc := 49) dX4_copyFrom_49 rfl (Nat.le_of_ble_eq_true rfl) (mm_st1_s mm_st1_r) ?_
  exact mg_weak (mm_le_s (mm_le_s (mm_le_s mm_le_0))) (X4_copyFrom_L50_ok hz hd h0 _ _ _ _ hr)
theorem dX4_sitterAt_0 : decode cX4_sitterAt 0 = .ok (.iload_n 1, 1) := by decide +kernel
theorem dX4_sitterAt_1 : decode cX4_sitterAt 1 = .ok (.ifCond .lt 18, 3) := by decide +kernel
theorem dX4_sitterAt_4 : decode cX4_sitterAt 4 = .ok (.iload_n 1, 1) := by decide +kernel
theorem dX4_sitterAt_5 : decode cX4_sitterAt 5 = .ok (.bipush 6, 2) := by decide +kernel
theorem dX4_sitterAt_7 : decode cX4_sitterAt 7 = .ok (.if_icmp .ge 12, 3) := by decide +kernel
theorem dX4_sitterAt_10 : decode cX4_sitterAt 10 = .ok (.aload_n 0, 1) := by decide +kernel
theorem dX4_sitterAt_11 : decode cX4_sitterAt 11 = .ok (.getfield 22, 3) := by decide +kernel
theorem dX4_sitterAt_14 : decode cX4_sitterAt 14 = .ok (.iload_n 1, 1) := by decide +kernel
theorem dX4_sitterAt_15 : decode cX4_sitterAt 15 = .ok (.iaload, 1) := by decide +kernel
theorem dX4_sitterAt_16 : decode cX4_sitterAt 16 = .ok (.goto 4, 3) := by decide +kernel
theorem dX4_sitterAt_19 : decode cX4_sitterAt 19 = .ok (.iconst (-1), 1) := by decide +kernel
theorem dX4_sitterAt_20 : decode cX4_sitterAt 20 = .ok (.ireturn, 1) := by decide +kernel
def X4_sitterAt_b20 (e : mm_E) (t0 : Int32) (m : mm_V) : Option (Int32 × mm_V) := some (t0, m)
theorem X4_sitterAt_b20_ok {K : mm_K} {nx : Option Nat} {e : mm_E} (hz : e.2.1 = K.2.2.2.2) {d : Nat} (hd : 0 ≤ d) {t0 : Int32} {a0 : Nat} (h0 : e.1 a0 = some (4, 12)) {m : mm_V} {r : (Int32 × mm_V)} (hr : X4_sitterAt_b20 e t0 m = some r) : mm_G K MX4_sitterAt d (mm_Fi e.1 nx r) 20 [none, none] [.int t0] (e.1, m) nx 0 0 := by
  unfold X4_sitterAt_b20 at hr
  exact mb_iret dX4_sitterAt_20 rfl hr
def X4_sitterAt_b19 (e : mm_E) (m : mm_V) : Option (Int32 × mm_V) := X4_sitterAt_b20 e  (-1 : Int32) m
theorem X4_sitterAt_b19_ok {K : mm_K} {nx : Option Nat} {e : mm_E} (hz : e.2.1 = K.2.2.2.2) {d : Nat} (hd : 0 ≤ d) {a0 : Nat} (h0 : e.1 a0 = some (4, 12)) {m : mm_V} {r : (Int32 × mm_V)} (hr : X4_sitterAt_b19 e m = some r) : mm_G K MX4_sitterAt d (mm_Fi e.1 nx r) 19 [none, none] [] (e.1, m) nx 0 0 := by
  unfold X4_sitterAt_b19 at hr
  refine mg_iconst (pc := 19) dX4_sitterAt_19 kc_m1 ?_
  exact mg_weak (mm_le_n (mm_le_n mm_le_0)) (X4_sitterAt_b20_ok hz hd h0 hr)
def X4_sitterAt (e : mm_E) (a0 : Nat) (i1 : Int32) (m : mm_V) : Option (Int32 × mm_V) := if i1 < 0 then (X4_sitterAt_b19 e   m) else (if (6 : Int32) ≤ i1 then (X4_sitterAt_b19 e   m) else ((mm_gr e.1 m 4 12 a0 2).bind fun c1 => (mm_ai e.1 m 20 c1 i1).bind fun x2 => X4_sitterAt_b20 e  x2 m))
theorem X4_sitterAt_ok {K : mm_K} {nx : Option Nat} {e : mm_E} (hz : e.2.1 = K.2.2.2.2) {d : Nat} (hd : 0 ≤ d) {a0 : Nat} {i1 : Int32} (h0 : e.1 a0 = some (4, 12)) {m : mm_V} {r : (Int32 × mm_V)} (hr : X4_sitterAt e a0 i1 m = some r) : mm_Cn K MX4_sitterAt d (mm_Fi e.1 nx r) [.ref a0, .int i1] (e.1, m) nx := by
  refine mm_entry (by decide) (Nat.le_of_ble_eq_true rfl) rfl (fun hok => ?_)
  unfold X4_sitterAt at hr
  refine mg_weak (L' := [some (.ref a0), some (.int i1)]) (mm_le_s (mm_le_s mm_le_0)) ?_
  refine ml_iload_n (pc := 0) dX4_sitterAt_0 rfl (mm_get_s mm_get_0) ?_
  refine mb_if_lt (pc := 1) 19 dX4_sitterAt_1 rfl hr (fun hr => ?_) (fun hr => ?_)
  · exact mg_weak (mm_le_n (mm_le_n mm_le_0)) (X4_sitterAt_b19_ok hz hd h0 hr)
  · refine ml_iload_n (pc := 4) dX4_sitterAt_4 rfl (mm_get_s mm_get_0) ?_
    refine mg_bipush (pc := 5) dX4_sitterAt_5 kb_6 ?_
    refine mb_icmp_ge (pc := 7) 19 dX4_sitterAt_7 rfl hr (fun hr => ?_) (fun hr => ?_)
    · exact mg_weak (mm_le_n (mm_le_n mm_le_0)) (X4_sitterAt_b19_ok hz hd h0 hr)
    · refine ml_aload_n (pc := 10) dX4_sitterAt_10 rfl mm_get_0 ?_
      refine mb_gr (pc := 11) dX4_sitterAt_11 fl_X4_22 hr (fun c1 hr => ?_)
      refine ml_iload_n (pc := 14) dX4_sitterAt_14 rfl (mm_get_s mm_get_0) ?_
      refine mb_ai (pc := 15) dX4_sitterAt_15 hr (fun x2 hr => ?_)
      refine mg_goto (pc := 16) 20 dX4_sitterAt_16 rfl ?_
      exact mg_weak (mm_le_n (mm_le_n mm_le_0)) (X4_sitterAt_b20_ok hz hd h0 hr)
theorem dX4_lastOf_0 : decode cX4_lastOf 0 = .ok (.iload_n 1, 1) := by decide +kernel
theorem dX4_lastOf_1 : decode cX4_lastOf 1 = .ok (.ifCond .lt 18, 3) := by decide +kernel
theorem dX4_lastOf_4 : decode cX4_lastOf 4 = .ok (.iload_n 1, 1) := by decide +kernel
theorem dX4_lastOf_5 : decode cX4_lastOf 5 = .ok (.bipush 6, 2) := by decide +kernel
theorem dX4_lastOf_7 : decode cX4_lastOf 7 = .ok (.if_icmp .ge 12, 3) := by decide +kernel
theorem dX4_lastOf_10 : decode cX4_lastOf 10 = .ok (.aload_n 0, 1) := by decide +kernel
theorem dX4_lastOf_11 : decode cX4_lastOf 11 = .ok (.getfield 26, 3) := by decide +kernel
theorem dX4_lastOf_14 : decode cX4_lastOf 14 = .ok (.iload_n 1, 1) := by decide +kernel
theorem dX4_lastOf_15 : decode cX4_lastOf 15 = .ok (.iaload, 1) := by decide +kernel
theorem dX4_lastOf_16 : decode cX4_lastOf 16 = .ok (.goto 4, 3) := by decide +kernel
theorem dX4_lastOf_19 : decode cX4_lastOf 19 = .ok (.iconst 0, 1) := by decide +kernel
theorem dX4_lastOf_20 : decode cX4_lastOf 20 = .ok (.ireturn, 1) := by decide +kernel
def X4_lastOf_b20 (e : mm_E) (t0 : Int32) (m : mm_V) : Option (Int32 × mm_V) := some (t0, m)
theorem X4_lastOf_b20_ok {K : mm_K} {nx : Option Nat} {e : mm_E} (hz : e.2.1 = K.2.2.2.2) {d : Nat} (hd : 0 ≤ d) {t0 : Int32} {a0 : Nat} (h0 : e.1 a0 = some (4, 12)) {m : mm_V} {r : (Int32 × mm_V)} (hr : X4_lastOf_b20 e t0 m = some r) : mm_G K MX4_lastOf d (mm_Fi e.1 nx r) 20 [none, none] [.int t0] (e.1, m) nx 0 0 := by
  unfold X4_lastOf_b20 at hr
  exact mb_iret dX4_lastOf_20 rfl hr
def X4_lastOf_b19 (e : mm_E) (m : mm_V) : Option (Int32 × mm_V) := X4_lastOf_b20 e  (0 : Int32) m
theorem X4_lastOf_b19_ok {K : mm_K} {nx : Option Nat} {e : mm_E} (hz : e.2.1 = K.2.2.2.2) {d : Nat} (hd : 0 ≤ d) {a0 : Nat} (h0 : e.1 a0 = some (4, 12)) {m : mm_V} {r : (Int32 × mm_V)} (hr : X4_lastOf_b19 e m = some r) : mm_G K MX4_lastOf d (mm_Fi e.1 nx r) 19 [none, none] [] (e.1, m) nx 0 0 := by
  unfold X4_lastOf_b19 at hr
  refine mg_iconst (pc := 19) dX4_lastOf_19 kc_0 ?_
  exact mg_weak (mm_le_n (mm_le_n mm_le_0)) (X4_lastOf_b20_ok hz hd h0 hr)
def X4_lastOf (e : mm_E) (a0 : Nat) (i1 : Int32) (m : mm_V) : Option (Int32 × mm_V) := if i1 < 0 then (X4_lastOf_b19 e   m) else (if (6 : Int32) ≤ i1 then (X4_lastOf_b19 e   m) else ((mm_gr e.1 m 4 12 a0 3).bind fun c1 => (mm_ai e.1 m 20 c1 i1).bind fun x2 => X4_lastOf_b20 e  x2 m))
theorem X4_lastOf_ok {K : mm_K} {nx : Option Nat} {e : mm_E} (hz : e.2.1 = K.2.2.2.2) {d : Nat} (hd : 0 ≤ d) {a0 : Nat} {i1 : Int32} (h0 : e.1 a0 = some (4, 12)) {m : mm_V} {r : (Int32 × mm_V)} (hr : X4_lastOf e a0 i1 m = some r) : mm_Cn K MX4_lastOf d (mm_Fi e.1 nx r) [.ref a0, .int i1] (e.1, m) nx := by
  refine mm_entry (by decide) (Nat.le_of_ble_eq_true rfl) rfl (fun hok => ?_)
  unfold X4_lastOf at hr
  refine mg_weak (L' := [some (.ref a0), some (.int i1)]) (mm_le_s (mm_le_s mm_le_0)) ?_
  refine ml_iload_n (pc := 0) dX4_lastOf_0 rfl (mm_get_s mm_get_0) ?_
  refine mb_if_lt (pc := 1) 19 dX4_lastOf_1 rfl hr (fun hr => ?_) (fun hr => ?_)
  · exact mg_weak (mm_le_n (mm_le_n mm_le_0)) (X4_lastOf_b19_ok hz hd h0 hr)
  · refine ml_iload_n (pc := 4) dX4_lastOf_4 rfl (mm_get_s mm_get_0) ?_
    refine mg_bipush (pc := 5) dX4_lastOf_5 kb_6 ?_
    refine mb_icmp_ge (pc := 7) 19 dX4_lastOf_7 rfl hr (fun hr => ?_) (fun hr => ?_)
    · exact mg_weak (mm_le_n (mm_le_n mm_le_0)) (X4_lastOf_b19_ok hz hd h0 hr)
    · refine ml_aload_n (pc := 10) dX4_lastOf_10 rfl mm_get_0 ?_
      refine mb_gr (pc := 11) dX4_lastOf_11 fl_X4_26 hr (fun c1 hr => ?_)
      refine ml_iload_n (pc := 14) dX4_lastOf_14 rfl (mm_get_s mm_get_0) ?_
      refine mb_ai (pc := 15) dX4_lastOf_15 hr (fun x2 hr => ?_)
      refine mg_goto (pc := 16) 20 dX4_lastOf_16 rfl ?_
      exact mg_weak (mm_le_n (mm_le_n mm_le_0)) (X4_lastOf_b20_ok hz hd h0 hr)
theorem dX4_setLast_0 : decode cX4_setLast 0 = .ok (.iload_n 1, 1) := by decide +kernel
theorem dX4_setLast_1 : decode cX4_setLast 1 = .ok (.ifCond .lt 16, 3) := by decide +kernel
theorem dX4_setLast_4 : decode cX4_setLast 4 = .ok (.iload_n 1, 1) := by decide +kernel
theorem dX4_setLast_5 : decode cX4_setLast 5 = .ok (.bipush 6, 2) := by decide +kernel
theorem dX4_setLast_7 : decode cX4_setLast 7 = .ok (.if_icmp .ge 10, 3) := by decide +kernel
theorem dX4_setLast_10 : decode cX4_setLast 10 = .ok (.aload_n 0, 1) := by decide +kernel
theorem dX4_setLast_11 : decode cX4_setLast 11 = .ok (.getfield 26, 3) := by decide +kernel
theorem dX4_setLast_14 : decode cX4_setLast 14 = .ok (.iload_n 1, 1) := by decide +kernel
theorem dX4_setLast_15 : decode cX4_setLast 15 = .ok (.iload_n 2, 1) := by decide +kernel
theorem dX4_setLast_16 : decode cX4_setLast 16 = .ok (.iastore, 1) := by decide +kernel
theorem dX4_setLast_17 : decode cX4_setLast 17 = .ok (.return_, 1) := by decide +kernel
def X4_setLast_b17 (e : mm_E) (m : mm_V) : Option mm_V := some m
theorem X4_setLast_b17_ok {K : mm_K} {nx : Option Nat} {e : mm_E} (hz : e.2.1 = K.2.2.2.2) {d : Nat} (hd : 0 ≤ d) {a0 : Nat} (h0 : e.1 a0 = some (4, 12)) {m : mm_V} {r : mm_V} (hr : X4_setLast_b17 e m = some r) : mm_G K MX4_setLast d (mm_Fv e.1 nx r) 17 [none, none, none] [] (e.1, m) nx 0 0 := by
  unfold X4_setLast_b17 at hr
  exact mb_vret dX4_setLast_17 rfl hr
def X4_setLast (e : mm_E) (a0 : Nat) (i1 : Int32) (i2 : Int32) (m : mm_V) : Option mm_V := if i1 < 0 then (X4_setLast_b17 e   m) else (if (6 : Int32) ≤ i1 then (X4_setLast_b17 e   m) else ((mm_gr e.1 m 4 12 a0 3).bind fun c1 => (mm_si e.1 m c1 i1 i2).bind fun m2 => X4_setLast_b17 e   m2))
theorem X4_setLast_ok {K : mm_K} {nx : Option Nat} {e : mm_E} (hz : e.2.1 = K.2.2.2.2) {d : Nat} (hd : 0 ≤ d) {a0 : Nat} {i1 : Int32} {i2 : Int32} (h0 : e.1 a0 = some (4, 12)) {m : mm_V} {r : mm_V} (hr : X4_setLast e a0 i1 i2 m = some r) : mm_Cn K MX4_setLast d (mm_Fv e.1 nx r) [.ref a0, .int i1, .int i2] (e.1, m) nx := by
  refine mm_entry (by decide) (Nat.le_of_ble_eq_true rfl) rfl (fun hok => ?_)
  unfold X4_setLast at hr
  refine mg_weak (L' := [some (.ref a0), some (.int i1), some (.int i2)]) (mm_le_s (mm_le_s (mm_le_s mm_le_0))) ?_
  refine ml_iload_n (pc := 0) dX4_setLast_0 rfl (mm_get_s mm_get_0) ?_
  refine mb_if_lt (pc := 1) 17 dX4_setLast_1 rfl hr (fun hr => ?_) (fun hr => ?_)
  · exact mg_weak (mm_le_n (mm_le_n (mm_le_n mm_le_0))) (X4_setLast_b17_ok hz hd h0 hr)
  · refine ml_iload_n (pc := 4) dX4_setLast_4 rfl (mm_get_s mm_get_0) ?_
    refine mg_bipush (pc := 5) dX4_setLast_5 kb_6 ?_
    refine mb_icmp_ge (pc := 7) 17 dX4_setLast_7 rfl hr (fun hr => ?_) (fun hr => ?_)
    · exact mg_weak (mm_le_n (mm_le_n (mm_le_n mm_le_0))) (X4_setLast_b17_ok hz hd h0 hr)
    · refine ml_aload_n (pc := 10) dX4_setLast_10 rfl mm_get_0 ?_
      refine mb_gr (pc := 11) dX4_setLast_11 fl_X4_26 hr (fun c1 hr => ?_)
      refine ml_iload_n (pc := 14) dX4_setLast_14 rfl (mm_get_s mm_get_0) ?_
      refine ml_iload_n (pc := 15) dX4_setLast_15 rfl (mm_get_s (mm_get_s mm_get_0)) ?_
      refine mb_si (pc := 16) dX4_setLast_16 hr (fun m2 hr => ?_)
      exact mg_weak (mm_le_n (mm_le_n (mm_le_n mm_le_0))) (X4_setLast_b17_ok hz hd h0 hr)
theorem dX4_source_0 : decode cX4_source 0 = .ok (.aload_n 0, 1) := by decide +kernel
theorem dX4_source_1 : decode cX4_source 1 = .ok (.iload_n 1, 1) := by decide +kernel
theorem dX4_source_2 : decode cX4_source 2 = .ok (.aload_n 0, 1) := by decide +kernel
theorem dX4_source_3 : decode cX4_source 3 = .ok (.getfield 39, 3) := by decide +kernel
theorem dX4_source_6 : decode cX4_source 6 = .ok (.iconst 1, 1) := by decide +kernel
theorem dX4_source_7 : decode cX4_source 7 = .ok (.iand, 1) := by decide +kernel
theorem dX4_source_8 : decode cX4_source 8 = .ok (.ifCond .ne 7, 3) := by decide +kernel
theorem dX4_source_11 : decode cX4_source 11 = .ok (.iconst 1, 1) := by decide +kernel
theorem dX4_source_12 : decode cX4_source 12 = .ok (.goto 4, 3) := by decide +kernel
theorem dX4_source_15 : decode cX4_source 15 = .ok (.iconst 0, 1) := by decide +kernel
theorem dX4_source_16 : decode cX4_source 16 = .ok (.invokevirtual 113, 3) := by decide +kernel
theorem dX4_source_19 : decode cX4_source 19 = .ok (.ireturn, 1) := by decide +kernel
def X4_source_b16 (e : mm_E) (t0 : Nat) (t1 : Int32) (t2 : Int32) (m : mm_V) : Option (Int32 × mm_V) := if e.1 t0 = some (4, 12) then ((X4_beside e t0 t1 t2 m).bind fun r1 => some (r1.1, r1.2)) else none
theorem X4_source_b16_ok {K : mm_K} {nx : Option Nat} {e : mm_E} (hz : e.2.1 = K.2.2.2.2) {d : Nat} (hd : 1 ≤ d) {t0 : Nat} {t1 : Int32} {t2 : Int32} {a0 : Nat} (h0 : e.1 a0 = some (4, 12)) {m : mm_V} {r : (Int32 × mm_V)} (hr : X4_source_b16 e t0 t1 t2 m = some r) : mm_G K MX4_source d (mm_Fi e.1 nx r) 16 [none, none] [.int t2, .int t1, .ref t0] (e.1, m) nx 0 0 := by
  obtain ⟨d, rfl⟩ : ∃ d', d = d' + 1 := ⟨d - 1, by omega⟩
  unfold X4_source_b16 at hr
  refine mb_ck hr (fun hb2 hr => ?_)
  refine mb_cVi (pc := 16) (As := [.int t1, .int t2]) (rest := []) dX4_source_16 cw_X4_113 hb2 hr (fun v hv => X4_beside_ok hz (by omega) hb2 hv) rfl (Nat.le_of_ble_eq_true rfl) (Nat.zero_le _) (Nat.zero_le _) (fun r1 hr => ?_)
  exact mb_iret dX4_source_19 rfl hr
def X4_source (e : mm_E) (a0 : Nat) (i1 : Int32) (m : mm_V) : Option (Int32 × mm_V) := (mm_gi e.1 m 4 12 a0 7).bind fun x1 => if ¬ (x1 &&& (1 : Int32)) = 0 then (X4_source_b16 e  a0 i1 (0 : Int32) m) else (X4_source_b16 e  a0 i1 (1 : Int32) m)
theorem X4_source_ok {K : mm_K} {nx : Option Nat} {e : mm_E} (hz : e.2.1 = K.2.2.2.2) {d : Nat} (hd : 1 ≤ d) {a0 : Nat} {i1 : Int32} (h0 : e.1 a0 = some (4, 12)) {m : mm_V} {r : (Int32 × mm_V)} (hr : X4_source e a0 i1 m = some r) : mm_Cn K MX4_source d (mm_Fi e.1 nx r) [.ref a0, .int i1] (e.1, m) nx := by
  obtain ⟨d, rfl⟩ : ∃ d', d = d' + 1 := ⟨d - 1, by omega⟩
  refine mm_entry (by decide) (Nat.le_of_ble_eq_true rfl) rfl (fun hok => ?_)
  unfold X4_source at hr
  refine mg_weak (L' := [some (.ref a0), some (.int i1)]) (mm_le_s (mm_le_s mm_le_0)) ?_
  refine ml_aload_n (pc := 0) dX4_source_0 rfl mm_get_0 ?_
  refine ml_iload_n (pc := 1) dX4_source_1 rfl (mm_get_s mm_get_0) ?_
  refine ml_aload_n (pc := 2) dX4_source_2 rfl mm_get_0 ?_
  refine mb_gi (pc := 3) dX4_source_3 fl_X4_39 hr (fun x1 hr => ?_)
  refine mg_iconst (pc := 6) dX4_source_6 kc_1 ?_
  refine mg_iand (pc := 7) dX4_source_7 ?_
  refine mb_if_ne (pc := 8) 15 dX4_source_8 rfl hr (fun hr => ?_) (fun hr => ?_)
  · refine mg_iconst (pc := 15) dX4_source_15 kc_0 ?_
    exact mg_weak (mm_le_n (mm_le_n mm_le_0)) (X4_source_b16_ok hz hd h0 hr)
  · refine mg_iconst (pc := 11) dX4_source_11 kc_1 ?_
    refine mg_goto (pc := 12) 16 dX4_source_12 rfl ?_
    exact mg_weak (mm_le_n (mm_le_n mm_le_0)) (X4_source_b16_ok hz hd h0 hr)
theorem dX4_over_0 : decode cX4_over 0 = .ok (.iconst 0, 1) := by decide +kernel
theorem dX4_over_1 : decode cX4_over 1 = .ok (.istore_n 1, 1) := by decide +kernel
theorem dX4_over_2 : decode cX4_over 2 = .ok (.iconst 0, 1) := by decide +kernel
theorem dX4_over_3 : decode cX4_over 3 = .ok (.istore_n 2, 1) := by decide +kernel
theorem dX4_over_4 : decode cX4_over 4 = .ok (.iload_n 2, 1) := by decide +kernel
theorem dX4_over_5 : decode cX4_over 5 = .ok (.aload_n 0, 1) := by decide +kernel
theorem dX4_over_6 : decode cX4_over 6 = .ok (.getfield 35, 3) := by decide +kernel
theorem dX4_over_9 : decode cX4_over 9 = .ok (.getfield 84, 3) := by decide +kernel
theorem dX4_over_12 : decode cX4_over 12 = .ok (.if_icmp .ge 25, 3) := by decide +kernel
theorem dX4_over_15 : decode cX4_over 15 = .ok (.iload_n 1, 1) := by decide +kernel
theorem dX4_over_16 : decode cX4_over 16 = .ok (.aload_n 0, 1) := by decide +kernel
theorem dX4_over_17 : decode cX4_over 17 = .ok (.iload_n 2, 1) := by decide +kernel
theorem dX4_over_18 : decode cX4_over 18 = .ok (.invokevirtual 109, 3) := by decide +kernel
theorem dX4_over_21 : decode cX4_over 21 = .ok (.ifCond .eq 7, 3) := by decide +kernel
theorem dX4_over_24 : decode cX4_over 24 = .ok (.iconst 0, 1) := by decide +kernel
theorem dX4_over_25 : decode cX4_over 25 = .ok (.goto 4, 3) := by decide +kernel
theorem dX4_over_28 : decode cX4_over 28 = .ok (.iconst 1, 1) := by decide +kernel
theorem dX4_over_29 : decode cX4_over 29 = .ok (.iadd, 1) := by decide +kernel
theorem dX4_over_30 : decode cX4_over 30 = .ok (.istore_n 1, 1) := by decide +kernel
theorem dX4_over_31 : decode cX4_over 31 = .ok (.iinc 2 1, 3) := by decide +kernel
theorem dX4_over_34 : decode cX4_over 34 = .ok (.goto (-30), 3) := by decide +kernel
theorem dX4_over_37 : decode cX4_over 37 = .ok (.iload_n 1, 1) := by decide +kernel
theorem dX4_over_38 : decode cX4_over 38 = .ok (.iconst 2, 1) := by decide +kernel
theorem dX4_over_39 : decode cX4_over 39 = .ok (.if_icmp .ge 7, 3) := by decide +kernel
theorem dX4_over_42 : decode cX4_over 42 = .ok (.iconst 1, 1) := by decide +kernel
theorem dX4_over_43 : decode cX4_over 43 = .ok (.goto 4, 3) := by decide +kernel
theorem dX4_over_46 : decode cX4_over 46 = .ok (.iconst 0, 1) := by decide +kernel
theorem dX4_over_47 : decode cX4_over 47 = .ok (.ireturn, 1) := by decide +kernel
def X4_over_b47 (e : mm_E) (t0 : Int32) (m : mm_V) : Option (Int32 × mm_V) := mm_rz t0 m
theorem X4_over_b47_ok {K : mm_K} {nx : Option Nat} {e : mm_E} (hz : e.2.1 = K.2.2.2.2) {d : Nat} (hd : 2 ≤ d) {t0 : Int32} {a0 : Nat} (h0 : e.1 a0 = some (4, 12)) {m : mm_V} {r : (Int32 × mm_V)} (hr : X4_over_b47 e t0 m = some r) : mm_G K MX4_over d (mm_Fi e.1 nx r) 47 [none, none, none] [.int t0] (e.1, m) nx 0 0 := by
  obtain ⟨d, rfl⟩ : ∃ d', d = d' + 1 := ⟨d - 1, by omega⟩
  unfold X4_over_b47 at hr
  exact mb_zret dX4_over_47 rfl hr
def X4_over_b29 (e : mm_E) (k4 : Int32 → Int32 → mm_V → Option (Int32 × mm_V)) (a0 : Nat) (i2 : Int32) (t0 : Int32) (t1 : Int32) (m : mm_V) : Option (Int32 × mm_V) := k4 (t0 + t1) (i2 + 1) m
theorem X4_over_b29_ok {K : mm_K} {nx : Option Nat} {e : mm_E} (hz : e.2.1 = K.2.2.2.2) {d : Nat} (hd : 2 ≤ d) {a0 : Nat} {i2 : Int32} {t0 : Int32} {t1 : Int32} (h0 : e.1 a0 = some (4, 12)) {k4 : Int32 → Int32 → mm_V → Option (Int32 × mm_V)} (hk4 : ∀ (w1 : Int32) (w2 : Int32) (m : mm_V) (r : (Int32 × mm_V)), k4 w1 w2 m = some r → mm_G K MX4_over d (mm_Fi e.1 nx r) 4 [some (.ref a0), some (.int w1), some (.int w2)] [] (e.1, m) nx 0 0) {m : mm_V} {r : (Int32 × mm_V)} (hr : X4_over_b29 e k4 a0 i2 t0 t1 m = some r) : mm_G K MX4_over d (mm_Fi e.1 nx r) 29 [some (.ref a0), none, some (.int i2)] [.int t1, .int t0] (e.1, m) nx 0 0 := by
  obtain ⟨d, rfl⟩ : ∃ d', d = d' + 1 := ⟨d - 1, by omega⟩
  unfold X4_over_b29 at hr
  refine mg_iadd (pc := 29) dX4_over_29 ?_
  refine ml_istore_n (pc := 30) dX4_over_30 rfl (Nat.le_of_ble_eq_true rfl) mm_st1_r ?_
  refine ml_iinc (pc := 31) dX4_over_31 (mm_get_s (mm_get_s mm_get_0)) (congrArg (fun z => i2 + z) kc_1) (Nat.le_of_ble_eq_true rfl) (mm_st1_s mm_st1_i) ?_
  refine mg_goto (pc := 34) 4 dX4_over_34 rfl ?_
  exact mg_weak (mm_le_s (mm_le_s (mm_le_s mm_le_0))) (hk4 _ _ _ _ hr)
def X4_over_L4 (e : mm_E) (a0 : Nat) : Nat → Int32 → Int32 → mm_V → Option (Int32 × mm_V)
  | 0, _, _, _ => none
  | n + 1, i1, i2, m => (mm_gr e.1 m 4 12 a0 6).bind fun c1 => (mm_gi e.1 m 10 11 c1 6).bind fun x2 => if x2 ≤ i2 then (if (2 : Int32) ≤ i1 then (X4_over_b47 e  (0 : Int32) m) else (X4_over_b47 e  (1 : Int32) m)) else ((X4_isEmpty e a0 i2 m).bind fun r3 => if r3.1 = 0 then (X4_over_b29 e (X4_over_L4 e a0 n) a0 i2 i1 (1 : Int32) r3.2) else (X4_over_b29 e (X4_over_L4 e a0 n) a0 i2 i1 (0 : Int32) r3.2))
theorem X4_over_L4_ok {K : mm_K} {nx : Option Nat} {e : mm_E} (hz : e.2.1 = K.2.2.2.2) {d : Nat} (hd : 2 ≤ d) {a0 : Nat} (h0 : e.1 a0 = some (4, 12)) : ∀ (n : Nat) (i1 : Int32) (i2 : Int32) (m : mm_V) (r : (Int32 × mm_V)), X4_over_L4 e a0 n i1 i2 m = some r → mm_G K MX4_over d (mm_Fi e.1 nx r) 4 [some (.ref a0), some (.int i1), some (.int i2)] [] (e.1, m) nx 0 0 := by
  obtain ⟨d, rfl⟩ : ∃ d', d = d' + 1 := ⟨d - 1, by omega⟩
  intro n
  induction n with
  | zero => intro i1 i2 m r hr; unfold X4_over_L4 at hr; cases hr
  | succ n ih =>
    intro i1 i2 m r hr
    unfold X4_over_L4 at hr
    refine ml_iload_n (pc := 4) dX4_over_4 rfl (mm_get_s (mm_get_s mm_get_0)) ?_
    refine ml_aload_n (pc := 5) dX4_over_5 rfl mm_get_0 ?_
    refine mb_gr (pc := 6) dX4_over_6 fl_X4_35 hr (fun c1 hr => ?_)
    refine mb_gi (pc := 9) dX4_over_9 fl_X4_84 hr (fun x2 hr => ?_)
    refine mb_icmp_ge (pc := 12) 37 dX4_over_12 rfl hr (fun hr => ?_) (fun hr => ?_)
    · refine ml_iload_n (pc := 37) dX4_over_37 rfl (mm_get_s mm_get_0) ?_
      refine mg_iconst (pc := 38) dX4_over_38 kc_2 ?_
      refine mb_icmp_ge (pc := 39) 46 dX4_over_39 rfl hr (fun hr => ?_) (fun hr => ?_)
      · refine mg_iconst (pc := 46) dX4_over_46 kc_0 ?_
        exact mg_weak (mm_le_n (mm_le_n (mm_le_n mm_le_0))) (X4_over_b47_ok hz hd h0 hr)
      · refine mg_iconst (pc := 42) dX4_over_42 kc_1 ?_
        refine mg_goto (pc := 43) 47 dX4_over_43 rfl ?_
        exact mg_weak (mm_le_n (mm_le_n (mm_le_n mm_le_0))) (X4_over_b47_ok hz hd h0 hr)
    · refine ml_iload_n (pc := 15) dX4_over_15 rfl (mm_get_s mm_get_0) ?_
      refine ml_aload_n (pc := 16) dX4_over_16 rfl mm_get_0 ?_
      refine ml_iload_n (pc := 17) dX4_over_17 rfl (mm_get_s (mm_get_s mm_get_0)) ?_
      refine mb_cVi (pc := 18) (As := [.int i2]) (rest := [.int i1]) dX4_over_18 cw_X4_109 h0 hr (fun v hv => X4_isEmpty_ok hz (by omega) h0 hv) rfl (Nat.le_of_ble_eq_true rfl) (Nat.zero_le _) (Nat.zero_le _) (fun r3 hr => ?_)
      refine mb_if_eq (pc := 21) 28 dX4_over_21 rfl hr (fun hr => ?_) (fun hr => ?_)
      · refine mg_iconst (pc := 28) dX4_over_28 kc_1 ?_
        exact mg_weak (mm_le_s (mm_le_n (mm_le_s mm_le_0))) (X4_over_b29_ok hz hd h0 ih hr)
      · refine mg_iconst (pc := 24) dX4_over_24 kc_0 ?_
        refine mg_goto (pc := 25) 29 dX4_over_25 rfl ?_
        exact mg_weak (mm_le_s (mm_le_n (mm_le_s mm_le_0))) (X4_over_b29_ok hz hd h0 ih hr)
def X4_over (e : mm_E) (a0 : Nat) (m : mm_V) : Option (Int32 × mm_V) := X4_over_L4 e a0 e.2.2 (0 : Int32) (0 : Int32) m
theorem X4_over_ok {K : mm_K} {nx : Option Nat} {e : mm_E} (hz : e.2.1 = K.2.2.2.2) {d : Nat} (hd : 2 ≤ d) {a0 : Nat} (h0 : e.1 a0 = some (4, 12)) {m : mm_V} {r : (Int32 × mm_V)} (hr : X4_over e a0 m = some r) : mm_Cn K MX4_over d (mm_Fi e.1 nx r) [.ref a0] (e.1, m) nx := by
  obtain ⟨d, rfl⟩ : ∃ d', d = d' + 1 := ⟨d - 1, by omega⟩
  refine mm_entry (by decide) (Nat.le_of_ble_eq_true rfl) rfl (fun hok => ?_)
  unfold X4_over at hr
  refine mg_weak (L' := [some (.ref a0), none, none]) (mm_le_s (mm_le_e (mm_le_e mm_le_0))) ?_
  refine mg_iconst (pc := 0) dX4_over_0 kc_0 ?_
  refine ml_istore_n (pc := 1) dX4_over_1 rfl (Nat.le_of_ble_eq_true rfl) mm_st1_r ?_
  refine mg_iconst (pc := 2) dX4_over_2 kc_0 ?_
  refine ml_istore_n (pc := 3) dX4_over_3 rfl (Nat.le_of_ble_eq_true rfl) (mm_st1_s mm_st1_i) ?_
  exact mg_weak (mm_le_s (mm_le_s (mm_le_s mm_le_0))) (X4_over_L4_ok hz hd h0 _ _ _ _ _ hr)
